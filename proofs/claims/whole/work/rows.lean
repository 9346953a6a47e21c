section
-- ===== PART A: goes FIRST, ahead of the names: the tables' words, and 'selects' of the private methods out of them =====
/-- a private method of a class that the tables say can be made, by its rows of tables_1 -/
def lw_okq (q : MethodName × Nat) : Prop := (q.1.cls ≠ "java/lang/invoke/MethodHandle" ∧ q.1.cls ≠ "java/lang/invoke/VarHandle") ∧ Cond.instantiable q.1.cls q.2 ∈ tables_1 ∧ Cond.privateMethod q.1 ∈ tables_1 ∧ Cond.instanceMethod q.1 ∈ tables_1
theorem lw_p0 : lw_okq (⟨"java/lang/Throwable", "fillInStackTrace", "(I)Ljava/lang/Throwable;"⟩, 6) := ⟨⟨by decide +kernel, by decide +kernel⟩, List.mem_of_getElem? (i := 273) (by decide +kernel), List.mem_of_getElem? (i := 271) (by decide +kernel), List.mem_of_getElem? (i := 272) (by decide +kernel)⟩
theorem lw_p1 : lw_okq (⟨"PegBoards$Jumps", "listOne", "(LPegBoards$Board;III)V"⟩, 6) := ⟨⟨by decide +kernel, by decide +kernel⟩, List.mem_of_getElem? (i := 57) (by decide +kernel), List.mem_of_getElem? (i := 363) (by decide +kernel), List.mem_of_getElem? (i := 364) (by decide +kernel)⟩
theorem lw_p2 : lw_okq (⟨"PegBoards$Symmetries", "turn", "(LPegBoards$Board;II)V"⟩, 5) := ⟨⟨by decide +kernel, by decide +kernel⟩, List.mem_of_getElem? (i := 82) (by decide +kernel), List.mem_of_getElem? (i := 382) (by decide +kernel), List.mem_of_getElem? (i := 383) (by decide +kernel)⟩
theorem lw_p3 : lw_okq (⟨"PegBoards$Symmetries", "mirror", "(I)V"⟩, 5) := ⟨⟨by decide +kernel, by decide +kernel⟩, List.mem_of_getElem? (i := 82) (by decide +kernel), List.mem_of_getElem? (i := 388) (by decide +kernel), List.mem_of_getElem? (i := 389) (by decide +kernel)⟩
theorem lw_p4 : lw_okq (⟨"PegBoards$Symmetries", "moveBy", "(I[I)V"⟩, 5) := ⟨⟨by decide +kernel, by decide +kernel⟩, List.mem_of_getElem? (i := 82) (by decide +kernel), List.mem_of_getElem? (i := 404) (by decide +kernel), List.mem_of_getElem? (i := 405) (by decide +kernel)⟩
theorem lw_p5 : lw_okq (⟨"PegBoards$Symmetries", "addIfSameHoles", "(LPegBoards$Board;)V"⟩, 5) := ⟨⟨by decide +kernel, by decide +kernel⟩, List.mem_of_getElem? (i := 82) (by decide +kernel), List.mem_of_getElem? (i := 412) (by decide +kernel), List.mem_of_getElem? (i := 413) (by decide +kernel)⟩
theorem lw_p6 : lw_okq (⟨"PegBoards", "requireJump", "(I)V"⟩, 7) := ⟨⟨by decide +kernel, by decide +kernel⟩, List.mem_of_getElem? (i := 20) (by decide +kernel), List.mem_of_getElem? (i := 429) (by decide +kernel), List.mem_of_getElem? (i := 430) (by decide +kernel)⟩
theorem lw_p7 : lw_okq (⟨"PegBoards", "requirePosition", "(I)V"⟩, 7) := ⟨⟨by decide +kernel, by decide +kernel⟩, List.mem_of_getElem? (i := 20) (by decide +kernel), List.mem_of_getElem? (i := 469) (by decide +kernel), List.mem_of_getElem? (i := 470) (by decide +kernel)⟩
theorem lw_p8 : lw_okq (⟨"PegBoards", "reachWithin", "(I)V"⟩, 7) := ⟨⟨by decide +kernel, by decide +kernel⟩, List.mem_of_getElem? (i := 20) (by decide +kernel), List.mem_of_getElem? (i := 496) (by decide +kernel), List.mem_of_getElem? (i := 497) (by decide +kernel)⟩
theorem lw_p9 : lw_okq (⟨"PegBoards", "requireFrozen", "()V"⟩, 7) := ⟨⟨by decide +kernel, by decide +kernel⟩, List.mem_of_getElem? (i := 20) (by decide +kernel), List.mem_of_getElem? (i := 500) (by decide +kernel), List.mem_of_getElem? (i := 501) (by decide +kernel)⟩
theorem lw_p10 : lw_okq (⟨"PegBoards$Found", "slotFor", "(I)I"⟩, 3) := ⟨⟨by decide +kernel, by decide +kernel⟩, List.mem_of_getElem? (i := 112) (by decide +kernel), List.mem_of_getElem? (i := 523) (by decide +kernel), List.mem_of_getElem? (i := 524) (by decide +kernel)⟩
theorem lw_p11 : lw_okq (⟨"PegBoards$Found", "isFreeOrHas", "(II)Z"⟩, 3) := ⟨⟨by decide +kernel, by decide +kernel⟩, List.mem_of_getElem? (i := 112) (by decide +kernel), List.mem_of_getElem? (i := 527) (by decide +kernel), List.mem_of_getElem? (i := 528) (by decide +kernel)⟩
theorem lw_p12 : lw_okq (⟨"PegBoards$Reaching", "goOnFrom", "(ILPegBoards$Jumps;I)V"⟩, 7) := ⟨⟨by decide +kernel, by decide +kernel⟩, List.mem_of_getElem? (i := 106) (by decide +kernel), List.mem_of_getElem? (i := 535) (by decide +kernel), List.mem_of_getElem? (i := 536) (by decide +kernel)⟩
theorem lw_p13 : lw_okq (⟨"PegBoards$Reaching", "enter", "(III)V"⟩, 7) := ⟨⟨by decide +kernel, by decide +kernel⟩, List.mem_of_getElem? (i := 106) (by decide +kernel), List.mem_of_getElem? (i := 545) (by decide +kernel), List.mem_of_getElem? (i := 546) (by decide +kernel)⟩
theorem lw_p14 : lw_okq (⟨"PegBoards$Reaching", "addMoves", "(IIII)V"⟩, 7) := ⟨⟨by decide +kernel, by decide +kernel⟩, List.mem_of_getElem? (i := 106) (by decide +kernel), List.mem_of_getElem? (i := 551) (by decide +kernel), List.mem_of_getElem? (i := 552) (by decide +kernel)⟩
theorem lw_p15 : lw_okq (⟨"PegBoards$Symmetries", "imageOf", "(II)I"⟩, 5) := ⟨⟨by decide +kernel, by decide +kernel⟩, List.mem_of_getElem? (i := 82) (by decide +kernel), List.mem_of_getElem? (i := 624) (by decide +kernel), List.mem_of_getElem? (i := 625) (by decide +kernel)⟩
def lw_privs_1 : List (MethodName × Nat) := [(⟨"java/lang/Throwable", "fillInStackTrace", "(I)Ljava/lang/Throwable;"⟩, 6), (⟨"PegBoards$Jumps", "listOne", "(LPegBoards$Board;III)V"⟩, 6), (⟨"PegBoards$Symmetries", "turn", "(LPegBoards$Board;II)V"⟩, 5), (⟨"PegBoards$Symmetries", "mirror", "(I)V"⟩, 5), (⟨"PegBoards$Symmetries", "moveBy", "(I[I)V"⟩, 5), (⟨"PegBoards$Symmetries", "addIfSameHoles", "(LPegBoards$Board;)V"⟩, 5), (⟨"PegBoards", "requireJump", "(I)V"⟩, 7), (⟨"PegBoards", "requirePosition", "(I)V"⟩, 7), (⟨"PegBoards", "reachWithin", "(I)V"⟩, 7), (⟨"PegBoards", "requireFrozen", "()V"⟩, 7), (⟨"PegBoards$Found", "slotFor", "(I)I"⟩, 3), (⟨"PegBoards$Found", "isFreeOrHas", "(II)Z"⟩, 3), (⟨"PegBoards$Reaching", "goOnFrom", "(ILPegBoards$Jumps;I)V"⟩, 7), (⟨"PegBoards$Reaching", "enter", "(III)V"⟩, 7), (⟨"PegBoards$Reaching", "addMoves", "(IIII)V"⟩, 7), (⟨"PegBoards$Symmetries", "imageOf", "(II)I"⟩, 5)]
theorem lw_r1 : ∀ q ∈ lw_privs_1, lw_okq q := List.forall_mem_cons.mpr ⟨lw_p0, List.forall_mem_cons.mpr ⟨lw_p1, List.forall_mem_cons.mpr ⟨lw_p2, List.forall_mem_cons.mpr ⟨lw_p3, List.forall_mem_cons.mpr ⟨lw_p4, List.forall_mem_cons.mpr ⟨lw_p5, List.forall_mem_cons.mpr ⟨lw_p6, List.forall_mem_cons.mpr ⟨lw_p7, List.forall_mem_cons.mpr ⟨lw_p8, List.forall_mem_cons.mpr ⟨lw_p9, List.forall_mem_cons.mpr ⟨lw_p10, List.forall_mem_cons.mpr ⟨lw_p11, List.forall_mem_cons.mpr ⟨lw_p12, List.forall_mem_cons.mpr ⟨lw_p13, List.forall_mem_cons.mpr ⟨lw_p14, List.forall_mem_cons.mpr ⟨lw_p15, fun _ h => absurd h List.not_mem_nil⟩⟩⟩⟩⟩⟩⟩⟩⟩⟩⟩⟩⟩⟩⟩⟩
theorem lw_p16 : lw_okq (⟨"PegBoards", "requireHole", "(I)V"⟩, 7) := ⟨⟨by decide +kernel, by decide +kernel⟩, List.mem_of_getElem? (i := 20) (by decide +kernel), List.mem_of_getElem? (i := 638) (by decide +kernel), List.mem_of_getElem? (i := 639) (by decide +kernel)⟩
theorem lw_p17 : lw_okq (⟨"PegBoards$Weights", "tryFrom", "(IILPegBoards$Jumps;III)Z"⟩, 2) := ⟨⟨by decide +kernel, by decide +kernel⟩, List.mem_of_getElem? (i := 150) (by decide +kernel), List.mem_of_getElem? (i := 721) (by decide +kernel), List.mem_of_getElem? (i := 722) (by decide +kernel)⟩
theorem lw_p18 : lw_okq (⟨"PegBoards$Weights", "triedHold", "(ILPegBoards$Jumps;)Z"⟩, 2) := ⟨⟨by decide +kernel, by decide +kernel⟩, List.mem_of_getElem? (i := 150) (by decide +kernel), List.mem_of_getElem? (i := 726) (by decide +kernel), List.mem_of_getElem? (i := 727) (by decide +kernel)⟩
theorem lw_p19 : lw_okq (⟨"PegBoardsModel", "turns", "()I"⟩, 28) := ⟨⟨by decide +kernel, by decide +kernel⟩, List.mem_of_getElem? (i := 736) (by decide +kernel), List.mem_of_getElem? (i := 847) (by decide +kernel), List.mem_of_getElem? (i := 848) (by decide +kernel)⟩
theorem lw_p20 : lw_okq (⟨"PegBoardsModel", "down", "(I)I"⟩, 28) := ⟨⟨by decide +kernel, by decide +kernel⟩, List.mem_of_getElem? (i := 736) (by decide +kernel), List.mem_of_getElem? (i := 851) (by decide +kernel), List.mem_of_getElem? (i := 852) (by decide +kernel)⟩
theorem lw_p21 : lw_okq (⟨"PegBoardsModel", "right", "(I)I"⟩, 28) := ⟨⟨by decide +kernel, by decide +kernel⟩, List.mem_of_getElem? (i := 736) (by decide +kernel), List.mem_of_getElem? (i := 855) (by decide +kernel), List.mem_of_getElem? (i := 856) (by decide +kernel)⟩
theorem lw_p22 : lw_okq (⟨"PegBoardsModel", "numberAt", "(II)I"⟩, 28) := ⟨⟨by decide +kernel, by decide +kernel⟩, List.mem_of_getElem? (i := 736) (by decide +kernel), List.mem_of_getElem? (i := 859) (by decide +kernel), List.mem_of_getElem? (i := 860) (by decide +kernel)⟩
theorem lw_p23 : lw_okq (⟨"PegBoardsModel", "isSymmetry", "(I)Z"⟩, 28) := ⟨⟨by decide +kernel, by decide +kernel⟩, List.mem_of_getElem? (i := 736) (by decide +kernel), List.mem_of_getElem? (i := 863) (by decide +kernel), List.mem_of_getElem? (i := 864) (by decide +kernel)⟩
theorem lw_p24 : lw_okq (⟨"PegBoardsModel", "noJump", "(I)Z"⟩, 28) := ⟨⟨by decide +kernel, by decide +kernel⟩, List.mem_of_getElem? (i := 736) (by decide +kernel), List.mem_of_getElem? (i := 875) (by decide +kernel), List.mem_of_getElem? (i := 876) (by decide +kernel)⟩
theorem lw_p25 : lw_okq (⟨"PegBoardsModel", "noPosition", "(I)Z"⟩, 28) := ⟨⟨by decide +kernel, by decide +kernel⟩, List.mem_of_getElem? (i := 736) (by decide +kernel), List.mem_of_getElem? (i := 883) (by decide +kernel), List.mem_of_getElem? (i := 884) (by decide +kernel)⟩
theorem lw_p26 : lw_okq (⟨"PegBoardsModel", "made", "(II)I"⟩, 28) := ⟨⟨by decide +kernel, by decide +kernel⟩, List.mem_of_getElem? (i := 736) (by decide +kernel), List.mem_of_getElem? (i := 891) (by decide +kernel), List.mem_of_getElem? (i := 892) (by decide +kernel)⟩
theorem lw_p27 : lw_okq (⟨"PegBoardsModel", "cannot", "(I)Z"⟩, 28) := ⟨⟨by decide +kernel, by decide +kernel⟩, List.mem_of_getElem? (i := 736) (by decide +kernel), List.mem_of_getElem? (i := 902) (by decide +kernel), List.mem_of_getElem? (i := 903) (by decide +kernel)⟩
theorem lw_p28 : lw_okq (⟨"PegBoardsModel", "reach", "(I)Z"⟩, 28) := ⟨⟨by decide +kernel, by decide +kernel⟩, List.mem_of_getElem? (i := 736) (by decide +kernel), List.mem_of_getElem? (i := 906) (by decide +kernel), List.mem_of_getElem? (i := 907) (by decide +kernel)⟩
theorem lw_p29 : lw_okq (⟨"PegBoardsModel", "enter", "(III)V"⟩, 28) := ⟨⟨by decide +kernel, by decide +kernel⟩, List.mem_of_getElem? (i := 736) (by decide +kernel), List.mem_of_getElem? (i := 910) (by decide +kernel), List.mem_of_getElem? (i := 911) (by decide +kernel)⟩
theorem lw_p30 : lw_okq (⟨"PegBoardsModel", "lookAt", "(I)I"⟩, 28) := ⟨⟨by decide +kernel, by decide +kernel⟩, List.mem_of_getElem? (i := 736) (by decide +kernel), List.mem_of_getElem? (i := 914) (by decide +kernel), List.mem_of_getElem? (i := 915) (by decide +kernel)⟩
theorem lw_p31 : lw_okq (⟨"PegBoardsModel", "numberOf", "(I)I"⟩, 28) := ⟨⟨by decide +kernel, by decide +kernel⟩, List.mem_of_getElem? (i := 736) (by decide +kernel), List.mem_of_getElem? (i := 918) (by decide +kernel), List.mem_of_getElem? (i := 919) (by decide +kernel)⟩
def lw_privs_2 : List (MethodName × Nat) := [(⟨"PegBoards", "requireHole", "(I)V"⟩, 7), (⟨"PegBoards$Weights", "tryFrom", "(IILPegBoards$Jumps;III)Z"⟩, 2), (⟨"PegBoards$Weights", "triedHold", "(ILPegBoards$Jumps;)Z"⟩, 2), (⟨"PegBoardsModel", "turns", "()I"⟩, 28), (⟨"PegBoardsModel", "down", "(I)I"⟩, 28), (⟨"PegBoardsModel", "right", "(I)I"⟩, 28), (⟨"PegBoardsModel", "numberAt", "(II)I"⟩, 28), (⟨"PegBoardsModel", "isSymmetry", "(I)Z"⟩, 28), (⟨"PegBoardsModel", "noJump", "(I)Z"⟩, 28), (⟨"PegBoardsModel", "noPosition", "(I)Z"⟩, 28), (⟨"PegBoardsModel", "made", "(II)I"⟩, 28), (⟨"PegBoardsModel", "cannot", "(I)Z"⟩, 28), (⟨"PegBoardsModel", "reach", "(I)Z"⟩, 28), (⟨"PegBoardsModel", "enter", "(III)V"⟩, 28), (⟨"PegBoardsModel", "lookAt", "(I)I"⟩, 28), (⟨"PegBoardsModel", "numberOf", "(I)I"⟩, 28)]
theorem lw_r2 : ∀ q ∈ lw_privs_2, lw_okq q := List.forall_mem_cons.mpr ⟨lw_p16, List.forall_mem_cons.mpr ⟨lw_p17, List.forall_mem_cons.mpr ⟨lw_p18, List.forall_mem_cons.mpr ⟨lw_p19, List.forall_mem_cons.mpr ⟨lw_p20, List.forall_mem_cons.mpr ⟨lw_p21, List.forall_mem_cons.mpr ⟨lw_p22, List.forall_mem_cons.mpr ⟨lw_p23, List.forall_mem_cons.mpr ⟨lw_p24, List.forall_mem_cons.mpr ⟨lw_p25, List.forall_mem_cons.mpr ⟨lw_p26, List.forall_mem_cons.mpr ⟨lw_p27, List.forall_mem_cons.mpr ⟨lw_p28, List.forall_mem_cons.mpr ⟨lw_p29, List.forall_mem_cons.mpr ⟨lw_p30, List.forall_mem_cons.mpr ⟨lw_p31, fun _ h => absurd h List.not_mem_nil⟩⟩⟩⟩⟩⟩⟩⟩⟩⟩⟩⟩⟩⟩⟩⟩
theorem lw_p32 : lw_okq (⟨"PegBoardsModel", "pegs", "(I)I"⟩, 28) := ⟨⟨by decide +kernel, by decide +kernel⟩, List.mem_of_getElem? (i := 736) (by decide +kernel), List.mem_of_getElem? (i := 934) (by decide +kernel), List.mem_of_getElem? (i := 935) (by decide +kernel)⟩
theorem lw_p33 : lw_okq (⟨"PegBoardsModel", "spread", "(I)V"⟩, 28) := ⟨⟨by decide +kernel, by decide +kernel⟩, List.mem_of_getElem? (i := 736) (by decide +kernel), List.mem_of_getElem? (i := 938) (by decide +kernel), List.mem_of_getElem? (i := 939) (by decide +kernel)⟩
theorem lw_p34 : lw_okq (⟨"PegBoardsModel", "leastOf", "(I)I"⟩, 28) := ⟨⟨by decide +kernel, by decide +kernel⟩, List.mem_of_getElem? (i := 736) (by decide +kernel), List.mem_of_getElem? (i := 946) (by decide +kernel), List.mem_of_getElem? (i := 947) (by decide +kernel)⟩
theorem lw_p35 : lw_okq (⟨"PegBoardsModel", "imaged", "(II)I"⟩, 28) := ⟨⟨by decide +kernel, by decide +kernel⟩, List.mem_of_getElem? (i := 736) (by decide +kernel), List.mem_of_getElem? (i := 950) (by decide +kernel), List.mem_of_getElem? (i := 951) (by decide +kernel)⟩
theorem lw_p36 : lw_okq (⟨"PegBoardsModel", "noHole", "(I)Z"⟩, 28) := ⟨⟨by decide +kernel, by decide +kernel⟩, List.mem_of_getElem? (i := 736) (by decide +kernel), List.mem_of_getElem? (i := 962) (by decide +kernel), List.mem_of_getElem? (i := 963) (by decide +kernel)⟩
theorem lw_p37 : lw_okq (⟨"PegBoardsModel", "holding", "()Z"⟩, 28) := ⟨⟨by decide +kernel, by decide +kernel⟩, List.mem_of_getElem? (i := 736) (by decide +kernel), List.mem_of_getElem? (i := 982) (by decide +kernel), List.mem_of_getElem? (i := 983) (by decide +kernel)⟩
theorem lw_p38 : lw_okq (⟨"PegBoardsModel", "sumOf", "(I)I"⟩, 28) := ⟨⟨by decide +kernel, by decide +kernel⟩, List.mem_of_getElem? (i := 736) (by decide +kernel), List.mem_of_getElem? (i := 986) (by decide +kernel), List.mem_of_getElem? (i := 987) (by decide +kernel)⟩
theorem lw_p39 : lw_okq (⟨"PegBoardsModel", "fits", "()Z"⟩, 28) := ⟨⟨by decide +kernel, by decide +kernel⟩, List.mem_of_getElem? (i := 736) (by decide +kernel), List.mem_of_getElem? (i := 994) (by decide +kernel), List.mem_of_getElem? (i := 995) (by decide +kernel)⟩
def lw_privs_3 : List (MethodName × Nat) := [(⟨"PegBoardsModel", "pegs", "(I)I"⟩, 28), (⟨"PegBoardsModel", "spread", "(I)V"⟩, 28), (⟨"PegBoardsModel", "leastOf", "(I)I"⟩, 28), (⟨"PegBoardsModel", "imaged", "(II)I"⟩, 28), (⟨"PegBoardsModel", "noHole", "(I)Z"⟩, 28), (⟨"PegBoardsModel", "holding", "()Z"⟩, 28), (⟨"PegBoardsModel", "sumOf", "(I)I"⟩, 28), (⟨"PegBoardsModel", "fits", "()Z"⟩, 28)]
theorem lw_r3 : ∀ q ∈ lw_privs_3, lw_okq q := List.forall_mem_cons.mpr ⟨lw_p32, List.forall_mem_cons.mpr ⟨lw_p33, List.forall_mem_cons.mpr ⟨lw_p34, List.forall_mem_cons.mpr ⟨lw_p35, List.forall_mem_cons.mpr ⟨lw_p36, List.forall_mem_cons.mpr ⟨lw_p37, List.forall_mem_cons.mpr ⟨lw_p38, List.forall_mem_cons.mpr ⟨lw_p39, fun _ h => absurd h List.not_mem_nil⟩⟩⟩⟩⟩⟩⟩⟩
def lw_privs : List (MethodName × Nat) := lw_privs_1 ++ (lw_privs_2 ++ (lw_privs_3))
def lw_tbl : List Cond := k2_sels lw_privs ++ tables_1
theorem lw_privs_ok : ∀ q ∈ lw_privs, lw_okq q := by
  show ∀ q ∈ lw_privs_1 ++ (lw_privs_2 ++ (lw_privs_3)), lw_okq q
  exact List.forall_mem_append.mpr ⟨lw_r1, List.forall_mem_append.mpr ⟨lw_r2, lw_r3⟩⟩
/-! ===== BEGIN words of one list among another's, by their places ===== -/
theorem goodIn_r {big : List Cond} (ws : List Cond) (ps : List Nat) (hp : ws = ps.filterMap (fun i => big[i]?)) (h : ws.all goodWord = true) : GoodIn big ws := by
  intro w hw
  have h1 := List.all_eq_true.mp h w hw
  rw [hp] at hw
  obtain ⟨i, -, hi⟩ := List.mem_filterMap.mp hw
  have hm : w ∈ big := by first | exact List.mem_of_getElem? hi | exact List.getElem?_mem hi
  exact ⟨hm, good_of_word h1⟩
theorem goodIn_app {big a b : List Cond} (ha : GoodIn big a) (hb : GoodIn big b) : GoodIn big (a ++ b) := fun w h => (List.mem_append.mp h).elim (ha w) (hb w)
theorem goodIn_ca {big a b : List Cond} {c : Cond} (ha : GoodIn big (c :: a)) (hb : GoodIn big b) : GoodIn big (c :: (a ++ b)) := fun w h => (List.mem_cons.mp h).elim (fun e => ha w (List.mem_cons.mpr (Or.inl e))) (fun h => (List.mem_append.mp h).elim (fun h => ha w (List.mem_cons.mpr (Or.inr h))) (hb w))
theorem goodIn_sub {big ws : List Cond} (hm : ∀ w ∈ ws, w ∈ big) (h : ws.all goodWord = true) : GoodIn big ws := fun w hw => ⟨hm w hw, good_of_word (List.all_eq_true.mp h w hw)⟩
/-! ===== END ===== -/

/-! ===== BEGIN exceptions that leave a method, and their catching by the caller (launches without stack traces) ===== -/
section VXA
/-! The laws vx_back, vx_callV, vx_callS, vx_callSW, vx_throw0, vx_throwS follow proofs of the library, with one case more: JvmDerived/Free/Laws.lean (Back.of_free), Shelf42/LK1.lean (callV, callS), Shelf/KitTraced.lean (throwNew0V, throwNewS). -/
/-- where a method has thrown q: the class by its name, the cell, what was written, the world -/
def vx_T (XC : String → State → State → Prop) (st : State) (q : Addr) (t : State) (mc ms : Nat) (free : Addr → Prop) : Prop :=
  ∃ (E : String) (ce : Cell) (L : List Loc), XC E st t ∧ t.heap[q]? = some ce ∧ ce.vm = .none ∧ st.vm.findClass E = some ce.cls ∧ st.WarmedH t.vm ∧ st.sameButNew ({ t with vm := st.vm } : State) L mc ms ∧ ∀ z ∈ L, free z.base
def vx_Q (Qc : Array Value → State → Outcome → State → Prop) (XC : String → State → State → Prop) (mc ms : Nat) (free : Addr → Prop) : Array Value → State → Outcome → State → Prop := fun a st o t =>
  (Qc a st o t ∧ ∃ L, FrameEnd st o t L mc ms ∧ ∀ q ∈ L, free q.base) ∨ ∃ q, o = .threw q ∧ vx_T XC st q t mc ms free
/-- a callee that returns or throws -/
def vx_Met (l : Launch) (y : MethodName) (ws : List Cond) (rm : Room) (Pc : Array Value → State → Prop) (Qc : Array Value → State → Outcome → State → Prop) (XC : String → State → State → Prop) (mc ms : Nat) (free : Addr → Prop) : Prop :=
  MetFree l y (headSpec ws rm) Pc (fun _ _ _ _ _ => True) (vx_Q Qc XC mc ms free)
def vx_Post (XC : String → State → State → Prop) (mc ms : Nat) (free : Addr → Prop) : Pt → Array Value → Addr → Pt → Prop := fun A a q B =>
  ∃ (g : JFrame) (mk : MethodId) (t : State) (L : List Loc) (E : String) (ce : Cell), B.U.heap = t.heap ∧ B.U.vm = t.vm ∧ XC E (A.U.calling g mk a) t ∧ t.heap[q]? = some ce ∧ ce.vm = .none ∧ A.U.vm.findClass E = some ce.cls ∧ B.locs = A.locs ++ L ∧ (∀ z ∈ L, free z.base) ∧ B.cells = A.cells + mc ∧ B.slots = A.slots + ms
def vx_Back (l : Launch) (R : Room) (p : Program) (e : Env) (below : List Frame) (s : State) (sargs : Array Value) (y : MethodName) (len W9 : Nat)
    (Pre : Pt → Array Value → Prop) (Post : Pt → Array Value → Option Value → Pt → Prop) (PostX : Pt → Array Value → Addr → Pt → Prop) : Prop :=
  ∀ (m : MethodId) (meth : Method) (c : Code) (A : Pt) (g : JFrame) (ig : Instr) (mk : MethodId) (a : Array Value),
    Stand p l e R s m sargs below meth c A.U A.locs A.cells A.slots → g.method = m → g.locals.size = c.maxLocals → decode c.code g.pc = .ok (ig, len) →
    2 * g.monitorRoom + (g.stack.map fun v => v.category).sum ≤ W9 → A.U.methodNamed? y = some mk → Pre A a →
    (∃ (v : Option Value) (B : Pt), Stand p l e R s m sargs below meth c B.U B.locs B.cells B.slots ∧ Post A a v B ∧
      Steps p.tables e below (doInvoke e (A.U.setTop g) [] mk a).1 (B.U.setTop { g with pc := g.pc + len, stack := v.toList ++ g.stack })) ∨
    (∃ (q : Addr) (B : Pt), Stand p l e R s m sargs below meth c B.U B.locs B.cells B.slots ∧ PostX A a q B ∧
      Steps p.tables e below (doInvoke e (A.U.setTop g) [] mk a).1 ((B.U.setTop g).pushFrame (.throwing q)))
section Payer
variable {l : Launch} {R : Room} {p : Program} {e : Env} {below : List Frame} {s : State} {sargs : Array Value} {y : MethodName} {len W9 : Nat}
theorem vx_back {ws : List Cond} {rm : Room} {Pc : Array Value → State → Prop} {Qc : Array Value → State → Outcome → State → Prop} {XC : String → State → State → Prop} {mc ms : Nat} {free : Addr → Prop} {bytes : ByteArray} {maxL : Nat} {ret : Option FieldType}
    (hM : vx_Met l y ws rm Pc Qc XC mc ms free) (hblind : FrameBlind Pc) (hrc : rm.cells = mc) (hrs : rm.slots = ms)
    (hframes : rm.frames + 1 ≤ R.frames) (hlocals : W9 + (maxL + 11) + rm.locals ≤ R.locals)
    (hws : ∀ w ∈ ws, ∀ a' U, s.WarmedH U.vm → w.before a' U = true) (hcode : Cond.code y bytes maxL ret ∈ ws) (hinit : ∀ a' U, s.WarmedH U.vm → (Cond.initialized y.cls).before a' U = true) :
    vx_Back l R p e below s sargs y len W9 (PreOf R mc ms Pc) (PostOf Qc mc ms free) (vx_Post XC mc ms free) := by
  intro m meth c A g ig mk a X hg hsize hdg hW hn hp
  have h1 : (headSpec ws rm).pre.before a A.U = true := atoms_intro fun w hw => hws w hw _ _ X.warmed
  have h2 : (Cond.code y bytes maxL ret).before a A.U = true := hws _ hcode _ _ X.warmed
  have h3 : (Cond.initialized y.cls).before a A.U = true := hinit _ _ X.warmed
  have h4 : A.cells + (headSpec ws rm).room.cells ≤ R.cells := by rw [show (headSpec ws rm).room.cells = mc from hrc]; exact hp.1
  have h5 : A.slots + (headSpec ws rm).room.slots ≤ R.slots := by rw [show (headSpec ws rm).room.slots = ms from hrs]; exact hp.2.1
  have hPc : Pc a (A.U.calling g mk a) := hblind _ _ _ _ hp.2.2
  obtain ⟨U, Ls, c0, s0⟩ := A
  dsimp only [Pt.U, Pt.locs, Pt.cells, Pt.slots] at h1 h2 h3 h4 h5 X hn hPc ⊢
  obtain ⟨methY, cY, hmY, hcY, -, hlY, -, -, -, -⟩ := Cond.code_spec hn h2
  obtain ⟨kY, hkY, -⟩ := className_of_methodNamed hn
  have hinitY : kY.init = .initialized := Cond.initialized_spec (findClass_of_methodNamed hn) hkY h3
  have h : At U g.method c below := by rw [hg]; exact X.here
  have hlocals9 : W9 + (maxL + 11) + (headSpec ws rm).room.locals ≤ R.locals := hlocals
  have happ : (headSpec ws rm).appliesLoose y e.platform (U.calling g mk a) = true :=
    Spec.appliesLoose_calling (g := g) h hdg hn hkY hinitY
      (X.room_calling (g := g) (R' := (headSpec ws rm).room) hsize hmY hcY hframes (by rw [hlY]; omega) h4 h5) h1
  obtain ⟨mid, hmid⟩ := h.above
  have hfr : (U.setTop g).frames = (.java g :: mid) ++ below := by rw [State.frames_setTop' g h.top, hmid]; rfl
  obtain ⟨o, s₂, hsteps, -, hend, hq⟩ := Steps.callFree hM p X.admits X.cas X.clock (acts := []) hfr happ hPc trivial
  have hq' : vx_Q Qc XC mc ms free a (U.calling g mk a) o s₂ := hq
  rw [State.frames_setTop' g h.top] at hend
  obtain ⟨g₀, hg0⟩ := Option.isSome_iff_exists.mp h.top
  obtain ⟨r, hr⟩ := State.topJava?_eq_some.mp hg0
  have hr' : (({ U with heap := s₂.heap, slotsUsed := s₂.slotsUsed } : State).setVm s₂.vm).frames = .java g₀ :: r := hr
  rcases hq' with ⟨hqc, L, hfe, hL⟩ | ⟨q, rfl, E, ce, L, hx, hce, hcv, hcl, hW₂, hsm, hL⟩
  · obtain ⟨⟨v, rfl⟩, hW₂, e2, q2, q3, q4, q5, q6⟩ := id hfe
    have e3 : s₂ = ({ (U.calling g mk a).setFrames s₂.frames with heap := s₂.heap, slotsUsed := s₂.slotsUsed } : State).setVm s₂.vm := by
      have : s₂ = ({ s₂ with vm := (U.calling g mk a).vm } : State).setVm s₂.vm := rfl
      rw [e2] at this
      exact this
    obtain ⟨c₂, i₂, len₂, hc₂, hd₂, hf₂⟩ := hend
    have hW' : U.WarmedH s₂.vm := hW₂
    have hcc : c₂ = c := by
      have h1 : s₂.code? g.method = U.code? g.method := by
        rw [State.code?_eq, State.code?_eq, hW'.alike.method?]
      exact Option.some.inj (hc₂.symm.trans (h1.trans h.code))
    subst hcc
    have hlen : len₂ = len := by rw [hdg] at hd₂; cases hd₂; rfl
    subst hlen
    have hs₂ : s₂ = (({ U with heap := s₂.heap, slotsUsed := s₂.slotsUsed } : State).setVm s₂.vm).setTop { g with pc := g.pc + len₂, stack := v.toList ++ g.stack } := by
      refine e3.trans ?_
      rw [hf₂, State.calling_eq h.top, State.setFrames_setFrames, State.setTop_of_frames _ hr', hr]
      rfl
    have hsame : U.sameButNew ({ U with heap := s₂.heap, slotsUsed := s₂.slotsUsed } : State) L mc ms := by
      refine ⟨?_, q2, q3, q4, q5, q6⟩
      obtain ⟨t, ht, -⟩ := State.frames_cons hr
      show ({ U with heap := s₂.heap, slotsUsed := s₂.slotsUsed } : State) = { U.setFrames U.frames with heap := s₂.heap, slotsUsed := s₂.slotsUsed }
      rw [State.setFrames_self ht]
    subst hg
    refine Or.inl ⟨v, ⟨(({ U with heap := s₂.heap, slotsUsed := s₂.slotsUsed } : State).setVm s₂.vm), Ls ++ L, c0 + mc, s0 + ms⟩,
      ⟨X.admits, X.cas, X.clock, X.frames, X.room, X.hears, X.method, X.code, (X.here.setHeapUsed s₂.heap s₂.slotsUsed).setVm hW'.alike, X.tail, State.WarmedH.trans X.warmed hW', X.limits, X.bytes, X.same.trans (hsame.setVm s.vm)⟩,
      ⟨g, mk, s₂, L, rfl, rfl, hqc, rfl, hL, rfl, rfl⟩, ?_⟩
    show Steps p.tables e below _ ((({ U with heap := s₂.heap, slotsUsed := s₂.slotsUsed } : State).setVm s₂.vm).setTop { g with pc := g.pc + len₂, stack := v.toList ++ g.stack })
    rw [← hs₂]
    exact hsteps
  · obtain ⟨e2, q2, q3, q4, q5, q6⟩ := id hsm
    have e3 : s₂ = ({ (U.calling g mk a).setFrames s₂.frames with heap := s₂.heap, slotsUsed := s₂.slotsUsed } : State).setVm s₂.vm := by
      have : s₂ = ({ s₂ with vm := (U.calling g mk a).vm } : State).setVm s₂.vm := rfl
      rw [e2] at this
      exact this
    have hf₂ : s₂.frames = .throwing q :: .java g :: U.frames.tail := hend
    have hW' : U.WarmedH s₂.vm := hW₂
    have hs₂ : s₂ = ((({ U with heap := s₂.heap, slotsUsed := s₂.slotsUsed } : State).setVm s₂.vm).setTop g).pushFrame (.throwing q) := by
      refine e3.trans ?_
      rw [hf₂, State.calling_eq h.top, State.setFrames_setFrames, State.pushFrame, State.frames_setTop _ hr', State.setTop_of_frames _ hr', State.setFrames_setFrames, hr]
      rfl
    have hsame : U.sameButNew ({ U with heap := s₂.heap, slotsUsed := s₂.slotsUsed } : State) L mc ms := by
      refine ⟨?_, q2, q3, q4, q5, q6⟩
      obtain ⟨t, ht, -⟩ := State.frames_cons hr
      show ({ U with heap := s₂.heap, slotsUsed := s₂.slotsUsed } : State) = { U.setFrames U.frames with heap := s₂.heap, slotsUsed := s₂.slotsUsed }
      rw [State.setFrames_self ht]
    subst hg
    refine Or.inr ⟨q, ⟨(({ U with heap := s₂.heap, slotsUsed := s₂.slotsUsed } : State).setVm s₂.vm), Ls ++ L, c0 + mc, s0 + ms⟩,
      ⟨X.admits, X.cas, X.clock, X.frames, X.room, X.hears, X.method, X.code, (X.here.setHeapUsed s₂.heap s₂.slotsUsed).setVm hW'.alike, X.tail, State.WarmedH.trans X.warmed hW', X.limits, X.bytes, X.same.trans (hsame.setVm s.vm)⟩,
      ⟨g, mk, s₂, L, E, ce, rfl, rfl, hx, hce, hcv, hcl, rfl, hL, rfl, rfl⟩, ?_⟩
    show Steps p.tables e below _ (((({ U with heap := s₂.heap, slotsUsed := s₂.slotsUsed } : State).setVm s₂.vm).setTop g).pushFrame (.throwing q))
    rw [← hs₂]
    exact hsteps
end Payer
section Calls
variable {p : Program} {l : Launch} {e : Env} {R : Room} {s : State} {m : MethodId} {args : Array Value} {below : List Frame} {meth : Method} {c : Code} {T : State} {locs : List Loc} {cells slots : Nat}
theorem vx_callV (X : Stand p l e R s m args below meth c T locs cells slots) (hexec : p.tables.exec = Jvm.exec) {own C : String} {index : Nat} {y : MethodName} {bytes : ByteArray} {maxL : Nat} {ret : Option FieldType}
    (hown : s.vm.findClass own = some m.cls) (hlink : (Cond.methodLink own index y).before args s = true) (hinst : (Cond.instanceMethod y).before args s = true) (hsel : (Cond.selects C y y).before args s = true)
    (hcode : (Cond.code y bytes maxL ret).before args s = true) (hy : y.cls ≠ "java/lang/invoke/MethodHandle" ∧ y.cls ≠ "java/lang/invoke/VarHandle")
    {W9 : Nat} {Pre : Pt → Array Value → Prop} {Post : Pt → Array Value → Option Value → Pt → Prop} {PostX : Pt → Array Value → Addr → Pt → Prop} (hK : vx_Back l R p e below s args y 3 W9 Pre Post PostX)
    {b : Addr} {cellB : Cell} (hcell : T.heap[b]? = some cellB) (hobj : cellB.vm.isStatics = false) (hcls : s.vm.findClass C = some cellB.cls)
    {g : JFrame} (hg : g.method = m) (hsize : g.locals.size = c.maxLocals) {argsL rest : List Value} (hlen : ∀ sig, parseMethodDescriptor y.desc = some sig → argsL.length = sig.parameters.length)
    (hstack : g.stack = argsL.reverse ++ .ref b :: rest) (hW : 2 * g.monitorRoom + (rest.map fun v => v.category).sum ≤ W9) (hdg : decode c.code g.pc = .ok (.invokevirtual index, 3))
    (hpre : ∀ vm₁, s.WarmedH vm₁ → Pre ⟨T.setVm vm₁, locs, cells, slots⟩ (Value.ref b :: argsL).toArray) :
    (∃ (v : Option Value) (vm₁ : Vm) (B : Pt), s.WarmedH vm₁ ∧ Stand p l e R s m args below meth c B.U B.locs B.cells B.slots ∧ Post ⟨T.setVm vm₁, locs, cells, slots⟩ (Value.ref b :: argsL).toArray v B ∧
      ∀ target, Steps p.tables e below (B.U.setTop { g with pc := g.pc + 3, stack := v.toList ++ rest }) target → Steps p.tables e below (T.setTop g) target) ∨
    (∃ (q : Addr) (vm₁ : Vm) (B : Pt), s.WarmedH vm₁ ∧ Stand p l e R s m args below meth c B.U B.locs B.cells B.slots ∧ PostX ⟨T.setVm vm₁, locs, cells, slots⟩ (Value.ref b :: argsL).toArray q B ∧
      Steps p.tables e below (T.setTop g) ((B.U.setTop { g with stack := rest }).pushFrame (.throwing q))) := by
  obtain ⟨mk, methM, hnamed, hmethM, hstM, habM⟩ := Cond.instanceMethod_spec hinst
  obtain ⟨methM', cM, hmethM', -, -, -, -, -, -, hsigM⟩ := Cond.code_spec hnamed hcode
  cases hmethM.symm.trans hmethM'
  obtain ⟨c2, r2, m2, q1, q2, q3, q4, kP, hkP, hkPi⟩ := Cond.selects_spec hsel
  cases hcls.symm.trans q1
  cases (State.methodFound?_of_named hnamed hy).symm.trans q2
  cases hnamed.symm.trans q3
  have hselP : selectMethod e.platform s.vm cellB.cls mk = .method mk := by rw [Launch.admits_selectMethod X.admits]; exact q4
  obtain ⟨vm₁, X₁, hstep₁⟩ := X.invokevirtual hexec hown hlink hnamed hmethM hstM hkP hkPi hy (a := b) (cell := cellB) hcell
    (fun z h => by rw [h] at hobj; cases hobj) hselP hmethM habM hkP hkPi (g := g) hg (argsL := argsL) (rest := rest) (hlen _ hsigM) hstack hdg
  rcases hK m meth c ⟨T.setVm vm₁, locs, cells, slots⟩ { g with stack := rest } (.invokevirtual index) mk (Value.ref b :: argsL).toArray X₁ hg hsize hdg hW (X₁.named hnamed) (hpre vm₁ X₁.warmed) with ⟨v, B, X', hpost, hsteps⟩ | ⟨q, B, X', hpost, hsteps⟩
  · exact Or.inl ⟨v, vm₁, B, X₁.warmed, X', hpost, fun target h => hstep₁ _ fun acts => by rw [doInvoke_state]; exact hsteps.trans h⟩
  · exact Or.inr ⟨q, vm₁, B, X₁.warmed, X', hpost, hstep₁ _ fun acts => by rw [doInvoke_state]; exact hsteps⟩
theorem vx_callS (X : Stand p l e R s m args below meth c T locs cells slots) (hexec : p.tables.exec = Jvm.exec) {own : String} {index : Nat} {y : MethodName} {bytes : ByteArray} {maxL : Nat} {ret : Option FieldType}
    (hown : s.vm.findClass own = some m.cls) (hlink : (Cond.methodLink own index y).before args s = true) (hstat : (Cond.static y).before args s = true) (hinit : (Cond.initialized y.cls).before args s = true)
    (hcode : (Cond.code y bytes maxL ret).before args s = true) (hy : y.cls ≠ "java/lang/invoke/MethodHandle" ∧ y.cls ≠ "java/lang/invoke/VarHandle")
    {W9 : Nat} {Pre : Pt → Array Value → Prop} {Post : Pt → Array Value → Option Value → Pt → Prop} {PostX : Pt → Array Value → Addr → Pt → Prop} (hK : vx_Back l R p e below s args y 3 W9 Pre Post PostX)
    {g : JFrame} (hg : g.method = m) (hsize : g.locals.size = c.maxLocals) {argsL rest : List Value} (hlen : ∀ sig, parseMethodDescriptor y.desc = some sig → argsL.length = sig.parameters.length)
    (hstack : g.stack = argsL.reverse ++ rest) (hW : 2 * g.monitorRoom + (rest.map fun v => v.category).sum ≤ W9) (hdg : decode c.code g.pc = .ok (.invokestatic index, 3))
    (hpre : ∀ vm₁, s.WarmedH vm₁ → Pre ⟨T.setVm vm₁, locs, cells, slots⟩ argsL.toArray) :
    (∃ (v : Option Value) (vm₁ : Vm) (B : Pt), s.WarmedH vm₁ ∧ Stand p l e R s m args below meth c B.U B.locs B.cells B.slots ∧ Post ⟨T.setVm vm₁, locs, cells, slots⟩ argsL.toArray v B ∧
      ∀ target, Steps p.tables e below (B.U.setTop { g with pc := g.pc + 3, stack := v.toList ++ rest }) target → Steps p.tables e below (T.setTop g) target) ∨
    (∃ (q : Addr) (vm₁ : Vm) (B : Pt), s.WarmedH vm₁ ∧ Stand p l e R s m args below meth c B.U B.locs B.cells B.slots ∧ PostX ⟨T.setVm vm₁, locs, cells, slots⟩ argsL.toArray q B ∧
      Steps p.tables e below (T.setTop g) ((B.U.setTop { g with stack := rest }).pushFrame (.throwing q))) := by
  obtain ⟨mk, hnamed⟩ := Cond.code_named hcode
  obtain ⟨methM, cM, hmethM, -, -, -, -, -, -, hsigM⟩ := Cond.code_spec hnamed hcode
  have hstatic : methM.isStatic = true := Cond.static_spec hnamed hmethM hstat
  obtain ⟨kP, hkP, -⟩ := className_of_methodNamed hnamed
  have hinitP : kP.init = .initialized := Cond.initialized_spec (findClass_of_methodNamed hnamed) hkP hinit
  obtain ⟨vm₁, X₁, hstep₁⟩ := X.invokestatic hexec hown hlink hnamed hmethM hstatic hkP hinitP hy (g := g) hg (argsL := argsL) (rest := rest) (hlen _ hsigM) hstack hdg
  rcases hK m meth c ⟨T.setVm vm₁, locs, cells, slots⟩ { g with stack := rest } (.invokestatic index) mk argsL.toArray X₁ hg hsize hdg hW (X₁.named hnamed) (hpre vm₁ X₁.warmed) with ⟨v, B, X', hpost, hsteps⟩ | ⟨q, B, X', hpost, hsteps⟩
  · exact Or.inl ⟨v, vm₁, B, X₁.warmed, X', hpost, fun target h => hstep₁ _ fun acts => by rw [doInvoke_state]; exact hsteps.trans h⟩
  · exact Or.inr ⟨q, vm₁, B, X₁.warmed, X', hpost, hstep₁ _ fun acts => by rw [doInvoke_state]; exact hsteps⟩
end Calls
theorem vx_cls {s : State} {T : State} {vm₁ : Vm} {E : String} {k : ClassId} (hW : s.WarmedH vm₁) (h : (T.setVm vm₁).vm.findClass E = some k) : s.vm.findClass E = some k := by
  have h1 : vm₁.findClass E = some k := h
  rw [hW.alike.findClass] at h1
  exact h1
/-- the method's frame g, with q thrown over it -/
def vx_W (p : Program) (l : Launch) (e : Env) (R : Room) (s : State) (m : MethodId) (args : Array Value) (below : List Frame) (meth : Method) (c : Code) (H : Heap) (locs : List Loc) (cells slots : Nat) (Q : State → Prop) (g : JFrame) (q : Addr) : Prop :=
  ∀ T : State, T.heap = H → Stand p l e R s m args below meth c T locs cells slots → ∃ t, Steps p.tables e below ((T.setTop g).pushFrame (.throwing q)) t ∧ Q t
def vx_Run (p : Program) (l : Launch) (e : Env) (R : Room) (s : State) (m : MethodId) (args : Array Value) (below : List Frame) (meth : Method) (c : Code) (H : Heap) (locs : List Loc) (cells slots mc ms : Nat) (g : JFrame) (rest : List Value) (Qa : State → Outcome → State → Prop) (XC : String → State → State → Prop) (free : Addr → Prop) : Prop :=
  ∀ T : State, T.heap = H → Stand p l e R s m args below meth c T locs cells slots →
    (∃ (v : Option Value) (st₀ t T' : State) (L : List Loc), st₀.heap = H ∧ Stand p l e R s m args below meth c T' (locs ++ L) (cells + mc) (slots + ms) ∧ (∀ q ∈ L, free q.base) ∧ T'.heap = t.heap ∧ T'.vm = t.vm ∧ Qa st₀ (.returned v) t ∧
      Goes p e below T g T' { g with pc := g.pc + 3, stack := v.toList ++ rest }) ∨
    (∃ (q : Addr) (st₀ t T' : State) (L : List Loc) (E : String) (ce : Cell), st₀.heap = H ∧ Stand p l e R s m args below meth c T' (locs ++ L) (cells + mc) (slots + ms) ∧ (∀ z ∈ L, free z.base) ∧ T'.heap = t.heap ∧ T'.vm = t.vm ∧ XC E st₀ t ∧ t.heap[q]? = some ce ∧ ce.vm = .none ∧ s.vm.findClass E = some ce.cls ∧
      Steps p.tables e below (T.setTop g) ((T'.setTop { g with stack := rest }).pushFrame (.throwing q)))
def vx_X {S : Type} (px : S → Prop) (B : String → S → State → Prop) (A : Nat → Prop) : String → State → State → Prop := fun E st t => ∃ u : S, px u ∧ B E u t ∧ va_F A st t
section Runs
variable {p : Program} {l : Launch} {e : Env} {R : Room} {s : State} {m : MethodId} {args : Array Value} {below : List Frame} {meth : Method} {c : Code} {H : Heap} {locs : List Loc} {cells slots : Nat}
variable {y : MethodName} {bytes cc : ByteArray} {maxL nL mc ms n index : Nat} {ret : Option FieldType} {ws : List Cond} {rm : Room} {Pc : Array Value → State → Prop} {Qc : Array Value → State → Outcome → State → Prop} {XC : String → State → State → Prop} {free : Addr → Prop} {Ts : List Cond} {own C : String} {b : Addr} {As rest : List Value} {g : JFrame}
theorem vx_callBack (cb : CallB R s args own index y bytes maxL ret ws rm mc ms n) (hM : vx_Met l y ws rm Pc Qc XC mc ms free) (hbl : FrameBlind Pc) : vx_Back l R p e below s args y 3 8 (PreOf R mc ms Pc) (PostOf Qc mc ms free) (vx_Post XC mc ms free) := by
  obtain ⟨hrc, hrs, hfr, hlo, hws, hcw, -, hini, -⟩ := cb
  exact vx_back (bytes := bytes) (maxL := maxL) (ret := ret) hM hbl hrc hrs hfr hlo hws hcw (fun a' U hW => word_at hW (Or.inl (by first | rfl | simp [Cond.onTables, Cond.keeps, Cond.steady])) hini)
theorem vx_runV (S : CallFix p m c cc nL s args Ts own) (hM : vx_Met l y ws rm Pc Qc XC mc ms free) (cw : CallW R s args own C index y bytes maxL ret ws rm mc ms n) (hp : PreV s H C b Pc As)
    (hg : g.method = m) (hn : As.length = n) (hsize : g.locals.size = nL) (hstack : g.stack = As.reverse ++ .ref b :: rest) (hW : 2 * g.monitorRoom + (rest.map fun v => v.category).sum ≤ 8) (hdg : decode cc g.pc = .ok (.invokevirtual index, 3)) (hf : cells + mc ≤ R.cells ∧ slots + ms ≤ R.slots) :
    vx_Run p l e R s m args below meth c H locs cells slots mc ms g rest (Qc (Value.ref b :: As).toArray) XC free := by
  have hK : vx_Back l R p e below s args y 3 8 (PreOf R mc ms Pc) (PostOf Qc mc ms free) (vx_Post XC mc ms free) := vx_callBack cw.1 hM hp.1
  obtain ⟨⟨-, -, -, -, -, -, hcode, -, hy, hlen, hl⟩, hin, hse⟩ := cw
  obtain ⟨hx, hb, hml, ho, -⟩ := S
  obtain ⟨-, ⟨cellB, hcB, hoB, hclB⟩, hPc⟩ := hp
  intro T hT X
  rcases vx_callV X hx (C := C) (bytes := bytes) (maxL := maxL) (ret := ret) ho hl hin hse hcode hy hK (by rw [hT]; exact hcB) hoB hclB hg (hsize.trans hml.symm) (argsL := As) (rest := rest) (fun sig h => hn.trans (hlen sig h)) hstack hW (by rw [hb]; exact hdg)
    (fun vm₁ hW₁ => ⟨hf.1, hf.2, hPc (T.setVm vm₁) hT hW₁⟩) with ⟨v, vm₁, ⟨U', l2, c2, s2⟩, hW₁, X', ⟨g', mk, t, L, e1, e2, hq, h1, hL, h2, h3⟩, st⟩ | ⟨q, vm₁, ⟨U', l2, c2, s2⟩, hW₁, X', ⟨g', mk, t, L, E, ce, e1, e2, hq, hce, hcv, hcl, h1, hL, h2, h3⟩, st⟩
  · dsimp only [Pt.U, Pt.locs, Pt.cells, Pt.slots] at X' e1 e2 h1 h2 h3 st
    subst h1; subst h2; subst h3
    exact Or.inl ⟨v, (T.setVm vm₁).calling g' mk (Value.ref b :: As).toArray, t, U', L, hT, X', hL, e1, e2, hq, st⟩
  · dsimp only [Pt.U, Pt.locs, Pt.cells, Pt.slots] at X' e1 e2 h1 h2 h3 st hcl
    subst h1; subst h2; subst h3
    exact Or.inr ⟨q, (T.setVm vm₁).calling g' mk (Value.ref b :: As).toArray, t, U', L, E, ce, hT, X', hL, e1, e2, hq, hce, hcv, vx_cls hW₁ hcl, st⟩
theorem vx_runS (S : CallFix p m c cc nL s args Ts own) (hM : vx_Met l y ws rm Pc Qc XC mc ms free) (cw : CallB R s args own index y bytes maxL ret ws rm mc ms n ∧ (Cond.static y).before args s = true) (hp : PreS s H Pc As)
    (hg : g.method = m) (hn : As.length = n) (hsize : g.locals.size = nL) (hstack : g.stack = As.reverse ++ rest) (hW : 2 * g.monitorRoom + (rest.map fun v => v.category).sum ≤ 8) (hdg : decode cc g.pc = .ok (.invokestatic index, 3)) (hf : cells + mc ≤ R.cells ∧ slots + ms ≤ R.slots) :
    vx_Run p l e R s m args below meth c H locs cells slots mc ms g rest (Qc As.toArray) XC free := by
  have hK : vx_Back l R p e below s args y 3 8 (PreOf R mc ms Pc) (PostOf Qc mc ms free) (vx_Post XC mc ms free) := vx_callBack cw.1 hM hp.1
  obtain ⟨⟨-, -, -, -, -, -, hcode, hini, hy, hlen, hl⟩, hstt⟩ := cw
  obtain ⟨hx, hb, hml, ho, -⟩ := S
  intro T hT X
  rcases vx_callS X hx (bytes := bytes) (maxL := maxL) (ret := ret) ho hl hstt hini hcode hy hK hg (hsize.trans hml.symm) (argsL := As) (rest := rest) (fun sig h => hn.trans (hlen sig h)) hstack hW (by rw [hb]; exact hdg)
    (fun vm₁ hW₁ => ⟨hf.1, hf.2, hp.2 (T.setVm vm₁) hT hW₁⟩) with ⟨v, vm₁, ⟨U', l2, c2, s2⟩, hW₁, X', ⟨g', mk, t, L, e1, e2, hq, h1, hL, h2, h3⟩, st⟩ | ⟨q, vm₁, ⟨U', l2, c2, s2⟩, hW₁, X', ⟨g', mk, t, L, E, ce, e1, e2, hq, hce, hcv, hcl, h1, hL, h2, h3⟩, st⟩
  · dsimp only [Pt.U, Pt.locs, Pt.cells, Pt.slots] at X' e1 e2 h1 h2 h3 st
    subst h1; subst h2; subst h3
    exact Or.inl ⟨v, (T.setVm vm₁).calling g' mk As.toArray, t, U', L, hT, X', hL, e1, e2, hq, st⟩
  · dsimp only [Pt.U, Pt.locs, Pt.cells, Pt.slots] at X' e1 e2 h1 h2 h3 st hcl
    subst h1; subst h2; subst h3
    exact Or.inr ⟨q, (T.setVm vm₁).calling g' mk As.toArray, t, U', L, E, ce, hT, X', hL, e1, e2, hq, hce, hcv, vx_cls hW₁ hcl, st⟩
end Runs
section Rows
variable {p : Program} {l : Launch} {e : Env} {R : Room} {s : State} {m : MethodId} {args : Array Value} {below : List Frame} {meth : Method} {c : Code} {H : Heap} {locs : List Loc} {cells slots : Nat} {Q : State → Prop}
variable {mc ms : Nat} {free : Addr → Prop} {A0 A1 : Nat → Prop} {H0 : Heap} {a : Array Value} {pc : Nat} {ls : Array Slot} {st0 rest : List Value}
theorem vx_keep {st₀ t T' : State} {L : List Loc} (h0 : st₀.heap = H) (e1 : T'.heap = t.heap) (hS : va_S A0 H0 H locs) (hA : ∀ q, q < H.size → A1 q → A0 q) (hf : ∀ q, free q → A0 q) (hL : ∀ q ∈ L, free q.base) (hF : va_F A1 st₀ t) :
    H.size ≤ T'.heap.size ∧ (∀ q : Nat, q < H.size → ¬ A1 q → T'.heap[q]? = H[q]?) ∧ va_S A0 H0 T'.heap (locs ++ L) := by
  obtain ⟨hz, hk⟩ := hF
  rw [h0] at hz hk
  exact ⟨by rw [e1]; exact hz, fun q h1 h2 => by rw [e1]; exact hk q h1 h2,
    ⟨Nat.le_trans hS.1 (by rw [e1]; exact hz), fun q h1 h2 => by rw [e1, hk q (Nat.lt_of_lt_of_le h1 hS.1) (fun z => h2 (hA q (Nat.lt_of_lt_of_le h1 hS.1) z))]; exact hS.2.1 q h1 h2, fun q hq => by
      rcases List.mem_append.mp hq with h | h
      · exact hS.2.2 q h
      · exact hf _ (hL q h)⟩⟩
theorem vx_calli {S SX : Type} {post : Int32 → S → Prop} {px : SX → Prop} {B : S → State → Prop} {BX : String → SX → State → Prop} {AX : Nat → Prop} (hr : vx_Run p l e R s m args below meth c H locs cells slots mc ms (F0 m pc ls st0) rest (va_Qi post B A1 a) (vx_X px BX AX) free) (hS : va_S A0 H0 H locs) (hA : ∀ q, q < H.size → A1 q → A0 q) (hf : ∀ q, free q → A0 q) (hAX : ∀ q, q < H.size → AX q → A0 q)
    (kx : ∀ (E : String) (ce : Cell) (q9 : Addr) (u : SX) (t : State) (H1 : Heap) (locs1 : List Loc), t.heap = H1 → s.vm.Alike t.vm → px u → BX E u t → H.size ≤ H1.size → (∀ q : Nat, q < H.size → ¬ AX q → H1[q]? = H[q]?) → va_S A0 H0 H1 locs1 → H1[q9]? = some ce → ce.vm = .none → s.vm.findClass E = some ce.cls → vx_W p l e R s m args below meth c H1 locs1 (cells + mc) (slots + ms) Q (F0 m pc ls rest) q9)
    (kk : ∀ (r : Int32) (u : S) (t : State) (H1 : Heap) (locs1 : List Loc), t.heap = H1 → s.vm.Alike t.vm → post r u → B u t → H.size ≤ H1.size → (∀ q : Nat, q < H.size → ¬ A1 q → H1[q]? = H[q]?) → va_S A0 H0 H1 locs1 → W p l e R s m args below meth c H1 locs1 (cells + mc) (slots + ms) Q (F0 m (pc + 3) ls (.int r :: rest))) : W p l e R s m args below meth c H locs cells slots Q (F0 m pc ls st0) := by
  intro T hT X
  rcases hr T hT X with ⟨v, st₀, t, T', L, h0, X', hL, e1, e2, ⟨⟨r, u, hv, hp, hb⟩, hF⟩, st⟩ | ⟨q, st₀, t, T', L, E, ce, h0, X', hL, e1, e2, ⟨u, hp, hb, hF⟩, hce, hcv, hcl, st⟩
  · cases hv
    obtain ⟨k1, k2, k3⟩ := vx_keep h0 e1 hS hA hf hL hF
    obtain ⟨t2, a1, b1⟩ := kk r u t T'.heap (locs ++ L) e1.symm (by rw [← e2]; exact X'.warmed.alike) hp hb k1 k2 k3 T' rfl X'
    exact ⟨t2, st t2 a1, b1⟩
  · obtain ⟨k1, k2, k3⟩ := vx_keep h0 e1 hS hAX hf hL hF
    obtain ⟨t2, a1, b1⟩ := kx E ce q u t T'.heap (locs ++ L) e1.symm (by rw [← e2]; exact X'.warmed.alike) hp hb k1 k2 k3 (by rw [e1]; exact hce) hcv hcl T' rfl X'
    exact ⟨t2, st.trans a1, b1⟩
theorem vx_calll {S SX : Type} {post : Int64 → S → Prop} {px : SX → Prop} {B : S → State → Prop} {BX : String → SX → State → Prop} {AX : Nat → Prop} (hr : vx_Run p l e R s m args below meth c H locs cells slots mc ms (F0 m pc ls st0) rest (va_Ql post B A1 a) (vx_X px BX AX) free) (hS : va_S A0 H0 H locs) (hA : ∀ q, q < H.size → A1 q → A0 q) (hf : ∀ q, free q → A0 q) (hAX : ∀ q, q < H.size → AX q → A0 q)
    (kx : ∀ (E : String) (ce : Cell) (q9 : Addr) (u : SX) (t : State) (H1 : Heap) (locs1 : List Loc), t.heap = H1 → s.vm.Alike t.vm → px u → BX E u t → H.size ≤ H1.size → (∀ q : Nat, q < H.size → ¬ AX q → H1[q]? = H[q]?) → va_S A0 H0 H1 locs1 → H1[q9]? = some ce → ce.vm = .none → s.vm.findClass E = some ce.cls → vx_W p l e R s m args below meth c H1 locs1 (cells + mc) (slots + ms) Q (F0 m pc ls rest) q9)
    (kk : ∀ (r : Int64) (u : S) (t : State) (H1 : Heap) (locs1 : List Loc), t.heap = H1 → s.vm.Alike t.vm → post r u → B u t → H.size ≤ H1.size → (∀ q : Nat, q < H.size → ¬ A1 q → H1[q]? = H[q]?) → va_S A0 H0 H1 locs1 → W p l e R s m args below meth c H1 locs1 (cells + mc) (slots + ms) Q (F0 m (pc + 3) ls (.long r :: rest))) : W p l e R s m args below meth c H locs cells slots Q (F0 m pc ls st0) := by
  intro T hT X
  rcases hr T hT X with ⟨v, st₀, t, T', L, h0, X', hL, e1, e2, ⟨⟨r, u, hv, hp, hb⟩, hF⟩, st⟩ | ⟨q, st₀, t, T', L, E, ce, h0, X', hL, e1, e2, ⟨u, hp, hb, hF⟩, hce, hcv, hcl, st⟩
  · cases hv
    obtain ⟨k1, k2, k3⟩ := vx_keep h0 e1 hS hA hf hL hF
    obtain ⟨t2, a1, b1⟩ := kk r u t T'.heap (locs ++ L) e1.symm (by rw [← e2]; exact X'.warmed.alike) hp hb k1 k2 k3 T' rfl X'
    exact ⟨t2, st t2 a1, b1⟩
  · obtain ⟨k1, k2, k3⟩ := vx_keep h0 e1 hS hAX hf hL hF
    obtain ⟨t2, a1, b1⟩ := kx E ce q u t T'.heap (locs ++ L) e1.symm (by rw [← e2]; exact X'.warmed.alike) hp hb k1 k2 k3 (by rw [e1]; exact hce) hcv hcl T' rfl X'
    exact ⟨t2, st.trans a1, b1⟩
theorem vx_callf {S SX : Type} {post : UInt32 → S → Prop} {px : SX → Prop} {B : S → State → Prop} {BX : String → SX → State → Prop} {AX : Nat → Prop} (hr : vx_Run p l e R s m args below meth c H locs cells slots mc ms (F0 m pc ls st0) rest (va_Qf post B A1 a) (vx_X px BX AX) free) (hS : va_S A0 H0 H locs) (hA : ∀ q, q < H.size → A1 q → A0 q) (hf : ∀ q, free q → A0 q) (hAX : ∀ q, q < H.size → AX q → A0 q)
    (kx : ∀ (E : String) (ce : Cell) (q9 : Addr) (u : SX) (t : State) (H1 : Heap) (locs1 : List Loc), t.heap = H1 → s.vm.Alike t.vm → px u → BX E u t → H.size ≤ H1.size → (∀ q : Nat, q < H.size → ¬ AX q → H1[q]? = H[q]?) → va_S A0 H0 H1 locs1 → H1[q9]? = some ce → ce.vm = .none → s.vm.findClass E = some ce.cls → vx_W p l e R s m args below meth c H1 locs1 (cells + mc) (slots + ms) Q (F0 m pc ls rest) q9)
    (kk : ∀ (r : UInt32) (u : S) (t : State) (H1 : Heap) (locs1 : List Loc), t.heap = H1 → s.vm.Alike t.vm → post r u → B u t → H.size ≤ H1.size → (∀ q : Nat, q < H.size → ¬ A1 q → H1[q]? = H[q]?) → va_S A0 H0 H1 locs1 → W p l e R s m args below meth c H1 locs1 (cells + mc) (slots + ms) Q (F0 m (pc + 3) ls (.float r :: rest))) : W p l e R s m args below meth c H locs cells slots Q (F0 m pc ls st0) := by
  intro T hT X
  rcases hr T hT X with ⟨v, st₀, t, T', L, h0, X', hL, e1, e2, ⟨⟨r, u, hv, hp, hb⟩, hF⟩, st⟩ | ⟨q, st₀, t, T', L, E, ce, h0, X', hL, e1, e2, ⟨u, hp, hb, hF⟩, hce, hcv, hcl, st⟩
  · cases hv
    obtain ⟨k1, k2, k3⟩ := vx_keep h0 e1 hS hA hf hL hF
    obtain ⟨t2, a1, b1⟩ := kk r u t T'.heap (locs ++ L) e1.symm (by rw [← e2]; exact X'.warmed.alike) hp hb k1 k2 k3 T' rfl X'
    exact ⟨t2, st t2 a1, b1⟩
  · obtain ⟨k1, k2, k3⟩ := vx_keep h0 e1 hS hAX hf hL hF
    obtain ⟨t2, a1, b1⟩ := kx E ce q u t T'.heap (locs ++ L) e1.symm (by rw [← e2]; exact X'.warmed.alike) hp hb k1 k2 k3 (by rw [e1]; exact hce) hcv hcl T' rfl X'
    exact ⟨t2, st.trans a1, b1⟩
theorem vx_calld {S SX : Type} {post : UInt64 → S → Prop} {px : SX → Prop} {B : S → State → Prop} {BX : String → SX → State → Prop} {AX : Nat → Prop} (hr : vx_Run p l e R s m args below meth c H locs cells slots mc ms (F0 m pc ls st0) rest (va_Qd post B A1 a) (vx_X px BX AX) free) (hS : va_S A0 H0 H locs) (hA : ∀ q, q < H.size → A1 q → A0 q) (hf : ∀ q, free q → A0 q) (hAX : ∀ q, q < H.size → AX q → A0 q)
    (kx : ∀ (E : String) (ce : Cell) (q9 : Addr) (u : SX) (t : State) (H1 : Heap) (locs1 : List Loc), t.heap = H1 → s.vm.Alike t.vm → px u → BX E u t → H.size ≤ H1.size → (∀ q : Nat, q < H.size → ¬ AX q → H1[q]? = H[q]?) → va_S A0 H0 H1 locs1 → H1[q9]? = some ce → ce.vm = .none → s.vm.findClass E = some ce.cls → vx_W p l e R s m args below meth c H1 locs1 (cells + mc) (slots + ms) Q (F0 m pc ls rest) q9)
    (kk : ∀ (r : UInt64) (u : S) (t : State) (H1 : Heap) (locs1 : List Loc), t.heap = H1 → s.vm.Alike t.vm → post r u → B u t → H.size ≤ H1.size → (∀ q : Nat, q < H.size → ¬ A1 q → H1[q]? = H[q]?) → va_S A0 H0 H1 locs1 → W p l e R s m args below meth c H1 locs1 (cells + mc) (slots + ms) Q (F0 m (pc + 3) ls (.double r :: rest))) : W p l e R s m args below meth c H locs cells slots Q (F0 m pc ls st0) := by
  intro T hT X
  rcases hr T hT X with ⟨v, st₀, t, T', L, h0, X', hL, e1, e2, ⟨⟨r, u, hv, hp, hb⟩, hF⟩, st⟩ | ⟨q, st₀, t, T', L, E, ce, h0, X', hL, e1, e2, ⟨u, hp, hb, hF⟩, hce, hcv, hcl, st⟩
  · cases hv
    obtain ⟨k1, k2, k3⟩ := vx_keep h0 e1 hS hA hf hL hF
    obtain ⟨t2, a1, b1⟩ := kk r u t T'.heap (locs ++ L) e1.symm (by rw [← e2]; exact X'.warmed.alike) hp hb k1 k2 k3 T' rfl X'
    exact ⟨t2, st t2 a1, b1⟩
  · obtain ⟨k1, k2, k3⟩ := vx_keep h0 e1 hS hAX hf hL hF
    obtain ⟨t2, a1, b1⟩ := kx E ce q u t T'.heap (locs ++ L) e1.symm (by rw [← e2]; exact X'.warmed.alike) hp hb k1 k2 k3 (by rw [e1]; exact hce) hcv hcl T' rfl X'
    exact ⟨t2, st.trans a1, b1⟩
theorem vx_callv {S SX : Type} {post : S → Prop} {px : SX → Prop} {B : S → State → Prop} {BX : String → SX → State → Prop} {AX : Nat → Prop} (hr : vx_Run p l e R s m args below meth c H locs cells slots mc ms (F0 m pc ls st0) rest (va_Qv post B A1 a) (vx_X px BX AX) free) (hS : va_S A0 H0 H locs) (hA : ∀ q, q < H.size → A1 q → A0 q) (hf : ∀ q, free q → A0 q) (hAX : ∀ q, q < H.size → AX q → A0 q)
    (kx : ∀ (E : String) (ce : Cell) (q9 : Addr) (u : SX) (t : State) (H1 : Heap) (locs1 : List Loc), t.heap = H1 → s.vm.Alike t.vm → px u → BX E u t → H.size ≤ H1.size → (∀ q : Nat, q < H.size → ¬ AX q → H1[q]? = H[q]?) → va_S A0 H0 H1 locs1 → H1[q9]? = some ce → ce.vm = .none → s.vm.findClass E = some ce.cls → vx_W p l e R s m args below meth c H1 locs1 (cells + mc) (slots + ms) Q (F0 m pc ls rest) q9)
    (kk : ∀ (u : S) (t : State) (H1 : Heap) (locs1 : List Loc), t.heap = H1 → s.vm.Alike t.vm → post u → B u t → H.size ≤ H1.size → (∀ q : Nat, q < H.size → ¬ A1 q → H1[q]? = H[q]?) → va_S A0 H0 H1 locs1 → W p l e R s m args below meth c H1 locs1 (cells + mc) (slots + ms) Q (F0 m (pc + 3) ls (rest))) : W p l e R s m args below meth c H locs cells slots Q (F0 m pc ls st0) := by
  intro T hT X
  rcases hr T hT X with ⟨v, st₀, t, T', L, h0, X', hL, e1, e2, ⟨⟨u, hv, hp, hb⟩, hF⟩, st⟩ | ⟨q, st₀, t, T', L, E, ce, h0, X', hL, e1, e2, ⟨u, hp, hb, hF⟩, hce, hcv, hcl, st⟩
  · cases hv
    obtain ⟨k1, k2, k3⟩ := vx_keep h0 e1 hS hA hf hL hF
    obtain ⟨t2, a1, b1⟩ := kk u t T'.heap (locs ++ L) e1.symm (by rw [← e2]; exact X'.warmed.alike) hp hb k1 k2 k3 T' rfl X'
    exact ⟨t2, st t2 a1, b1⟩
  · obtain ⟨k1, k2, k3⟩ := vx_keep h0 e1 hS hAX hf hL hF
    obtain ⟨t2, a1, b1⟩ := kx E ce q u t T'.heap (locs ++ L) e1.symm (by rw [← e2]; exact X'.warmed.alike) hp hb k1 k2 k3 (by rw [e1]; exact hce) hcv hcl T' rfl X'
    exact ⟨t2, st.trans a1, b1⟩
/-- caught by the row x of this method's table; the rows ahead don't take it -/
theorem vx_catch {own name : String} {E : String} {ce : Cell} {q : Addr} (hown : s.vm.findClass own = some m.cls) (pre : List ExceptionTableEntry) (x : ExceptionTableEntry) (suf : List ExceptionTableEntry) (hsplit : c.exceptionTable.toList = pre ++ x :: suf)
    (hpass : ∀ z ∈ pre, covers z pc = false ∨ (z.catchType ≠ 0 ∧ ∃ nm : String, (Cond.classLink own z.catchType nm).before args s = true ∧ va_Nc E nm s)) (hx : covers x pc = true) (h0 : x.catchType ≠ 0)
    (hlink : (Cond.classLink own x.catchType name).before args s = true) (hcast : (Cond.castable E name).before args s = true) (hcell : H[q]? = some ce) (hv : ce.vm = .none) (hcl : s.vm.findClass E = some ce.cls)
    (kk : W p l e R s m args below meth c H locs cells slots Q (F0 m x.handlerPc ls [.ref q])) : vx_W p l e R s m args below meth c H locs cells slots Q (F0 m pc ls rest) q := by
  intro T hT X
  have hpl : e.platform.magicAccessors = ({} : Platform).magicAccessors := by rw [X.admits.platform]
  obtain ⟨c3, c4, hc3, hc4, hasg⟩ := Cond.castable_spec hcast
  cases Option.some.inj (hc3.symm.trans hcl)
  obtain ⟨c5, hc5, hcl5⟩ := Cond.classLink_spec hown hlink e.platform hpl
  cases Option.some.inj (hc4.symm.trans hc5)
  obtain ⟨vm', X', st⟩ := X.thenCaughtThrough q (g := F0 m pc ls rest) rfl (Steps.refl _) (by rw [hT]; exact hcell) (by rw [hv]; rfl) (by obtain ⟨k9, h9, -⟩ := Vm.findClass_spec hcl; exact ⟨k9, h9⟩) pre x suf hsplit
    (fun z hz => by
      rcases hpass z hz with h | ⟨hz0, nm, hl1, hn1⟩
      · exact Or.inl h
      · obtain ⟨c6, hc6, hcl6⟩ := Cond.classLink_spec hown hl1 e.platform hpl
        obtain ⟨a8, b8, h1, h2, h3⟩ := hn1
        cases Option.some.inj (h1.symm.trans hcl)
        cases Option.some.inj (h2.symm.trans hc6)
        exact Or.inr ⟨hz0, _, hcl6, h3⟩) hx (Or.inr ⟨h0, c4, hcl5, hasg⟩)
  obtain ⟨t, a1, b1⟩ := kk (T.setVm vm') hT X'
  exact ⟨t, st.trans a1, b1⟩
end Rows
section Ends
variable {p : Program} {l : Launch} {e : Env} {R : Room} {s : State} {m : MethodId} {args : Array Value} {below : List Frame} {meth : Method} {c : Code} {H : Heap} {locs : List Loc} {cells slots : Nat} {Q : State → Prop}
variable {mc ms : Nat} {free : Addr → Prop} {A0 A1 : Nat → Prop} {H0 : Heap} {a : Array Value} {ls : Array Slot} {st0 rest : List Value}
variable {Qc : Array Value → State → Outcome → State → Prop} {XC : String → State → State → Prop}
/-- what a body that may throw owes at its end -/
def vx_MQ (below : List Frame) (Qc : Array Value → State → Outcome → State → Prop) (XC : String → State → State → Prop) (a : Array Value) (s : State) (mc ms : Nat) (free : Addr → Prop) : State → Prop := fun t =>
  ∃ o, t.status = .running ∧ Ended t below o ∧ vx_Q Qc XC mc ms free a s o t
theorem vx_ret {g : JFrame} {mc ms : Nat} (k : W p l e R s m args below meth c H locs cells slots (MQ below Qc args s mc ms free) g) : W p l e R s m args below meth c H locs cells slots (vx_MQ below Qc XC args s mc ms free) g := by
  intro T hT X
  obtain ⟨t, a1, o, b1, b2, b3, b4⟩ := k T hT X
  exact ⟨t, a1, o, b1, b2, Or.inl ⟨b3, b4⟩⟩
/-- not caught here: it goes on to the caller -/
theorem vx_widen {g : JFrame} {q : Addr} {k n : Nat} (h1 : cells ≤ k) (h2 : slots ≤ n) (kk : vx_W p l e R s m args below meth c H locs k n Q g q) : vx_W p l e R s m args below meth c H locs cells slots Q g q := fun T hT X => kk T hT (stand_widen X h1 h2)
theorem vx_out {pc : Nat} {E : String} {ce : Cell} {q : Addr} {mc ms : Nat} (hout : ∀ x ∈ c.exceptionTable.toList, covers x pc = false) (hlocks : meth.locks = false) (hcell : H[q]? = some ce) (hv : ce.vm = .none) (hcl : s.vm.findClass E = some ce.cls)
    (hx : ∀ t : State, t.heap = H → s.vm.Alike t.vm → XC E s t) (hf : ∀ z ∈ locs, free z.base) (hc : cells ≤ mc) (hs : slots ≤ ms) :
    vx_W p l e R s m args below meth c H locs cells slots (vx_MQ below Qc XC args s mc ms free) (F0 m pc ls rest) q := by
  intro T hT X
  obtain ⟨st1, hrun, hend, hW, hsm⟩ := X.leaveThrown q (g := F0 m pc ls rest) rfl rfl rfl hout hlocks
  have hcell9 : (T.setFrames (.throwing q :: below)).heap[q]? = some ce := by
    show T.heap[q]? = some ce
    rw [hT]; exact hcell
  exact ⟨_, st1, .threw q, hrun, hend, Or.inr ⟨q, rfl, E, ce, locs, hx _ hT hW.alike, hcell9, hv, hcl, hW, hsm.mono hc hs, hf⟩⟩
theorem vx_frame {U : State} {k n : Nat} (h : s.sameButNew ({ U with vm := s.vm } : State) locs k n) : s.heap.size ≤ U.heap.size ∧ ∀ q : Nat, q < s.heap.size → (∀ z ∈ locs, z.base ≠ q) → U.heap[q]? = s.heap[q]? := by
  obtain ⟨-, h2, -, -, -, h6⟩ := h
  refine ⟨h2, fun q hq hz => ?_⟩
  obtain ⟨c9, e1, e2, e3, e4⟩ := h6 q _ (Array.getElem?_eq_getElem hq)
  have hs : c9.slots = (s.heap[q]).slots := Array.ext_getElem? fun i => e4 i fun hm => hz _ hm rfl
  have h9 : c9 = s.heap[q] := by
    rw [hs] at e2
    exact e2
  have e5 : U.heap[q]? = some c9 := e1
  rw [e5, h9, Array.getElem?_eq_getElem hq]
/-- the words of a throw but the four that speak of the heap -/
def vx_no (w : Cond) : Bool := decide (w ≠ .isRef (.static Bundle.tN "UNASSIGNED_STACK" Bundle.steD)) && decide (w ≠ .isRef (.static Bundle.tN "SUPPRESSED_SENTINEL" Bundle.listD)) && decide (w ≠ .laysStatic Bundle.tN "UNASSIGNED_STACK" Bundle.steD) && decide (w ≠ .laysStatic Bundle.tN "SUPPRESSED_SENTINEL" Bundle.listD)
def vx_at0 (own : String) (ic : Nat) (X : String) (names : List String) : List Cond := (Bundle.ownAtoms0 own ic X names).filter vx_no
def vx_atS (own : String) (ic : Nat) (X : String) (names : List String) : List Cond := (Bundle.ownAtoms own ic X names).filter vx_no
/-- a word that the tables alone decide, or a good one -/
def vx_ot (w : Cond) : Bool := w.onTables || goodWord w
theorem vx_ot_at {args a' : Array Value} {s U : State} {w : Cond} (hW : s.WarmedH U.vm) (hvm : s.vm = U.vm) (hg : vx_ot w = true) (h : w.before args s = true) : w.before a' U = true := by
  simp only [vx_ot, Bool.or_eq_true] at hg
  rcases hg with hg | hg
  · exact va_tabs hg hvm h
  · exact word_at hW (good_of_word hg) h
/-- a list's words: the good ones out of the method's own list, the others by premises of their own -/
theorem vx_hat {args : Array Value} {s : State} {L B : List Cond} (h1 : ∀ w ∈ L.filter goodWord, w.before args s = true) (h2 : ∀ w ∈ L.filter (fun w => !goodWord w), w ∈ B) (h3 : ∀ w ∈ B, w.before args s = true) : ∀ w ∈ L, w.before args s = true := by
  intro w hw
  by_cases g : goodWord w = true
  · exact h1 w (List.mem_filter.mpr ⟨hw, g⟩)
  · refine h3 w (h2 w (List.mem_filter.mpr ⟨hw, ?_⟩))
    show (!goodWord w) = true
    cases hgw : goodWord w
    · rfl
    · exact absurd hgw g
theorem vx_c {args : Array Value} {s : State} {w : Cond} {B : List Cond} (h : w.before args s = true) (t : ∀ w ∈ B, w.before args s = true) : ∀ w' ∈ w :: B, w'.before args s = true := fun w' h' => (List.mem_cons.mp h').elim (fun e => by rw [e]; exact h) (t w')
theorem vx_n {args : Array Value} {s : State} : ∀ w ∈ ([] : List Cond), w.before args s = true := fun _ h => nomatch h
theorem vx_own {args : Array Value} {s : State} {L : List Cond} (h1 : ∀ w ∈ L.filter vx_no, w.before args s = true)
    (hU : (Cond.isRef (.static Bundle.tN "UNASSIGNED_STACK" Bundle.steD)).before args s = true) (hN : (Cond.isRef (.static Bundle.tN "SUPPRESSED_SENTINEL" Bundle.listD)).before args s = true)
    (lU : (Cond.laysStatic Bundle.tN "UNASSIGNED_STACK" Bundle.steD).before args s = true) (lN : (Cond.laysStatic Bundle.tN "SUPPRESSED_SENTINEL" Bundle.listD).before args s = true) : ∀ w ∈ L, w.before args s = true := by
  intro w hw
  by_cases e1 : w = .isRef (.static Bundle.tN "UNASSIGNED_STACK" Bundle.steD)
  · rw [e1]; exact hU
  · by_cases e2 : w = .isRef (.static Bundle.tN "SUPPRESSED_SENTINEL" Bundle.listD)
    · rw [e2]; exact hN
    · by_cases e3 : w = .laysStatic Bundle.tN "UNASSIGNED_STACK" Bundle.steD
      · rw [e3]; exact lU
      · by_cases e4 : w = .laysStatic Bundle.tN "SUPPRESSED_SENTINEL" Bundle.listD
        · rw [e4]; exact lN
        · exact h1 w (List.mem_filter.mpr ⟨hw, by unfold vx_no; rw [decide_eq_true e1, decide_eq_true e2, decide_eq_true e3, decide_eq_true e4]; rfl⟩)
/-- where a static field lies, its class's statics cell in H -/
def vx_L (C n d : String) (A : Nat → Prop) (U : State) (H : Heap) : Prop := ∃ (c : ClassId) (k : Class) (i : Nat) (f : Field) (a : Nat) (cell : Cell), U.vm.findClass C = some c ∧ U.fieldFound? C n d = some (c, k, i, f) ∧ f.isStatic = true ∧ k.statics = some a ∧ H[a]? = some cell ∧ cell.vm.isStatics = true ∧ cell.cls = c ∧ f.slot < cell.slots.size ∧ k.staticTypes[f.slot]? = some f.type ∧ ¬ A a
theorem vx_L.moved {C n d : String} {A : Nat → Prop} {u U : State} {H : Heap} (hvm : u.vm.Alike U.vm) (h : vx_L C n d A u H) : vx_L C n d A U H := by
  obtain ⟨c, k, i, f, a, cell, h1, h2, h3, h4, h5, h6, h7, h8, h9, h10⟩ := h
  obtain ⟨k', hi', he⟩ := State.fieldFound?_setVm hvm h2
  exact ⟨c, k', i, f, a, cell, by rw [hvm.findClass]; exact h1, hi', h3, by rw [he]; exact h4, h5, h6, h7, h8, by rw [he]; exact h9, h10⟩
theorem vx_L.kept {C n d : String} {A : Nat → Prop} {U : State} {H H1 : Heap} (h : vx_L C n d A U H) (hq : ∀ a : Nat, a < H.size → ¬ A a → H1[a]? = H[a]?) : vx_L C n d A U H1 := by
  obtain ⟨c, k, i, f, a, cell, h1, h2, h3, h4, h5, h6, h7, h8, h9, h10⟩ := h
  exact ⟨c, k, i, f, a, cell, h1, h2, h3, h4, by rw [hq a (Array.getElem?_eq_some_iff.mp h5).1 h10]; exact h5, h6, h7, h8, h9, h10⟩
theorem vx_L.narrow {C n d : String} {A B : Nat → Prop} {U : State} {H : Heap} (h : vx_L C n d A U H) (hAB : ∀ q, B q → A q) : vx_L C n d B U H := by
  obtain ⟨c, k, i, f, a, cell, h1, h2, h3, h4, h5, h6, h7, h8, h9, h10⟩ := h
  exact ⟨c, k, i, f, a, cell, h1, h2, h3, h4, h5, h6, h7, h8, h9, fun z => h10 (hAB _ z)⟩
theorem vx_L.word {C n d : String} {A : Nat → Prop} {s : State} {args : Array Value} (h : vx_L C n d A s s.heap) : (Cond.laysStatic C n d).before args s = true := by
  obtain ⟨c, k, i, f, a, cell, h1, h2, h3, h4, h5, h6, h7, h8, h9, -⟩ := h
  show (Cond.laysStatic C n d).holds args s none s [] = true
  exact Cond.laysStatic_of h1 h2 h3 h4 h5 h6 h7 h8 h9
/-- .. and what it holds: null or some reference -/
def vx_Zq (C n d : String) (A : Nat → Prop) (U : State) (H : Heap) : Prop := va_Zq C n d A U H ∧ vx_L C n d A U H
theorem vx_Zq.moved {C n d : String} {A : Nat → Prop} {u U : State} {H : Heap} (hvm : u.vm.Alike U.vm) (h : vx_Zq C n d A u H) : vx_Zq C n d A U H := ⟨va_Zq.moved hvm h.1, vx_L.moved hvm h.2⟩
theorem vx_Zq.kept {C n d : String} {A : Nat → Prop} {U : State} {H H1 : Heap} (h : vx_Zq C n d A U H) (hq : ∀ a : Nat, a < H.size → ¬ A a → H1[a]? = H[a]?) : vx_Zq C n d A U H1 := ⟨va_Zq.kept h.1 hq, vx_L.kept h.2 hq⟩
theorem vx_Zq.narrow {C n d : String} {A B : Nat → Prop} {U : State} {H : Heap} (h : vx_Zq C n d A U H) (hAB : ∀ q, B q → A q) : vx_Zq C n d B U H := ⟨va_Zq.narrow h.1 hAB, vx_L.narrow h.2 hAB⟩
theorem vx_Zqof {args : Array Value} {s : State} {C n d : String} {A : Nat → Prop} (hl : (Cond.laysStatic C n d).before args s = true) (hini : (Cond.initialized C).before args s = true) (h : (Cond.isRef (.static C n d)).before args s = true) (hA : ∀ a : Nat, a < s.heap.size → ¬ A a) : vx_Zq C n d A s s.heap := by
  refine ⟨va_Zqof hl hini h hA, ?_⟩
  obtain ⟨c, k, i, f, a, cell, h1, h2, h3, h4, h5, h6, h7, h8, h9⟩ := Cond.laysStatic_spec hl
  exact ⟨c, k, i, f, a, cell, h1, h2, h3, h4, h5, h6, h7, h8, h9, hA a (Array.getElem?_eq_some_iff.mp h5).1⟩
theorem vx_isRef {C n d : String} {v : Value} {A : Nat → Prop} {s : State} {args : Array Value} (h : va_Z C n d v A s s.heap) (hv : v.isRef = true) : (Cond.isRef (.static C n d)).before args s = true := by
  obtain ⟨cf, kf, fi, f, a, cell, h1, h2, h3, h4, h5, h6, h7, -⟩ := h
  have he : (Term.static C n d).eval args s none [] s = some v := by
    simp [Term.eval, State.fieldNamed?, h1, h2, h4, h5, h6, h7]
  simp only [Cond.before, Cond.holds, Cond.value, he]
  cases v <;> simp_all [Value.isRef]
theorem vx_isRefq {C n d : String} {A : Nat → Prop} {s : State} {args : Array Value} (h : va_Zq C n d A s s.heap) : (Cond.isRef (.static C n d)).before args s = true := by
  rcases h with h | ⟨t, h⟩
  · exact vx_isRef h rfl
  · exact vx_isRef h rfl
/-- the same frame, seen from here: as if the method were called anew in this heap -/
theorem vx_rebase {T : State} (X : Stand p l e R s m args below meth c T locs cells slots) {R' : Room} (hf : R'.frames ≤ R.frames) (hl : R'.locals ≤ R.locals) (hc : cells + R'.cells ≤ R.cells) (hs : slots + R'.slots ≤ R.slots) :
    Stand p l e R' ((T.setVm s.vm).setFrames (.invoking m args :: below)) m args below meth c T [] 0 0 := by
  have htop : (T.setVm s.vm).topJava?.isSome := X.here.top
  have hF : ((T.setVm s.vm).setFrames (.invoking m args :: below)).frames = .invoking m args :: below := State.frames_setFrames _ (State.cur_lt_of_top htop)
  obtain ⟨g₀, hg0⟩ := Option.isSome_iff_exists.mp htop
  obtain ⟨r, hr⟩ := State.topJava?_eq_some.mp hg0
  have hl9 : e.platform.stackLimits (T.setVm s.vm).me = e.platform.stackLimits s.me := X.limits
  have hb9 : (T.setVm s.vm).me.stackBytes = s.me.stackBytes := X.bytes
  refine ⟨X.admits, X.cas, X.clock, hF, ?_, X.hears, X.method, X.code, X.here, X.tail, X.warmed, ?_, ?_, ?_⟩
  · have h := X.room
    have hU : ((T.setVm s.vm).setFrames (.invoking m args :: below)).localsInUse = s.localsInUse := by
      rw [State.localsInUse_invoking hF (meth := meth) (c := c) X.method X.code, State.localsInUse_invoking X.frames X.method X.code]
    simp only [State.hasRoom, Bool.and_eq_true, decide_eq_true_eq] at h ⊢
    obtain ⟨⟨⟨⟨h1, h2, h3, h4, h5, h6⟩, h7⟩, h8⟩, h9⟩ := h
    rw [X.frames, List.length_cons] at h2 h3
    have q1 := X.heapSize
    have q2 := X.used
    simp only [hF, hU, List.length_cons, State.stackLimits_setFrames, State.stackBytes_setFrames, hl9, hb9]
    refine ⟨⟨⟨⟨by omega, by omega, by omega, by omega, by omega, h6⟩, ?_⟩, ?_⟩, X.book⟩
    · show T.heap.size + R'.cells ≤ e.platform.maxCells
      omega
    · show T.slotsUsed + R'.slots ≤ e.platform.maxSlots
      omega
  · rw [State.stackLimits_setFrames]; rfl
  · rw [State.stackBytes_setFrames]; rfl
  · refine ⟨?_, Nat.le_refl _, Nat.le_refl _, ?_, ?_, fun a c9 h9 => ⟨c9, h9, rfl, rfl, fun _ _ => rfl⟩⟩
    · obtain ⟨t, ht, -⟩ := State.frames_cons hr
      show T.setVm s.vm = { ((T.setVm s.vm).setFrames (.invoking m args :: below)).setFrames (T.setVm s.vm).frames with heap := T.heap, slotsUsed := T.slotsUsed }
      rw [State.setFrames_setFrames, State.setFrames_self ht]
      rfl
    · show T.slotsUsed = T.slotsUsed + ((T.heap.toList.drop T.heap.size).map (·.slots.size)).sum
      rw [List.drop_eq_nil_of_le (Nat.le_of_eq Array.length_toList)]
      rfl
    · show ((T.heap.toList.drop T.heap.size).map (·.slots.size)).sum ≤ 0
      rw [List.drop_eq_nil_of_le (Nat.le_of_eq Array.length_toList)]
      exact Nat.le_refl _
/-- 'throw new E()': new; dup; invokespecial; athrow -/
theorem vx_throw0 {cc : ByteArray} {pc : Nat} (hexec : p.tables.exec = Jvm.exec) (hb : c.code = cc) (hl : l.stackTraces = false) {own cls : String} {names : List String} {ik ic mc ms : Nat} {A : Nat → Prop}
    (hown : s.vm.findClass own = some m.cls) (hcls : Bundle.fit cls = true) (hnames : ∀ n ∈ names, Bundle.fit n = true)
    (hk : (Cond.classLink own ik cls).before args s = true) (hini : (Cond.initialized cls).before args s = true) (hat : ∀ w ∈ vx_at0 own ic cls names, w.before args s = true)
    (hgood : ∀ w ∈ Cond.classLink own ik cls :: Cond.initialized cls :: vx_at0 own ic cls names, vx_ot w = true)
    (hU : vx_Zq Bundle.tN "UNASSIGNED_STACK" Bundle.steD A s s.heap) (hN : vx_Zq Bundle.tN "SUPPRESSED_SENTINEL" Bundle.listD A s s.heap) (hS : va_S A s.heap H locs) (hsize : ls.size = c.maxLocals)
    (d0 : decode cc pc = .ok (.new ik, 3)) (d3 : decode cc (pc + 3) = .ok (.dup, 1)) (d4 : decode cc (pc + 4) = .ok (.invokespecial ic, 3)) (d7 : decode cc (pc + 7) = .ok (.athrow, 1))
    (hout : ∀ x ∈ c.exceptionTable.toList, covers x (pc + 7) = false)
    (hRframes : names.length + 3 < R.frames) (hRlocals : (rest.map fun v => v.category).sum + (13 * (names.length + 1) + 42) ≤ R.locals) (hRcells : cells + 1 ≤ R.cells) (hRslots : slots + 6 ≤ R.slots) (hlocks : meth.locks = false)
    (hx : ∀ t : State, s.vm.Alike t.vm → H.size ≤ t.heap.size → (∀ q : Nat, q < H.size → t.heap[q]? = H[q]?) → XC cls s t)
    (hf : ∀ z ∈ locs, free z.base) (hc : cells + 1 ≤ mc) (hs : slots + 6 ≤ ms) :
    W p l e R s m args below meth c H locs cells slots (vx_MQ below Qc XC args s mc ms free) (F0 m pc ls rest) := by
  intro T hT X
  have htr : e.platform.stackTraces = false := (show e.platform.stackTraces = l.stackTraces by rw [X.admits.platform]).trans hl
  have Y := vx_rebase X (R' := { frames := R.frames, locals := R.locals, cells := 1, slots := 6 }) (Nat.le_refl _) (Nat.le_refl _) hRcells hRslots
  obtain ⟨s', hA⟩ : ∃ z, z = (T.setVm s.vm).setFrames (.invoking m args :: below) := ⟨_, rfl⟩
  rw [← hA] at Y
  have hvm : s'.vm = s.vm := by rw [hA]; rfl
  have hhp : s'.heap = H := by rw [hA]; exact hT
  have hW0 : s.WarmedH s'.vm := by rw [hvm]; exact State.WarmedH.refl s
  have hat' : ∀ w ∈ vx_at0 own ic cls names, w.before args s' = true := fun w hw => vx_ot_at hW0 hvm.symm (hgood w (List.mem_cons_of_mem _ (List.mem_cons_of_mem _ hw))) (hat w hw)
  have hk' : (Cond.classLink own ik cls).before args s' = true := vx_ot_at hW0 hvm.symm (hgood _ List.mem_cons_self) hk
  have hini' : (Cond.initialized cls).before args s' = true := vx_ot_at hW0 hvm.symm (hgood _ (List.mem_cons_of_mem _ List.mem_cons_self)) hini
  have hU' : vx_Zq Bundle.tN "UNASSIGNED_STACK" Bundle.steD A s' s'.heap := by rw [hhp]; exact vx_Zq.moved hW0.alike (hU.kept hS.2.1)
  have hN' : vx_Zq Bundle.tN "SUPPRESSED_SENTINEL" Bundle.listD A s' s'.heap := by rw [hhp]; exact vx_Zq.moved hW0.alike (hN.kept hS.2.1)
  have h : ∀ w ∈ Bundle.ownAtoms0 own ic cls names, w.before args s' = true := vx_own hat' (vx_isRefq hU'.1) (vx_isRefq hN'.1) hU'.2.word hN'.2.word
  have hown' : s'.vm.findClass own = some m.cls := by rw [hvm]; exact hown
  have hins : (Cond.instantiable cls 6).before args s' = true := h _ (by simp [Bundle.ownAtoms0])
  obtain ⟨vm₁, cX, kX, hfX, hkX, -, -, X₁, st1⟩ := Y.newCold hexec (own := own) (C := cls) (index := ik) (n := 6) hown' hk' hins hini'
    (g := F0 m pc ls rest) rfl (by rw [hb]; exact d0) (Nat.le_refl _) (Nat.le_refl _)
  generalize hT1 : (T.setVm vm₁).pushCell { cls := cX, slots := kX.instanceTypes.map defaultValue, vm := .none } = T1 at X₁ st1
  have hcat : (Value.ref T.heap.size).category = 1 := rfl
  have hcellA : T1.heap[T.heap.size]? = some (freshCell cX kX) := by rw [← hT1]; exact State.heap_pushCell_size _ _
  have d3' : decode c.code (pc + 3) = .ok (.dup, 1) := by rw [hb]; exact d3
  obtain ⟨U, hsteps, hrun, hend, hW, hsame, ce, hce, hO⟩ := X₁.ctorThrow0 hexec htr (own := own) (cls := cls) (names := names) (ic := ic) hown' hcls hnames h (fun x hx => nomatch hx) hfX hkX hcellA (by rw [hhp, hT]; exact Nat.le_refl _)
    (g := { method := m, pc := pc + 4, locals := ls, stack := .ref T.heap.size :: .ref T.heap.size :: rest, locked := none }) rfl hsize rfl rfl (rest := rest) rfl
    (by rw [hb]; exact d4) (by rw [hb]; exact d7) hout hRframes (by simp only [List.map_cons, List.sum_cons, hcat]; omega) hlocks
  obtain ⟨f1, f2⟩ := vx_frame hsame
  rw [hhp] at f1 f2
  have hWs : s.WarmedH U.vm := State.WarmedH.trans hW0 hW
  have hcl : s.vm.findClass cls = some ce.cls := by
    have h9 := hO.cls
    rw [hvm] at h9
    exact h9
  have hall : s.sameButNew ({ U with vm := s.vm } : State) locs mc ms := by
    subst hA
    obtain ⟨e1, e2⟩ := hsame
    rw [State.setFrames_setFrames] at e1
    have h2 : (T.setVm s.vm).sameButNew ({ U with vm := s.vm } : State) [] (0 + 1) (0 + 6) := ⟨e1, e2⟩
    have h3 := X.same.trans h2
    rw [List.append_nil] at h3
    exact h3.mono hc hs
  refine ⟨U, ?_, .threw T.heap.size, hrun, hend, Or.inr ⟨T.heap.size, rfl, cls, ce, locs, hx U hWs.alike f1 (fun q hq => f2 q hq (fun z hz => nomatch hz)), hce, hO.vm, hcl, hWs, hall, hf⟩⟩
  refine st1 _ ?_
  show Steps p.tables e below (T1.setTop { method := m, pc := pc + 3, locals := ls, stack := .ref T.heap.size :: rest, locked := none }) _
  jvm_step X₁.here [X₁.here.top, hexec, d3', Value.category]
  exact hsteps
/-- 'throw new E("text")': new; dup; ldc; invokespecial; athrow -/
theorem vx_throwS {cc : ByteArray} {pc : Nat} (hexec : p.tables.exec = Jvm.exec) (hb : c.code = cc) (hl : l.stackTraces = false) {own cls text : String} {names : List String} {ik is ic mc ms sa : Nat} {A : Nat → Prop}
    (hown : s.vm.findClass own = some m.cls) (hcls : Bundle.fit cls = true) (hnames : ∀ n ∈ names, Bundle.fit n = true)
    (hk : (Cond.classLink own ik cls).before args s = true) (hini : (Cond.initialized cls).before args s = true) (hstr : vk_R own is text sa s) (hat : ∀ w ∈ vx_atS own ic cls names, w.before args s = true)
    (hgood : ∀ w ∈ Cond.classLink own ik cls :: Cond.initialized cls :: vx_atS own ic cls names, vx_ot w = true)
    (hU : vx_Zq Bundle.tN "UNASSIGNED_STACK" Bundle.steD A s s.heap) (hN : vx_Zq Bundle.tN "SUPPRESSED_SENTINEL" Bundle.listD A s s.heap) (hS : va_S A s.heap H locs) (hsize : ls.size = c.maxLocals)
    (d0 : decode cc pc = .ok (.new ik, 3)) (d3 : decode cc (pc + 3) = .ok (.dup, 1)) (d4 : decode cc (pc + 4) = .ok (.ldc is, 2)) (d6 : decode cc (pc + 6) = .ok (.invokespecial ic, 3)) (d9 : decode cc (pc + 9) = .ok (.athrow, 1))
    (hout : ∀ x ∈ c.exceptionTable.toList, covers x (pc + 9) = false)
    (hRframes : names.length + 3 < R.frames) (hRlocals : (rest.map fun v => v.category).sum + (13 * (names.length + 1) + 43) ≤ R.locals) (hRcells : cells + 1 ≤ R.cells) (hRslots : slots + 6 ≤ R.slots) (hlocks : meth.locks = false)
    (hx : ∀ t : State, s.vm.Alike t.vm → H.size ≤ t.heap.size → (∀ q : Nat, q < H.size → t.heap[q]? = H[q]?) → XC cls s t)
    (hf : ∀ z ∈ locs, free z.base) (hc : cells + 1 ≤ mc) (hs : slots + 6 ≤ ms) :
    W p l e R s m args below meth c H locs cells slots (vx_MQ below Qc XC args s mc ms free) (F0 m pc ls rest) := by
  intro T hT X
  have htr : e.platform.stackTraces = false := (show e.platform.stackTraces = l.stackTraces by rw [X.admits.platform]).trans hl
  have Y := vx_rebase X (R' := { frames := R.frames, locals := R.locals, cells := 1, slots := 6 }) (Nat.le_refl _) (Nat.le_refl _) hRcells hRslots
  obtain ⟨s', hA⟩ : ∃ z, z = (T.setVm s.vm).setFrames (.invoking m args :: below) := ⟨_, rfl⟩
  rw [← hA] at Y
  have hvm : s'.vm = s.vm := by rw [hA]; rfl
  have hhp : s'.heap = H := by rw [hA]; exact hT
  have hW0 : s.WarmedH s'.vm := by rw [hvm]; exact State.WarmedH.refl s
  have hat' : ∀ w ∈ vx_atS own ic cls names, w.before args s' = true := fun w hw => vx_ot_at hW0 hvm.symm (hgood w (List.mem_cons_of_mem _ (List.mem_cons_of_mem _ hw))) (hat w hw)
  have hk' : (Cond.classLink own ik cls).before args s' = true := vx_ot_at hW0 hvm.symm (hgood _ List.mem_cons_self) hk
  have hini' : (Cond.initialized cls).before args s' = true := vx_ot_at hW0 hvm.symm (hgood _ (List.mem_cons_of_mem _ List.mem_cons_self)) hini
  have hU' : vx_Zq Bundle.tN "UNASSIGNED_STACK" Bundle.steD A s' s'.heap := by rw [hhp]; exact vx_Zq.moved hW0.alike (hU.kept hS.2.1)
  have hN' : vx_Zq Bundle.tN "SUPPRESSED_SENTINEL" Bundle.listD A s' s'.heap := by rw [hhp]; exact vx_Zq.moved hW0.alike (hN.kept hS.2.1)
  have h : ∀ w ∈ Bundle.ownAtoms own ic cls names, w.before args s' = true := vx_own hat' (vx_isRefq hU'.1) (vx_isRefq hN'.1) hU'.2.word hN'.2.word
  have hown' : s'.vm.findClass own = some m.cls := by rw [hvm]; exact hown
  have hins : (Cond.instantiable cls 6).before args s' = true := h _ (by simp [Bundle.ownAtoms])
  obtain ⟨vm₁, cX, kX, hfX, hkX, -, -, X₁, st1⟩ := Y.newCold hexec (own := own) (C := cls) (index := ik) (n := 6) hown' hk' hins hini'
    (g := F0 m pc ls rest) rfl (by rw [hb]; exact d0) (Nat.le_refl _) (Nat.le_refl _)
  generalize hT1 : (T.setVm vm₁).pushCell { cls := cX, slots := kX.instanceTypes.map defaultValue, vm := .none } = T1 at X₁ st1
  have hcat : (Value.ref T.heap.size).category = 1 := rfl
  have hcellA : T1.heap[T.heap.size]? = some (freshCell cX kX) := by rw [← hT1]; exact State.heap_pushCell_size _ _
  have d3' : decode c.code (pc + 3) = .ok (.dup, 1) := by rw [hb]; exact d3
  have d4' : decode c.code (pc + 4) = .ok (.ldc is, 2) := by rw [hb]; exact d4
  have hstr' : vk_R own is text sa s' := vk_R.warm hW0 hstr
  obtain ⟨U, hsteps, hrun, hend, hW, hsame, ce, hce, hO⟩ := X₁.ctorThrowS hexec htr (own := own) (cls := cls) (names := names) (ic := ic) hown' hcls hnames h (fun x hx => nomatch hx) hfX hkX hcellA (by rw [hhp, hT]; exact Nat.le_refl _) (msg := .ref sa) rfl
    (g := { method := m, pc := pc + 6, locals := ls, stack := .ref sa :: .ref T.heap.size :: .ref T.heap.size :: rest, locked := none }) rfl hsize rfl rfl (rest := rest) rfl
    (by rw [hb]; exact d6) (by rw [hb]; exact d9) hout hRframes (by simp only [List.map_cons, List.sum_cons, hcat]; omega) hlocks
  obtain ⟨f1, f2⟩ := vx_frame hsame
  rw [hhp] at f1 f2
  have hWs : s.WarmedH U.vm := State.WarmedH.trans hW0 hW
  have hcl : s.vm.findClass cls = some ce.cls := by
    have h9 := hO.cls
    rw [hvm] at h9
    exact h9
  have hall : s.sameButNew ({ U with vm := s.vm } : State) locs mc ms := by
    subst hA
    obtain ⟨e1, e2⟩ := hsame
    rw [State.setFrames_setFrames] at e1
    have h2 : (T.setVm s.vm).sameButNew ({ U with vm := s.vm } : State) [] (0 + 1) (0 + 6) := ⟨e1, e2⟩
    have h3 := X.same.trans h2
    rw [List.append_nil] at h3
    exact h3.mono hc hs
  refine ⟨U, ?_, .threw T.heap.size, hrun, hend, Or.inr ⟨T.heap.size, rfl, cls, ce, locs, hx U hWs.alike f1 (fun q hq => f2 q hq (fun z hz => nomatch hz)), hce, hO.vm, hcl, hWs, hall, hf⟩⟩
  refine st1 _ ?_
  show Steps p.tables e below (T1.setTop { method := m, pc := pc + 3, locals := ls, stack := .ref T.heap.size :: rest, locked := none }) _
  jvm_step X₁.here [X₁.here.top, hexec, d3', Value.category]
  exact X₁.ldcString hexec (own := own) (text := text) (index := is) (a := sa) hown' hstr'.1 hstr'.2
    (g := { method := m, pc := pc + 4, locals := ls, stack := .ref T.heap.size :: .ref T.heap.size :: rest, locked := none }) rfl d4' _ hsteps
/-- 'throw new E("text")', the text by a wide index -/
theorem vx_throwSW {cc : ByteArray} {pc : Nat} (hexec : p.tables.exec = Jvm.exec) (hb : c.code = cc) (hl : l.stackTraces = false) {own cls text : String} {names : List String} {ik is ic mc ms sa : Nat} {A : Nat → Prop}
    (hown : s.vm.findClass own = some m.cls) (hcls : Bundle.fit cls = true) (hnames : ∀ n ∈ names, Bundle.fit n = true)
    (hk : (Cond.classLink own ik cls).before args s = true) (hini : (Cond.initialized cls).before args s = true) (hstr : vk_R own is text sa s) (hat : ∀ w ∈ vx_atS own ic cls names, w.before args s = true)
    (hgood : ∀ w ∈ Cond.classLink own ik cls :: Cond.initialized cls :: vx_atS own ic cls names, vx_ot w = true)
    (hU : vx_Zq Bundle.tN "UNASSIGNED_STACK" Bundle.steD A s s.heap) (hN : vx_Zq Bundle.tN "SUPPRESSED_SENTINEL" Bundle.listD A s s.heap) (hS : va_S A s.heap H locs) (hsize : ls.size = c.maxLocals)
    (d0 : decode cc pc = .ok (.new ik, 3)) (d3 : decode cc (pc + 3) = .ok (.dup, 1)) (d4 : decode cc (pc + 4) = .ok (.ldc_w is, 3)) (d7 : decode cc (pc + 7) = .ok (.invokespecial ic, 3)) (d10 : decode cc (pc + 10) = .ok (.athrow, 1))
    (hout : ∀ x ∈ c.exceptionTable.toList, covers x (pc + 10) = false)
    (hRframes : names.length + 3 < R.frames) (hRlocals : (rest.map fun v => v.category).sum + (13 * (names.length + 1) + 43) ≤ R.locals) (hRcells : cells + 1 ≤ R.cells) (hRslots : slots + 6 ≤ R.slots) (hlocks : meth.locks = false)
    (hx : ∀ t : State, s.vm.Alike t.vm → H.size ≤ t.heap.size → (∀ q : Nat, q < H.size → t.heap[q]? = H[q]?) → XC cls s t)
    (hf : ∀ z ∈ locs, free z.base) (hc : cells + 1 ≤ mc) (hs : slots + 6 ≤ ms) :
    W p l e R s m args below meth c H locs cells slots (vx_MQ below Qc XC args s mc ms free) (F0 m pc ls rest) := by
  intro T hT X
  have htr : e.platform.stackTraces = false := (show e.platform.stackTraces = l.stackTraces by rw [X.admits.platform]).trans hl
  have Y := vx_rebase X (R' := { frames := R.frames, locals := R.locals, cells := 1, slots := 6 }) (Nat.le_refl _) (Nat.le_refl _) hRcells hRslots
  obtain ⟨s', hA⟩ : ∃ z, z = (T.setVm s.vm).setFrames (.invoking m args :: below) := ⟨_, rfl⟩
  rw [← hA] at Y
  have hvm : s'.vm = s.vm := by rw [hA]; rfl
  have hhp : s'.heap = H := by rw [hA]; exact hT
  have hW0 : s.WarmedH s'.vm := by rw [hvm]; exact State.WarmedH.refl s
  have hat' : ∀ w ∈ vx_atS own ic cls names, w.before args s' = true := fun w hw => vx_ot_at hW0 hvm.symm (hgood w (List.mem_cons_of_mem _ (List.mem_cons_of_mem _ hw))) (hat w hw)
  have hk' : (Cond.classLink own ik cls).before args s' = true := vx_ot_at hW0 hvm.symm (hgood _ List.mem_cons_self) hk
  have hini' : (Cond.initialized cls).before args s' = true := vx_ot_at hW0 hvm.symm (hgood _ (List.mem_cons_of_mem _ List.mem_cons_self)) hini
  have hU' : vx_Zq Bundle.tN "UNASSIGNED_STACK" Bundle.steD A s' s'.heap := by rw [hhp]; exact vx_Zq.moved hW0.alike (hU.kept hS.2.1)
  have hN' : vx_Zq Bundle.tN "SUPPRESSED_SENTINEL" Bundle.listD A s' s'.heap := by rw [hhp]; exact vx_Zq.moved hW0.alike (hN.kept hS.2.1)
  have h : ∀ w ∈ Bundle.ownAtoms own ic cls names, w.before args s' = true := vx_own hat' (vx_isRefq hU'.1) (vx_isRefq hN'.1) hU'.2.word hN'.2.word
  have hown' : s'.vm.findClass own = some m.cls := by rw [hvm]; exact hown
  have hins : (Cond.instantiable cls 6).before args s' = true := h _ (by simp [Bundle.ownAtoms])
  obtain ⟨vm₁, cX, kX, hfX, hkX, -, -, X₁, st1⟩ := Y.newCold hexec (own := own) (C := cls) (index := ik) (n := 6) hown' hk' hins hini'
    (g := F0 m pc ls rest) rfl (by rw [hb]; exact d0) (Nat.le_refl _) (Nat.le_refl _)
  generalize hT1 : (T.setVm vm₁).pushCell { cls := cX, slots := kX.instanceTypes.map defaultValue, vm := .none } = T1 at X₁ st1
  have hcat : (Value.ref T.heap.size).category = 1 := rfl
  have hcellA : T1.heap[T.heap.size]? = some (freshCell cX kX) := by rw [← hT1]; exact State.heap_pushCell_size _ _
  have d3' : decode c.code (pc + 3) = .ok (.dup, 1) := by rw [hb]; exact d3
  have d4' : decode c.code (pc + 4) = .ok (.ldc_w is, 3) := by rw [hb]; exact d4
  have hstr' : vk_R own is text sa s' := vk_R.warm hW0 hstr
  obtain ⟨U, hsteps, hrun, hend, hW, hsame, ce, hce, hO⟩ := X₁.ctorThrowS hexec htr (own := own) (cls := cls) (names := names) (ic := ic) hown' hcls hnames h (fun x hx => nomatch hx) hfX hkX hcellA (by rw [hhp, hT]; exact Nat.le_refl _) (msg := .ref sa) rfl
    (g := { method := m, pc := pc + 7, locals := ls, stack := .ref sa :: .ref T.heap.size :: .ref T.heap.size :: rest, locked := none }) rfl hsize rfl rfl (rest := rest) rfl
    (by rw [hb]; exact d7) (by rw [hb]; exact d10) hout hRframes (by simp only [List.map_cons, List.sum_cons, hcat]; omega) hlocks
  obtain ⟨f1, f2⟩ := vx_frame hsame
  rw [hhp] at f1 f2
  have hWs : s.WarmedH U.vm := State.WarmedH.trans hW0 hW
  have hcl : s.vm.findClass cls = some ce.cls := by
    have h9 := hO.cls
    rw [hvm] at h9
    exact h9
  have hall : s.sameButNew ({ U with vm := s.vm } : State) locs mc ms := by
    subst hA
    obtain ⟨e1, e2⟩ := hsame
    rw [State.setFrames_setFrames] at e1
    have h2 : (T.setVm s.vm).sameButNew ({ U with vm := s.vm } : State) [] (0 + 1) (0 + 6) := ⟨e1, e2⟩
    have h3 := X.same.trans h2
    rw [List.append_nil] at h3
    exact h3.mono hc hs
  refine ⟨U, ?_, .threw T.heap.size, hrun, hend, Or.inr ⟨T.heap.size, rfl, cls, ce, locs, hx U hWs.alike f1 (fun q hq => f2 q hq (fun z hz => nomatch hz)), hce, hO.vm, hcl, hWs, hall, hf⟩⟩
  refine st1 _ ?_
  show Steps p.tables e below (T1.setTop { method := m, pc := pc + 3, locals := ls, stack := .ref T.heap.size :: rest, locked := none }) _
  jvm_step X₁.here [X₁.here.top, hexec, d3', Value.category]
  exact X₁.ldcStringW hexec (own := own) (text := text) (index := is) (a := sa) hown' hstr'.1 hstr'.2
    (g := { method := m, pc := pc + 4, locals := ls, stack := .ref T.heap.size :: .ref T.heap.size :: rest, locked := none }) rfl d4' _ hsteps
end Ends
section Bodies
variable {l : Launch}
theorem vx_ofW {y : MethodName} {ws ws' : List Cond} {rm : Room} {Pc : Array Value → State → Prop} {Qc : Array Value → State → Outcome → State → Prop} {XC : String → State → State → Prop} {mc ms : Nat} {free : Addr → Prop} {cc : ByteArray} {maxL : Nat} {ret : Option FieldType}
    (hy : plainName y.cls = true) (hw : ws = Cond.code y cc maxL ret :: ws')
    (body : ∀ p e s m args below meth c s₁, BodyLoose p l y (headSpec ws rm) cc maxL ret e s m args below meth c s₁ → c.maxLocals = maxL → (∀ x ∈ c.exceptionTable.toList, False) → Pc args s →
      W p l e (headSpec ws rm).room s m args below meth c s.heap [] 0 0 (vx_MQ below Qc XC args s mc ms free) (entryFrame m args maxL)) : vx_Met l y ws rm Pc Qc XC mc ms free := by
  refine MetFree.of_bodyS (code := cc) (maxLocals := maxL) (ret := ret) hy ?_ ?_
  · intro args s m h hn
    obtain ⟨meth, c, h1, h2, h3, h4, h5, h6, -, -⟩ := Cond.code_spec hn (atoms_spec (ws := ws) h _ (by rw [hw]; exact List.mem_cons_self))
    exact ⟨meth, c, h1, h2, h3, h4, h5, h6⟩
  · intro p e s m args below meth c s₁ B hml hP _
    have hh0 : s₁.heap = s.heap := by rw [B.state]; rfl
    have ht : ∀ x ∈ c.exceptionTable.toList, False := by
      obtain ⟨meth9, c9, h1, h2, -, -, -, -, h7, -⟩ := Cond.code_spec B.named (atoms_spec (ws := ws) B.pre _ (by rw [hw]; exact List.mem_cons_self))
      cases Option.some.inj (h1.symm.trans B.method)
      cases Option.some.inj (h2.symm.trans (Stand.of_body B).code)
      intro x hx
      rw [Array.isEmpty_iff.mp h7] at hx
      cases hx
    obtain ⟨t, a1, o, b1, b2, b3⟩ := body p e s m args below meth c s₁ B hml ht hP s₁ hh0 (Stand.of_body B)
    exact ⟨t, o, a1, b1, b2, b3⟩
/-- the table of a body with handlers -/
theorem vx_table {p : Program} {x y : MethodName} {S : Spec} {cc bytes : ByteArray} {maxL maxL' : Nat} {ret ret' : Option FieldType} {e : Env} {s s₁ : State} {m : MethodId} {args : Array Value} {below : List Frame} {meth : Method} {c : Code} {hh : List (Nat × Nat × Nat × Nat)}
    (B : BodyLoose p l y S cc maxL ret e s m args below meth c s₁) (h : (Cond.codeWith y bytes maxL' ret' hh).before args s = true) : c.exceptionTable.toList = tableOf hh := by
  obtain ⟨m9, meth9, c9, hn9, h1, h2, -, -, h6, -⟩ := Cond.codeWith_spec h
  cases Option.some.inj (hn9.symm.trans B.named)
  cases Option.some.inj (h1.symm.trans B.method)
  cases Option.some.inj (h2.symm.trans (Stand.of_body B).code)
  rw [← h6, table_eq]
end Bodies
end VXA
/-! ===== END ===== -/
/-! ===== BEGIN a static call of a method with an exception table ===== -/
section VXS
variable {p : Program} {l : Launch} {e : Env} {R : Room} {s : State} {m : MethodId} {args : Array Value} {below : List Frame} {meth : Method} {c : Code} {T : State} {H : Heap} {locs : List Loc} {cells slots : Nat}
abbrev vx_CSW (R : Room) (s : State) (args : Array Value) (own : String) (index : Nat) (y : MethodName) (bytes : ByteArray) (maxL : Nat) (ret : Option FieldType) (hh : List (Nat × Nat × Nat × Nat)) (ws : List Cond) (rm : Room) (mc ms n : Nat) : Prop :=
  (rm.cells = mc ∧ rm.slots = ms ∧ rm.frames + 1 ≤ R.frames ∧ 8 + (maxL + 11) + rm.locals ≤ R.locals ∧ (∀ w ∈ ws, ∀ (a' : Array Value) (U : State), s.WarmedH U.vm → w.before a' U = true) ∧ Cond.codeWith y bytes maxL ret hh ∈ ws) ∧
  (Cond.codeWith y bytes maxL ret hh).before args s = true ∧ (Cond.initialized y.cls).before args s = true ∧ (y.cls ≠ "java/lang/invoke/MethodHandle" ∧ y.cls ≠ "java/lang/invoke/VarHandle") ∧
  (∀ sig, parseMethodDescriptor y.desc = some sig → n = sig.parameters.length) ∧ (Cond.methodLink own index y).before args s = true ∧ (Cond.static y).before args s = true
theorem vx_cwSW {own : String} {index maxL mc ms : Nat} {y : MethodName} {bytes : ByteArray} {ret : Option FieldType} {hh : List (Nat × Nat × Nat × Nat)} {Ts ws ws' : List Cond} {rm : Room} (n : Nat) (ht : ∀ w ∈ Ts, w.before args s = true) (hT : GoodIn Ts (va_wsS own index y ws)) (hw : ws = Cond.codeWith y bytes maxL ret hh :: ws') (hrc : rm.cells = mc) (hrs : rm.slots = ms)
    (hd : y.cls ≠ "java/lang/invoke/MethodHandle" ∧ y.cls ≠ "java/lang/invoke/VarHandle" ∧ (parseMethodDescriptor y.desc).map (fun d => d.parameters.length) = some n) (hR : rm.frames + 1 ≤ R.frames ∧ 8 + (maxL + 11) + rm.locals ≤ R.locals) :
    vx_CSW R s args own index y bytes maxL ret hh ws rm mc ms n := by
  have ok : ∀ w ∈ va_wsS own index y ws, w.before args s = true := fun w h => ht w (hT w h).1
  have hG : GoodIn Ts ws := fun w h => hT w (by unfold va_wsS; exact List.mem_append_right _ h)
  have hc : Cond.codeWith y bytes maxL ret hh ∈ ws := by rw [hw]; exact List.mem_cons_self
  refine ⟨⟨hrc, hrs, hR.1, hR.2, pay_in ht hG, hc⟩, ht _ (hG _ hc).1, ok _ (by simp [va_wsS]), ⟨hd.1, hd.2.1⟩, fun sig h => ?_, ok _ (by simp [va_wsS]), ok _ (by simp [va_wsS])⟩
  have h2 := hd.2.2
  rw [h] at h2
  exact (Option.some.inj h2).symm
theorem vx_callSW (X : Stand p l e R s m args below meth c T locs cells slots) (hexec : p.tables.exec = Jvm.exec) {own : String} {index : Nat} {y : MethodName} {bytes : ByteArray} {maxL : Nat} {ret : Option FieldType} {hh : List (Nat × Nat × Nat × Nat)}
    (hown : s.vm.findClass own = some m.cls) (hlink : (Cond.methodLink own index y).before args s = true) (hstat : (Cond.static y).before args s = true) (hinit : (Cond.initialized y.cls).before args s = true)
    (hcode : (Cond.codeWith y bytes maxL ret hh).before args s = true) (hy : y.cls ≠ "java/lang/invoke/MethodHandle" ∧ y.cls ≠ "java/lang/invoke/VarHandle")
    {W9 : Nat} {Pre : Pt → Array Value → Prop} {Post : Pt → Array Value → Option Value → Pt → Prop} (hK : Back l R p e below s args y 3 W9 Pre Post)
    {g : JFrame} (hg : g.method = m) (hsize : g.locals.size = c.maxLocals) {argsL rest : List Value} (hlen : ∀ sig, parseMethodDescriptor y.desc = some sig → argsL.length = sig.parameters.length)
    (hstack : g.stack = argsL.reverse ++ rest) (hW : 2 * g.monitorRoom + (rest.map fun v => v.category).sum ≤ W9) (hdg : decode c.code g.pc = .ok (.invokestatic index, 3))
    (hpre : ∀ vm₁, s.WarmedH vm₁ → Pre ⟨T.setVm vm₁, locs, cells, slots⟩ argsL.toArray) :
    ∃ (v : Option Value) (vm₁ : Vm) (B : Pt), s.WarmedH vm₁ ∧ Stand p l e R s m args below meth c B.U B.locs B.cells B.slots ∧ Post ⟨T.setVm vm₁, locs, cells, slots⟩ argsL.toArray v B ∧
      ∀ target, Steps p.tables e below (B.U.setTop { g with pc := g.pc + 3, stack := v.toList ++ rest }) target → Steps p.tables e below (T.setTop g) target := by
  obtain ⟨mk, methM, cM, hnamed, hmethM, -, -, -, -, -, -, hsigM⟩ := Cond.codeWith_spec hcode
  have hstatic : methM.isStatic = true := Cond.static_spec hnamed hmethM hstat
  obtain ⟨kP, hkP, -⟩ := className_of_methodNamed hnamed
  have hinitP : kP.init = .initialized := Cond.initialized_spec (findClass_of_methodNamed hnamed) hkP hinit
  obtain ⟨vm₁, X₁, hstep₁⟩ := X.invokestatic hexec hown hlink hnamed hmethM hstatic hkP hinitP hy (g := g) hg (argsL := argsL) (rest := rest) (hlen _ hsigM) hstack hdg
  obtain ⟨v, B, X', hpost, hsteps⟩ := hK m meth c ⟨T.setVm vm₁, locs, cells, slots⟩ { g with stack := rest } (.invokestatic index) mk argsL.toArray X₁ hg hsize hdg hW (X₁.named hnamed) (hpre vm₁ X₁.warmed)
  exact ⟨v, vm₁, B, X₁.warmed, X', hpost, fun target h => hstep₁ _ fun acts => by rw [doInvoke_state]; exact hsteps.trans h⟩
theorem vx_runSW {y : MethodName} {bytes cc : ByteArray} {maxL nL mc ms n index : Nat} {ret : Option FieldType} {hh : List (Nat × Nat × Nat × Nat)} {ws : List Cond} {rm : Room} {Pc : Array Value → State → Prop} {Qc : Array Value → State → Outcome → State → Prop} {free : Addr → Prop} {Ts : List Cond} {own : String} {As rest : List Value} {g : JFrame}
    (S : CallFix p m c cc nL s args Ts own) (hM : Met l y ws rm Pc Qc mc ms free) (cw : vx_CSW R s args own index y bytes maxL ret hh ws rm mc ms n) (hp : PreS s H Pc As)
    (hg : g.method = m) (hn : As.length = n) (hsize : g.locals.size = nL) (hstack : g.stack = As.reverse ++ rest) (hW : 2 * g.monitorRoom + (rest.map fun v => v.category).sum ≤ 8) (hdg : decode cc g.pc = .ok (.invokestatic index, 3)) (hf : cells + mc ≤ R.cells ∧ slots + ms ≤ R.slots) :
    va_Run p l e R s m args below meth c H locs cells slots mc ms g rest (Qc As.toArray) (free) := by
  obtain ⟨⟨hrc, hrs, hfr, hlo, hws, hcw⟩, hcode, hini, hy, hlen, hl, hstt⟩ := cw
  have hK : Back l R p e below s args y 3 8 (PreOf R mc ms Pc) (PostOf Qc mc ms free) := va_backW (hh := hh) (bytes := bytes) (maxL := maxL) (ret := ret) hM hp.1 hrc hrs hfr hlo hws hcw (fun a' U hW => word_at hW (Or.inl (by first | rfl | simp [Cond.onTables, Cond.keeps, Cond.steady])) hini)
  obtain ⟨hx, hb, hml, ho, -⟩ := S
  intro T hT X
  obtain ⟨v, vm₁, ⟨U', l2, c2, s2⟩, hW₁, X', ⟨g', mk, t, L, e1, e2, hq, h1, hL, h2, h3⟩, st⟩ := vx_callSW X hx (hh := hh) (bytes := bytes) (maxL := maxL) (ret := ret) ho hl hstt hini hcode hy hK hg (hsize.trans hml.symm) (argsL := As) (rest := rest) (fun sig h => hn.trans (hlen sig h)) hstack hW (by rw [hb]; exact hdg)
    (fun vm₁ hW₁ => ⟨hf.1, hf.2, hp.2 (T.setVm vm₁) hT hW₁⟩)
  dsimp only [Pt.U, Pt.locs, Pt.cells, Pt.slots] at X' e1 e2 h1 h2 h3 st
  subst h1; subst h2; subst h3
  exact ⟨v, (T.setVm vm₁).calling g' mk As.toArray, t, U', L, hT, X', hL, e1, e2, hq, st⟩
/-- not caught here, past rows that name other classes: it goes on to the caller -/
theorem vx_outP {p : Program} {l : Launch} {e : Env} {R : Room} {s : State} {m : MethodId} {args : Array Value} {below : List Frame} {meth : Method} {c : Code} {H : Heap} {locs : List Loc} {cells slots : Nat} {free : Addr → Prop} {ls : Array Slot} {rest : List Value} {Qc : Array Value → State → Outcome → State → Prop} {XC : String → State → State → Prop}
    {pc : Nat} {own E : String} {ce : Cell} {q : Addr} {mc ms : Nat} (hown : s.vm.findClass own = some m.cls) (hlocks : meth.locks = false)
    (hpass : ∀ z ∈ c.exceptionTable.toList, covers z pc = false ∨ (z.catchType ≠ 0 ∧ ∃ nm : String, (Cond.classLink own z.catchType nm).before args s = true ∧ va_Nc E nm s)) (hcell : H[q]? = some ce) (hv : ce.vm = .none) (hcl : s.vm.findClass E = some ce.cls)
    (hx : ∀ t : State, t.heap = H → s.vm.Alike t.vm → XC E s t) (hf : ∀ z ∈ locs, free z.base) (hc : cells ≤ mc) (hs : slots ≤ ms) :
    vx_W p l e R s m args below meth c H locs cells slots (vx_MQ below Qc XC args s mc ms free) (F0 m pc ls rest) q := by
  intro T hT X
  have hpl : e.platform.magicAccessors = ({} : Platform).magicAccessors := by rw [X.admits.platform]
  obtain ⟨vm', hW', X', st⟩ := X.outThrough hlocks q (g := F0 m pc ls rest) rfl rfl rfl (cell := ce) (by rw [hT]; exact hcell) (by rw [hv]; rfl)
    (by obtain ⟨k9, h9, -⟩ := Vm.findClass_spec hcl; exact ⟨k9, h9⟩) (fun z hz => by
      rcases hpass z hz with h | ⟨hz0, nm, hl1, hn1⟩
      · exact Or.inl h
      · obtain ⟨c6, hc6, hcl6⟩ := Cond.classLink_spec hown hl1 e.platform hpl
        obtain ⟨a8, b8, h1, h2, h3⟩ := hn1
        cases Option.some.inj (h1.symm.trans hcl)
        cases Option.some.inj (h2.symm.trans hc6)
        exact Or.inr ⟨hz0, _, hcl6, h3⟩)
  obtain ⟨g₀, hfr⟩ := X'.frames_eq
  have hcell9 : ((T.setVm vm').setFrames (.throwing q :: below)).heap[q]? = some ce := by
    show T.heap[q]? = some ce
    rw [hT]; exact hcell
  have hend : Ended ((T.setVm vm').setFrames (.throwing q :: below)) below (.threw q) := State.frames_setFrames _ (State.cur_lt_of_frames hfr)
  refine ⟨(T.setVm vm').setFrames (.throwing q :: below), ?_, .threw q, X'.here.running, hend, Or.inr ⟨q, rfl, E, ce, locs, hx _ hT (X'.ends _).1.alike, hcell9, hv, hcl, (X'.ends _).1, (X'.ends _).2.mono hc hs, hf⟩⟩
  rw [X.pushThrowing_eq]
  exact st
/-- a thing of a world lies in the heap -/
theorem vx_lt {D : va_G} {cl : List vw_C} {ws : va_W} {H1 : Heap} (h : va_P D cl ws H1) {k : Nat} {q : Nat × va_E} (hk : ws[k]? = some q) : q.1 < H1.size := (h k q hk).lt
end VXS
/-! ===== END ===== -/
/-! ===== BEGIN methods with a table of their own: called by a name, returning or throwing ===== -/
section VXH
/-! vx_backW, vx_callVX, vx_callSX, vx_callVW, vx_runVW, vx_runVX, vx_runSX, vx_ofWH follow the same proofs as their sisters above (Free/Laws.lean, Shelf42/LK1.lean); vx_outP calls Shelf42/NT130.lean (outThrough). -/
section
variable {l : Launch} {R : Room} {p : Program} {e : Env} {below : List Frame} {s : State} {sargs : Array Value} {y : MethodName} {len W9 : Nat}
theorem vx_backW {ws : List Cond} {rm : Room} {Pc : Array Value → State → Prop} {Qc : Array Value → State → Outcome → State → Prop} {XC : String → State → State → Prop} {mc ms : Nat} {free : Addr → Prop} {bytes : ByteArray} {maxL : Nat} {ret : Option FieldType} {hh : List (Nat × Nat × Nat × Nat)}
    (hM : vx_Met l y ws rm Pc Qc XC mc ms free) (hblind : FrameBlind Pc) (hrc : rm.cells = mc) (hrs : rm.slots = ms)
    (hframes : rm.frames + 1 ≤ R.frames) (hlocals : W9 + (maxL + 11) + rm.locals ≤ R.locals)
    (hws : ∀ w ∈ ws, ∀ a' U, s.WarmedH U.vm → w.before a' U = true) (hcode : Cond.codeWith y bytes maxL ret hh ∈ ws) (hinit : ∀ a' U, s.WarmedH U.vm → (Cond.initialized y.cls).before a' U = true) :
    vx_Back l R p e below s sargs y len W9 (PreOf R mc ms Pc) (PostOf Qc mc ms free) (vx_Post XC mc ms free) := by
  intro m meth c A g ig mk a X hg hsize hdg hW hn hp
  have h1 : (headSpec ws rm).pre.before a A.U = true := atoms_intro fun w hw => hws w hw _ _ X.warmed
  have h2 : (Cond.codeWith y bytes maxL ret hh).before a A.U = true := hws _ hcode _ _ X.warmed
  have h3 : (Cond.initialized y.cls).before a A.U = true := hinit _ _ X.warmed
  have h4 : A.cells + (headSpec ws rm).room.cells ≤ R.cells := by rw [show (headSpec ws rm).room.cells = mc from hrc]; exact hp.1
  have h5 : A.slots + (headSpec ws rm).room.slots ≤ R.slots := by rw [show (headSpec ws rm).room.slots = ms from hrs]; exact hp.2.1
  have hPc : Pc a (A.U.calling g mk a) := hblind _ _ _ _ hp.2.2
  obtain ⟨U, Ls, c0, s0⟩ := A
  dsimp only [Pt.U, Pt.locs, Pt.cells, Pt.slots] at h1 h2 h3 h4 h5 X hn hPc ⊢
  obtain ⟨m9, methY, cY, hn9, hmY, hcY, -, hlY, -⟩ := Cond.codeWith_spec h2
  cases Option.some.inj (hn9.symm.trans hn)
  obtain ⟨kY, hkY, -⟩ := className_of_methodNamed hn
  have hinitY : kY.init = .initialized := Cond.initialized_spec (findClass_of_methodNamed hn) hkY h3
  have h : At U g.method c below := by rw [hg]; exact X.here
  have hlocals9 : W9 + (maxL + 11) + (headSpec ws rm).room.locals ≤ R.locals := hlocals
  have happ : (headSpec ws rm).appliesLoose y e.platform (U.calling g mk a) = true :=
    Spec.appliesLoose_calling (g := g) h hdg hn hkY hinitY
      (X.room_calling (g := g) (R' := (headSpec ws rm).room) hsize hmY hcY hframes (by rw [hlY]; omega) h4 h5) h1
  obtain ⟨mid, hmid⟩ := h.above
  have hfr : (U.setTop g).frames = (.java g :: mid) ++ below := by rw [State.frames_setTop' g h.top, hmid]; rfl
  obtain ⟨o, s₂, hsteps, -, hend, hq⟩ := Steps.callFree hM p X.admits X.cas X.clock (acts := []) hfr happ hPc trivial
  have hq' : vx_Q Qc XC mc ms free a (U.calling g mk a) o s₂ := hq
  rw [State.frames_setTop' g h.top] at hend
  obtain ⟨g₀, hg0⟩ := Option.isSome_iff_exists.mp h.top
  obtain ⟨r, hr⟩ := State.topJava?_eq_some.mp hg0
  have hr' : (({ U with heap := s₂.heap, slotsUsed := s₂.slotsUsed } : State).setVm s₂.vm).frames = .java g₀ :: r := hr
  rcases hq' with ⟨hqc, L, hfe, hL⟩ | ⟨q, rfl, E, ce, L, hx, hce, hcv, hcl, hW₂, hsm, hL⟩
  · obtain ⟨⟨v, rfl⟩, hW₂, e2, q2, q3, q4, q5, q6⟩ := id hfe
    have e3 : s₂ = ({ (U.calling g mk a).setFrames s₂.frames with heap := s₂.heap, slotsUsed := s₂.slotsUsed } : State).setVm s₂.vm := by
      have : s₂ = ({ s₂ with vm := (U.calling g mk a).vm } : State).setVm s₂.vm := rfl
      rw [e2] at this
      exact this
    obtain ⟨c₂, i₂, len₂, hc₂, hd₂, hf₂⟩ := hend
    have hW' : U.WarmedH s₂.vm := hW₂
    have hcc : c₂ = c := by
      have h1 : s₂.code? g.method = U.code? g.method := by
        rw [State.code?_eq, State.code?_eq, hW'.alike.method?]
      exact Option.some.inj (hc₂.symm.trans (h1.trans h.code))
    subst hcc
    have hlen : len₂ = len := by rw [hdg] at hd₂; cases hd₂; rfl
    subst hlen
    have hs₂ : s₂ = (({ U with heap := s₂.heap, slotsUsed := s₂.slotsUsed } : State).setVm s₂.vm).setTop { g with pc := g.pc + len₂, stack := v.toList ++ g.stack } := by
      refine e3.trans ?_
      rw [hf₂, State.calling_eq h.top, State.setFrames_setFrames, State.setTop_of_frames _ hr', hr]
      rfl
    have hsame : U.sameButNew ({ U with heap := s₂.heap, slotsUsed := s₂.slotsUsed } : State) L mc ms := by
      refine ⟨?_, q2, q3, q4, q5, q6⟩
      obtain ⟨t, ht, -⟩ := State.frames_cons hr
      show ({ U with heap := s₂.heap, slotsUsed := s₂.slotsUsed } : State) = { U.setFrames U.frames with heap := s₂.heap, slotsUsed := s₂.slotsUsed }
      rw [State.setFrames_self ht]
    subst hg
    refine Or.inl ⟨v, ⟨(({ U with heap := s₂.heap, slotsUsed := s₂.slotsUsed } : State).setVm s₂.vm), Ls ++ L, c0 + mc, s0 + ms⟩,
      ⟨X.admits, X.cas, X.clock, X.frames, X.room, X.hears, X.method, X.code, (X.here.setHeapUsed s₂.heap s₂.slotsUsed).setVm hW'.alike, X.tail, State.WarmedH.trans X.warmed hW', X.limits, X.bytes, X.same.trans (hsame.setVm s.vm)⟩,
      ⟨g, mk, s₂, L, rfl, rfl, hqc, rfl, hL, rfl, rfl⟩, ?_⟩
    show Steps p.tables e below _ ((({ U with heap := s₂.heap, slotsUsed := s₂.slotsUsed } : State).setVm s₂.vm).setTop { g with pc := g.pc + len₂, stack := v.toList ++ g.stack })
    rw [← hs₂]
    exact hsteps
  · obtain ⟨e2, q2, q3, q4, q5, q6⟩ := id hsm
    have e3 : s₂ = ({ (U.calling g mk a).setFrames s₂.frames with heap := s₂.heap, slotsUsed := s₂.slotsUsed } : State).setVm s₂.vm := by
      have : s₂ = ({ s₂ with vm := (U.calling g mk a).vm } : State).setVm s₂.vm := rfl
      rw [e2] at this
      exact this
    have hf₂ : s₂.frames = .throwing q :: .java g :: U.frames.tail := hend
    have hW' : U.WarmedH s₂.vm := hW₂
    have hs₂ : s₂ = ((({ U with heap := s₂.heap, slotsUsed := s₂.slotsUsed } : State).setVm s₂.vm).setTop g).pushFrame (.throwing q) := by
      refine e3.trans ?_
      rw [hf₂, State.calling_eq h.top, State.setFrames_setFrames, State.pushFrame, State.frames_setTop _ hr', State.setTop_of_frames _ hr', State.setFrames_setFrames, hr]
      rfl
    have hsame : U.sameButNew ({ U with heap := s₂.heap, slotsUsed := s₂.slotsUsed } : State) L mc ms := by
      refine ⟨?_, q2, q3, q4, q5, q6⟩
      obtain ⟨t, ht, -⟩ := State.frames_cons hr
      show ({ U with heap := s₂.heap, slotsUsed := s₂.slotsUsed } : State) = { U.setFrames U.frames with heap := s₂.heap, slotsUsed := s₂.slotsUsed }
      rw [State.setFrames_self ht]
    subst hg
    refine Or.inr ⟨q, ⟨(({ U with heap := s₂.heap, slotsUsed := s₂.slotsUsed } : State).setVm s₂.vm), Ls ++ L, c0 + mc, s0 + ms⟩,
      ⟨X.admits, X.cas, X.clock, X.frames, X.room, X.hears, X.method, X.code, (X.here.setHeapUsed s₂.heap s₂.slotsUsed).setVm hW'.alike, X.tail, State.WarmedH.trans X.warmed hW', X.limits, X.bytes, X.same.trans (hsame.setVm s.vm)⟩,
      ⟨g, mk, s₂, L, E, ce, rfl, rfl, hx, hce, hcv, hcl, rfl, hL, rfl, rfl⟩, ?_⟩
    show Steps p.tables e below _ (((({ U with heap := s₂.heap, slotsUsed := s₂.slotsUsed } : State).setVm s₂.vm).setTop g).pushFrame (.throwing q))
    rw [← hs₂]
    exact hsteps
end
variable {p : Program} {l : Launch} {e : Env} {R : Room} {s : State} {m : MethodId} {args : Array Value} {below : List Frame} {meth : Method} {c : Code} {T : State} {H : Heap} {locs : List Loc} {cells slots : Nat}
theorem vx_callVX (X : Stand p l e R s m args below meth c T locs cells slots) (hexec : p.tables.exec = Jvm.exec) {own C : String} {index : Nat} {y : MethodName} {bytes : ByteArray} {maxL : Nat} {ret : Option FieldType} {hh : List (Nat × Nat × Nat × Nat)}
    (hown : s.vm.findClass own = some m.cls) (hlink : (Cond.methodLink own index y).before args s = true) (hinst : (Cond.instanceMethod y).before args s = true) (hsel : (Cond.selects C y y).before args s = true)
    (hcode : (Cond.codeWith y bytes maxL ret hh).before args s = true) (hy : y.cls ≠ "java/lang/invoke/MethodHandle" ∧ y.cls ≠ "java/lang/invoke/VarHandle")
    {W9 : Nat} {Pre : Pt → Array Value → Prop} {Post : Pt → Array Value → Option Value → Pt → Prop} {PostX : Pt → Array Value → Addr → Pt → Prop} (hK : vx_Back l R p e below s args y 3 W9 Pre Post PostX)
    {b : Addr} {cellB : Cell} (hcell : T.heap[b]? = some cellB) (hobj : cellB.vm.isStatics = false) (hcls : s.vm.findClass C = some cellB.cls)
    {g : JFrame} (hg : g.method = m) (hsize : g.locals.size = c.maxLocals) {argsL rest : List Value} (hlen : ∀ sig, parseMethodDescriptor y.desc = some sig → argsL.length = sig.parameters.length)
    (hstack : g.stack = argsL.reverse ++ .ref b :: rest) (hW : 2 * g.monitorRoom + (rest.map fun v => v.category).sum ≤ W9) (hdg : decode c.code g.pc = .ok (.invokevirtual index, 3))
    (hpre : ∀ vm₁, s.WarmedH vm₁ → Pre ⟨T.setVm vm₁, locs, cells, slots⟩ (Value.ref b :: argsL).toArray) :
    (∃ (v : Option Value) (vm₁ : Vm) (B : Pt), s.WarmedH vm₁ ∧ Stand p l e R s m args below meth c B.U B.locs B.cells B.slots ∧ Post ⟨T.setVm vm₁, locs, cells, slots⟩ (Value.ref b :: argsL).toArray v B ∧
      ∀ target, Steps p.tables e below (B.U.setTop { g with pc := g.pc + 3, stack := v.toList ++ rest }) target → Steps p.tables e below (T.setTop g) target) ∨
    (∃ (q : Addr) (vm₁ : Vm) (B : Pt), s.WarmedH vm₁ ∧ Stand p l e R s m args below meth c B.U B.locs B.cells B.slots ∧ PostX ⟨T.setVm vm₁, locs, cells, slots⟩ (Value.ref b :: argsL).toArray q B ∧
      Steps p.tables e below (T.setTop g) ((B.U.setTop { g with stack := rest }).pushFrame (.throwing q))) := by
  obtain ⟨mk, methM, hnamed, hmethM, hstM, habM⟩ := Cond.instanceMethod_spec hinst
  obtain ⟨m8, methM', cM, hn8, hmethM', -, -, -, -, -, -, hsigM⟩ := Cond.codeWith_spec hcode
  cases Option.some.inj (hn8.symm.trans hnamed)
  cases hmethM.symm.trans hmethM'
  obtain ⟨c2, r2, m2, q1, q2, q3, q4, kP, hkP, hkPi⟩ := Cond.selects_spec hsel
  cases hcls.symm.trans q1
  cases (State.methodFound?_of_named hnamed hy).symm.trans q2
  cases hnamed.symm.trans q3
  have hselP : selectMethod e.platform s.vm cellB.cls mk = .method mk := by rw [Launch.admits_selectMethod X.admits]; exact q4
  obtain ⟨vm₁, X₁, hstep₁⟩ := X.invokevirtual hexec hown hlink hnamed hmethM hstM hkP hkPi hy (a := b) (cell := cellB) hcell
    (fun z h => by rw [h] at hobj; cases hobj) hselP hmethM habM hkP hkPi (g := g) hg (argsL := argsL) (rest := rest) (hlen _ hsigM) hstack hdg
  rcases hK m meth c ⟨T.setVm vm₁, locs, cells, slots⟩ { g with stack := rest } (.invokevirtual index) mk (Value.ref b :: argsL).toArray X₁ hg hsize hdg hW (X₁.named hnamed) (hpre vm₁ X₁.warmed) with ⟨v, B, X', hpost, hsteps⟩ | ⟨q, B, X', hpost, hsteps⟩
  · exact Or.inl ⟨v, vm₁, B, X₁.warmed, X', hpost, fun target h => hstep₁ _ fun acts => by rw [doInvoke_state]; exact hsteps.trans h⟩
  · exact Or.inr ⟨q, vm₁, B, X₁.warmed, X', hpost, hstep₁ _ fun acts => by rw [doInvoke_state]; exact hsteps⟩
theorem vx_callSX (X : Stand p l e R s m args below meth c T locs cells slots) (hexec : p.tables.exec = Jvm.exec) {own : String} {index : Nat} {y : MethodName} {bytes : ByteArray} {maxL : Nat} {ret : Option FieldType} {hh : List (Nat × Nat × Nat × Nat)}
    (hown : s.vm.findClass own = some m.cls) (hlink : (Cond.methodLink own index y).before args s = true) (hstat : (Cond.static y).before args s = true) (hinit : (Cond.initialized y.cls).before args s = true)
    (hcode : (Cond.codeWith y bytes maxL ret hh).before args s = true) (hy : y.cls ≠ "java/lang/invoke/MethodHandle" ∧ y.cls ≠ "java/lang/invoke/VarHandle")
    {W9 : Nat} {Pre : Pt → Array Value → Prop} {Post : Pt → Array Value → Option Value → Pt → Prop} {PostX : Pt → Array Value → Addr → Pt → Prop} (hK : vx_Back l R p e below s args y 3 W9 Pre Post PostX)
    {g : JFrame} (hg : g.method = m) (hsize : g.locals.size = c.maxLocals) {argsL rest : List Value} (hlen : ∀ sig, parseMethodDescriptor y.desc = some sig → argsL.length = sig.parameters.length)
    (hstack : g.stack = argsL.reverse ++ rest) (hW : 2 * g.monitorRoom + (rest.map fun v => v.category).sum ≤ W9) (hdg : decode c.code g.pc = .ok (.invokestatic index, 3))
    (hpre : ∀ vm₁, s.WarmedH vm₁ → Pre ⟨T.setVm vm₁, locs, cells, slots⟩ argsL.toArray) :
    (∃ (v : Option Value) (vm₁ : Vm) (B : Pt), s.WarmedH vm₁ ∧ Stand p l e R s m args below meth c B.U B.locs B.cells B.slots ∧ Post ⟨T.setVm vm₁, locs, cells, slots⟩ argsL.toArray v B ∧
      ∀ target, Steps p.tables e below (B.U.setTop { g with pc := g.pc + 3, stack := v.toList ++ rest }) target → Steps p.tables e below (T.setTop g) target) ∨
    (∃ (q : Addr) (vm₁ : Vm) (B : Pt), s.WarmedH vm₁ ∧ Stand p l e R s m args below meth c B.U B.locs B.cells B.slots ∧ PostX ⟨T.setVm vm₁, locs, cells, slots⟩ argsL.toArray q B ∧
      Steps p.tables e below (T.setTop g) ((B.U.setTop { g with stack := rest }).pushFrame (.throwing q))) := by
  obtain ⟨mk, methM, cM, hnamed, hmethM, -, -, -, -, -, -, hsigM⟩ := Cond.codeWith_spec hcode
  have hstatic : methM.isStatic = true := Cond.static_spec hnamed hmethM hstat
  obtain ⟨kP, hkP, -⟩ := className_of_methodNamed hnamed
  have hinitP : kP.init = .initialized := Cond.initialized_spec (findClass_of_methodNamed hnamed) hkP hinit
  obtain ⟨vm₁, X₁, hstep₁⟩ := X.invokestatic hexec hown hlink hnamed hmethM hstatic hkP hinitP hy (g := g) hg (argsL := argsL) (rest := rest) (hlen _ hsigM) hstack hdg
  rcases hK m meth c ⟨T.setVm vm₁, locs, cells, slots⟩ { g with stack := rest } (.invokestatic index) mk argsL.toArray X₁ hg hsize hdg hW (X₁.named hnamed) (hpre vm₁ X₁.warmed) with ⟨v, B, X', hpost, hsteps⟩ | ⟨q, B, X', hpost, hsteps⟩
  · exact Or.inl ⟨v, vm₁, B, X₁.warmed, X', hpost, fun target h => hstep₁ _ fun acts => by rw [doInvoke_state]; exact hsteps.trans h⟩
  · exact Or.inr ⟨q, vm₁, B, X₁.warmed, X', hpost, hstep₁ _ fun acts => by rw [doInvoke_state]; exact hsteps⟩
theorem vx_callVW (X : Stand p l e R s m args below meth c T locs cells slots) (hexec : p.tables.exec = Jvm.exec) {own C : String} {index : Nat} {y : MethodName} {bytes : ByteArray} {maxL : Nat} {ret : Option FieldType} {hh : List (Nat × Nat × Nat × Nat)}
    (hown : s.vm.findClass own = some m.cls) (hlink : (Cond.methodLink own index y).before args s = true) (hinst : (Cond.instanceMethod y).before args s = true) (hsel : (Cond.selects C y y).before args s = true)
    (hcode : (Cond.codeWith y bytes maxL ret hh).before args s = true) (hy : y.cls ≠ "java/lang/invoke/MethodHandle" ∧ y.cls ≠ "java/lang/invoke/VarHandle")
    {W9 : Nat} {Pre : Pt → Array Value → Prop} {Post : Pt → Array Value → Option Value → Pt → Prop} (hK : Back l R p e below s args y 3 W9 Pre Post)
    {b : Addr} {cellB : Cell} (hcell : T.heap[b]? = some cellB) (hobj : cellB.vm.isStatics = false) (hcls : s.vm.findClass C = some cellB.cls)
    {g : JFrame} (hg : g.method = m) (hsize : g.locals.size = c.maxLocals) {argsL rest : List Value} (hlen : ∀ sig, parseMethodDescriptor y.desc = some sig → argsL.length = sig.parameters.length)
    (hstack : g.stack = argsL.reverse ++ .ref b :: rest) (hW : 2 * g.monitorRoom + (rest.map fun v => v.category).sum ≤ W9) (hdg : decode c.code g.pc = .ok (.invokevirtual index, 3))
    (hpre : ∀ vm₁, s.WarmedH vm₁ → Pre ⟨T.setVm vm₁, locs, cells, slots⟩ (Value.ref b :: argsL).toArray) :
    ∃ (v : Option Value) (vm₁ : Vm) (B : Pt), s.WarmedH vm₁ ∧ Stand p l e R s m args below meth c B.U B.locs B.cells B.slots ∧ Post ⟨T.setVm vm₁, locs, cells, slots⟩ (Value.ref b :: argsL).toArray v B ∧
      ∀ target, Steps p.tables e below (B.U.setTop { g with pc := g.pc + 3, stack := v.toList ++ rest }) target → Steps p.tables e below (T.setTop g) target := by
  obtain ⟨mk, methM, hnamed, hmethM, hstM, habM⟩ := Cond.instanceMethod_spec hinst
  obtain ⟨m8, methM', cM, hn8, hmethM', -, -, -, -, -, -, hsigM⟩ := Cond.codeWith_spec hcode
  cases Option.some.inj (hn8.symm.trans hnamed)
  cases hmethM.symm.trans hmethM'
  obtain ⟨c2, r2, m2, q1, q2, q3, q4, kP, hkP, hkPi⟩ := Cond.selects_spec hsel
  cases hcls.symm.trans q1
  cases (State.methodFound?_of_named hnamed hy).symm.trans q2
  cases hnamed.symm.trans q3
  have hselP : selectMethod e.platform s.vm cellB.cls mk = .method mk := by rw [Launch.admits_selectMethod X.admits]; exact q4
  obtain ⟨vm₁, X₁, hstep₁⟩ := X.invokevirtual hexec hown hlink hnamed hmethM hstM hkP hkPi hy (a := b) (cell := cellB) hcell
    (fun z h => by rw [h] at hobj; cases hobj) hselP hmethM habM hkP hkPi (g := g) hg (argsL := argsL) (rest := rest) (hlen _ hsigM) hstack hdg
  obtain ⟨v, B, X', hpost, hsteps⟩ := hK m meth c ⟨T.setVm vm₁, locs, cells, slots⟩ { g with stack := rest } (.invokevirtual index) mk (Value.ref b :: argsL).toArray X₁ hg hsize hdg hW (X₁.named hnamed) (hpre vm₁ X₁.warmed)
  exact ⟨v, vm₁, B, X₁.warmed, X', hpost, fun target h => hstep₁ _ fun acts => by rw [doInvoke_state]; exact hsteps.trans h⟩
abbrev vx_CVW (R : Room) (s : State) (args : Array Value) (own C : String) (index : Nat) (y : MethodName) (bytes : ByteArray) (maxL : Nat) (ret : Option FieldType) (hh : List (Nat × Nat × Nat × Nat)) (ws : List Cond) (rm : Room) (mc ms n : Nat) : Prop :=
  (rm.cells = mc ∧ rm.slots = ms ∧ rm.frames + 1 ≤ R.frames ∧ 8 + (maxL + 11) + rm.locals ≤ R.locals ∧ (∀ w ∈ ws, ∀ (a' : Array Value) (U : State), s.WarmedH U.vm → w.before a' U = true) ∧ Cond.codeWith y bytes maxL ret hh ∈ ws) ∧
  (Cond.codeWith y bytes maxL ret hh).before args s = true ∧ (Cond.initialized y.cls).before args s = true ∧ (y.cls ≠ "java/lang/invoke/MethodHandle" ∧ y.cls ≠ "java/lang/invoke/VarHandle") ∧
  (∀ sig, parseMethodDescriptor y.desc = some sig → n = sig.parameters.length) ∧ (Cond.methodLink own index y).before args s = true ∧ (Cond.instanceMethod y).before args s = true ∧ (Cond.selects C y y).before args s = true
theorem vx_cwVW {own C : String} {index maxL mc ms : Nat} {y : MethodName} {bytes : ByteArray} {ret : Option FieldType} {hh : List (Nat × Nat × Nat × Nat)} {Ts ws ws' : List Cond} {rm : Room} (n : Nat) (ht : ∀ w ∈ Ts, w.before args s = true) (hT : GoodIn Ts (wsV own index C y ws)) (hw : ws = Cond.codeWith y bytes maxL ret hh :: ws') (hrc : rm.cells = mc) (hrs : rm.slots = ms)
    (hd : y.cls = C ∧ y.cls ≠ "java/lang/invoke/MethodHandle" ∧ y.cls ≠ "java/lang/invoke/VarHandle" ∧ (parseMethodDescriptor y.desc).map (fun d => d.parameters.length) = some n) (hR : rm.frames + 1 ≤ R.frames ∧ 8 + (maxL + 11) + rm.locals ≤ R.locals) :
    vx_CVW R s args own C index y bytes maxL ret hh ws rm mc ms n := by
  obtain ⟨hC, hd⟩ := hd
  subst hC
  have ok : ∀ w ∈ wsV own index y.cls y ws, w.before args s = true := fun w h => ht w (hT w h).1
  have hG : GoodIn Ts ws := fun w h => hT w (by unfold wsV; exact List.mem_append_right _ h)
  have hc : Cond.codeWith y bytes maxL ret hh ∈ ws := by rw [hw]; exact List.mem_cons_self
  refine ⟨⟨hrc, hrs, hR.1, hR.2, pay_in ht hG, hc⟩, ht _ (hG _ hc).1, ok _ (by simp [wsV]), ⟨hd.1, hd.2.1⟩, fun sig h => ?_, ok _ (by simp [wsV]), ok _ (by simp [wsV]), ok _ (by simp [wsV])⟩
  have h2 := hd.2.2
  rw [h] at h2
  exact (Option.some.inj h2).symm
theorem vx_runVW {y : MethodName} {bytes cc : ByteArray} {maxL nL mc ms n index : Nat} {ret : Option FieldType} {hh : List (Nat × Nat × Nat × Nat)} {ws : List Cond} {rm : Room} {Pc : Array Value → State → Prop} {Qc : Array Value → State → Outcome → State → Prop} {free : Addr → Prop} {Ts : List Cond} {own C : String} {b : Addr} {As rest : List Value} {g : JFrame}
    (S : CallFix p m c cc nL s args Ts own) (hM : Met l y ws rm Pc Qc mc ms free) (cw : vx_CVW R s args own C index y bytes maxL ret hh ws rm mc ms n) (hp : PreV s H C b Pc As)
    (hg : g.method = m) (hn : As.length = n) (hsize : g.locals.size = nL) (hstack : g.stack = As.reverse ++ .ref b :: rest) (hW : 2 * g.monitorRoom + (rest.map fun v => v.category).sum ≤ 8) (hdg : decode cc g.pc = .ok (.invokevirtual index, 3)) (hf : cells + mc ≤ R.cells ∧ slots + ms ≤ R.slots) :
    va_Run p l e R s m args below meth c H locs cells slots mc ms g rest (Qc (Value.ref b :: As).toArray) free := by
  obtain ⟨⟨hrc, hrs, hfr, hlo, hws, hcw⟩, hcode, hini, hy, hlen, hl, hin, hse⟩ := cw
  have hK : Back l R p e below s args y 3 8 (PreOf R mc ms Pc) (PostOf Qc mc ms free) := va_backW (hh := hh) (bytes := bytes) (maxL := maxL) (ret := ret) hM hp.1 hrc hrs hfr hlo hws hcw (fun a' U hW => word_at hW (Or.inl (by first | rfl | simp [Cond.onTables, Cond.keeps, Cond.steady])) hini)
  obtain ⟨hx, hb, hml, ho, -⟩ := S
  obtain ⟨-, ⟨cellB, hcB, hoB, hclB⟩, hPc⟩ := hp
  intro T hT X
  obtain ⟨v, vm₁, ⟨U', l2, c2, s2⟩, hW₁, X', ⟨g', mk, t, L, e1, e2, hq, h1, hL, h2, h3⟩, st⟩ := vx_callVW X hx (C := C) (hh := hh) (bytes := bytes) (maxL := maxL) (ret := ret) ho hl hin hse hcode hy hK (by rw [hT]; exact hcB) hoB hclB hg (hsize.trans hml.symm) (argsL := As) (rest := rest) (fun sig h => hn.trans (hlen sig h)) hstack hW (by rw [hb]; exact hdg)
    (fun vm₁ hW₁ => ⟨hf.1, hf.2, hPc (T.setVm vm₁) hT hW₁⟩)
  dsimp only [Pt.U, Pt.locs, Pt.cells, Pt.slots] at X' e1 e2 h1 h2 h3 st
  subst h1; subst h2; subst h3
  exact ⟨v, (T.setVm vm₁).calling g' mk (Value.ref b :: As).toArray, t, U', L, hT, X', hL, e1, e2, hq, st⟩
section
variable {y : MethodName} {bytes cc : ByteArray} {maxL nL mc ms n index : Nat} {ret : Option FieldType} {ws : List Cond} {rm : Room} {Pc : Array Value → State → Prop} {Qc : Array Value → State → Outcome → State → Prop} {XC : String → State → State → Prop} {free : Addr → Prop} {Ts : List Cond} {own C : String} {b : Addr} {As rest : List Value} {g : JFrame}
theorem vx_runVX {hh : List (Nat × Nat × Nat × Nat)} (S : CallFix p m c cc nL s args Ts own) (hM : vx_Met l y ws rm Pc Qc XC mc ms free) (cw : vx_CVW R s args own C index y bytes maxL ret hh ws rm mc ms n) (hp : PreV s H C b Pc As)
    (hg : g.method = m) (hn : As.length = n) (hsize : g.locals.size = nL) (hstack : g.stack = As.reverse ++ .ref b :: rest) (hW : 2 * g.monitorRoom + (rest.map fun v => v.category).sum ≤ 8) (hdg : decode cc g.pc = .ok (.invokevirtual index, 3)) (hf : cells + mc ≤ R.cells ∧ slots + ms ≤ R.slots) :
    vx_Run p l e R s m args below meth c H locs cells slots mc ms g rest (Qc (Value.ref b :: As).toArray) XC free := by
  obtain ⟨⟨hrc, hrs, hfr, hlo, hws, hcw⟩, hcode, hini, hy, hlen, hl, hin, hse⟩ := cw
  have hK : vx_Back l R p e below s args y 3 8 (PreOf R mc ms Pc) (PostOf Qc mc ms free) (vx_Post XC mc ms free) := vx_backW (hh := hh) (bytes := bytes) (maxL := maxL) (ret := ret) hM hp.1 hrc hrs hfr hlo hws hcw (fun a' U hW => word_at hW (Or.inl (by first | rfl | simp [Cond.onTables, Cond.keeps, Cond.steady])) hini)
  obtain ⟨hx, hb, hml, ho, -⟩ := S
  obtain ⟨-, ⟨cellB, hcB, hoB, hclB⟩, hPc⟩ := hp
  intro T hT X
  rcases vx_callVX X hx (C := C) (hh := hh) (bytes := bytes) (maxL := maxL) (ret := ret) ho hl hin hse hcode hy hK (by rw [hT]; exact hcB) hoB hclB hg (hsize.trans hml.symm) (argsL := As) (rest := rest) (fun sig h => hn.trans (hlen sig h)) hstack hW (by rw [hb]; exact hdg)
    (fun vm₁ hW₁ => ⟨hf.1, hf.2, hPc (T.setVm vm₁) hT hW₁⟩) with ⟨v, vm₁, ⟨U', l2, c2, s2⟩, hW₁, X', ⟨g', mk, t, L, e1, e2, hq, h1, hL, h2, h3⟩, st⟩ | ⟨q, vm₁, ⟨U', l2, c2, s2⟩, hW₁, X', ⟨g', mk, t, L, E, ce, e1, e2, hq, hce, hcv, hcl, h1, hL, h2, h3⟩, st⟩
  · dsimp only [Pt.U, Pt.locs, Pt.cells, Pt.slots] at X' e1 e2 h1 h2 h3 st
    subst h1; subst h2; subst h3
    exact Or.inl ⟨v, (T.setVm vm₁).calling g' mk (Value.ref b :: As).toArray, t, U', L, hT, X', hL, e1, e2, hq, st⟩
  · dsimp only [Pt.U, Pt.locs, Pt.cells, Pt.slots] at X' e1 e2 h1 h2 h3 st hcl
    subst h1; subst h2; subst h3
    exact Or.inr ⟨q, (T.setVm vm₁).calling g' mk (Value.ref b :: As).toArray, t, U', L, E, ce, hT, X', hL, e1, e2, hq, hce, hcv, vx_cls hW₁ hcl, st⟩
theorem vx_runSX {hh : List (Nat × Nat × Nat × Nat)} (S : CallFix p m c cc nL s args Ts own) (hM : vx_Met l y ws rm Pc Qc XC mc ms free) (cw : vx_CSW R s args own index y bytes maxL ret hh ws rm mc ms n) (hp : PreS s H Pc As)
    (hg : g.method = m) (hn : As.length = n) (hsize : g.locals.size = nL) (hstack : g.stack = As.reverse ++ rest) (hW : 2 * g.monitorRoom + (rest.map fun v => v.category).sum ≤ 8) (hdg : decode cc g.pc = .ok (.invokestatic index, 3)) (hf : cells + mc ≤ R.cells ∧ slots + ms ≤ R.slots) :
    vx_Run p l e R s m args below meth c H locs cells slots mc ms g rest (Qc As.toArray) XC free := by
  obtain ⟨⟨hrc, hrs, hfr, hlo, hws, hcw⟩, hcode, hini, hy, hlen, hl, hstt⟩ := cw
  have hK : vx_Back l R p e below s args y 3 8 (PreOf R mc ms Pc) (PostOf Qc mc ms free) (vx_Post XC mc ms free) := vx_backW (hh := hh) (bytes := bytes) (maxL := maxL) (ret := ret) hM hp.1 hrc hrs hfr hlo hws hcw (fun a' U hW => word_at hW (Or.inl (by first | rfl | simp [Cond.onTables, Cond.keeps, Cond.steady])) hini)
  obtain ⟨hx, hb, hml, ho, -⟩ := S
  intro T hT X
  rcases vx_callSX X hx (hh := hh) (bytes := bytes) (maxL := maxL) (ret := ret) ho hl hstt hini hcode hy hK hg (hsize.trans hml.symm) (argsL := As) (rest := rest) (fun sig h => hn.trans (hlen sig h)) hstack hW (by rw [hb]; exact hdg)
    (fun vm₁ hW₁ => ⟨hf.1, hf.2, hp.2 (T.setVm vm₁) hT hW₁⟩) with ⟨v, vm₁, ⟨U', l2, c2, s2⟩, hW₁, X', ⟨g', mk, t, L, e1, e2, hq, h1, hL, h2, h3⟩, st⟩ | ⟨q, vm₁, ⟨U', l2, c2, s2⟩, hW₁, X', ⟨g', mk, t, L, E, ce, e1, e2, hq, hce, hcv, hcl, h1, hL, h2, h3⟩, st⟩
  · dsimp only [Pt.U, Pt.locs, Pt.cells, Pt.slots] at X' e1 e2 h1 h2 h3 st
    subst h1; subst h2; subst h3
    exact Or.inl ⟨v, (T.setVm vm₁).calling g' mk As.toArray, t, U', L, hT, X', hL, e1, e2, hq, st⟩
  · dsimp only [Pt.U, Pt.locs, Pt.cells, Pt.slots] at X' e1 e2 h1 h2 h3 st hcl
    subst h1; subst h2; subst h3
    exact Or.inr ⟨q, (T.setVm vm₁).calling g' mk As.toArray, t, U', L, E, ce, hT, X', hL, e1, e2, hq, hce, hcv, vx_cls hW₁ hcl, st⟩
end
end VXH
theorem vx_ofWH {l : Launch} {y : MethodName} {ws ws' : List Cond} {rm : Room} {Pc : Array Value → State → Prop} {Qc : Array Value → State → Outcome → State → Prop} {XC : String → State → State → Prop} {mc ms : Nat} {free : Addr → Prop} {cc : ByteArray} {maxL : Nat} {ret : Option FieldType} {hh : List (Nat × Nat × Nat × Nat)}
    (hy : plainName y.cls = true) (hw : ws = Cond.codeWith y cc maxL ret hh :: ws')
    (body : ∀ p e s m args below meth c s₁, BodyLoose p l y (headSpec ws rm) cc maxL ret e s m args below meth c s₁ → c.maxLocals = maxL → Pc args s →
      W p l e (headSpec ws rm).room s m args below meth c s.heap [] 0 0 (vx_MQ below Qc XC args s mc ms free) (entryFrame m args maxL)) : vx_Met l y ws rm Pc Qc XC mc ms free := by
  refine MetFree.of_bodyS (code := cc) (maxLocals := maxL) (ret := ret) hy ?_ ?_
  · intro args s m h hn
    obtain ⟨m9, meth, c, hn9, h1, h2, h3, h4, -, h5, h6, -⟩ := Cond.codeWith_spec (atoms_spec (ws := ws) h _ (by rw [hw]; exact List.mem_cons_self))
    cases hn.symm.trans hn9
    exact ⟨meth, c, h1, h2, h3, h4, h5, h6⟩
  · intro p e s m args below meth c s₁ B hml hP _
    have hh0 : s₁.heap = s.heap := by rw [B.state]; rfl
    obtain ⟨t, a1, o, b1, b2, b3⟩ := body p e s m args below meth c s₁ B hml hP s₁ hh0 (Stand.of_body B)
    exact ⟨t, o, a1, b1, b2, b3⟩
/-! ===== END ===== -/
end
section
/-! Printed by wip/whole/gen.py: the classes and their fields, the words, the methods with their tables. -/
def fT_Bo : u_T := fun k => match k with
  | 0 => ("PegBoards$Board", "numbers", "[I", true)
  | 1 => ("PegBoards$Board", "rows", "[I", true)
  | 2 => ("PegBoards$Board", "columns", "[I", true)
  | 3 => ("PegBoards$Board", "triangular", "Z", false)
  | 4 => ("PegBoards$Board", "frozen", "Z", false)
  | _ => ("PegBoards$Board", "drawn", "I", false)
def fT_Fo : u_T := fun k => match k with
  | 0 => ("PegBoards$Found", "positions", "[I", true)
  | 1 => ("PegBoards$Found", "slots", "[I", true)
  | _ => ("PegBoards$Found", "size", "I", false)
def fT_Ju : u_T := fun k => match k with
  | 0 => ("PegBoards$Jumps", "froms", "[I", true)
  | 1 => ("PegBoards$Jumps", "overs", "[I", true)
  | 2 => ("PegBoards$Jumps", "tos", "[I", true)
  | 3 => ("PegBoards$Jumps", "pegs", "[I", true)
  | 4 => ("PegBoards$Jumps", "touched", "[I", true)
  | _ => ("PegBoards$Jumps", "size", "I", false)
def fT_Re : u_T := fun k => match k with
  | 0 => ("PegBoards$Reaching", "found", "LPegBoards$Found;", true)
  | 1 => ("PegBoards$Reaching", "leasts", "LPegBoards$Found;", true)
  | 2 => ("PegBoards$Reaching", "cameFrom", "[I", true)
  | 3 => ("PegBoards$Reaching", "cameBy", "[I", true)
  | 4 => ("PegBoards$Reaching", "fewest", "[I", true)
  | 5 => ("PegBoards$Reaching", "lastHoles", "[I", true)
  | _ => ("PegBoards$Reaching", "limitMet", "Z", false)
def fT_Sy : u_T := fun k => match k with
  | 0 => ("PegBoards$Symmetries", "taken", "[[I", true)
  | 1 => ("PegBoards$Symmetries", "imageRows", "[I", true)
  | 2 => ("PegBoards$Symmetries", "imageColumns", "[I", true)
  | 3 => ("PegBoards$Symmetries", "holes", "I", false)
  | _ => ("PegBoards$Symmetries", "size", "I", false)
def fT_We : u_T := fun k => match k with
  | 0 => ("PegBoards$Weights", "kept", "[I", true)
  | _ => ("PegBoards$Weights", "tried", "[I", true)
def fT_Pe : u_T := fun k => match k with
  | 0 => ("PegBoards", "board", "LPegBoards$Board;", true)
  | 1 => ("PegBoards", "jumps", "LPegBoards$Jumps;", true)
  | 2 => ("PegBoards", "images", "LPegBoards$Symmetries;", true)
  | 3 => ("PegBoards", "reaching", "LPegBoards$Reaching;", true)
  | 4 => ("PegBoards", "weighing", "LPegBoards$Weights;", true)
  | 5 => ("PegBoards", "start", "I", false)
  | _ => ("PegBoards", "goal", "I", false)
def fT_Mo : u_T := fun k => match k with
  | 0 => ("PegBoardsModel", "code", "I", false)
  | 1 => ("PegBoardsModel", "triangular", "Z", false)
  | 2 => ("PegBoardsModel", "frozen", "Z", false)
  | 3 => ("PegBoardsModel", "holes", "I", false)
  | 4 => ("PegBoardsModel", "drawn", "[Z", true)
  | 5 => ("PegBoardsModel", "numbers", "[I", true)
  | 6 => ("PegBoardsModel", "rows", "[I", true)
  | 7 => ("PegBoardsModel", "columns", "[I", true)
  | 8 => ("PegBoardsModel", "jumps", "I", false)
  | 9 => ("PegBoardsModel", "from", "[I", true)
  | 10 => ("PegBoardsModel", "over", "[I", true)
  | 11 => ("PegBoardsModel", "to", "[I", true)
  | 12 => ("PegBoardsModel", "images", "I", false)
  | 13 => ("PegBoardsModel", "image", "[I", true)
  | 14 => ("PegBoardsModel", "newRows", "[I", true)
  | 15 => ("PegBoardsModel", "newColumns", "[I", true)
  | 16 => ("PegBoardsModel", "begin", "I", false)
  | 17 => ("PegBoardsModel", "end", "I", false)
  | 18 => ("PegBoardsModel", "weight", "[I", true)
  | 19 => ("PegBoardsModel", "trial", "[I", true)
  | 20 => ("PegBoardsModel", "found", "I", false)
  | 21 => ("PegBoardsModel", "position", "[I", true)
  | 22 => ("PegBoardsModel", "parent", "[I", true)
  | 23 => ("PegBoardsModel", "via", "[I", true)
  | 24 => ("PegBoardsModel", "open", "[I", true)
  | 25 => ("PegBoardsModel", "fewest", "[I", true)
  | 26 => ("PegBoardsModel", "kinds", "I", false)
  | _ => ("PegBoardsModel", "kind", "[I", true)
abbrev vwCl : List vw_C := [("PegBoards$Board", fT_Bo, 6), ("PegBoards$Found", fT_Fo, 3), ("PegBoards$Jumps", fT_Ju, 6), ("PegBoards$Reaching", fT_Re, 7), ("PegBoards$Symmetries", fT_Sy, 5), ("PegBoards$Weights", fT_We, 2), ("PegBoards", fT_Pe, 7), ("PegBoardsModel", fT_Mo, 28)]
theorem mx_ty : ∀ (ci : Nat) (C : String) (T0 : u_T) (N : Nat), vwCl[ci]? = some (C, T0, N) → ∃ ty0 : Nat → FieldType, (∀ k, k < N → parseFieldDescriptor (T0 k).2.2.1 = some (ty0 k)) ∧ ∀ a, a < N → ∀ b, b < N → a ≠ b → (T0 a).2.1 ≠ (T0 b).2.1 := by
  intro ci C T0 N h
  refine ⟨fun k => (parseFieldDescriptor (T0 k).2.2.1).getD .int, ?_⟩
  match ci, h with
  | 0, h => cases h; exact ⟨by decide +kernel, by decide +kernel⟩
  | 1, h => cases h; exact ⟨by decide +kernel, by decide +kernel⟩
  | 2, h => cases h; exact ⟨by decide +kernel, by decide +kernel⟩
  | 3, h => cases h; exact ⟨by decide +kernel, by decide +kernel⟩
  | 4, h => cases h; exact ⟨by decide +kernel, by decide +kernel⟩
  | 5, h => cases h; exact ⟨by decide +kernel, by decide +kernel⟩
  | 6, h => cases h; exact ⟨by decide +kernel, by decide +kernel⟩
  | 7, h => cases h; exact ⟨by decide +kernel, by decide +kernel⟩
  | k + 8, h => cases h
def mx_WS : List Cond := lw_tbl.filter goodWord
def mx_nk (w : Cond) : Bool := match w with
  | .methodLinkNest _ _ _ _ => true
  | .fieldLinkNest _ _ _ _ _ _ => true
  | .declares _ => true
  | .castable _ _ => true
  | _ => false
def mx_NW : List Cond := lw_tbl.filter mx_nk
def mx_SR : List (String × Nat × String) := [("PegBoards", 66, "no such place"), ("PegBoards", 76, "no hole can be drawn there now"), ("PegBoards", 87, "the board is frozen or has no hole"), ("PegBoards", 215, "no such jump"), ("PegBoards", 120, "no such part of a jump"), ("PegBoards", 213, "the position has a hole that there is none"), ("PegBoards", 208, "the board is not frozen"), ("PegBoards", 199, "no such limit"), ("PegBoards", 152, "no such symmetry"), ("PegBoards", 217, "no such hole"), ("PegBoards", 172, "no such weight"), ("PegBoards", 185, "less than 0"), ("PegBoards", 193, "too many holes to try weights")]
def mx_NC : List (String × String) := [("java/lang/IllegalArgumentException", "java/lang/IllegalStateException"), ("java/lang/IllegalArgumentException", "java/lang/IndexOutOfBoundsException"), ("java/lang/IllegalStateException", "java/lang/IllegalArgumentException"), ("java/lang/IllegalStateException", "java/lang/IndexOutOfBoundsException"), ("java/lang/IndexOutOfBoundsException", "java/lang/IllegalArgumentException"), ("java/lang/IndexOutOfBoundsException", "java/lang/IllegalStateException")]
def mx_SA : List String := ["SQUARE_ROW_STEPS", "SQUARE_COLUMN_STEPS", "TRIANGULAR_ROW_STEPS", "TRIANGULAR_COLUMN_STEPS"]
end
section
/-! What a method is, and what its tables and call sites ask of the words. -/
section MY
/-- fl: a field by its number in the pool: the class's number, the place, 0: read alone, 1: an int is written, 2: a boolean -/
abbrev mx_F : Type := List (Nat × Nat × Nat × Nat)
abbrev mx_B : Type := List (Nat × Instr × Nat)
/-- a method: name, bytes, number of locals, what it returns, whose it is, its handlers, its words -/
abbrev mx_Y : Type := MethodName × ByteArray × Nat × Option FieldType × String × List (Nat × Nat × Nat × Nat) × List Cond
abbrev mx_nm (Y : mx_Y) : MethodName := Y.1
abbrev mx_bs (Y : mx_Y) : ByteArray := Y.2.1
abbrev mx_ml (Y : mx_Y) : Nat := Y.2.2.1
abbrev mx_rt (Y : mx_Y) : Option FieldType := Y.2.2.2.1
abbrev mx_ow (Y : mx_Y) : String := Y.2.2.2.2.1
abbrev mx_hh (Y : mx_Y) : List (Nat × Nat × Nat × Nat) := Y.2.2.2.2.2.1
abbrev mx_ws (Y : mx_Y) : List Cond := Y.2.2.2.2.2.2
/-- fields by the pool: right, and written only as they may be -/
def mx_fo (own : String) (f : Nat × Nat × Nat × Nat) : Bool := match vwCl[f.2.1]? with
  | some q => decide (f.2.2.1 < q.2.2) && decide ((q.2.1 f.2.2.1).1 = q.1) && decide (Cond.fieldLink own f.1 q.1 (q.2.1 f.2.2.1).2.1 (q.2.1 f.2.2.1).2.2.1 ∈ mx_WS) && (u_ws q.1 q.2.1 q.2.2).all (fun w => decide (w ∈ mx_WS)) &&
    (decide (f.2.2.2 = 0) || (!(q.2.1 f.2.2.1).2.2.2 && decide (parseFieldDescriptor (q.2.1 f.2.2.1).2.2.1 = some (if f.2.2.2 = 2 then .boolean else .int))))
  | none => false
def mx_ok (Y : mx_Y) (fl : mx_F) (tab : mx_B) : Prop := (∀ x ∈ tab, decode (mx_bs Y) x.1 = .ok (x.2.1, x.2.2)) ∧ fl.all (mx_fo (mx_ow Y)) = true ∧ ∀ w ∈ mx_WS, w ∈ mx_ws Y
/-- what a call's site asks of the words -/
def mx_cdb (Y' : mx_Y) (n : Nat) : Bool := decide (Cond.initialized (mx_nm Y').cls ∈ mx_WS) && decide (Cond.code (mx_nm Y') (mx_bs Y') (mx_ml Y') (mx_rt Y') ∈ mx_WS) && decide ((mx_nm Y').cls ≠ "java/lang/invoke/MethodHandle") && decide ((mx_nm Y').cls ≠ "java/lang/invoke/VarHandle") && decide ((parseMethodDescriptor (mx_nm Y').desc).map (fun d => d.parameters.length) = some n) && decide (mx_ml Y' ≤ 40)
def mx_cvb (own : String) (idx : Nat) (Y' : mx_Y) : Bool := decide (Cond.methodLink own idx (mx_nm Y') ∈ mx_WS) && decide (Cond.instanceMethod (mx_nm Y') ∈ mx_WS) && decide (Cond.selects (mx_nm Y').cls (mx_nm Y') (mx_nm Y') ∈ mx_WS)
def mx_csb (own : String) (idx : Nat) (Y' : mx_Y) : Bool := decide (Cond.methodLink own idx (mx_nm Y') ∈ mx_WS) && decide (Cond.static (mx_nm Y') ∈ mx_WS)
def mx_cnb (own : String) (idx : Nat) (Y' : mx_Y) : Bool := decide (Cond.methodLinkNest own idx (mx_nm Y') "PegBoards" ∈ mx_NW) && decide (Cond.static (mx_nm Y') ∈ mx_WS)
end MY
end
section
/-! Printed by wip/whole/gen.py: field pools, instruction tables and records of the methods. -/
def mf_Bo : mx_F := [(9, 0, 0, 0), (15, 0, 1, 0), (18, 0, 2, 0), (27, 0, 3, 2), (31, 0, 4, 2), (34, 0, 5, 1)]
theorem mf_Bo_ok : mf_Bo.all (mx_fo "PegBoards$Board") = true := by decide +kernel
def mf_Fo : mx_F := [(9, 1, 0, 0), (15, 1, 1, 0), (24, 1, 2, 1)]
theorem mf_Fo_ok : mf_Fo.all (mx_fo "PegBoards$Found") = true := by decide +kernel
def mf_Ju : mx_F := [(9, 2, 0, 0), (15, 2, 1, 0), (18, 2, 2, 0), (21, 2, 3, 0), (24, 2, 4, 0), (27, 2, 5, 1)]
theorem mf_Ju_ok : mf_Ju.all (mx_fo "PegBoards$Jumps") = true := by decide +kernel
def mf_Re : mx_F := [(12, 3, 0, 0), (18, 3, 1, 0), (21, 3, 2, 0), (25, 3, 3, 0), (28, 3, 4, 0), (31, 3, 5, 0), (37, 3, 6, 2)]
theorem mf_Re_ok : mf_Re.all (mx_fo "PegBoards$Reaching") = true := by decide +kernel
def mf_Sy : mx_F := [(11, 4, 0, 0), (16, 4, 1, 0), (20, 4, 2, 0), (37, 4, 3, 1), (23, 4, 4, 1)]
theorem mf_Sy_ok : mf_Sy.all (mx_fo "PegBoards$Symmetries") = true := by decide +kernel
def mf_We : mx_F := [(9, 5, 0, 0), (15, 5, 1, 0)]
theorem mf_We_ok : mf_We.all (mx_fo "PegBoards$Weights") = true := by decide +kernel
def mf_Pe : mx_F := [(12, 6, 0, 0), (19, 6, 1, 0), (26, 6, 2, 0), (33, 6, 3, 0), (40, 6, 4, 0), (53, 6, 5, 1), (57, 6, 6, 1)]
theorem mf_Pe_ok : mf_Pe.all (mx_fo "PegBoards") = true := by decide +kernel
def mf_Mo : mx_F := [(65, 7, 0, 1), (69, 7, 1, 2), (73, 7, 2, 2), (76, 7, 3, 1), (7, 7, 4, 0), (13, 7, 5, 0), (17, 7, 6, 0), (20, 7, 7, 0), (79, 7, 8, 1), (23, 7, 9, 0), (26, 7, 10, 0), (29, 7, 11, 0), (82, 7, 12, 1), (32, 7, 13, 0), (35, 7, 14, 0), (38, 7, 15, 0), (85, 7, 16, 1), (88, 7, 17, 1), (41, 7, 18, 0), (44, 7, 19, 0), (129, 7, 20, 1), (47, 7, 21, 0), (50, 7, 22, 0), (53, 7, 23, 0), (56, 7, 24, 0), (59, 7, 25, 0), (155, 7, 26, 1), (62, 7, 27, 0)]
theorem mf_Mo_ok : mf_Mo.all (mx_fo "PegBoardsModel") = true := by decide +kernel
def mf_La : mx_F := []
theorem mf_La_ok : mf_La.all (mx_fo "PegBoardsLaw") = true := by decide +kernel
def mf_Ar : mx_F := []
theorem mf_Ar_ok : mf_Ar.all (mx_fo "java/util/Arrays") = true := by decide +kernel
def mf_In : mx_F := []
theorem mf_In_ok : mf_In.all (mx_fo "java/lang/Integer") = true := by decide +kernel
def mf_Ma : mx_F := []
theorem mf_Ma_ok : mf_Ma.all (mx_fo "java/lang/Math") = true := by decide +kernel
def mt_Ar_fill : mx_B := [(0, .iconst 0, 1), (1, .istore_n 2, 1), (2, .aload_n 0, 1), (3, .arraylength, 1), (4, .istore_n 3, 1), (5, .iload_n 2, 1), (6, .iload_n 3, 1), (7, .if_icmp .ge 13, 3), (10, .aload_n 0, 1), (11, .iload_n 2, 1), (12, .iload_n 1, 1), (13, .iastore, 1), (14, .iinc 2 1, 3), (17, .goto (-12), 3), (20, .return_, 1)]
theorem mt_Ar_fill_ok : ∀ x ∈ mt_Ar_fill, decode prog_20_method_103_code x.1 = .ok (x.2.1, x.2.2) := by decide +kernel
abbrev mY_Ar_fill : mx_Y := (⟨"java/util/Arrays", "fill", "([II)V"⟩, prog_20_method_103_code, 4, none, "java/util/Arrays", [], Cond.code ⟨"java/util/Arrays", "fill", "([II)V"⟩ prog_20_method_103_code 4 none :: mx_WS)
theorem mo_Ar_fill : mx_ok mY_Ar_fill mf_Ar mt_Ar_fill := ⟨mt_Ar_fill_ok, mf_Ar_ok, fun w h => List.mem_cons_of_mem _ h⟩
def mt_Pe_clear : mx_B := [(0, .aload_n 0, 1), (1, .getfield 12, 3), (4, .iload_n 1, 1), (5, .invokevirtual 44, 3), (8, .aload_n 0, 1), (9, .getfield 19, 3), (12, .invokevirtual 48, 3), (15, .aload_n 0, 1), (16, .getfield 26, 3), (19, .invokevirtual 51, 3), (22, .aload_n 0, 1), (23, .getfield 40, 3), (26, .invokevirtual 52, 3), (29, .aload_n 0, 1), (30, .iconst 0, 1), (31, .putfield 53, 3), (34, .aload_n 0, 1), (35, .iconst 0, 1), (36, .putfield 57, 3), (39, .return_, 1)]
theorem mt_Pe_clear_ok : ∀ x ∈ mt_Pe_clear, decode prog_1_method_2_code x.1 = .ok (x.2.1, x.2.2) := by decide +kernel
abbrev mY_Pe_clear : mx_Y := (⟨"PegBoards", "clear", "(Z)V"⟩, prog_1_method_2_code, 2, none, "PegBoards", [], Cond.code ⟨"PegBoards", "clear", "(Z)V"⟩ prog_1_method_2_code 2 none :: mx_WS)
theorem mo_Pe_clear : mx_ok mY_Pe_clear mf_Pe mt_Pe_clear := ⟨mt_Pe_clear_ok, mf_Pe_ok, fun w h => List.mem_cons_of_mem _ h⟩
def mt_Bo_wipe : mx_B := [(0, .aload_n 0, 1), (1, .getfield 9, 3), (4, .iconst (-1), 1), (5, .invokestatic 21, 3), (8, .aload_n 0, 1), (9, .iload_n 1, 1), (10, .putfield 27, 3), (13, .aload_n 0, 1), (14, .iconst 0, 1), (15, .putfield 31, 3), (18, .aload_n 0, 1), (19, .iconst 0, 1), (20, .putfield 34, 3), (23, .return_, 1)]
theorem mt_Bo_wipe_ok : ∀ x ∈ mt_Bo_wipe, decode prog_2_method_2_code x.1 = .ok (x.2.1, x.2.2) := by decide +kernel
abbrev mY_Bo_wipe : mx_Y := (⟨"PegBoards$Board", "wipe", "(Z)V"⟩, prog_2_method_2_code, 2, none, "PegBoards$Board", [], Cond.code ⟨"PegBoards$Board", "wipe", "(Z)V"⟩ prog_2_method_2_code 2 none :: mx_WS)
theorem mo_Bo_wipe : mx_ok mY_Bo_wipe mf_Bo mt_Bo_wipe := ⟨mt_Bo_wipe_ok, mf_Bo_ok, fun w h => List.mem_cons_of_mem _ h⟩
def mt_Ju_forget : mx_B := [(0, .aload_n 0, 1), (1, .iconst 0, 1), (2, .putfield 27, 3), (5, .return_, 1)]
theorem mt_Ju_forget_ok : ∀ x ∈ mt_Ju_forget, decode prog_4_method_2_code x.1 = .ok (x.2.1, x.2.2) := by decide +kernel
abbrev mY_Ju_forget : mx_Y := (⟨"PegBoards$Jumps", "forget", "()V"⟩, prog_4_method_2_code, 1, none, "PegBoards$Jumps", [], Cond.code ⟨"PegBoards$Jumps", "forget", "()V"⟩ prog_4_method_2_code 1 none :: mx_WS)
theorem mo_Ju_forget : mx_ok mY_Ju_forget mf_Ju mt_Ju_forget := ⟨mt_Ju_forget_ok, mf_Ju_ok, fun w h => List.mem_cons_of_mem _ h⟩
def mt_Sy_forget : mx_B := [(0, .aload_n 0, 1), (1, .iconst 0, 1), (2, .putfield 23, 3), (5, .return_, 1)]
theorem mt_Sy_forget_ok : ∀ x ∈ mt_Sy_forget, decode prog_6_method_2_code x.1 = .ok (x.2.1, x.2.2) := by decide +kernel
abbrev mY_Sy_forget : mx_Y := (⟨"PegBoards$Symmetries", "forget", "()V"⟩, prog_6_method_2_code, 1, none, "PegBoards$Symmetries", [], Cond.code ⟨"PegBoards$Symmetries", "forget", "()V"⟩ prog_6_method_2_code 1 none :: mx_WS)
theorem mo_Sy_forget : mx_ok mY_Sy_forget mf_Sy mt_Sy_forget := ⟨mt_Sy_forget_ok, mf_Sy_ok, fun w h => List.mem_cons_of_mem _ h⟩
def mt_We_forget : mx_B := [(0, .aload_n 0, 1), (1, .getfield 9, 3), (4, .iconst 0, 1), (5, .invokestatic 18, 3), (8, .return_, 1)]
theorem mt_We_forget_ok : ∀ x ∈ mt_We_forget, decode prog_7_method_2_code x.1 = .ok (x.2.1, x.2.2) := by decide +kernel
abbrev mY_We_forget : mx_Y := (⟨"PegBoards$Weights", "forget", "()V"⟩, prog_7_method_2_code, 1, none, "PegBoards$Weights", [], Cond.code ⟨"PegBoards$Weights", "forget", "()V"⟩ prog_7_method_2_code 1 none :: mx_WS)
theorem mo_We_forget : mx_ok mY_We_forget mf_We mt_We_forget := ⟨mt_We_forget_ok, mf_We_ok, fun w h => List.mem_cons_of_mem _ h⟩
def mt_Pe_at : mx_B := [(0, .aload_n 0, 1), (1, .getfield 12, 3), (4, .iload_n 1, 1), (5, .iload_n 2, 1), (6, .invokevirtual 101, 3), (9, .ireturn, 1)]
theorem mt_Pe_at_ok : ∀ x ∈ mt_Pe_at, decode prog_1_method_5_code x.1 = .ok (x.2.1, x.2.2) := by decide +kernel
abbrev mY_Pe_at : mx_Y := (⟨"PegBoards", "at", "(II)I"⟩, prog_1_method_5_code, 3, (some .int), "PegBoards", [], Cond.code ⟨"PegBoards", "at", "(II)I"⟩ prog_1_method_5_code 3 (some .int) :: mx_WS)
theorem mo_Pe_at : mx_ok mY_Pe_at mf_Pe mt_Pe_at := ⟨mt_Pe_at_ok, mf_Pe_ok, fun w h => List.mem_cons_of_mem _ h⟩
def mt_Bo_numberAt : mx_B := [(0, .aload_n 0, 1), (1, .getfield 31, 3), (4, .ifCond .eq 25, 3), (7, .iload_n 1, 1), (8, .iload_n 2, 1), (9, .invokestatic 42, 3), (12, .ifCond .eq 17, 3), (15, .aload_n 0, 1), (16, .getfield 9, 3), (19, .iload_n 1, 1), (20, .bipush 8, 2), (22, .imul, 1), (23, .iload_n 2, 1), (24, .iadd, 1), (25, .iaload, 1), (26, .goto 4, 3), (29, .iconst (-1), 1), (30, .ireturn, 1)]
theorem mt_Bo_numberAt_ok : ∀ x ∈ mt_Bo_numberAt, decode prog_2_method_11_code x.1 = .ok (x.2.1, x.2.2) := by decide +kernel
abbrev mY_Bo_numberAt : mx_Y := (⟨"PegBoards$Board", "numberAt", "(II)I"⟩, prog_2_method_11_code, 3, (some .int), "PegBoards$Board", [], Cond.code ⟨"PegBoards$Board", "numberAt", "(II)I"⟩ prog_2_method_11_code 3 (some .int) :: mx_WS)
theorem mo_Bo_numberAt : mx_ok mY_Bo_numberAt mf_Bo mt_Bo_numberAt := ⟨mt_Bo_numberAt_ok, mf_Bo_ok, fun w h => List.mem_cons_of_mem _ h⟩
def mt_Pe_isPlace : mx_B := [(0, .iload_n 0, 1), (1, .ifCond .lt 23, 3), (4, .iload_n 0, 1), (5, .bipush 8, 2), (7, .if_icmp .ge 17, 3), (10, .iload_n 1, 1), (11, .ifCond .lt 13, 3), (14, .iload_n 1, 1), (15, .bipush 8, 2), (17, .if_icmp .ge 7, 3), (20, .iconst 1, 1), (21, .goto 4, 3), (24, .iconst 0, 1), (25, .ireturn, 1)]
theorem mt_Pe_isPlace_ok : ∀ x ∈ mt_Pe_isPlace, decode prog_1_method_26_code x.1 = .ok (x.2.1, x.2.2) := by decide +kernel
abbrev mY_Pe_isPlace : mx_Y := (⟨"PegBoards", "isPlace", "(II)Z"⟩, prog_1_method_26_code, 2, (some .boolean), "PegBoards", [], Cond.code ⟨"PegBoards", "isPlace", "(II)Z"⟩ prog_1_method_26_code 2 (some .boolean) :: mx_WS)
theorem mo_Pe_isPlace : mx_ok mY_Pe_isPlace mf_Pe mt_Pe_isPlace := ⟨mt_Pe_isPlace_ok, mf_Pe_ok, fun w h => List.mem_cons_of_mem _ h⟩
def mt_Pe_symmetries : mx_B := [(0, .aload_n 0, 1), (1, .getfield 26, 3), (4, .invokevirtual 151, 3), (7, .ireturn, 1)]
theorem mt_Pe_symmetries_ok : ∀ x ∈ mt_Pe_symmetries, decode prog_1_method_14_code x.1 = .ok (x.2.1, x.2.2) := by decide +kernel
abbrev mY_Pe_symmetries : mx_Y := (⟨"PegBoards", "symmetries", "()I"⟩, prog_1_method_14_code, 1, (some .int), "PegBoards", [], Cond.code ⟨"PegBoards", "symmetries", "()I"⟩ prog_1_method_14_code 1 (some .int) :: mx_WS)
theorem mo_Pe_symmetries : mx_ok mY_Pe_symmetries mf_Pe mt_Pe_symmetries := ⟨mt_Pe_symmetries_ok, mf_Pe_ok, fun w h => List.mem_cons_of_mem _ h⟩
def mt_Sy_size : mx_B := [(0, .aload_n 0, 1), (1, .getfield 23, 3), (4, .ireturn, 1)]
theorem mt_Sy_size_ok : ∀ x ∈ mt_Sy_size, decode prog_6_method_8_code x.1 = .ok (x.2.1, x.2.2) := by decide +kernel
abbrev mY_Sy_size : mx_Y := (⟨"PegBoards$Symmetries", "size", "()I"⟩, prog_6_method_8_code, 1, (some .int), "PegBoards$Symmetries", [], Cond.code ⟨"PegBoards$Symmetries", "size", "()I"⟩ prog_6_method_8_code 1 (some .int) :: mx_WS)
theorem mo_Sy_size : mx_ok mY_Sy_size mf_Sy mt_Sy_size := ⟨mt_Sy_size_ok, mf_Sy_ok, fun w h => List.mem_cons_of_mem _ h⟩
def mt_La_hole : mx_B := [(0, .aload_n 3, 1), (1, .iconst 0, 1), (2, .aload_n 0, 1), (3, .iload_n 1, 1), (4, .iload_n 2, 1), (5, .invokevirtual 7, 3), (8, .i2l, 1), (9, .lastore, 1), (10, .goto 11, 3), (13, .astore 4, 2), (15, .iconst 1, 1), (16, .ireturn, 1), (17, .astore 4, 2), (19, .iconst 2, 1), (20, .ireturn, 1), (21, .iconst 0, 1), (22, .ireturn, 1)]
theorem mt_La_hole_ok : ∀ x ∈ mt_La_hole, decode method_3_code x.1 = .ok (x.2.1, x.2.2) := by decide +kernel
abbrev mY_La_hole : mx_Y := (⟨"PegBoardsLaw", "hole", "(LPegBoards;II[J)I"⟩, method_3_code, 5, (some .int), "PegBoardsLaw", [(0, 10, 13, 13), (0, 10, 17, 15)], Cond.codeWith ⟨"PegBoardsLaw", "hole", "(LPegBoards;II[J)I"⟩ method_3_code 5 (some .int) [(0, 10, 13, 13), (0, 10, 17, 15)] :: mx_WS)
theorem mo_La_hole : mx_ok mY_La_hole mf_La mt_La_hole := ⟨mt_La_hole_ok, mf_La_ok, fun w h => List.mem_cons_of_mem _ h⟩
def mt_Pe_hole : mx_B := [(0, .iload_n 1, 1), (1, .iload_n 2, 1), (2, .invokestatic 60, 3), (5, .ifCond .ne 13, 3), (8, .new 64, 3), (11, .dup, 1), (12, .ldc 66, 2), (14, .invokespecial 68, 3), (17, .athrow, 1), (18, .aload_n 0, 1), (19, .getfield 12, 3), (22, .iload_n 1, 1), (23, .iload_n 2, 1), (24, .invokevirtual 71, 3), (27, .ifCond .ne 13, 3), (30, .new 74, 3), (33, .dup, 1), (34, .ldc 76, 2), (36, .invokespecial 78, 3), (39, .athrow, 1), (40, .aload_n 0, 1), (41, .getfield 12, 3), (44, .iload_n 1, 1), (45, .iload_n 2, 1), (46, .invokevirtual 79, 3), (49, .ireturn, 1)]
theorem mt_Pe_hole_ok : ∀ x ∈ mt_Pe_hole, decode prog_1_method_3_code x.1 = .ok (x.2.1, x.2.2) := by decide +kernel
abbrev mY_Pe_hole : mx_Y := (⟨"PegBoards", "hole", "(II)I"⟩, prog_1_method_3_code, 3, (some .int), "PegBoards", [], Cond.code ⟨"PegBoards", "hole", "(II)I"⟩ prog_1_method_3_code 3 (some .int) :: mx_WS)
theorem mo_Pe_hole : mx_ok mY_Pe_hole mf_Pe mt_Pe_hole := ⟨mt_Pe_hole_ok, mf_Pe_ok, fun w h => List.mem_cons_of_mem _ h⟩
def mt_Bo_canDraw : mx_B := [(0, .aload_n 0, 1), (1, .getfield 31, 3), (4, .ifCond .ne 31, 3), (7, .aload_n 0, 1), (8, .getfield 34, 3), (11, .bipush 20, 2), (13, .if_icmp .ge 22, 3), (16, .aload_n 0, 1), (17, .getfield 9, 3), (20, .iload_n 1, 1), (21, .bipush 8, 2), (23, .imul, 1), (24, .iload_n 2, 1), (25, .iadd, 1), (26, .iaload, 1), (27, .iconst (-1), 1), (28, .if_icmp .ne 7, 3), (31, .iconst 1, 1), (32, .goto 4, 3), (35, .iconst 0, 1), (36, .ireturn, 1)]
theorem mt_Bo_canDraw_ok : ∀ x ∈ mt_Bo_canDraw, decode prog_2_method_3_code x.1 = .ok (x.2.1, x.2.2) := by decide +kernel
abbrev mY_Bo_canDraw : mx_Y := (⟨"PegBoards$Board", "canDraw", "(II)Z"⟩, prog_2_method_3_code, 3, (some .boolean), "PegBoards$Board", [], Cond.code ⟨"PegBoards$Board", "canDraw", "(II)Z"⟩ prog_2_method_3_code 3 (some .boolean) :: mx_WS)
theorem mo_Bo_canDraw : mx_ok mY_Bo_canDraw mf_Bo mt_Bo_canDraw := ⟨mt_Bo_canDraw_ok, mf_Bo_ok, fun w h => List.mem_cons_of_mem _ h⟩
def mt_Bo_draw : mx_B := [(0, .aload_n 0, 1), (1, .getfield 9, 3), (4, .iload_n 1, 1), (5, .bipush 8, 2), (7, .imul, 1), (8, .iload_n 2, 1), (9, .iadd, 1), (10, .iconst 0, 1), (11, .iastore, 1), (12, .aload_n 0, 1), (13, .dup, 1), (14, .getfield 34, 3), (17, .iconst 1, 1), (18, .iadd, 1), (19, .putfield 34, 3), (22, .aload_n 0, 1), (23, .getfield 34, 3), (26, .ireturn, 1)]
theorem mt_Bo_draw_ok : ∀ x ∈ mt_Bo_draw, decode prog_2_method_4_code x.1 = .ok (x.2.1, x.2.2) := by decide +kernel
abbrev mY_Bo_draw : mx_Y := (⟨"PegBoards$Board", "draw", "(II)I"⟩, prog_2_method_4_code, 3, (some .int), "PegBoards$Board", [], Cond.code ⟨"PegBoards$Board", "draw", "(II)I"⟩ prog_2_method_4_code 3 (some .int) :: mx_WS)
theorem mo_Bo_draw : mx_ok mY_Bo_draw mf_Bo mt_Bo_draw := ⟨mt_Bo_draw_ok, mf_Bo_ok, fun w h => List.mem_cons_of_mem _ h⟩
def mt_La_freeze : mx_B := [(0, .aload_n 1, 1), (1, .iconst 0, 1), (2, .aload_n 0, 1), (3, .invokevirtual 17, 3), (6, .i2l, 1), (7, .lastore, 1), (8, .goto 6, 3), (11, .astore_n 2, 1), (12, .iconst 1, 1), (13, .ireturn, 1), (14, .iconst 0, 1), (15, .ireturn, 1)]
theorem mt_La_freeze_ok : ∀ x ∈ mt_La_freeze, decode method_4_code x.1 = .ok (x.2.1, x.2.2) := by decide +kernel
abbrev mY_La_freeze : mx_Y := (⟨"PegBoardsLaw", "freeze", "(LPegBoards;[J)I"⟩, method_4_code, 3, (some .int), "PegBoardsLaw", [(0, 8, 11, 15)], Cond.codeWith ⟨"PegBoardsLaw", "freeze", "(LPegBoards;[J)I"⟩ method_4_code 3 (some .int) [(0, 8, 11, 15)] :: mx_WS)
theorem mo_La_freeze : mx_ok mY_La_freeze mf_La mt_La_freeze := ⟨mt_La_freeze_ok, mf_La_ok, fun w h => List.mem_cons_of_mem _ h⟩
def mt_Pe_freeze : mx_B := [(0, .aload_n 0, 1), (1, .getfield 12, 3), (4, .invokevirtual 83, 3), (7, .ifCond .ne 13, 3), (10, .new 74, 3), (13, .dup, 1), (14, .ldc 87, 2), (16, .invokespecial 78, 3), (19, .athrow, 1), (20, .aload_n 0, 1), (21, .getfield 12, 3), (24, .invokevirtual 89, 3), (27, .aload_n 0, 1), (28, .getfield 19, 3), (31, .aload_n 0, 1), (32, .getfield 12, 3), (35, .invokevirtual 92, 3), (38, .aload_n 0, 1), (39, .getfield 26, 3), (42, .aload_n 0, 1), (43, .getfield 12, 3), (46, .invokevirtual 96, 3), (49, .aload_n 0, 1), (50, .getfield 19, 3), (53, .invokevirtual 97, 3), (56, .ireturn, 1)]
theorem mt_Pe_freeze_ok : ∀ x ∈ mt_Pe_freeze, decode prog_1_method_4_code x.1 = .ok (x.2.1, x.2.2) := by decide +kernel
abbrev mY_Pe_freeze : mx_Y := (⟨"PegBoards", "freeze", "()I"⟩, prog_1_method_4_code, 1, (some .int), "PegBoards", [], Cond.code ⟨"PegBoards", "freeze", "()I"⟩ prog_1_method_4_code 1 (some .int) :: mx_WS)
theorem mo_Pe_freeze : mx_ok mY_Pe_freeze mf_Pe mt_Pe_freeze := ⟨mt_Pe_freeze_ok, mf_Pe_ok, fun w h => List.mem_cons_of_mem _ h⟩
def mt_Bo_canBeNumbered : mx_B := [(0, .aload_n 0, 1), (1, .getfield 31, 3), (4, .ifCond .ne 14, 3), (7, .aload_n 0, 1), (8, .getfield 34, 3), (11, .ifCond .le 7, 3), (14, .iconst 1, 1), (15, .goto 4, 3), (18, .iconst 0, 1), (19, .ireturn, 1)]
theorem mt_Bo_canBeNumbered_ok : ∀ x ∈ mt_Bo_canBeNumbered, decode prog_2_method_5_code x.1 = .ok (x.2.1, x.2.2) := by decide +kernel
abbrev mY_Bo_canBeNumbered : mx_Y := (⟨"PegBoards$Board", "canBeNumbered", "()Z"⟩, prog_2_method_5_code, 1, (some .boolean), "PegBoards$Board", [], Cond.code ⟨"PegBoards$Board", "canBeNumbered", "()Z"⟩ prog_2_method_5_code 1 (some .boolean) :: mx_WS)
theorem mo_Bo_canBeNumbered : mx_ok mY_Bo_canBeNumbered mf_Bo mt_Bo_canBeNumbered := ⟨mt_Bo_canBeNumbered_ok, mf_Bo_ok, fun w h => List.mem_cons_of_mem _ h⟩
def mt_Bo_numberHoles : mx_B := [(0, .iconst 0, 1), (1, .istore_n 1, 1), (2, .iconst 0, 1), (3, .istore_n 2, 1), (4, .iload_n 2, 1), (5, .aload_n 0, 1), (6, .getfield 9, 3), (9, .arraylength, 1), (10, .if_icmp .ge 55, 3), (13, .aload_n 0, 1), (14, .getfield 9, 3), (17, .iload_n 2, 1), (18, .iaload, 1), (19, .iconst (-1), 1), (20, .if_icmp .eq 39, 3), (23, .iload_n 1, 1), (24, .bipush 20, 2), (26, .if_icmp .ge 33, 3), (29, .aload_n 0, 1), (30, .getfield 9, 3), (33, .iload_n 2, 1), (34, .iload_n 1, 1), (35, .iastore, 1), (36, .aload_n 0, 1), (37, .getfield 15, 3), (40, .iload_n 1, 1), (41, .iload_n 2, 1), (42, .bipush 8, 2), (44, .idiv, 1), (45, .iastore, 1), (46, .aload_n 0, 1), (47, .getfield 18, 3), (50, .iload_n 1, 1), (51, .iload_n 2, 1), (52, .bipush 8, 2), (54, .irem, 1), (55, .iastore, 1), (56, .iinc 1 1, 3), (59, .iinc 2 1, 3), (62, .goto (-58), 3), (65, .aload_n 0, 1), (66, .iconst 1, 1), (67, .putfield 31, 3), (70, .return_, 1)]
theorem mt_Bo_numberHoles_ok : ∀ x ∈ mt_Bo_numberHoles, decode prog_2_method_6_code x.1 = .ok (x.2.1, x.2.2) := by decide +kernel
abbrev mY_Bo_numberHoles : mx_Y := (⟨"PegBoards$Board", "numberHoles", "()V"⟩, prog_2_method_6_code, 3, none, "PegBoards$Board", [], Cond.code ⟨"PegBoards$Board", "numberHoles", "()V"⟩ prog_2_method_6_code 3 none :: mx_WS)
theorem mo_Bo_numberHoles : mx_ok mY_Bo_numberHoles mf_Bo mt_Bo_numberHoles := ⟨mt_Bo_numberHoles_ok, mf_Bo_ok, fun w h => List.mem_cons_of_mem _ h⟩
def mt_Ju_list : mx_B := [(0, .aload_n 1, 1), (1, .invokevirtual 31, 3), (4, .ifCond .eq 9, 3), (7, .getstatic 37, 3), (10, .goto 6, 3), (13, .getstatic 40, 3), (16, .astore_n 2, 1), (17, .aload_n 1, 1), (18, .invokevirtual 31, 3), (21, .ifCond .eq 9, 3), (24, .getstatic 43, 3), (27, .goto 6, 3), (30, .getstatic 46, 3), (33, .astore_n 3, 1), (34, .iconst 0, 1), (35, .istore 4, 2), (37, .iload 4, 2), (39, .aload_n 1, 1), (40, .invokevirtual 49, 3), (43, .if_icmp .ge 40, 3), (46, .iconst 0, 1), (47, .istore 5, 2), (49, .iload 5, 2), (51, .aload_n 2, 1), (52, .arraylength, 1), (53, .if_icmp .ge 24, 3), (56, .aload_n 0, 1), (57, .aload_n 1, 1), (58, .iload 4, 2), (60, .aload_n 2, 1), (61, .iload 5, 2), (63, .iaload, 1), (64, .aload_n 3, 1), (65, .iload 5, 2), (67, .iaload, 1), (68, .invokevirtual 53, 3), (71, .iinc 5 1, 3), (74, .goto (-25), 3), (77, .iinc 4 1, 3), (80, .goto (-43), 3), (83, .return_, 1)]
theorem mt_Ju_list_ok : ∀ x ∈ mt_Ju_list, decode prog_4_method_3_code x.1 = .ok (x.2.1, x.2.2) := by decide +kernel
abbrev mY_Ju_list : mx_Y := (⟨"PegBoards$Jumps", "list", "(LPegBoards$Board;)V"⟩, prog_4_method_3_code, 6, none, "PegBoards$Jumps", [], Cond.code ⟨"PegBoards$Jumps", "list", "(LPegBoards$Board;)V"⟩ prog_4_method_3_code 6 none :: mx_WS)
theorem mo_Ju_list : mx_ok mY_Ju_list mf_Ju mt_Ju_list := ⟨mt_Ju_list_ok, mf_Ju_ok, fun w h => List.mem_cons_of_mem _ h⟩
def mt_Bo_isTriangular : mx_B := [(0, .aload_n 0, 1), (1, .getfield 27, 3), (4, .ireturn, 1)]
theorem mt_Bo_isTriangular_ok : ∀ x ∈ mt_Bo_isTriangular, decode prog_2_method_7_code x.1 = .ok (x.2.1, x.2.2) := by decide +kernel
abbrev mY_Bo_isTriangular : mx_Y := (⟨"PegBoards$Board", "isTriangular", "()Z"⟩, prog_2_method_7_code, 1, (some .boolean), "PegBoards$Board", [], Cond.code ⟨"PegBoards$Board", "isTriangular", "()Z"⟩ prog_2_method_7_code 1 (some .boolean) :: mx_WS)
theorem mo_Bo_isTriangular : mx_ok mY_Bo_isTriangular mf_Bo mt_Bo_isTriangular := ⟨mt_Bo_isTriangular_ok, mf_Bo_ok, fun w h => List.mem_cons_of_mem _ h⟩
def mt_Bo_holes : mx_B := [(0, .aload_n 0, 1), (1, .getfield 31, 3), (4, .ifCond .eq 10, 3), (7, .aload_n 0, 1), (8, .getfield 34, 3), (11, .goto 4, 3), (14, .iconst 0, 1), (15, .ireturn, 1)]
theorem mt_Bo_holes_ok : ∀ x ∈ mt_Bo_holes, decode prog_2_method_9_code x.1 = .ok (x.2.1, x.2.2) := by decide +kernel
abbrev mY_Bo_holes : mx_Y := (⟨"PegBoards$Board", "holes", "()I"⟩, prog_2_method_9_code, 1, (some .int), "PegBoards$Board", [], Cond.code ⟨"PegBoards$Board", "holes", "()I"⟩ prog_2_method_9_code 1 (some .int) :: mx_WS)
theorem mo_Bo_holes : mx_ok mY_Bo_holes mf_Bo mt_Bo_holes := ⟨mt_Bo_holes_ok, mf_Bo_ok, fun w h => List.mem_cons_of_mem _ h⟩
def mt_Ju_listOne : mx_B := [(0, .aload_n 1, 1), (1, .iload_n 2, 1), (2, .invokevirtual 57, 3), (5, .istore 5, 2), (7, .aload_n 1, 1), (8, .iload_n 2, 1), (9, .invokevirtual 61, 3), (12, .istore 6, 2), (14, .aload_n 1, 1), (15, .iload 5, 2), (17, .iload_n 3, 1), (18, .iadd, 1), (19, .iload 6, 2), (21, .iload 4, 2), (23, .iadd, 1), (24, .invokevirtual 64, 3), (27, .istore 7, 2), (29, .aload_n 1, 1), (30, .iload 5, 2), (32, .iconst 2, 1), (33, .iload_n 3, 1), (34, .imul, 1), (35, .iadd, 1), (36, .iload 6, 2), (38, .iconst 2, 1), (39, .iload 4, 2), (41, .imul, 1), (42, .iadd, 1), (43, .invokevirtual 64, 3), (46, .istore 8, 2), (48, .iload 7, 2), (50, .iconst (-1), 1), (51, .if_icmp .eq 100, 3), (54, .iload 8, 2), (56, .iconst (-1), 1), (57, .if_icmp .eq 94, 3), (60, .aload_n 0, 1), (61, .getfield 27, 3), (64, .bipush 120, 2), (66, .if_icmp .ge 85, 3), (69, .aload_n 0, 1), (70, .getfield 9, 3), (73, .aload_n 0, 1), (74, .getfield 27, 3), (77, .iload_n 2, 1), (78, .iastore, 1), (79, .aload_n 0, 1), (80, .getfield 15, 3), (83, .aload_n 0, 1), (84, .getfield 27, 3), (87, .iload 7, 2), (89, .iastore, 1), (90, .aload_n 0, 1), (91, .getfield 18, 3), (94, .aload_n 0, 1), (95, .getfield 27, 3), (98, .iload 8, 2), (100, .iastore, 1), (101, .aload_n 0, 1), (102, .getfield 21, 3), (105, .aload_n 0, 1), (106, .getfield 27, 3), (109, .iconst 1, 1), (110, .iload_n 2, 1), (111, .ishl, 1), (112, .iconst 1, 1), (113, .iload 7, 2), (115, .ishl, 1), (116, .ior, 1), (117, .iastore, 1), (118, .aload_n 0, 1), (119, .getfield 24, 3), (122, .aload_n 0, 1), (123, .getfield 27, 3), (126, .aload_n 0, 1), (127, .getfield 21, 3), (130, .aload_n 0, 1), (131, .getfield 27, 3), (134, .iaload, 1), (135, .iconst 1, 1), (136, .iload 8, 2), (138, .ishl, 1), (139, .ior, 1), (140, .iastore, 1), (141, .aload_n 0, 1), (142, .dup, 1), (143, .getfield 27, 3), (146, .iconst 1, 1), (147, .iadd, 1), (148, .putfield 27, 3), (151, .return_, 1)]
theorem mt_Ju_listOne_ok : ∀ x ∈ mt_Ju_listOne, decode prog_4_method_4_code x.1 = .ok (x.2.1, x.2.2) := by decide +kernel
abbrev mY_Ju_listOne : mx_Y := (⟨"PegBoards$Jumps", "listOne", "(LPegBoards$Board;III)V"⟩, prog_4_method_4_code, 9, none, "PegBoards$Jumps", [], Cond.code ⟨"PegBoards$Jumps", "listOne", "(LPegBoards$Board;III)V"⟩ prog_4_method_4_code 9 none :: mx_WS)
theorem mo_Ju_listOne : mx_ok mY_Ju_listOne mf_Ju mt_Ju_listOne := ⟨mt_Ju_listOne_ok, mf_Ju_ok, fun w h => List.mem_cons_of_mem _ h⟩
def mt_Bo_rowOf : mx_B := [(0, .aload_n 0, 1), (1, .getfield 15, 3), (4, .iload_n 1, 1), (5, .iaload, 1), (6, .ireturn, 1)]
theorem mt_Bo_rowOf_ok : ∀ x ∈ mt_Bo_rowOf, decode prog_2_method_12_code x.1 = .ok (x.2.1, x.2.2) := by decide +kernel
abbrev mY_Bo_rowOf : mx_Y := (⟨"PegBoards$Board", "rowOf", "(I)I"⟩, prog_2_method_12_code, 2, (some .int), "PegBoards$Board", [], Cond.code ⟨"PegBoards$Board", "rowOf", "(I)I"⟩ prog_2_method_12_code 2 (some .int) :: mx_WS)
theorem mo_Bo_rowOf : mx_ok mY_Bo_rowOf mf_Bo mt_Bo_rowOf := ⟨mt_Bo_rowOf_ok, mf_Bo_ok, fun w h => List.mem_cons_of_mem _ h⟩
def mt_Bo_columnOf : mx_B := [(0, .aload_n 0, 1), (1, .getfield 18, 3), (4, .iload_n 1, 1), (5, .iaload, 1), (6, .ireturn, 1)]
theorem mt_Bo_columnOf_ok : ∀ x ∈ mt_Bo_columnOf, decode prog_2_method_13_code x.1 = .ok (x.2.1, x.2.2) := by decide +kernel
abbrev mY_Bo_columnOf : mx_Y := (⟨"PegBoards$Board", "columnOf", "(I)I"⟩, prog_2_method_13_code, 2, (some .int), "PegBoards$Board", [], Cond.code ⟨"PegBoards$Board", "columnOf", "(I)I"⟩ prog_2_method_13_code 2 (some .int) :: mx_WS)
theorem mo_Bo_columnOf : mx_ok mY_Bo_columnOf mf_Bo mt_Bo_columnOf := ⟨mt_Bo_columnOf_ok, mf_Bo_ok, fun w h => List.mem_cons_of_mem _ h⟩
def mt_Sy_list : mx_B := [(0, .aload_n 1, 1), (1, .invokevirtual 27, 3), (4, .ifCond .eq 8, 3), (7, .bipush 6, 2), (9, .goto 4, 3), (12, .iconst 4, 1), (13, .istore_n 2, 1), (14, .aload_n 0, 1), (15, .aload_n 1, 1), (16, .invokevirtual 33, 3), (19, .putfield 37, 3), (22, .iconst 0, 1), (23, .istore_n 3, 1), (24, .iload_n 3, 1), (25, .iconst 2, 1), (26, .iload_n 2, 1), (27, .imul, 1), (28, .if_icmp .ge 101, 3), (31, .iconst 0, 1), (32, .istore 4, 2), (34, .iload 4, 2), (36, .aload_n 0, 1), (37, .getfield 37, 3), (40, .if_icmp .ge 30, 3), (43, .aload_n 0, 1), (44, .aload_n 1, 1), (45, .iload 4, 2), (47, .iload_n 3, 1), (48, .iload_n 2, 1), (49, .irem, 1), (50, .invokevirtual 39, 3), (53, .iload_n 3, 1), (54, .iload_n 2, 1), (55, .if_icmp .lt 9, 3), (58, .aload_n 0, 1), (59, .iload 4, 2), (61, .invokevirtual 43, 3), (64, .iinc 4 1, 3), (67, .goto (-33), 3), (70, .aload_n 0, 1), (71, .aload_n 1, 1), (72, .invokevirtual 47, 3), (75, .aload_n 0, 1), (76, .getfield 16, 3), (79, .aload_n 0, 1), (80, .getfield 37, 3), (83, .invokestatic 50, 3), (86, .isub, 1), (87, .aload_n 0, 1), (88, .getfield 16, 3), (91, .invokevirtual 54, 3), (94, .aload_n 0, 1), (95, .aload_n 1, 1), (96, .invokevirtual 58, 3), (99, .aload_n 0, 1), (100, .getfield 20, 3), (103, .aload_n 0, 1), (104, .getfield 37, 3), (107, .invokestatic 50, 3), (110, .isub, 1), (111, .aload_n 0, 1), (112, .getfield 20, 3), (115, .invokevirtual 54, 3), (118, .aload_n 0, 1), (119, .aload_n 1, 1), (120, .invokevirtual 61, 3), (123, .iinc 3 1, 3), (126, .goto (-102), 3), (129, .return_, 1)]
theorem mt_Sy_list_ok : ∀ x ∈ mt_Sy_list, decode prog_6_method_3_code x.1 = .ok (x.2.1, x.2.2) := by decide +kernel
abbrev mY_Sy_list : mx_Y := (⟨"PegBoards$Symmetries", "list", "(LPegBoards$Board;)V"⟩, prog_6_method_3_code, 5, none, "PegBoards$Symmetries", [], Cond.code ⟨"PegBoards$Symmetries", "list", "(LPegBoards$Board;)V"⟩ prog_6_method_3_code 5 none :: mx_WS)
theorem mo_Sy_list : mx_ok mY_Sy_list mf_Sy mt_Sy_list := ⟨mt_Sy_list_ok, mf_Sy_ok, fun w h => List.mem_cons_of_mem _ h⟩
def mt_Sy_turn : mx_B := [(0, .aload_n 1, 1), (1, .iload_n 2, 1), (2, .invokevirtual 65, 3), (5, .istore 4, 2), (7, .aload_n 1, 1), (8, .iload_n 2, 1), (9, .invokevirtual 69, 3), (12, .istore 5, 2), (14, .iconst 0, 1), (15, .istore 6, 2), (17, .iload 6, 2), (19, .iload_n 3, 1), (20, .if_icmp .ge 37, 3), (23, .aload_n 1, 1), (24, .invokevirtual 27, 3), (27, .ifCond .eq 11, 3), (30, .iload 4, 2), (32, .iload 5, 2), (34, .iadd, 1), (35, .goto 5, 3), (38, .iload 5, 2), (40, .istore 7, 2), (42, .iload 4, 2), (44, .ineg, 1), (45, .istore 5, 2), (47, .iload 7, 2), (49, .istore 4, 2), (51, .iinc 6 1, 3), (54, .goto (-37), 3), (57, .aload_n 0, 1), (58, .getfield 16, 3), (61, .iload_n 2, 1), (62, .iload 4, 2), (64, .iastore, 1), (65, .aload_n 0, 1), (66, .getfield 20, 3), (69, .iload_n 2, 1), (70, .iload 5, 2), (72, .iastore, 1), (73, .return_, 1)]
theorem mt_Sy_turn_ok : ∀ x ∈ mt_Sy_turn, decode prog_6_method_4_code x.1 = .ok (x.2.1, x.2.2) := by decide +kernel
abbrev mY_Sy_turn : mx_Y := (⟨"PegBoards$Symmetries", "turn", "(LPegBoards$Board;II)V"⟩, prog_6_method_4_code, 8, none, "PegBoards$Symmetries", [], Cond.code ⟨"PegBoards$Symmetries", "turn", "(LPegBoards$Board;II)V"⟩ prog_6_method_4_code 8 none :: mx_WS)
theorem mo_Sy_turn : mx_ok mY_Sy_turn mf_Sy mt_Sy_turn := ⟨mt_Sy_turn_ok, mf_Sy_ok, fun w h => List.mem_cons_of_mem _ h⟩
def mt_Sy_mirror : mx_B := [(0, .aload_n 0, 1), (1, .getfield 16, 3), (4, .iload_n 1, 1), (5, .iaload, 1), (6, .istore_n 2, 1), (7, .aload_n 0, 1), (8, .getfield 16, 3), (11, .iload_n 1, 1), (12, .aload_n 0, 1), (13, .getfield 20, 3), (16, .iload_n 1, 1), (17, .iaload, 1), (18, .iastore, 1), (19, .aload_n 0, 1), (20, .getfield 20, 3), (23, .iload_n 1, 1), (24, .iload_n 2, 1), (25, .iastore, 1), (26, .return_, 1)]
theorem mt_Sy_mirror_ok : ∀ x ∈ mt_Sy_mirror, decode prog_6_method_5_code x.1 = .ok (x.2.1, x.2.2) := by decide +kernel
abbrev mY_Sy_mirror : mx_Y := (⟨"PegBoards$Symmetries", "mirror", "(I)V"⟩, prog_6_method_5_code, 3, none, "PegBoards$Symmetries", [], Cond.code ⟨"PegBoards$Symmetries", "mirror", "(I)V"⟩ prog_6_method_5_code 3 none :: mx_WS)
theorem mo_Sy_mirror : mx_ok mY_Sy_mirror mf_Sy mt_Sy_mirror := ⟨mt_Sy_mirror_ok, mf_Sy_ok, fun w h => List.mem_cons_of_mem _ h⟩
def mt_Bo_leastRow : mx_B := [(0, .aload_n 0, 1), (1, .getfield 15, 3), (4, .aload_n 0, 1), (5, .invokevirtual 38, 3), (8, .invokestatic 46, 3), (11, .ireturn, 1)]
theorem mt_Bo_leastRow_ok : ∀ x ∈ mt_Bo_leastRow, decode prog_2_method_14_code x.1 = .ok (x.2.1, x.2.2) := by decide +kernel
abbrev mY_Bo_leastRow : mx_Y := (⟨"PegBoards$Board", "leastRow", "()I"⟩, prog_2_method_14_code, 1, (some .int), "PegBoards$Board", [], Cond.code ⟨"PegBoards$Board", "leastRow", "()I"⟩ prog_2_method_14_code 1 (some .int) :: mx_WS)
theorem mo_Bo_leastRow : mx_ok mY_Bo_leastRow mf_Bo mt_Bo_leastRow := ⟨mt_Bo_leastRow_ok, mf_Bo_ok, fun w h => List.mem_cons_of_mem _ h⟩
def mt_Pe_leastIn : mx_B := [(0, .aload_n 0, 1), (1, .iconst 0, 1), (2, .iaload, 1), (3, .istore_n 2, 1), (4, .iconst 1, 1), (5, .istore_n 3, 1), (6, .iload_n 3, 1), (7, .iload_n 1, 1), (8, .if_icmp .ge 17, 3), (11, .iload_n 2, 1), (12, .aload_n 0, 1), (13, .iload_n 3, 1), (14, .iaload, 1), (15, .invokestatic 219, 3), (18, .istore_n 2, 1), (19, .iinc 3 1, 3), (22, .goto (-16), 3), (25, .iload_n 2, 1), (26, .ireturn, 1)]
theorem mt_Pe_leastIn_ok : ∀ x ∈ mt_Pe_leastIn, decode prog_1_method_28_code x.1 = .ok (x.2.1, x.2.2) := by decide +kernel
abbrev mY_Pe_leastIn : mx_Y := (⟨"PegBoards", "leastIn", "([II)I"⟩, prog_1_method_28_code, 4, (some .int), "PegBoards", [], Cond.code ⟨"PegBoards", "leastIn", "([II)I"⟩ prog_1_method_28_code 4 (some .int) :: mx_WS)
theorem mo_Pe_leastIn : mx_ok mY_Pe_leastIn mf_Pe mt_Pe_leastIn := ⟨mt_Pe_leastIn_ok, mf_Pe_ok, fun w h => List.mem_cons_of_mem _ h⟩
def mt_Ma_min : mx_B := [(0, .iload_n 0, 1), (1, .iload_n 1, 1), (2, .if_icmp .gt 7, 3), (5, .iload_n 0, 1), (6, .goto 4, 3), (9, .iload_n 1, 1), (10, .ireturn, 1)]
theorem mt_Ma_min_ok : ∀ x ∈ mt_Ma_min, decode prog_15_method_69_code x.1 = .ok (x.2.1, x.2.2) := by decide +kernel
abbrev mY_Ma_min : mx_Y := (⟨"java/lang/Math", "min", "(II)I"⟩, prog_15_method_69_code, 2, (some .int), "java/lang/Math", [], Cond.code ⟨"java/lang/Math", "min", "(II)I"⟩ prog_15_method_69_code 2 (some .int) :: mx_WS)
theorem mo_Ma_min : mx_ok mY_Ma_min mf_Ma mt_Ma_min := ⟨mt_Ma_min_ok, mf_Ma_ok, fun w h => List.mem_cons_of_mem _ h⟩
def mt_Sy_moveBy : mx_B := [(0, .iconst 0, 1), (1, .istore_n 3, 1), (2, .iload_n 3, 1), (3, .aload_n 0, 1), (4, .getfield 37, 3), (7, .if_icmp .ge 16, 3), (10, .aload_n 2, 1), (11, .iload_n 3, 1), (12, .dup2, 1), (13, .iaload, 1), (14, .iload_n 1, 1), (15, .iadd, 1), (16, .iastore, 1), (17, .iinc 3 1, 3), (20, .goto (-18), 3), (23, .return_, 1)]
theorem mt_Sy_moveBy_ok : ∀ x ∈ mt_Sy_moveBy, decode prog_6_method_6_code x.1 = .ok (x.2.1, x.2.2) := by decide +kernel
abbrev mY_Sy_moveBy : mx_Y := (⟨"PegBoards$Symmetries", "moveBy", "(I[I)V"⟩, prog_6_method_6_code, 4, none, "PegBoards$Symmetries", [], Cond.code ⟨"PegBoards$Symmetries", "moveBy", "(I[I)V"⟩ prog_6_method_6_code 4 none :: mx_WS)
theorem mo_Sy_moveBy : mx_ok mY_Sy_moveBy mf_Sy mt_Sy_moveBy := ⟨mt_Sy_moveBy_ok, mf_Sy_ok, fun w h => List.mem_cons_of_mem _ h⟩
def mt_Bo_leastColumn : mx_B := [(0, .aload_n 0, 1), (1, .getfield 18, 3), (4, .aload_n 0, 1), (5, .invokevirtual 38, 3), (8, .invokestatic 46, 3), (11, .ireturn, 1)]
theorem mt_Bo_leastColumn_ok : ∀ x ∈ mt_Bo_leastColumn, decode prog_2_method_15_code x.1 = .ok (x.2.1, x.2.2) := by decide +kernel
abbrev mY_Bo_leastColumn : mx_Y := (⟨"PegBoards$Board", "leastColumn", "()I"⟩, prog_2_method_15_code, 1, (some .int), "PegBoards$Board", [], Cond.code ⟨"PegBoards$Board", "leastColumn", "()I"⟩ prog_2_method_15_code 1 (some .int) :: mx_WS)
theorem mo_Bo_leastColumn : mx_ok mY_Bo_leastColumn mf_Bo mt_Bo_leastColumn := ⟨mt_Bo_leastColumn_ok, mf_Bo_ok, fun w h => List.mem_cons_of_mem _ h⟩
def mt_Sy_addIfSameHoles : mx_B := [(0, .iconst 0, 1), (1, .istore_n 2, 1), (2, .iload_n 2, 1), (3, .aload_n 0, 1), (4, .getfield 37, 3), (7, .if_icmp .ge 53, 3), (10, .aload_n 1, 1), (11, .aload_n 0, 1), (12, .getfield 16, 3), (15, .iload_n 2, 1), (16, .iaload, 1), (17, .aload_n 0, 1), (18, .getfield 20, 3), (21, .iload_n 2, 1), (22, .iaload, 1), (23, .invokevirtual 72, 3), (26, .istore_n 3, 1), (27, .iload_n 3, 1), (28, .iconst (-1), 1), (29, .if_icmp .eq 12, 3), (32, .aload_n 0, 1), (33, .getfield 23, 3), (36, .bipush 12, 2), (38, .if_icmp .lt 4, 3), (41, .return_, 1), (42, .aload_n 0, 1), (43, .getfield 11, 3), (46, .aload_n 0, 1), (47, .getfield 23, 3), (50, .aaload, 1), (51, .iload_n 2, 1), (52, .iload_n 3, 1), (53, .iastore, 1), (54, .iinc 2 1, 3), (57, .goto (-55), 3), (60, .aload_n 0, 1), (61, .dup, 1), (62, .getfield 23, 3), (65, .iconst 1, 1), (66, .iadd, 1), (67, .putfield 23, 3), (70, .return_, 1)]
theorem mt_Sy_addIfSameHoles_ok : ∀ x ∈ mt_Sy_addIfSameHoles, decode prog_6_method_7_code x.1 = .ok (x.2.1, x.2.2) := by decide +kernel
abbrev mY_Sy_addIfSameHoles : mx_Y := (⟨"PegBoards$Symmetries", "addIfSameHoles", "(LPegBoards$Board;)V"⟩, prog_6_method_7_code, 4, none, "PegBoards$Symmetries", [], Cond.code ⟨"PegBoards$Symmetries", "addIfSameHoles", "(LPegBoards$Board;)V"⟩ prog_6_method_7_code 4 none :: mx_WS)
theorem mo_Sy_addIfSameHoles : mx_ok mY_Sy_addIfSameHoles mf_Sy mt_Sy_addIfSameHoles := ⟨mt_Sy_addIfSameHoles_ok, mf_Sy_ok, fun w h => List.mem_cons_of_mem _ h⟩
def mt_Ju_size : mx_B := [(0, .aload_n 0, 1), (1, .getfield 27, 3), (4, .ireturn, 1)]
theorem mt_Ju_size_ok : ∀ x ∈ mt_Ju_size, decode prog_4_method_5_code x.1 = .ok (x.2.1, x.2.2) := by decide +kernel
abbrev mY_Ju_size : mx_Y := (⟨"PegBoards$Jumps", "size", "()I"⟩, prog_4_method_5_code, 1, (some .int), "PegBoards$Jumps", [], Cond.code ⟨"PegBoards$Jumps", "size", "()I"⟩ prog_4_method_5_code 1 (some .int) :: mx_WS)
theorem mo_Ju_size : mx_ok mY_Ju_size mf_Ju mt_Ju_size := ⟨mt_Ju_size_ok, mf_Ju_ok, fun w h => List.mem_cons_of_mem _ h⟩
def mt_La_jump : mx_B := [(0, .aload_n 3, 1), (1, .iconst 0, 1), (2, .aload_n 0, 1), (3, .iload_n 1, 1), (4, .iload_n 2, 1), (5, .invokevirtual 21, 3), (8, .i2l, 1), (9, .lastore, 1), (10, .goto 7, 3), (13, .astore 4, 2), (15, .iconst 1, 1), (16, .ireturn, 1), (17, .iconst 0, 1), (18, .ireturn, 1)]
theorem mt_La_jump_ok : ∀ x ∈ mt_La_jump, decode method_5_code x.1 = .ok (x.2.1, x.2.2) := by decide +kernel
abbrev mY_La_jump : mx_Y := (⟨"PegBoardsLaw", "jump", "(LPegBoards;II[J)I"⟩, method_5_code, 5, (some .int), "PegBoardsLaw", [(0, 10, 13, 24)], Cond.codeWith ⟨"PegBoardsLaw", "jump", "(LPegBoards;II[J)I"⟩ method_5_code 5 (some .int) [(0, 10, 13, 24)] :: mx_WS)
theorem mo_La_jump : mx_ok mY_La_jump mf_La mt_La_jump := ⟨mt_La_jump_ok, mf_La_ok, fun w h => List.mem_cons_of_mem _ h⟩
def mt_Pe_jump : mx_B := [(0, .aload_n 0, 1), (1, .iload_n 1, 1), (2, .invokevirtual 104, 3), (5, .iload_n 2, 1), (6, .tableswitch 53 0 2 #[26, 35, 44], 26), (32, .aload_n 0, 1), (33, .getfield 19, 3), (36, .iload_n 1, 1), (37, .invokevirtual 108, 3), (40, .ireturn, 1), (41, .aload_n 0, 1), (42, .getfield 19, 3), (45, .iload_n 1, 1), (46, .invokevirtual 112, 3), (49, .ireturn, 1), (50, .aload_n 0, 1), (51, .getfield 19, 3), (54, .iload_n 1, 1), (55, .invokevirtual 115, 3), (58, .ireturn, 1), (59, .new 118, 3), (62, .dup, 1), (63, .ldc 120, 2), (65, .invokespecial 122, 3), (68, .athrow, 1)]
theorem mt_Pe_jump_ok : ∀ x ∈ mt_Pe_jump, decode prog_1_method_6_code x.1 = .ok (x.2.1, x.2.2) := by decide +kernel
abbrev mY_Pe_jump : mx_Y := (⟨"PegBoards", "jump", "(II)I"⟩, prog_1_method_6_code, 3, (some .int), "PegBoards", [], Cond.code ⟨"PegBoards", "jump", "(II)I"⟩ prog_1_method_6_code 3 (some .int) :: mx_WS)
theorem mo_Pe_jump : mx_ok mY_Pe_jump mf_Pe mt_Pe_jump := ⟨mt_Pe_jump_ok, mf_Pe_ok, fun w h => List.mem_cons_of_mem _ h⟩
def mt_Pe_requireJump : mx_B := [(0, .iload_n 1, 1), (1, .ifCond .lt 14, 3), (4, .iload_n 1, 1), (5, .aload_n 0, 1), (6, .getfield 19, 3), (9, .invokevirtual 97, 3), (12, .if_icmp .lt 13, 3), (15, .new 118, 3), (18, .dup, 1), (19, .ldc 215, 2), (21, .invokespecial 122, 3), (24, .athrow, 1), (25, .return_, 1)]
theorem mt_Pe_requireJump_ok : ∀ x ∈ mt_Pe_requireJump, decode prog_1_method_24_code x.1 = .ok (x.2.1, x.2.2) := by decide +kernel
abbrev mY_Pe_requireJump : mx_Y := (⟨"PegBoards", "requireJump", "(I)V"⟩, prog_1_method_24_code, 2, none, "PegBoards", [], Cond.code ⟨"PegBoards", "requireJump", "(I)V"⟩ prog_1_method_24_code 2 none :: mx_WS)
theorem mo_Pe_requireJump : mx_ok mY_Pe_requireJump mf_Pe mt_Pe_requireJump := ⟨mt_Pe_requireJump_ok, mf_Pe_ok, fun w h => List.mem_cons_of_mem _ h⟩
def mt_Ju_from : mx_B := [(0, .aload_n 0, 1), (1, .getfield 9, 3), (4, .iload_n 1, 1), (5, .iaload, 1), (6, .ireturn, 1)]
theorem mt_Ju_from_ok : ∀ x ∈ mt_Ju_from, decode prog_4_method_6_code x.1 = .ok (x.2.1, x.2.2) := by decide +kernel
abbrev mY_Ju_from : mx_Y := (⟨"PegBoards$Jumps", "from", "(I)I"⟩, prog_4_method_6_code, 2, (some .int), "PegBoards$Jumps", [], Cond.code ⟨"PegBoards$Jumps", "from", "(I)I"⟩ prog_4_method_6_code 2 (some .int) :: mx_WS)
theorem mo_Ju_from : mx_ok mY_Ju_from mf_Ju mt_Ju_from := ⟨mt_Ju_from_ok, mf_Ju_ok, fun w h => List.mem_cons_of_mem _ h⟩
def mt_Ju_over : mx_B := [(0, .aload_n 0, 1), (1, .getfield 15, 3), (4, .iload_n 1, 1), (5, .iaload, 1), (6, .ireturn, 1)]
theorem mt_Ju_over_ok : ∀ x ∈ mt_Ju_over, decode prog_4_method_7_code x.1 = .ok (x.2.1, x.2.2) := by decide +kernel
abbrev mY_Ju_over : mx_Y := (⟨"PegBoards$Jumps", "over", "(I)I"⟩, prog_4_method_7_code, 2, (some .int), "PegBoards$Jumps", [], Cond.code ⟨"PegBoards$Jumps", "over", "(I)I"⟩ prog_4_method_7_code 2 (some .int) :: mx_WS)
theorem mo_Ju_over : mx_ok mY_Ju_over mf_Ju mt_Ju_over := ⟨mt_Ju_over_ok, mf_Ju_ok, fun w h => List.mem_cons_of_mem _ h⟩
def mt_Ju_to : mx_B := [(0, .aload_n 0, 1), (1, .getfield 18, 3), (4, .iload_n 1, 1), (5, .iaload, 1), (6, .ireturn, 1)]
theorem mt_Ju_to_ok : ∀ x ∈ mt_Ju_to, decode prog_4_method_8_code x.1 = .ok (x.2.1, x.2.2) := by decide +kernel
abbrev mY_Ju_to : mx_Y := (⟨"PegBoards$Jumps", "to", "(I)I"⟩, prog_4_method_8_code, 2, (some .int), "PegBoards$Jumps", [], Cond.code ⟨"PegBoards$Jumps", "to", "(I)I"⟩ prog_4_method_8_code 2 (some .int) :: mx_WS)
theorem mo_Ju_to : mx_ok mY_Ju_to mf_Ju mt_Ju_to := ⟨mt_Ju_to_ok, mf_Ju_ok, fun w h => List.mem_cons_of_mem _ h⟩
def mt_La_place : mx_B := [(0, .aload_n 0, 1), (1, .iload_n 1, 1), (2, .iload_n 2, 1), (3, .invokevirtual 26, 3), (6, .goto 6, 3), (9, .astore_n 3, 1), (10, .iconst 1, 1), (11, .ireturn, 1), (12, .iconst 0, 1), (13, .ireturn, 1)]
theorem mt_La_place_ok : ∀ x ∈ mt_La_place, decode method_6_code x.1 = .ok (x.2.1, x.2.2) := by decide +kernel
abbrev mY_La_place : mx_Y := (⟨"PegBoardsLaw", "place", "(LPegBoards;ZI)I"⟩, method_6_code, 4, (some .int), "PegBoardsLaw", [(0, 6, 9, 13)], Cond.codeWith ⟨"PegBoardsLaw", "place", "(LPegBoards;ZI)I"⟩ method_6_code 4 (some .int) [(0, 6, 9, 13)] :: mx_WS)
theorem mo_La_place : mx_ok mY_La_place mf_La mt_La_place := ⟨mt_La_place_ok, mf_La_ok, fun w h => List.mem_cons_of_mem _ h⟩
def mt_Pe_place : mx_B := [(0, .aload_n 0, 1), (1, .iload_n 2, 1), (2, .invokevirtual 123, 3), (5, .iload_n 1, 1), (6, .ifCond .eq 11, 3), (9, .aload_n 0, 1), (10, .iload_n 2, 1), (11, .putfield 57, 3), (14, .goto 8, 3), (17, .aload_n 0, 1), (18, .iload_n 2, 1), (19, .putfield 53, 3), (22, .return_, 1)]
theorem mt_Pe_place_ok : ∀ x ∈ mt_Pe_place, decode prog_1_method_7_code x.1 = .ok (x.2.1, x.2.2) := by decide +kernel
abbrev mY_Pe_place : mx_Y := (⟨"PegBoards", "place", "(ZI)V"⟩, prog_1_method_7_code, 3, none, "PegBoards", [], Cond.code ⟨"PegBoards", "place", "(ZI)V"⟩ prog_1_method_7_code 3 none :: mx_WS)
theorem mo_Pe_place : mx_ok mY_Pe_place mf_Pe mt_Pe_place := ⟨mt_Pe_place_ok, mf_Pe_ok, fun w h => List.mem_cons_of_mem _ h⟩
def mt_Pe_requirePosition : mx_B := [(0, .iload_n 1, 1), (1, .aload_n 0, 1), (2, .getfield 12, 3), (5, .invokevirtual 210, 3), (8, .iconst (-1), 1), (9, .ixor, 1), (10, .iand, 1), (11, .ifCond .eq 13, 3), (14, .new 64, 3), (17, .dup, 1), (18, .ldc 213, 2), (20, .invokespecial 68, 3), (23, .athrow, 1), (24, .return_, 1)]
theorem mt_Pe_requirePosition_ok : ∀ x ∈ mt_Pe_requirePosition, decode prog_1_method_23_code x.1 = .ok (x.2.1, x.2.2) := by decide +kernel
abbrev mY_Pe_requirePosition : mx_Y := (⟨"PegBoards", "requirePosition", "(I)V"⟩, prog_1_method_23_code, 2, none, "PegBoards", [], Cond.code ⟨"PegBoards", "requirePosition", "(I)V"⟩ prog_1_method_23_code 2 none :: mx_WS)
theorem mo_Pe_requirePosition : mx_ok mY_Pe_requirePosition mf_Pe mt_Pe_requirePosition := ⟨mt_Pe_requirePosition_ok, mf_Pe_ok, fun w h => List.mem_cons_of_mem _ h⟩
def mt_Bo_allHoles : mx_B := [(0, .iconst 1, 1), (1, .aload_n 0, 1), (2, .invokevirtual 38, 3), (5, .ishl, 1), (6, .iconst 1, 1), (7, .isub, 1), (8, .ireturn, 1)]
theorem mt_Bo_allHoles_ok : ∀ x ∈ mt_Bo_allHoles, decode prog_2_method_10_code x.1 = .ok (x.2.1, x.2.2) := by decide +kernel
abbrev mY_Bo_allHoles : mx_Y := (⟨"PegBoards$Board", "allHoles", "()I"⟩, prog_2_method_10_code, 1, (some .int), "PegBoards$Board", [], Cond.code ⟨"PegBoards$Board", "allHoles", "()I"⟩ prog_2_method_10_code 1 (some .int) :: mx_WS)
theorem mo_Bo_allHoles : mx_ok mY_Bo_allHoles mf_Bo mt_Bo_allHoles := ⟨mt_Bo_allHoles_ok, mf_Bo_ok, fun w h => List.mem_cons_of_mem _ h⟩
def mt_La_after : mx_B := [(0, .aload_n 3, 1), (1, .iconst 0, 1), (2, .aload_n 0, 1), (3, .iload_n 1, 1), (4, .iload_n 2, 1), (5, .invokevirtual 30, 3), (8, .i2l, 1), (9, .lastore, 1), (10, .goto 11, 3), (13, .astore 4, 2), (15, .iconst 1, 1), (16, .ireturn, 1), (17, .astore 4, 2), (19, .iconst 2, 1), (20, .ireturn, 1), (21, .iconst 0, 1), (22, .ireturn, 1)]
theorem mt_La_after_ok : ∀ x ∈ mt_La_after, decode method_7_code x.1 = .ok (x.2.1, x.2.2) := by decide +kernel
abbrev mY_La_after : mx_Y := (⟨"PegBoardsLaw", "after", "(LPegBoards;II[J)I"⟩, method_7_code, 5, (some .int), "PegBoardsLaw", [(0, 10, 13, 24), (0, 10, 17, 13)], Cond.codeWith ⟨"PegBoardsLaw", "after", "(LPegBoards;II[J)I"⟩ method_7_code 5 (some .int) [(0, 10, 13, 24), (0, 10, 17, 13)] :: mx_WS)
theorem mo_La_after : mx_ok mY_La_after mf_La mt_La_after := ⟨mt_La_after_ok, mf_La_ok, fun w h => List.mem_cons_of_mem _ h⟩
def mt_Pe_after : mx_B := [(0, .aload_n 0, 1), (1, .iload_n 2, 1), (2, .invokevirtual 104, 3), (5, .aload_n 0, 1), (6, .iload_n 1, 1), (7, .invokevirtual 123, 3), (10, .aload_n 0, 1), (11, .getfield 19, 3), (14, .iload_n 1, 1), (15, .iload_n 2, 1), (16, .invokevirtual 126, 3), (19, .ireturn, 1)]
theorem mt_Pe_after_ok : ∀ x ∈ mt_Pe_after, decode prog_1_method_8_code x.1 = .ok (x.2.1, x.2.2) := by decide +kernel
abbrev mY_Pe_after : mx_Y := (⟨"PegBoards", "after", "(II)I"⟩, prog_1_method_8_code, 3, (some .int), "PegBoards", [], Cond.code ⟨"PegBoards", "after", "(II)I"⟩ prog_1_method_8_code 3 (some .int) :: mx_WS)
theorem mo_Pe_after : mx_ok mY_Pe_after mf_Pe mt_Pe_after := ⟨mt_Pe_after_ok, mf_Pe_ok, fun w h => List.mem_cons_of_mem _ h⟩
def mt_Ju_make : mx_B := [(0, .iload_n 1, 1), (1, .aload_n 0, 1), (2, .getfield 24, 3), (5, .iload_n 2, 1), (6, .iaload, 1), (7, .iand, 1), (8, .aload_n 0, 1), (9, .getfield 21, 3), (12, .iload_n 2, 1), (13, .iaload, 1), (14, .if_icmp .ne 14, 3), (17, .iload_n 1, 1), (18, .aload_n 0, 1), (19, .getfield 24, 3), (22, .iload_n 2, 1), (23, .iaload, 1), (24, .ixor, 1), (25, .goto 4, 3), (28, .iconst (-1), 1), (29, .ireturn, 1)]
theorem mt_Ju_make_ok : ∀ x ∈ mt_Ju_make, decode prog_4_method_9_code x.1 = .ok (x.2.1, x.2.2) := by decide +kernel
abbrev mY_Ju_make : mx_Y := (⟨"PegBoards$Jumps", "make", "(II)I"⟩, prog_4_method_9_code, 3, (some .int), "PegBoards$Jumps", [], Cond.code ⟨"PegBoards$Jumps", "make", "(II)I"⟩ prog_4_method_9_code 3 (some .int) :: mx_WS)
theorem mo_Ju_make : mx_ok mY_Ju_make mf_Ju mt_Ju_make := ⟨mt_Ju_make_ok, mf_Ju_ok, fun w h => List.mem_cons_of_mem _ h⟩
def mt_La_count : mx_B := [(0, .aload_n 2, 1), (1, .iconst 0, 1), (2, .aload_n 0, 1), (3, .iload_n 1, 1), (4, .invokevirtual 33, 3), (7, .i2l, 1), (8, .lastore, 1), (9, .goto 9, 3), (12, .astore_n 3, 1), (13, .iconst 1, 1), (14, .ireturn, 1), (15, .astore_n 3, 1), (16, .iconst 2, 1), (17, .ireturn, 1), (18, .iconst 0, 1), (19, .ireturn, 1)]
theorem mt_La_count_ok : ∀ x ∈ mt_La_count, decode method_8_code x.1 = .ok (x.2.1, x.2.2) := by decide +kernel
abbrev mY_La_count : mx_Y := (⟨"PegBoardsLaw", "count", "(LPegBoards;I[J)I"⟩, method_8_code, 4, (some .int), "PegBoardsLaw", [(0, 9, 12, 15), (0, 9, 15, 13)], Cond.codeWith ⟨"PegBoardsLaw", "count", "(LPegBoards;I[J)I"⟩ method_8_code 4 (some .int) [(0, 9, 12, 15), (0, 9, 15, 13)] :: mx_WS)
theorem mo_La_count : mx_ok mY_La_count mf_La mt_La_count := ⟨mt_La_count_ok, mf_La_ok, fun w h => List.mem_cons_of_mem _ h⟩
def mt_Pe_count : mx_B := [(0, .aload_n 0, 1), (1, .iload_n 1, 1), (2, .invokevirtual 129, 3), (5, .aload_n 0, 1), (6, .getfield 33, 3), (9, .invokevirtual 132, 3), (12, .ifCond .eq 8, 3), (15, .bipush (-2), 2), (17, .goto 10, 3), (20, .aload_n 0, 1), (21, .getfield 33, 3), (24, .invokevirtual 135, 3), (27, .ireturn, 1)]
theorem mt_Pe_count_ok : ∀ x ∈ mt_Pe_count, decode prog_1_method_9_code x.1 = .ok (x.2.1, x.2.2) := by decide +kernel
abbrev mY_Pe_count : mx_Y := (⟨"PegBoards", "count", "(I)I"⟩, prog_1_method_9_code, 2, (some .int), "PegBoards", [], Cond.code ⟨"PegBoards", "count", "(I)I"⟩ prog_1_method_9_code 2 (some .int) :: mx_WS)
theorem mo_Pe_count : mx_ok mY_Pe_count mf_Pe mt_Pe_count := ⟨mt_Pe_count_ok, mf_Pe_ok, fun w h => List.mem_cons_of_mem _ h⟩
def mt_Pe_reachWithin : mx_B := [(0, .aload_n 0, 1), (1, .invokevirtual 160, 3), (4, .iload_n 1, 1), (5, .iconst 1, 1), (6, .if_icmp .lt 10, 3), (9, .iload_n 1, 1), (10, .sipush 500, 3), (13, .if_icmp .le 13, 3), (16, .new 64, 3), (19, .dup, 1), (20, .ldc 199, 2), (22, .invokespecial 68, 3), (25, .athrow, 1), (26, .aload_n 0, 1), (27, .getfield 33, 3), (30, .aload_n 0, 1), (31, .getfield 19, 3), (34, .aload_n 0, 1), (35, .getfield 53, 3), (38, .iload_n 1, 1), (39, .invokevirtual 201, 3), (42, .return_, 1)]
theorem mt_Pe_reachWithin_ok : ∀ x ∈ mt_Pe_reachWithin, decode prog_1_method_21_code x.1 = .ok (x.2.1, x.2.2) := by decide +kernel
abbrev mY_Pe_reachWithin : mx_Y := (⟨"PegBoards", "reachWithin", "(I)V"⟩, prog_1_method_21_code, 2, none, "PegBoards", [], Cond.code ⟨"PegBoards", "reachWithin", "(I)V"⟩ prog_1_method_21_code 2 none :: mx_WS)
theorem mo_Pe_reachWithin : mx_ok mY_Pe_reachWithin mf_Pe mt_Pe_reachWithin := ⟨mt_Pe_reachWithin_ok, mf_Pe_ok, fun w h => List.mem_cons_of_mem _ h⟩
def mt_Pe_requireFrozen : mx_B := [(0, .aload_n 0, 1), (1, .getfield 12, 3), (4, .invokevirtual 205, 3), (7, .ifCond .ne 13, 3), (10, .new 74, 3), (13, .dup, 1), (14, .ldc 208, 2), (16, .invokespecial 78, 3), (19, .athrow, 1), (20, .return_, 1)]
theorem mt_Pe_requireFrozen_ok : ∀ x ∈ mt_Pe_requireFrozen, decode prog_1_method_22_code x.1 = .ok (x.2.1, x.2.2) := by decide +kernel
abbrev mY_Pe_requireFrozen : mx_Y := (⟨"PegBoards", "requireFrozen", "()V"⟩, prog_1_method_22_code, 1, none, "PegBoards", [], Cond.code ⟨"PegBoards", "requireFrozen", "()V"⟩ prog_1_method_22_code 1 none :: mx_WS)
theorem mo_Pe_requireFrozen : mx_ok mY_Pe_requireFrozen mf_Pe mt_Pe_requireFrozen := ⟨mt_Pe_requireFrozen_ok, mf_Pe_ok, fun w h => List.mem_cons_of_mem _ h⟩
def mt_Bo_isFrozen : mx_B := [(0, .aload_n 0, 1), (1, .getfield 31, 3), (4, .ireturn, 1)]
theorem mt_Bo_isFrozen_ok : ∀ x ∈ mt_Bo_isFrozen, decode prog_2_method_8_code x.1 = .ok (x.2.1, x.2.2) := by decide +kernel
abbrev mY_Bo_isFrozen : mx_Y := (⟨"PegBoards$Board", "isFrozen", "()Z"⟩, prog_2_method_8_code, 1, (some .boolean), "PegBoards$Board", [], Cond.code ⟨"PegBoards$Board", "isFrozen", "()Z"⟩ prog_2_method_8_code 1 (some .boolean) :: mx_WS)
theorem mo_Bo_isFrozen : mx_ok mY_Bo_isFrozen mf_Bo mt_Bo_isFrozen := ⟨mt_Bo_isFrozen_ok, mf_Bo_ok, fun w h => List.mem_cons_of_mem _ h⟩
def mt_Re_run : mx_B := [(0, .aload_n 0, 1), (1, .getfield 12, 3), (4, .invokevirtual 34, 3), (7, .aload_n 0, 1), (8, .iconst 0, 1), (9, .putfield 37, 3), (12, .aload_n 0, 1), (13, .getfield 12, 3), (16, .iload_n 3, 1), (17, .iload_n 2, 1), (18, .invokevirtual 41, 3), (21, .pop, 1), (22, .aload_n 0, 1), (23, .getfield 28, 3), (26, .iconst 0, 1), (27, .iconst 0, 1), (28, .iastore, 1), (29, .aload_n 0, 1), (30, .getfield 31, 3), (33, .iconst 0, 1), (34, .iconst 0, 1), (35, .iastore, 1), (36, .iconst 0, 1), (37, .istore 4, 2), (39, .iload 4, 2), (41, .iload_n 3, 1), (42, .if_icmp .ge 36, 3), (45, .iload 4, 2), (47, .aload_n 0, 1), (48, .getfield 12, 3), (51, .invokevirtual 45, 3), (54, .if_icmp .ge 24, 3), (57, .aload_n 0, 1), (58, .getfield 37, 3), (61, .ifCond .ne 17, 3), (64, .aload_n 0, 1), (65, .iload 4, 2), (67, .aload_n 1, 1), (68, .iload_n 3, 1), (69, .invokevirtual 49, 3), (72, .iinc 4 1, 3), (75, .goto (-36), 3), (78, .return_, 1)]
theorem mt_Re_run_ok : ∀ x ∈ mt_Re_run, decode prog_5_method_2_code x.1 = .ok (x.2.1, x.2.2) := by decide +kernel
abbrev mY_Re_run : mx_Y := (⟨"PegBoards$Reaching", "run", "(LPegBoards$Jumps;II)V"⟩, prog_5_method_2_code, 5, none, "PegBoards$Reaching", [], Cond.code ⟨"PegBoards$Reaching", "run", "(LPegBoards$Jumps;II)V"⟩ prog_5_method_2_code 5 none :: mx_WS)
theorem mo_Re_run : mx_ok mY_Re_run mf_Re mt_Re_run := ⟨mt_Re_run_ok, mf_Re_ok, fun w h => List.mem_cons_of_mem _ h⟩
def mt_Fo_forget : mx_B := [(0, .aload_n 0, 1), (1, .getfield 15, 3), (4, .iconst 0, 1), (5, .invokestatic 18, 3), (8, .aload_n 0, 1), (9, .iconst 0, 1), (10, .putfield 24, 3), (13, .return_, 1)]
theorem mt_Fo_forget_ok : ∀ x ∈ mt_Fo_forget, decode prog_3_method_2_code x.1 = .ok (x.2.1, x.2.2) := by decide +kernel
abbrev mY_Fo_forget : mx_Y := (⟨"PegBoards$Found", "forget", "()V"⟩, prog_3_method_2_code, 1, none, "PegBoards$Found", [], Cond.code ⟨"PegBoards$Found", "forget", "()V"⟩ prog_3_method_2_code 1 none :: mx_WS)
theorem mo_Fo_forget : mx_ok mY_Fo_forget mf_Fo mt_Fo_forget := ⟨mt_Fo_forget_ok, mf_Fo_ok, fun w h => List.mem_cons_of_mem _ h⟩
def mt_Fo_numberWithin : mx_B := [(0, .aload_n 0, 1), (1, .iload_n 2, 1), (2, .invokevirtual 28, 3), (5, .istore_n 3, 1), (6, .aload_n 0, 1), (7, .getfield 15, 3), (10, .iload_n 3, 1), (11, .iaload, 1), (12, .ifCond .ne 53, 3), (15, .aload_n 0, 1), (16, .getfield 24, 3), (19, .iload_n 1, 1), (20, .if_icmp .ge 13, 3), (23, .aload_n 0, 1), (24, .getfield 24, 3), (27, .sipush 500, 3), (30, .if_icmp .lt 5, 3), (33, .iconst (-1), 1), (34, .ireturn, 1), (35, .aload_n 0, 1), (36, .getfield 9, 3), (39, .aload_n 0, 1), (40, .getfield 24, 3), (43, .iload_n 2, 1), (44, .iastore, 1), (45, .aload_n 0, 1), (46, .dup, 1), (47, .getfield 24, 3), (50, .iconst 1, 1), (51, .iadd, 1), (52, .putfield 24, 3), (55, .aload_n 0, 1), (56, .getfield 15, 3), (59, .iload_n 3, 1), (60, .aload_n 0, 1), (61, .getfield 24, 3), (64, .iastore, 1), (65, .aload_n 0, 1), (66, .getfield 15, 3), (69, .iload_n 3, 1), (70, .iaload, 1), (71, .iconst 1, 1), (72, .isub, 1), (73, .ireturn, 1)]
theorem mt_Fo_numberWithin_ok : ∀ x ∈ mt_Fo_numberWithin, decode prog_3_method_6_code x.1 = .ok (x.2.1, x.2.2) := by decide +kernel
abbrev mY_Fo_numberWithin : mx_Y := (⟨"PegBoards$Found", "numberWithin", "(II)I"⟩, prog_3_method_6_code, 4, (some .int), "PegBoards$Found", [], Cond.code ⟨"PegBoards$Found", "numberWithin", "(II)I"⟩ prog_3_method_6_code 4 (some .int) :: mx_WS)
theorem mo_Fo_numberWithin : mx_ok mY_Fo_numberWithin mf_Fo mt_Fo_numberWithin := ⟨mt_Fo_numberWithin_ok, mf_Fo_ok, fun w h => List.mem_cons_of_mem _ h⟩
def mt_Fo_slotFor : mx_B := [(0, .iload_n 1, 1), (1, .iload_n 1, 1), (2, .bipush 10, 2), (4, .ishr, 1), (5, .ixor, 1), (6, .sipush 1023, 3), (9, .iand, 1), (10, .istore_n 2, 1), (11, .iconst 0, 1), (12, .istore_n 3, 1), (13, .iload_n 3, 1), (14, .sipush 1024, 3), (17, .if_icmp .ge 26, 3), (20, .aload_n 0, 1), (21, .iload_n 2, 1), (22, .iload_n 1, 1), (23, .invokevirtual 32, 3), (26, .ifCond .ne 17, 3), (29, .iload_n 2, 1), (30, .iconst 1, 1), (31, .iadd, 1), (32, .sipush 1023, 3), (35, .iand, 1), (36, .istore_n 2, 1), (37, .iinc 3 1, 3), (40, .goto (-27), 3), (43, .iload_n 2, 1), (44, .ireturn, 1)]
theorem mt_Fo_slotFor_ok : ∀ x ∈ mt_Fo_slotFor, decode prog_3_method_7_code x.1 = .ok (x.2.1, x.2.2) := by decide +kernel
abbrev mY_Fo_slotFor : mx_Y := (⟨"PegBoards$Found", "slotFor", "(I)I"⟩, prog_3_method_7_code, 4, (some .int), "PegBoards$Found", [], Cond.code ⟨"PegBoards$Found", "slotFor", "(I)I"⟩ prog_3_method_7_code 4 (some .int) :: mx_WS)
theorem mo_Fo_slotFor : mx_ok mY_Fo_slotFor mf_Fo mt_Fo_slotFor := ⟨mt_Fo_slotFor_ok, mf_Fo_ok, fun w h => List.mem_cons_of_mem _ h⟩
def mt_Fo_isFreeOrHas : mx_B := [(0, .aload_n 0, 1), (1, .getfield 15, 3), (4, .iload_n 1, 1), (5, .iaload, 1), (6, .ifCond .eq 20, 3), (9, .aload_n 0, 1), (10, .getfield 9, 3), (13, .aload_n 0, 1), (14, .getfield 15, 3), (17, .iload_n 1, 1), (18, .iaload, 1), (19, .iconst 1, 1), (20, .isub, 1), (21, .iaload, 1), (22, .iload_n 2, 1), (23, .if_icmp .ne 7, 3), (26, .iconst 1, 1), (27, .goto 4, 3), (30, .iconst 0, 1), (31, .ireturn, 1)]
theorem mt_Fo_isFreeOrHas_ok : ∀ x ∈ mt_Fo_isFreeOrHas, decode prog_3_method_8_code x.1 = .ok (x.2.1, x.2.2) := by decide +kernel
abbrev mY_Fo_isFreeOrHas : mx_Y := (⟨"PegBoards$Found", "isFreeOrHas", "(II)Z"⟩, prog_3_method_8_code, 3, (some .boolean), "PegBoards$Found", [], Cond.code ⟨"PegBoards$Found", "isFreeOrHas", "(II)Z"⟩ prog_3_method_8_code 3 (some .boolean) :: mx_WS)
theorem mo_Fo_isFreeOrHas : mx_ok mY_Fo_isFreeOrHas mf_Fo mt_Fo_isFreeOrHas := ⟨mt_Fo_isFreeOrHas_ok, mf_Fo_ok, fun w h => List.mem_cons_of_mem _ h⟩
def mt_Fo_size : mx_B := [(0, .aload_n 0, 1), (1, .getfield 24, 3), (4, .ireturn, 1)]
theorem mt_Fo_size_ok : ∀ x ∈ mt_Fo_size, decode prog_3_method_3_code x.1 = .ok (x.2.1, x.2.2) := by decide +kernel
abbrev mY_Fo_size : mx_Y := (⟨"PegBoards$Found", "size", "()I"⟩, prog_3_method_3_code, 1, (some .int), "PegBoards$Found", [], Cond.code ⟨"PegBoards$Found", "size", "()I"⟩ prog_3_method_3_code 1 (some .int) :: mx_WS)
theorem mo_Fo_size : mx_ok mY_Fo_size mf_Fo mt_Fo_size := ⟨mt_Fo_size_ok, mf_Fo_ok, fun w h => List.mem_cons_of_mem _ h⟩
def mt_Re_goOnFrom : mx_B := [(0, .aload_n 0, 1), (1, .getfield 12, 3), (4, .iload_n 1, 1), (5, .invokevirtual 53, 3), (8, .istore 4, 2), (10, .iconst 0, 1), (11, .istore 5, 2), (13, .iload 5, 2), (15, .aload_n 2, 1), (16, .invokevirtual 57, 3), (19, .if_icmp .ge 102, 3), (22, .aload_n 0, 1), (23, .getfield 37, 3), (26, .ifCond .ne 95, 3), (29, .aload_n 2, 1), (30, .iload 4, 2), (32, .iload 5, 2), (34, .invokevirtual 60, 3), (37, .istore 6, 2), (39, .iload 6, 2), (41, .iconst (-1), 1), (42, .if_icmp .eq 73, 3), (45, .aload_n 0, 1), (46, .getfield 12, 3), (49, .invokevirtual 45, 3), (52, .istore 7, 2), (54, .aload_n 0, 1), (55, .getfield 12, 3), (58, .iload_n 3, 1), (59, .iload 6, 2), (61, .invokevirtual 41, 3), (64, .istore 8, 2), (66, .iload 8, 2), (68, .iconst (-1), 1), (69, .if_icmp .ne 11, 3), (72, .aload_n 0, 1), (73, .iconst 1, 1), (74, .putfield 37, 3), (77, .goto 38, 3), (80, .iload 8, 2), (82, .iload 7, 2), (84, .if_icmp .ne 12, 3), (87, .aload_n 0, 1), (88, .iload 8, 2), (90, .iload_n 1, 1), (91, .iload 5, 2), (93, .invokevirtual 63, 3), (96, .aload_n 0, 1), (97, .iload_n 1, 1), (98, .iload 8, 2), (100, .aload_n 2, 1), (101, .iload 5, 2), (103, .invokevirtual 67, 3), (106, .aload_n 2, 1), (107, .iload 5, 2), (109, .invokevirtual 70, 3), (112, .invokevirtual 73, 3), (115, .iinc 5 1, 3), (118, .goto (-105), 3), (121, .return_, 1)]
theorem mt_Re_goOnFrom_ok : ∀ x ∈ mt_Re_goOnFrom, decode prog_5_method_3_code x.1 = .ok (x.2.1, x.2.2) := by decide +kernel
abbrev mY_Re_goOnFrom : mx_Y := (⟨"PegBoards$Reaching", "goOnFrom", "(ILPegBoards$Jumps;I)V"⟩, prog_5_method_3_code, 9, none, "PegBoards$Reaching", [], Cond.code ⟨"PegBoards$Reaching", "goOnFrom", "(ILPegBoards$Jumps;I)V"⟩ prog_5_method_3_code 9 none :: mx_WS)
theorem mo_Re_goOnFrom : mx_ok mY_Re_goOnFrom mf_Re mt_Re_goOnFrom := ⟨mt_Re_goOnFrom_ok, mf_Re_ok, fun w h => List.mem_cons_of_mem _ h⟩
def mt_Fo_positionOf : mx_B := [(0, .aload_n 0, 1), (1, .getfield 9, 3), (4, .iload_n 1, 1), (5, .iaload, 1), (6, .ireturn, 1)]
theorem mt_Fo_positionOf_ok : ∀ x ∈ mt_Fo_positionOf, decode prog_3_method_4_code x.1 = .ok (x.2.1, x.2.2) := by decide +kernel
abbrev mY_Fo_positionOf : mx_Y := (⟨"PegBoards$Found", "positionOf", "(I)I"⟩, prog_3_method_4_code, 2, (some .int), "PegBoards$Found", [], Cond.code ⟨"PegBoards$Found", "positionOf", "(I)I"⟩ prog_3_method_4_code 2 (some .int) :: mx_WS)
theorem mo_Fo_positionOf : mx_ok mY_Fo_positionOf mf_Fo mt_Fo_positionOf := ⟨mt_Fo_positionOf_ok, mf_Fo_ok, fun w h => List.mem_cons_of_mem _ h⟩
def mt_Re_enter : mx_B := [(0, .aload_n 0, 1), (1, .getfield 21, 3), (4, .iload_n 1, 1), (5, .iload_n 2, 1), (6, .iastore, 1), (7, .aload_n 0, 1), (8, .getfield 25, 3), (11, .iload_n 1, 1), (12, .iload_n 3, 1), (13, .iastore, 1), (14, .aload_n 0, 1), (15, .getfield 28, 3), (18, .iload_n 1, 1), (19, .bipush 20, 2), (21, .iastore, 1), (22, .return_, 1)]
theorem mt_Re_enter_ok : ∀ x ∈ mt_Re_enter, decode prog_5_method_4_code x.1 = .ok (x.2.1, x.2.2) := by decide +kernel
abbrev mY_Re_enter : mx_Y := (⟨"PegBoards$Reaching", "enter", "(III)V"⟩, prog_5_method_4_code, 4, none, "PegBoards$Reaching", [], Cond.code ⟨"PegBoards$Reaching", "enter", "(III)V"⟩ prog_5_method_4_code 4 none :: mx_WS)
theorem mo_Re_enter : mx_ok mY_Re_enter mf_Re mt_Re_enter := ⟨mt_Re_enter_ok, mf_Re_ok, fun w h => List.mem_cons_of_mem _ h⟩
def mt_Re_addMoves : mx_B := [(0, .aload_n 0, 1), (1, .getfield 28, 3), (4, .iload_n 1, 1), (5, .iaload, 1), (6, .aload_n 0, 1), (7, .getfield 31, 3), (10, .iload_n 1, 1), (11, .iaload, 1), (12, .iload_n 3, 1), (13, .invokestatic 77, 3), (16, .ifCond .eq 7, 3), (19, .iconst 0, 1), (20, .goto 4, 3), (23, .iconst 1, 1), (24, .iadd, 1), (25, .istore 5, 2), (27, .iload 5, 2), (29, .aload_n 0, 1), (30, .getfield 28, 3), (33, .iload_n 2, 1), (34, .iaload, 1), (35, .if_icmp .ge 18, 3), (38, .aload_n 0, 1), (39, .getfield 28, 3), (42, .iload_n 2, 1), (43, .iload 5, 2), (45, .iastore, 1), (46, .aload_n 0, 1), (47, .getfield 31, 3), (50, .iload_n 2, 1), (51, .iconst 0, 1), (52, .iastore, 1), (53, .iload 5, 2), (55, .aload_n 0, 1), (56, .getfield 28, 3), (59, .iload_n 2, 1), (60, .iaload, 1), (61, .if_icmp .ne 16, 3), (64, .aload_n 0, 1), (65, .getfield 31, 3), (68, .iload_n 2, 1), (69, .dup2, 1), (70, .iaload, 1), (71, .iconst 1, 1), (72, .iload 4, 2), (74, .ishl, 1), (75, .ior, 1), (76, .iastore, 1), (77, .return_, 1)]
theorem mt_Re_addMoves_ok : ∀ x ∈ mt_Re_addMoves, decode prog_5_method_5_code x.1 = .ok (x.2.1, x.2.2) := by decide +kernel
abbrev mY_Re_addMoves : mx_Y := (⟨"PegBoards$Reaching", "addMoves", "(IIII)V"⟩, prog_5_method_5_code, 6, none, "PegBoards$Reaching", [], Cond.code ⟨"PegBoards$Reaching", "addMoves", "(IIII)V"⟩ prog_5_method_5_code 6 none :: mx_WS)
theorem mo_Re_addMoves : mx_ok mY_Re_addMoves mf_Re mt_Re_addMoves := ⟨mt_Re_addMoves_ok, mf_Re_ok, fun w h => List.mem_cons_of_mem _ h⟩
def mt_Pe_contains : mx_B := [(0, .iload_n 0, 1), (1, .iload_n 1, 1), (2, .ishr, 1), (3, .iconst 1, 1), (4, .iand, 1), (5, .iconst 1, 1), (6, .if_icmp .ne 7, 3), (9, .iconst 1, 1), (10, .goto 4, 3), (13, .iconst 0, 1), (14, .ireturn, 1)]
theorem mt_Pe_contains_ok : ∀ x ∈ mt_Pe_contains, decode prog_1_method_27_code x.1 = .ok (x.2.1, x.2.2) := by decide +kernel
abbrev mY_Pe_contains : mx_Y := (⟨"PegBoards", "contains", "(II)Z"⟩, prog_1_method_27_code, 2, (some .boolean), "PegBoards", [], Cond.code ⟨"PegBoards", "contains", "(II)Z"⟩ prog_1_method_27_code 2 (some .boolean) :: mx_WS)
theorem mo_Pe_contains : mx_ok mY_Pe_contains mf_Pe mt_Pe_contains := ⟨mt_Pe_contains_ok, mf_Pe_ok, fun w h => List.mem_cons_of_mem _ h⟩
def mt_Re_limitMet : mx_B := [(0, .aload_n 0, 1), (1, .getfield 37, 3), (4, .ireturn, 1)]
theorem mt_Re_limitMet_ok : ∀ x ∈ mt_Re_limitMet, decode prog_5_method_6_code x.1 = .ok (x.2.1, x.2.2) := by decide +kernel
abbrev mY_Re_limitMet : mx_Y := (⟨"PegBoards$Reaching", "limitMet", "()Z"⟩, prog_5_method_6_code, 1, (some .boolean), "PegBoards$Reaching", [], Cond.code ⟨"PegBoards$Reaching", "limitMet", "()Z"⟩ prog_5_method_6_code 1 (some .boolean) :: mx_WS)
theorem mo_Re_limitMet : mx_ok mY_Re_limitMet mf_Re mt_Re_limitMet := ⟨mt_Re_limitMet_ok, mf_Re_ok, fun w h => List.mem_cons_of_mem _ h⟩
def mt_Re_size : mx_B := [(0, .aload_n 0, 1), (1, .getfield 12, 3), (4, .invokevirtual 45, 3), (7, .ireturn, 1)]
theorem mt_Re_size_ok : ∀ x ∈ mt_Re_size, decode prog_5_method_7_code x.1 = .ok (x.2.1, x.2.2) := by decide +kernel
abbrev mY_Re_size : mx_Y := (⟨"PegBoards$Reaching", "size", "()I"⟩, prog_5_method_7_code, 1, (some .int), "PegBoards$Reaching", [], Cond.code ⟨"PegBoards$Reaching", "size", "()I"⟩ prog_5_method_7_code 1 (some .int) :: mx_WS)
theorem mo_Re_size : mx_ok mY_Re_size mf_Re mt_Re_size := ⟨mt_Re_size_ok, mf_Re_ok, fun w h => List.mem_cons_of_mem _ h⟩
def mt_La_solve : mx_B := [(0, .aload_n 2, 1), (1, .iconst 0, 1), (2, .aload_n 0, 1), (3, .iload_n 1, 1), (4, .invokevirtual 37, 3), (7, .i2l, 1), (8, .lastore, 1), (9, .goto 9, 3), (12, .astore_n 3, 1), (13, .iconst 1, 1), (14, .ireturn, 1), (15, .astore_n 3, 1), (16, .iconst 2, 1), (17, .ireturn, 1), (18, .iconst 0, 1), (19, .ireturn, 1)]
theorem mt_La_solve_ok : ∀ x ∈ mt_La_solve, decode method_9_code x.1 = .ok (x.2.1, x.2.2) := by decide +kernel
abbrev mY_La_solve : mx_Y := (⟨"PegBoardsLaw", "solve", "(LPegBoards;I[J)I"⟩, method_9_code, 4, (some .int), "PegBoardsLaw", [(0, 9, 12, 15), (0, 9, 15, 13)], Cond.codeWith ⟨"PegBoardsLaw", "solve", "(LPegBoards;I[J)I"⟩ method_9_code 4 (some .int) [(0, 9, 12, 15), (0, 9, 15, 13)] :: mx_WS)
theorem mo_La_solve : mx_ok mY_La_solve mf_La mt_La_solve := ⟨mt_La_solve_ok, mf_La_ok, fun w h => List.mem_cons_of_mem _ h⟩
def mt_Pe_solve : mx_B := [(0, .aload_n 0, 1), (1, .iload_n 1, 1), (2, .invokevirtual 129, 3), (5, .aload_n 0, 1), (6, .getfield 33, 3), (9, .aload_n 0, 1), (10, .getfield 57, 3), (13, .invokevirtual 136, 3), (16, .ifCond .eq 5, 3), (19, .iconst 1, 1), (20, .ireturn, 1), (21, .aload_n 0, 1), (22, .getfield 33, 3), (25, .invokevirtual 132, 3), (28, .ifCond .eq 8, 3), (31, .bipush (-2), 2), (33, .goto 4, 3), (36, .iconst 0, 1), (37, .ireturn, 1)]
theorem mt_Pe_solve_ok : ∀ x ∈ mt_Pe_solve, decode prog_1_method_10_code x.1 = .ok (x.2.1, x.2.2) := by decide +kernel
abbrev mY_Pe_solve : mx_Y := (⟨"PegBoards", "solve", "(I)I"⟩, prog_1_method_10_code, 2, (some .int), "PegBoards", [], Cond.code ⟨"PegBoards", "solve", "(I)I"⟩ prog_1_method_10_code 2 (some .int) :: mx_WS)
theorem mo_Pe_solve : mx_ok mY_Pe_solve mf_Pe mt_Pe_solve := ⟨mt_Pe_solve_ok, mf_Pe_ok, fun w h => List.mem_cons_of_mem _ h⟩
def mt_Re_has : mx_B := [(0, .aload_n 0, 1), (1, .getfield 12, 3), (4, .iload_n 1, 1), (5, .invokevirtual 81, 3), (8, .iconst (-1), 1), (9, .if_icmp .eq 7, 3), (12, .iconst 1, 1), (13, .goto 4, 3), (16, .iconst 0, 1), (17, .ireturn, 1)]
theorem mt_Re_has_ok : ∀ x ∈ mt_Re_has, decode prog_5_method_8_code x.1 = .ok (x.2.1, x.2.2) := by decide +kernel
abbrev mY_Re_has : mx_Y := (⟨"PegBoards$Reaching", "has", "(I)Z"⟩, prog_5_method_8_code, 2, (some .boolean), "PegBoards$Reaching", [], Cond.code ⟨"PegBoards$Reaching", "has", "(I)Z"⟩ prog_5_method_8_code 2 (some .boolean) :: mx_WS)
theorem mo_Re_has : mx_ok mY_Re_has mf_Re mt_Re_has := ⟨mt_Re_has_ok, mf_Re_ok, fun w h => List.mem_cons_of_mem _ h⟩
def mt_Fo_numberOf : mx_B := [(0, .aload_n 0, 1), (1, .getfield 15, 3), (4, .aload_n 0, 1), (5, .iload_n 1, 1), (6, .invokevirtual 28, 3), (9, .iaload, 1), (10, .iconst 1, 1), (11, .isub, 1), (12, .ireturn, 1)]
theorem mt_Fo_numberOf_ok : ∀ x ∈ mt_Fo_numberOf, decode prog_3_method_5_code x.1 = .ok (x.2.1, x.2.2) := by decide +kernel
abbrev mY_Fo_numberOf : mx_Y := (⟨"PegBoards$Found", "numberOf", "(I)I"⟩, prog_3_method_5_code, 2, (some .int), "PegBoards$Found", [], Cond.code ⟨"PegBoards$Found", "numberOf", "(I)I"⟩ prog_3_method_5_code 2 (some .int) :: mx_WS)
theorem mo_Fo_numberOf : mx_ok mY_Fo_numberOf mf_Fo mt_Fo_numberOf := ⟨mt_Fo_numberOf_ok, mf_Fo_ok, fun w h => List.mem_cons_of_mem _ h⟩
def mt_La_way : mx_B := [(0, .aload_n 3, 1), (1, .iconst 0, 1), (2, .aload_n 0, 1), (3, .iload_n 1, 1), (4, .iload_n 2, 1), (5, .invokevirtual 40, 3), (8, .i2l, 1), (9, .lastore, 1), (10, .goto 11, 3), (13, .astore 4, 2), (15, .iconst 1, 1), (16, .ireturn, 1), (17, .astore 4, 2), (19, .iconst 2, 1), (20, .ireturn, 1), (21, .iconst 0, 1), (22, .ireturn, 1)]
theorem mt_La_way_ok : ∀ x ∈ mt_La_way, decode method_10_code x.1 = .ok (x.2.1, x.2.2) := by decide +kernel
abbrev mY_La_way : mx_Y := (⟨"PegBoardsLaw", "way", "(LPegBoards;II[J)I"⟩, method_10_code, 5, (some .int), "PegBoardsLaw", [(0, 10, 13, 15), (0, 10, 17, 13)], Cond.codeWith ⟨"PegBoardsLaw", "way", "(LPegBoards;II[J)I"⟩ method_10_code 5 (some .int) [(0, 10, 13, 15), (0, 10, 17, 13)] :: mx_WS)
theorem mo_La_way : mx_ok mY_La_way mf_La mt_La_way := ⟨mt_La_way_ok, mf_La_ok, fun w h => List.mem_cons_of_mem _ h⟩
def mt_Pe_way : mx_B := [(0, .aload_n 0, 1), (1, .iload_n 1, 1), (2, .invokevirtual 129, 3), (5, .aload_n 0, 1), (6, .getfield 33, 3), (9, .aload_n 0, 1), (10, .getfield 53, 3), (13, .aload_n 0, 1), (14, .getfield 57, 3), (17, .iload_n 2, 1), (18, .invokevirtual 140, 3), (21, .ireturn, 1)]
theorem mt_Pe_way_ok : ∀ x ∈ mt_Pe_way, decode prog_1_method_11_code x.1 = .ok (x.2.1, x.2.2) := by decide +kernel
abbrev mY_Pe_way : mx_Y := (⟨"PegBoards", "way", "(II)I"⟩, prog_1_method_11_code, 3, (some .int), "PegBoards", [], Cond.code ⟨"PegBoards", "way", "(II)I"⟩ prog_1_method_11_code 3 (some .int) :: mx_WS)
theorem mo_Pe_way : mx_ok mY_Pe_way mf_Pe mt_Pe_way := ⟨mt_Pe_way_ok, mf_Pe_ok, fun w h => List.mem_cons_of_mem _ h⟩
def mt_Re_jumpOnWay : mx_B := [(0, .aload_n 0, 1), (1, .getfield 12, 3), (4, .iload_n 2, 1), (5, .invokevirtual 81, 3), (8, .istore 4, 2), (10, .iload_n 1, 1), (11, .invokestatic 84, 3), (14, .iload_n 2, 1), (15, .invokestatic 84, 3), (18, .isub, 1), (19, .istore 5, 2), (21, .iload 4, 2), (23, .iconst (-1), 1), (24, .if_icmp .eq 13, 3), (27, .iload_n 3, 1), (28, .ifCond .lt 9, 3), (31, .iload_n 3, 1), (32, .iload 5, 2), (34, .if_icmp .lt 5, 3), (37, .iconst (-1), 1), (38, .ireturn, 1), (39, .iload 5, 2), (41, .iconst 1, 1), (42, .isub, 1), (43, .istore 6, 2), (45, .iload 6, 2), (47, .iload_n 3, 1), (48, .if_icmp .le 18, 3), (51, .aload_n 0, 1), (52, .getfield 21, 3), (55, .iload 4, 2), (57, .iaload, 1), (58, .istore 4, 2), (60, .iinc 6 (-1), 3), (63, .goto (-18), 3), (66, .aload_n 0, 1), (67, .getfield 25, 3), (70, .iload 4, 2), (72, .iaload, 1), (73, .ireturn, 1)]
theorem mt_Re_jumpOnWay_ok : ∀ x ∈ mt_Re_jumpOnWay, decode prog_5_method_10_code x.1 = .ok (x.2.1, x.2.2) := by decide +kernel
abbrev mY_Re_jumpOnWay : mx_Y := (⟨"PegBoards$Reaching", "jumpOnWay", "(III)I"⟩, prog_5_method_10_code, 7, (some .int), "PegBoards$Reaching", [], Cond.code ⟨"PegBoards$Reaching", "jumpOnWay", "(III)I"⟩ prog_5_method_10_code 7 (some .int) :: mx_WS)
theorem mo_Re_jumpOnWay : mx_ok mY_Re_jumpOnWay mf_Re mt_Re_jumpOnWay := ⟨mt_Re_jumpOnWay_ok, mf_Re_ok, fun w h => List.mem_cons_of_mem _ h⟩
def mt_In_bitCount : mx_B := [(0, .iload_n 0, 1), (1, .iload_n 0, 1), (2, .iconst 1, 1), (3, .iushr, 1), (4, .ldc_w 265, 3), (7, .iand, 1), (8, .isub, 1), (9, .istore_n 0, 1), (10, .iload_n 0, 1), (11, .ldc_w 266, 3), (14, .iand, 1), (15, .iload_n 0, 1), (16, .iconst 2, 1), (17, .iushr, 1), (18, .ldc_w 266, 3), (21, .iand, 1), (22, .iadd, 1), (23, .istore_n 0, 1), (24, .iload_n 0, 1), (25, .iload_n 0, 1), (26, .iconst 4, 1), (27, .iushr, 1), (28, .iadd, 1), (29, .ldc_w 267, 3), (32, .iand, 1), (33, .istore_n 0, 1), (34, .iload_n 0, 1), (35, .iload_n 0, 1), (36, .bipush 8, 2), (38, .iushr, 1), (39, .iadd, 1), (40, .istore_n 0, 1), (41, .iload_n 0, 1), (42, .iload_n 0, 1), (43, .bipush 16, 2), (45, .iushr, 1), (46, .iadd, 1), (47, .istore_n 0, 1), (48, .iload_n 0, 1), (49, .bipush 63, 2), (51, .iand, 1), (52, .ireturn, 1)]
theorem mt_In_bitCount_ok : ∀ x ∈ mt_In_bitCount, decode prog_14_method_49_code x.1 = .ok (x.2.1, x.2.2) := by decide +kernel
abbrev mY_In_bitCount : mx_Y := (⟨"java/lang/Integer", "bitCount", "(I)I"⟩, prog_14_method_49_code, 1, (some .int), "java/lang/Integer", [], Cond.code ⟨"java/lang/Integer", "bitCount", "(I)I"⟩ prog_14_method_49_code 1 (some .int) :: mx_WS)
theorem mo_In_bitCount : mx_ok mY_In_bitCount mf_In mt_In_bitCount := ⟨mt_In_bitCount_ok, mf_In_ok, fun w h => List.mem_cons_of_mem _ h⟩
def mt_La_moves : mx_B := [(0, .aload_n 2, 1), (1, .iconst 0, 1), (2, .aload_n 0, 1), (3, .iload_n 1, 1), (4, .invokevirtual 43, 3), (7, .i2l, 1), (8, .lastore, 1), (9, .goto 9, 3), (12, .astore_n 3, 1), (13, .iconst 1, 1), (14, .ireturn, 1), (15, .astore_n 3, 1), (16, .iconst 2, 1), (17, .ireturn, 1), (18, .iconst 0, 1), (19, .ireturn, 1)]
theorem mt_La_moves_ok : ∀ x ∈ mt_La_moves, decode method_11_code x.1 = .ok (x.2.1, x.2.2) := by decide +kernel
abbrev mY_La_moves : mx_Y := (⟨"PegBoardsLaw", "moves", "(LPegBoards;I[J)I"⟩, method_11_code, 4, (some .int), "PegBoardsLaw", [(0, 9, 12, 15), (0, 9, 15, 13)], Cond.codeWith ⟨"PegBoardsLaw", "moves", "(LPegBoards;I[J)I"⟩ method_11_code 4 (some .int) [(0, 9, 12, 15), (0, 9, 15, 13)] :: mx_WS)
theorem mo_La_moves : mx_ok mY_La_moves mf_La mt_La_moves := ⟨mt_La_moves_ok, mf_La_ok, fun w h => List.mem_cons_of_mem _ h⟩
def mt_Pe_moves : mx_B := [(0, .aload_n 0, 1), (1, .iload_n 1, 1), (2, .invokevirtual 129, 3), (5, .aload_n 0, 1), (6, .getfield 33, 3), (9, .invokevirtual 132, 3), (12, .ifCond .eq 8, 3), (15, .bipush (-2), 2), (17, .goto 14, 3), (20, .aload_n 0, 1), (21, .getfield 33, 3), (24, .aload_n 0, 1), (25, .getfield 57, 3), (28, .invokevirtual 144, 3), (31, .ireturn, 1)]
theorem mt_Pe_moves_ok : ∀ x ∈ mt_Pe_moves, decode prog_1_method_12_code x.1 = .ok (x.2.1, x.2.2) := by decide +kernel
abbrev mY_Pe_moves : mx_Y := (⟨"PegBoards", "moves", "(I)I"⟩, prog_1_method_12_code, 2, (some .int), "PegBoards", [], Cond.code ⟨"PegBoards", "moves", "(I)I"⟩ prog_1_method_12_code 2 (some .int) :: mx_WS)
theorem mo_Pe_moves : mx_ok mY_Pe_moves mf_Pe mt_Pe_moves := ⟨mt_Pe_moves_ok, mf_Pe_ok, fun w h => List.mem_cons_of_mem _ h⟩
def mt_Re_fewestMoves : mx_B := [(0, .aload_n 0, 1), (1, .getfield 12, 3), (4, .iload_n 1, 1), (5, .invokevirtual 81, 3), (8, .istore_n 2, 1), (9, .iload_n 2, 1), (10, .iconst (-1), 1), (11, .if_icmp .ne 7, 3), (14, .iconst (-1), 1), (15, .goto 9, 3), (18, .aload_n 0, 1), (19, .getfield 28, 3), (22, .iload_n 2, 1), (23, .iaload, 1), (24, .ireturn, 1)]
theorem mt_Re_fewestMoves_ok : ∀ x ∈ mt_Re_fewestMoves, decode prog_5_method_9_code x.1 = .ok (x.2.1, x.2.2) := by decide +kernel
abbrev mY_Re_fewestMoves : mx_Y := (⟨"PegBoards$Reaching", "fewestMoves", "(I)I"⟩, prog_5_method_9_code, 3, (some .int), "PegBoards$Reaching", [], Cond.code ⟨"PegBoards$Reaching", "fewestMoves", "(I)I"⟩ prog_5_method_9_code 3 (some .int) :: mx_WS)
theorem mo_Re_fewestMoves : mx_ok mY_Re_fewestMoves mf_Re mt_Re_fewestMoves := ⟨mt_Re_fewestMoves_ok, mf_Re_ok, fun w h => List.mem_cons_of_mem _ h⟩
def mt_La_classes : mx_B := [(0, .aload_n 2, 1), (1, .iconst 0, 1), (2, .aload_n 0, 1), (3, .iload_n 1, 1), (4, .invokevirtual 46, 3), (7, .i2l, 1), (8, .lastore, 1), (9, .goto 9, 3), (12, .astore_n 3, 1), (13, .iconst 1, 1), (14, .ireturn, 1), (15, .astore_n 3, 1), (16, .iconst 2, 1), (17, .ireturn, 1), (18, .iconst 0, 1), (19, .ireturn, 1)]
theorem mt_La_classes_ok : ∀ x ∈ mt_La_classes, decode method_12_code x.1 = .ok (x.2.1, x.2.2) := by decide +kernel
abbrev mY_La_classes : mx_Y := (⟨"PegBoardsLaw", "classes", "(LPegBoards;I[J)I"⟩, method_12_code, 4, (some .int), "PegBoardsLaw", [(0, 9, 12, 15), (0, 9, 15, 13)], Cond.codeWith ⟨"PegBoardsLaw", "classes", "(LPegBoards;I[J)I"⟩ method_12_code 4 (some .int) [(0, 9, 12, 15), (0, 9, 15, 13)] :: mx_WS)
theorem mo_La_classes : mx_ok mY_La_classes mf_La mt_La_classes := ⟨mt_La_classes_ok, mf_La_ok, fun w h => List.mem_cons_of_mem _ h⟩
def mt_Pe_classes : mx_B := [(0, .aload_n 0, 1), (1, .iload_n 1, 1), (2, .invokevirtual 129, 3), (5, .aload_n 0, 1), (6, .getfield 33, 3), (9, .invokevirtual 132, 3), (12, .ifCond .eq 8, 3), (15, .bipush (-2), 2), (17, .goto 14, 3), (20, .aload_n 0, 1), (21, .getfield 33, 3), (24, .aload_n 0, 1), (25, .getfield 26, 3), (28, .invokevirtual 147, 3), (31, .ireturn, 1)]
theorem mt_Pe_classes_ok : ∀ x ∈ mt_Pe_classes, decode prog_1_method_13_code x.1 = .ok (x.2.1, x.2.2) := by decide +kernel
abbrev mY_Pe_classes : mx_Y := (⟨"PegBoards", "classes", "(I)I"⟩, prog_1_method_13_code, 2, (some .int), "PegBoards", [], Cond.code ⟨"PegBoards", "classes", "(I)I"⟩ prog_1_method_13_code 2 (some .int) :: mx_WS)
theorem mo_Pe_classes : mx_ok mY_Pe_classes mf_Pe mt_Pe_classes := ⟨mt_Pe_classes_ok, mf_Pe_ok, fun w h => List.mem_cons_of_mem _ h⟩
def mt_Re_differentLeasts : mx_B := [(0, .aload_n 0, 1), (1, .getfield 18, 3), (4, .invokevirtual 34, 3), (7, .iconst 0, 1), (8, .istore_n 2, 1), (9, .iload_n 2, 1), (10, .aload_n 0, 1), (11, .getfield 12, 3), (14, .invokevirtual 45, 3), (17, .if_icmp .ge 32, 3), (20, .aload_n 0, 1), (21, .getfield 18, 3), (24, .sipush 500, 3), (27, .aload_n 1, 1), (28, .aload_n 0, 1), (29, .getfield 12, 3), (32, .iload_n 2, 1), (33, .invokevirtual 53, 3), (36, .invokevirtual 89, 3), (39, .invokevirtual 41, 3), (42, .pop, 1), (43, .iinc 2 1, 3), (46, .goto (-37), 3), (49, .aload_n 0, 1), (50, .getfield 18, 3), (53, .invokevirtual 45, 3), (56, .ireturn, 1)]
theorem mt_Re_differentLeasts_ok : ∀ x ∈ mt_Re_differentLeasts, decode prog_5_method_11_code x.1 = .ok (x.2.1, x.2.2) := by decide +kernel
abbrev mY_Re_differentLeasts : mx_Y := (⟨"PegBoards$Reaching", "differentLeasts", "(LPegBoards$Symmetries;)I"⟩, prog_5_method_11_code, 3, (some .int), "PegBoards$Reaching", [], Cond.code ⟨"PegBoards$Reaching", "differentLeasts", "(LPegBoards$Symmetries;)I"⟩ prog_5_method_11_code 3 (some .int) :: mx_WS)
theorem mo_Re_differentLeasts : mx_ok mY_Re_differentLeasts mf_Re mt_Re_differentLeasts := ⟨mt_Re_differentLeasts_ok, mf_Re_ok, fun w h => List.mem_cons_of_mem _ h⟩
def mt_Sy_leastOf : mx_B := [(0, .iload_n 1, 1), (1, .istore_n 2, 1), (2, .iconst 0, 1), (3, .istore_n 3, 1), (4, .iload_n 3, 1), (5, .aload_n 0, 1), (6, .getfield 23, 3), (9, .if_icmp .ge 20, 3), (12, .iload_n 2, 1), (13, .aload_n 0, 1), (14, .iload_n 3, 1), (15, .iload_n 1, 1), (16, .invokevirtual 76, 3), (19, .invokestatic 79, 3), (22, .istore_n 2, 1), (23, .iinc 3 1, 3), (26, .goto (-22), 3), (29, .iload_n 2, 1), (30, .ireturn, 1)]
theorem mt_Sy_leastOf_ok : ∀ x ∈ mt_Sy_leastOf, decode prog_6_method_10_code x.1 = .ok (x.2.1, x.2.2) := by decide +kernel
abbrev mY_Sy_leastOf : mx_Y := (⟨"PegBoards$Symmetries", "leastOf", "(I)I"⟩, prog_6_method_10_code, 4, (some .int), "PegBoards$Symmetries", [], Cond.code ⟨"PegBoards$Symmetries", "leastOf", "(I)I"⟩ prog_6_method_10_code 4 (some .int) :: mx_WS)
theorem mo_Sy_leastOf : mx_ok mY_Sy_leastOf mf_Sy mt_Sy_leastOf := ⟨mt_Sy_leastOf_ok, mf_Sy_ok, fun w h => List.mem_cons_of_mem _ h⟩
def mt_Sy_imageOf : mx_B := [(0, .iconst 0, 1), (1, .istore_n 3, 1), (2, .iconst 0, 1), (3, .istore 4, 2), (5, .iload 4, 2), (7, .aload_n 0, 1), (8, .getfield 37, 3), (11, .if_icmp .ge 32, 3), (14, .iload_n 2, 1), (15, .iload 4, 2), (17, .invokestatic 84, 3), (20, .ifCond .eq 17, 3), (23, .iload_n 3, 1), (24, .iconst 1, 1), (25, .aload_n 0, 1), (26, .getfield 11, 3), (29, .iload_n 1, 1), (30, .aaload, 1), (31, .iload 4, 2), (33, .iaload, 1), (34, .ishl, 1), (35, .ior, 1), (36, .istore_n 3, 1), (37, .iinc 4 1, 3), (40, .goto (-35), 3), (43, .iload_n 3, 1), (44, .ireturn, 1)]
theorem mt_Sy_imageOf_ok : ∀ x ∈ mt_Sy_imageOf, decode prog_6_method_11_code x.1 = .ok (x.2.1, x.2.2) := by decide +kernel
abbrev mY_Sy_imageOf : mx_Y := (⟨"PegBoards$Symmetries", "imageOf", "(II)I"⟩, prog_6_method_11_code, 5, (some .int), "PegBoards$Symmetries", [], Cond.code ⟨"PegBoards$Symmetries", "imageOf", "(II)I"⟩ prog_6_method_11_code 5 (some .int) :: mx_WS)
theorem mo_Sy_imageOf : mx_ok mY_Sy_imageOf mf_Sy mt_Sy_imageOf := ⟨mt_Sy_imageOf_ok, mf_Sy_ok, fun w h => List.mem_cons_of_mem _ h⟩
def mt_La_image : mx_B := [(0, .aload_n 3, 1), (1, .iconst 0, 1), (2, .aload_n 0, 1), (3, .iload_n 1, 1), (4, .iload_n 2, 1), (5, .invokevirtual 49, 3), (8, .i2l, 1), (9, .lastore, 1), (10, .goto 7, 3), (13, .astore 4, 2), (15, .iconst 1, 1), (16, .ireturn, 1), (17, .iconst 0, 1), (18, .ireturn, 1)]
theorem mt_La_image_ok : ∀ x ∈ mt_La_image, decode method_13_code x.1 = .ok (x.2.1, x.2.2) := by decide +kernel
abbrev mY_La_image : mx_Y := (⟨"PegBoardsLaw", "image", "(LPegBoards;II[J)I"⟩, method_13_code, 5, (some .int), "PegBoardsLaw", [(0, 10, 13, 24)], Cond.codeWith ⟨"PegBoardsLaw", "image", "(LPegBoards;II[J)I"⟩ method_13_code 5 (some .int) [(0, 10, 13, 24)] :: mx_WS)
theorem mo_La_image : mx_ok mY_La_image mf_La mt_La_image := ⟨mt_La_image_ok, mf_La_ok, fun w h => List.mem_cons_of_mem _ h⟩
def mt_Pe_image : mx_B := [(0, .iload_n 1, 1), (1, .ifCond .lt 14, 3), (4, .iload_n 1, 1), (5, .aload_n 0, 1), (6, .getfield 26, 3), (9, .invokevirtual 151, 3), (12, .if_icmp .lt 13, 3), (15, .new 118, 3), (18, .dup, 1), (19, .ldc 152, 2), (21, .invokespecial 122, 3), (24, .athrow, 1), (25, .aload_n 0, 1), (26, .iload_n 2, 1), (27, .invokevirtual 154, 3), (30, .aload_n 0, 1), (31, .getfield 26, 3), (34, .iload_n 1, 1), (35, .iload_n 2, 1), (36, .invokevirtual 157, 3), (39, .ireturn, 1)]
theorem mt_Pe_image_ok : ∀ x ∈ mt_Pe_image, decode prog_1_method_15_code x.1 = .ok (x.2.1, x.2.2) := by decide +kernel
abbrev mY_Pe_image : mx_Y := (⟨"PegBoards", "image", "(II)I"⟩, prog_1_method_15_code, 3, (some .int), "PegBoards", [], Cond.code ⟨"PegBoards", "image", "(II)I"⟩ prog_1_method_15_code 3 (some .int) :: mx_WS)
theorem mo_Pe_image : mx_ok mY_Pe_image mf_Pe mt_Pe_image := ⟨mt_Pe_image_ok, mf_Pe_ok, fun w h => List.mem_cons_of_mem _ h⟩
def mt_Pe_requireHole : mx_B := [(0, .iload_n 1, 1), (1, .ifCond .lt 14, 3), (4, .iload_n 1, 1), (5, .aload_n 0, 1), (6, .getfield 12, 3), (9, .invokevirtual 190, 3), (12, .if_icmp .lt 13, 3), (15, .new 118, 3), (18, .dup, 1), (19, .ldc 217, 2), (21, .invokespecial 122, 3), (24, .athrow, 1), (25, .return_, 1)]
theorem mt_Pe_requireHole_ok : ∀ x ∈ mt_Pe_requireHole, decode prog_1_method_25_code x.1 = .ok (x.2.1, x.2.2) := by decide +kernel
abbrev mY_Pe_requireHole : mx_Y := (⟨"PegBoards", "requireHole", "(I)V"⟩, prog_1_method_25_code, 2, none, "PegBoards", [], Cond.code ⟨"PegBoards", "requireHole", "(I)V"⟩ prog_1_method_25_code 2 none :: mx_WS)
theorem mo_Pe_requireHole : mx_ok mY_Pe_requireHole mf_Pe mt_Pe_requireHole := ⟨mt_Pe_requireHole_ok, mf_Pe_ok, fun w h => List.mem_cons_of_mem _ h⟩
def mt_Sy_holeOf : mx_B := [(0, .aload_n 0, 1), (1, .getfield 11, 3), (4, .iload_n 1, 1), (5, .aaload, 1), (6, .iload_n 2, 1), (7, .iaload, 1), (8, .ireturn, 1)]
theorem mt_Sy_holeOf_ok : ∀ x ∈ mt_Sy_holeOf, decode prog_6_method_9_code x.1 = .ok (x.2.1, x.2.2) := by decide +kernel
abbrev mY_Sy_holeOf : mx_Y := (⟨"PegBoards$Symmetries", "holeOf", "(II)I"⟩, prog_6_method_9_code, 3, (some .int), "PegBoards$Symmetries", [], Cond.code ⟨"PegBoards$Symmetries", "holeOf", "(II)I"⟩ prog_6_method_9_code 3 (some .int) :: mx_WS)
theorem mo_Sy_holeOf : mx_ok mY_Sy_holeOf mf_Sy mt_Sy_holeOf := ⟨mt_Sy_holeOf_ok, mf_Sy_ok, fun w h => List.mem_cons_of_mem _ h⟩
def mt_La_least : mx_B := [(0, .aload_n 2, 1), (1, .iconst 0, 1), (2, .aload_n 0, 1), (3, .iload_n 1, 1), (4, .invokevirtual 52, 3), (7, .i2l, 1), (8, .lastore, 1), (9, .goto 9, 3), (12, .astore_n 3, 1), (13, .iconst 1, 1), (14, .ireturn, 1), (15, .astore_n 3, 1), (16, .iconst 2, 1), (17, .ireturn, 1), (18, .iconst 0, 1), (19, .ireturn, 1)]
theorem mt_La_least_ok : ∀ x ∈ mt_La_least, decode method_14_code x.1 = .ok (x.2.1, x.2.2) := by decide +kernel
abbrev mY_La_least : mx_Y := (⟨"PegBoardsLaw", "least", "(LPegBoards;I[J)I"⟩, method_14_code, 4, (some .int), "PegBoardsLaw", [(0, 9, 12, 13), (0, 9, 15, 15)], Cond.codeWith ⟨"PegBoardsLaw", "least", "(LPegBoards;I[J)I"⟩ method_14_code 4 (some .int) [(0, 9, 12, 13), (0, 9, 15, 15)] :: mx_WS)
theorem mo_La_least : mx_ok mY_La_least mf_La mt_La_least := ⟨mt_La_least_ok, mf_La_ok, fun w h => List.mem_cons_of_mem _ h⟩
def mt_Pe_least : mx_B := [(0, .aload_n 0, 1), (1, .iload_n 1, 1), (2, .invokevirtual 123, 3), (5, .aload_n 0, 1), (6, .invokevirtual 160, 3), (9, .aload_n 0, 1), (10, .getfield 26, 3), (13, .iload_n 1, 1), (14, .invokevirtual 163, 3), (17, .ireturn, 1)]
theorem mt_Pe_least_ok : ∀ x ∈ mt_Pe_least, decode prog_1_method_16_code x.1 = .ok (x.2.1, x.2.2) := by decide +kernel
abbrev mY_Pe_least : mx_Y := (⟨"PegBoards", "least", "(I)I"⟩, prog_1_method_16_code, 2, (some .int), "PegBoards", [], Cond.code ⟨"PegBoards", "least", "(I)I"⟩ prog_1_method_16_code 2 (some .int) :: mx_WS)
theorem mo_Pe_least : mx_ok mY_Pe_least mf_Pe mt_Pe_least := ⟨mt_Pe_least_ok, mf_Pe_ok, fun w h => List.mem_cons_of_mem _ h⟩
def mt_La_parity : mx_B := [(0, .aload_n 2, 1), (1, .iconst 0, 1), (2, .aload_n 0, 1), (3, .iload_n 1, 1), (4, .invokevirtual 55, 3), (7, .i2l, 1), (8, .lastore, 1), (9, .goto 6, 3), (12, .astore_n 3, 1), (13, .iconst 1, 1), (14, .ireturn, 1), (15, .iconst 0, 1), (16, .ireturn, 1)]
theorem mt_La_parity_ok : ∀ x ∈ mt_La_parity, decode method_15_code x.1 = .ok (x.2.1, x.2.2) := by decide +kernel
abbrev mY_La_parity : mx_Y := (⟨"PegBoardsLaw", "parity", "(LPegBoards;I[J)I"⟩, method_15_code, 4, (some .int), "PegBoardsLaw", [(0, 9, 12, 13)], Cond.codeWith ⟨"PegBoardsLaw", "parity", "(LPegBoards;I[J)I"⟩ method_15_code 4 (some .int) [(0, 9, 12, 13)] :: mx_WS)
theorem mo_La_parity : mx_ok mY_La_parity mf_La mt_La_parity := ⟨mt_La_parity_ok, mf_La_ok, fun w h => List.mem_cons_of_mem _ h⟩
def mt_Pe_parity : mx_B := [(0, .aload_n 0, 1), (1, .iload_n 1, 1), (2, .invokevirtual 123, 3), (5, .aload_n 0, 1), (6, .getfield 12, 3), (9, .invokevirtual 166, 3), (12, .ifCond .eq 7, 3), (15, .iconst (-1), 1), (16, .goto 11, 3), (19, .aload_n 0, 1), (20, .getfield 12, 3), (23, .iload_n 1, 1), (24, .invokevirtual 169, 3), (27, .ireturn, 1)]
theorem mt_Pe_parity_ok : ∀ x ∈ mt_Pe_parity, decode prog_1_method_17_code x.1 = .ok (x.2.1, x.2.2) := by decide +kernel
abbrev mY_Pe_parity : mx_Y := (⟨"PegBoards", "parity", "(I)I"⟩, prog_1_method_17_code, 2, (some .int), "PegBoards", [], Cond.code ⟨"PegBoards", "parity", "(I)I"⟩ prog_1_method_17_code 2 (some .int) :: mx_WS)
theorem mo_Pe_parity : mx_ok mY_Pe_parity mf_Pe mt_Pe_parity := ⟨mt_Pe_parity_ok, mf_Pe_ok, fun w h => List.mem_cons_of_mem _ h⟩
def mt_Bo_classOf : mx_B := [(0, .iconst 0, 1), (1, .istore_n 2, 1), (2, .iconst 0, 1), (3, .istore_n 3, 1), (4, .iload_n 3, 1), (5, .aload_n 0, 1), (6, .invokevirtual 38, 3), (9, .if_icmp .ge 70, 3), (12, .iload_n 1, 1), (13, .iload_n 3, 1), (14, .invokestatic 50, 3), (17, .ifCond .eq 56, 3), (20, .aload_n 0, 1), (21, .getfield 15, 3), (24, .iload_n 3, 1), (25, .iaload, 1), (26, .aload_n 0, 1), (27, .getfield 18, 3), (30, .iload_n 3, 1), (31, .iaload, 1), (32, .iadd, 1), (33, .iconst 3, 1), (34, .irem, 1), (35, .istore 4, 2), (37, .aload_n 0, 1), (38, .getfield 15, 3), (41, .iload_n 3, 1), (42, .iaload, 1), (43, .aload_n 0, 1), (44, .getfield 18, 3), (47, .iload_n 3, 1), (48, .iaload, 1), (49, .isub, 1), (50, .bipush 9, 2), (52, .iadd, 1), (53, .iconst 3, 1), (54, .irem, 1), (55, .istore 5, 2), (57, .iload_n 2, 1), (58, .iconst 4, 1), (59, .iload 4, 2), (61, .invokestatic 53, 3), (64, .imul, 1), (65, .iload 5, 2), (67, .invokestatic 53, 3), (70, .iadd, 1), (71, .ixor, 1), (72, .istore_n 2, 1), (73, .iinc 3 1, 3), (76, .goto (-72), 3), (79, .iload_n 2, 1), (80, .ireturn, 1)]
theorem mt_Bo_classOf_ok : ∀ x ∈ mt_Bo_classOf, decode prog_2_method_16_code x.1 = .ok (x.2.1, x.2.2) := by decide +kernel
abbrev mY_Bo_classOf : mx_Y := (⟨"PegBoards$Board", "classOf", "(I)I"⟩, prog_2_method_16_code, 6, (some .int), "PegBoards$Board", [], Cond.code ⟨"PegBoards$Board", "classOf", "(I)I"⟩ prog_2_method_16_code 6 (some .int) :: mx_WS)
theorem mo_Bo_classOf : mx_ok mY_Bo_classOf mf_Bo mt_Bo_classOf := ⟨mt_Bo_classOf_ok, mf_Bo_ok, fun w h => List.mem_cons_of_mem _ h⟩
def mt_Bo_colours : mx_B := [(0, .iload_n 0, 1), (1, .iconst 2, 1), (2, .if_icmp .eq 7, 3), (5, .iconst 2, 1), (6, .goto 4, 3), (9, .iconst 0, 1), (10, .iload_n 0, 1), (11, .ifCond .eq 7, 3), (14, .iconst 1, 1), (15, .goto 4, 3), (18, .iconst 0, 1), (19, .iadd, 1), (20, .ireturn, 1)]
theorem mt_Bo_colours_ok : ∀ x ∈ mt_Bo_colours, decode prog_2_method_17_code x.1 = .ok (x.2.1, x.2.2) := by decide +kernel
abbrev mY_Bo_colours : mx_Y := (⟨"PegBoards$Board", "colours", "(I)I"⟩, prog_2_method_17_code, 1, (some .int), "PegBoards$Board", [], Cond.code ⟨"PegBoards$Board", "colours", "(I)I"⟩ prog_2_method_17_code 1 (some .int) :: mx_WS)
theorem mo_Bo_colours : mx_ok mY_Bo_colours mf_Bo mt_Bo_colours := ⟨mt_Bo_colours_ok, mf_Bo_ok, fun w h => List.mem_cons_of_mem _ h⟩
def mt_La_weight : mx_B := [(0, .aload_n 0, 1), (1, .iload_n 1, 1), (2, .iload_n 2, 1), (3, .invokevirtual 58, 3), (6, .goto 9, 3), (9, .astore_n 3, 1), (10, .iconst 1, 1), (11, .ireturn, 1), (12, .astore_n 3, 1), (13, .iconst 2, 1), (14, .ireturn, 1), (15, .iconst 0, 1), (16, .ireturn, 1)]
theorem mt_La_weight_ok : ∀ x ∈ mt_La_weight, decode method_16_code x.1 = .ok (x.2.1, x.2.2) := by decide +kernel
abbrev mY_La_weight : mx_Y := (⟨"PegBoardsLaw", "weight", "(LPegBoards;II)I"⟩, method_16_code, 4, (some .int), "PegBoardsLaw", [(0, 6, 9, 24), (0, 6, 12, 13)], Cond.codeWith ⟨"PegBoardsLaw", "weight", "(LPegBoards;II)I"⟩ method_16_code 4 (some .int) [(0, 6, 9, 24), (0, 6, 12, 13)] :: mx_WS)
theorem mo_La_weight : mx_ok mY_La_weight mf_La mt_La_weight := ⟨mt_La_weight_ok, mf_La_ok, fun w h => List.mem_cons_of_mem _ h⟩
def mt_Pe_weight : mx_B := [(0, .aload_n 0, 1), (1, .iload_n 1, 1), (2, .invokevirtual 154, 3), (5, .iload_n 2, 1), (6, .ifCond .lt 9, 3), (9, .iload_n 2, 1), (10, .bipush 60, 2), (12, .if_icmp .le 13, 3), (15, .new 64, 3), (18, .dup, 1), (19, .ldc 172, 2), (21, .invokespecial 68, 3), (24, .athrow, 1), (25, .aload_n 0, 1), (26, .getfield 40, 3), (29, .iload_n 1, 1), (30, .iload_n 2, 1), (31, .invokevirtual 174, 3), (34, .return_, 1)]
theorem mt_Pe_weight_ok : ∀ x ∈ mt_Pe_weight, decode prog_1_method_18_code x.1 = .ok (x.2.1, x.2.2) := by decide +kernel
abbrev mY_Pe_weight : mx_Y := (⟨"PegBoards", "weight", "(II)V"⟩, prog_1_method_18_code, 3, none, "PegBoards", [], Cond.code ⟨"PegBoards", "weight", "(II)V"⟩ prog_1_method_18_code 3 none :: mx_WS)
theorem mo_Pe_weight : mx_ok mY_Pe_weight mf_Pe mt_Pe_weight := ⟨mt_Pe_weight_ok, mf_Pe_ok, fun w h => List.mem_cons_of_mem _ h⟩
def mt_We_put : mx_B := [(0, .aload_n 0, 1), (1, .getfield 9, 3), (4, .iload_n 1, 1), (5, .iload_n 2, 1), (6, .iastore, 1), (7, .return_, 1)]
theorem mt_We_put_ok : ∀ x ∈ mt_We_put, decode prog_7_method_3_code x.1 = .ok (x.2.1, x.2.2) := by decide +kernel
abbrev mY_We_put : mx_Y := (⟨"PegBoards$Weights", "put", "(II)V"⟩, prog_7_method_3_code, 3, none, "PegBoards$Weights", [], Cond.code ⟨"PegBoards$Weights", "put", "(II)V"⟩ prog_7_method_3_code 3 none :: mx_WS)
theorem mo_We_put : mx_ok mY_We_put mf_We mt_We_put := ⟨mt_We_put_ok, mf_We_ok, fun w h => List.mem_cons_of_mem _ h⟩
def mt_La_weights : mx_B := [(0, .aload_n 2, 1), (1, .iconst 0, 1), (2, .aload_n 0, 1), (3, .iload_n 1, 1), (4, .invokevirtual 62, 3), (7, .i2l, 1), (8, .lastore, 1), (9, .goto 6, 3), (12, .astore_n 3, 1), (13, .iconst 1, 1), (14, .ireturn, 1), (15, .iconst 0, 1), (16, .ireturn, 1)]
theorem mt_La_weights_ok : ∀ x ∈ mt_La_weights, decode method_17_code x.1 = .ok (x.2.1, x.2.2) := by decide +kernel
abbrev mY_La_weights : mx_Y := (⟨"PegBoardsLaw", "weights", "(LPegBoards;I[J)I"⟩, method_17_code, 4, (some .int), "PegBoardsLaw", [(0, 9, 12, 24)], Cond.codeWith ⟨"PegBoardsLaw", "weights", "(LPegBoards;I[J)I"⟩ method_17_code 4 (some .int) [(0, 9, 12, 24)] :: mx_WS)
theorem mo_La_weights : mx_ok mY_La_weights mf_La mt_La_weights := ⟨mt_La_weights_ok, mf_La_ok, fun w h => List.mem_cons_of_mem _ h⟩
def mt_Pe_weights : mx_B := [(0, .iload_n 1, 1), (1, .tableswitch 71 0 2 #[27, 47, 59], 27), (28, .aload_n 0, 1), (29, .getfield 40, 3), (32, .aload_n 0, 1), (33, .getfield 19, 3), (36, .invokevirtual 178, 3), (39, .ifCond .eq 7, 3), (42, .iconst 1, 1), (43, .goto 4, 3), (46, .iconst 0, 1), (47, .ireturn, 1), (48, .aload_n 0, 1), (49, .getfield 40, 3), (52, .aload_n 0, 1), (53, .getfield 53, 3), (56, .invokevirtual 182, 3), (59, .ireturn, 1), (60, .aload_n 0, 1), (61, .getfield 40, 3), (64, .aload_n 0, 1), (65, .getfield 57, 3), (68, .invokevirtual 182, 3), (71, .ireturn, 1), (72, .iload_n 1, 1), (73, .ifCond .ge 13, 3), (76, .new 118, 3), (79, .dup, 1), (80, .ldc 185, 2), (82, .invokespecial 122, 3), (85, .athrow, 1), (86, .aload_n 0, 1), (87, .iload_n 1, 1), (88, .iconst 3, 1), (89, .isub, 1), (90, .invokevirtual 154, 3), (93, .aload_n 0, 1), (94, .getfield 40, 3), (97, .iload_n 1, 1), (98, .iconst 3, 1), (99, .isub, 1), (100, .invokevirtual 187, 3), (103, .ireturn, 1)]
theorem mt_Pe_weights_ok : ∀ x ∈ mt_Pe_weights, decode prog_1_method_19_code x.1 = .ok (x.2.1, x.2.2) := by decide +kernel
abbrev mY_Pe_weights : mx_Y := (⟨"PegBoards", "weights", "(I)I"⟩, prog_1_method_19_code, 2, (some .int), "PegBoards", [], Cond.code ⟨"PegBoards", "weights", "(I)I"⟩ prog_1_method_19_code 2 (some .int) :: mx_WS)
theorem mo_Pe_weights : mx_ok mY_Pe_weights mf_Pe mt_Pe_weights := ⟨mt_Pe_weights_ok, mf_Pe_ok, fun w h => List.mem_cons_of_mem _ h⟩
def mt_We_hold : mx_B := [(0, .iconst 0, 1), (1, .istore_n 2, 1), (2, .iload_n 2, 1), (3, .aload_n 1, 1), (4, .invokevirtual 28, 3), (7, .if_icmp .ge 45, 3), (10, .aload_n 0, 1), (11, .getfield 9, 3), (14, .aload_n 1, 1), (15, .iload_n 2, 1), (16, .invokevirtual 34, 3), (19, .iaload, 1), (20, .aload_n 0, 1), (21, .getfield 9, 3), (24, .aload_n 1, 1), (25, .iload_n 2, 1), (26, .invokevirtual 38, 3), (29, .iaload, 1), (30, .aload_n 0, 1), (31, .getfield 9, 3), (34, .aload_n 1, 1), (35, .iload_n 2, 1), (36, .invokevirtual 41, 3), (39, .iaload, 1), (40, .iadd, 1), (41, .if_icmp .le 5, 3), (44, .iconst 0, 1), (45, .ireturn, 1), (46, .iinc 2 1, 3), (49, .goto (-47), 3), (52, .iconst 1, 1), (53, .ireturn, 1)]
theorem mt_We_hold_ok : ∀ x ∈ mt_We_hold, decode prog_7_method_6_code x.1 = .ok (x.2.1, x.2.2) := by decide +kernel
abbrev mY_We_hold : mx_Y := (⟨"PegBoards$Weights", "hold", "(LPegBoards$Jumps;)Z"⟩, prog_7_method_6_code, 3, (some .boolean), "PegBoards$Weights", [], Cond.code ⟨"PegBoards$Weights", "hold", "(LPegBoards$Jumps;)Z"⟩ prog_7_method_6_code 3 (some .boolean) :: mx_WS)
theorem mo_We_hold : mx_ok mY_We_hold mf_We mt_We_hold := ⟨mt_We_hold_ok, mf_We_ok, fun w h => List.mem_cons_of_mem _ h⟩
def mt_We_sumOf : mx_B := [(0, .iconst 0, 1), (1, .istore_n 2, 1), (2, .iconst 0, 1), (3, .istore_n 3, 1), (4, .iload_n 3, 1), (5, .aload_n 0, 1), (6, .getfield 9, 3), (9, .arraylength, 1), (10, .if_icmp .ge 26, 3), (13, .iload_n 1, 1), (14, .iload_n 3, 1), (15, .invokestatic 24, 3), (18, .ifCond .eq 12, 3), (21, .iload_n 2, 1), (22, .aload_n 0, 1), (23, .getfield 9, 3), (26, .iload_n 3, 1), (27, .iaload, 1), (28, .iadd, 1), (29, .istore_n 2, 1), (30, .iinc 3 1, 3), (33, .goto (-29), 3), (36, .iload_n 2, 1), (37, .ireturn, 1)]
theorem mt_We_sumOf_ok : ∀ x ∈ mt_We_sumOf, decode prog_7_method_5_code x.1 = .ok (x.2.1, x.2.2) := by decide +kernel
abbrev mY_We_sumOf : mx_Y := (⟨"PegBoards$Weights", "sumOf", "(I)I"⟩, prog_7_method_5_code, 4, (some .int), "PegBoards$Weights", [], Cond.code ⟨"PegBoards$Weights", "sumOf", "(I)I"⟩ prog_7_method_5_code 4 (some .int) :: mx_WS)
theorem mo_We_sumOf : mx_ok mY_We_sumOf mf_We mt_We_sumOf := ⟨mt_We_sumOf_ok, mf_We_ok, fun w h => List.mem_cons_of_mem _ h⟩
def mt_We_of : mx_B := [(0, .aload_n 0, 1), (1, .getfield 9, 3), (4, .iload_n 1, 1), (5, .iaload, 1), (6, .ireturn, 1)]
theorem mt_We_of_ok : ∀ x ∈ mt_We_of, decode prog_7_method_4_code x.1 = .ok (x.2.1, x.2.2) := by decide +kernel
abbrev mY_We_of : mx_Y := (⟨"PegBoards$Weights", "of", "(I)I"⟩, prog_7_method_4_code, 2, (some .int), "PegBoards$Weights", [], Cond.code ⟨"PegBoards$Weights", "of", "(I)I"⟩ prog_7_method_4_code 2 (some .int) :: mx_WS)
theorem mo_We_of : mx_ok mY_We_of mf_We mt_We_of := ⟨mt_We_of_ok, mf_We_ok, fun w h => List.mem_cons_of_mem _ h⟩
def mt_La_find : mx_B := [(0, .aload_n 1, 1), (1, .iconst 0, 1), (2, .aload_n 0, 1), (3, .invokevirtual 65, 3), (6, .ifCond .eq 7, 3), (9, .lconst 1, 1), (10, .goto 4, 3), (13, .lconst 0, 1), (14, .lastore, 1), (15, .goto 6, 3), (18, .astore_n 2, 1), (19, .iconst 1, 1), (20, .ireturn, 1), (21, .iconst 0, 1), (22, .ireturn, 1)]
theorem mt_La_find_ok : ∀ x ∈ mt_La_find, decode method_18_code x.1 = .ok (x.2.1, x.2.2) := by decide +kernel
abbrev mY_La_find : mx_Y := (⟨"PegBoardsLaw", "find", "(LPegBoards;[J)I"⟩, method_18_code, 3, (some .int), "PegBoardsLaw", [(0, 15, 18, 15)], Cond.codeWith ⟨"PegBoardsLaw", "find", "(LPegBoards;[J)I"⟩ method_18_code 3 (some .int) [(0, 15, 18, 15)] :: mx_WS)
theorem mo_La_find : mx_ok mY_La_find mf_La mt_La_find := ⟨mt_La_find_ok, mf_La_ok, fun w h => List.mem_cons_of_mem _ h⟩
def mt_Pe_find : mx_B := [(0, .aload_n 0, 1), (1, .invokevirtual 160, 3), (4, .aload_n 0, 1), (5, .getfield 12, 3), (8, .invokevirtual 190, 3), (11, .bipush 8, 2), (13, .if_icmp .le 13, 3), (16, .new 74, 3), (19, .dup, 1), (20, .ldc 193, 2), (22, .invokespecial 78, 3), (25, .athrow, 1), (26, .aload_n 0, 1), (27, .getfield 40, 3), (30, .aload_n 0, 1), (31, .getfield 19, 3), (34, .aload_n 0, 1), (35, .getfield 12, 3), (38, .invokevirtual 190, 3), (41, .aload_n 0, 1), (42, .getfield 53, 3), (45, .aload_n 0, 1), (46, .getfield 57, 3), (49, .invokevirtual 195, 3), (52, .ireturn, 1)]
theorem mt_Pe_find_ok : ∀ x ∈ mt_Pe_find, decode prog_1_method_20_code x.1 = .ok (x.2.1, x.2.2) := by decide +kernel
abbrev mY_Pe_find : mx_Y := (⟨"PegBoards", "find", "()Z"⟩, prog_1_method_20_code, 1, (some .boolean), "PegBoards", [], Cond.code ⟨"PegBoards", "find", "()Z"⟩ prog_1_method_20_code 1 (some .boolean) :: mx_WS)
theorem mo_Pe_find : mx_ok mY_Pe_find mf_Pe mt_Pe_find := ⟨mt_Pe_find_ok, mf_Pe_ok, fun w h => List.mem_cons_of_mem _ h⟩
def mt_We_search : mx_B := [(0, .aload_n 0, 1), (1, .iconst 0, 1), (2, .iconst 0, 1), (3, .aload_n 1, 1), (4, .iload_n 2, 1), (5, .iload_n 3, 1), (6, .iload 4, 2), (8, .invokevirtual 44, 3), (11, .ifCond .ne 5, 3), (14, .iconst 0, 1), (15, .ireturn, 1), (16, .aload_n 0, 1), (17, .getfield 15, 3), (20, .iconst 0, 1), (21, .aload_n 0, 1), (22, .getfield 9, 3), (25, .iconst 0, 1), (26, .iload_n 2, 1), (27, .invokestatic 48, 3), (30, .iconst 1, 1), (31, .ireturn, 1)]
theorem mt_We_search_ok : ∀ x ∈ mt_We_search, decode prog_7_method_7_code x.1 = .ok (x.2.1, x.2.2) := by decide +kernel
abbrev mY_We_search : mx_Y := (⟨"PegBoards$Weights", "search", "(LPegBoards$Jumps;III)Z"⟩, prog_7_method_7_code, 5, (some .boolean), "PegBoards$Weights", [], Cond.code ⟨"PegBoards$Weights", "search", "(LPegBoards$Jumps;III)Z"⟩ prog_7_method_7_code 5 (some .boolean) :: mx_WS)
theorem mo_We_search : mx_ok mY_We_search mf_We mt_We_search := ⟨mt_We_search_ok, mf_We_ok, fun w h => List.mem_cons_of_mem _ h⟩
def mt_We_tryFrom : mx_B := [(0, .iload 6, 2), (2, .iload 5, 2), (4, .iconst (-1), 1), (5, .ixor, 1), (6, .iand, 1), (7, .iload_n 1, 1), (8, .ishr, 1), (9, .istore 7, 2), (11, .iload_n 2, 1), (12, .iconst 2, 1), (13, .iload 7, 2), (15, .invokestatic 54, 3), (18, .imul, 1), (19, .iadd, 1), (20, .ifCond .gt 5, 3), (23, .iconst 0, 1), (24, .ireturn, 1), (25, .iload_n 1, 1), (26, .iload 4, 2), (28, .if_icmp .ge 9, 3), (31, .iload_n 1, 1), (32, .bipush 8, 2), (34, .if_icmp .lt 5, 3), (37, .iconst 1, 1), (38, .ireturn, 1), (39, .iload 6, 2), (41, .iload_n 1, 1), (42, .invokestatic 24, 3), (45, .ifCond .eq 7, 3), (48, .iconst 1, 1), (49, .goto 4, 3), (52, .iconst 0, 1), (53, .iload 5, 2), (55, .iload_n 1, 1), (56, .invokestatic 24, 3), (59, .ifCond .eq 7, 3), (62, .iconst 1, 1), (63, .goto 4, 3), (66, .iconst 0, 1), (67, .isub, 1), (68, .istore 8, 2), (70, .iconst 0, 1), (71, .istore 9, 2), (73, .iload 9, 2), (75, .iconst 2, 1), (76, .if_icmp .gt 52, 3), (79, .aload_n 0, 1), (80, .getfield 15, 3), (83, .iload_n 1, 1), (84, .iload 9, 2), (86, .iastore, 1), (87, .aload_n 0, 1), (88, .iload_n 1, 1), (89, .aload_n 3, 1), (90, .invokevirtual 59, 3), (93, .ifCond .eq 29, 3), (96, .aload_n 0, 1), (97, .iload_n 1, 1), (98, .iconst 1, 1), (99, .iadd, 1), (100, .iload_n 2, 1), (101, .iload 9, 2), (103, .iload 8, 2), (105, .imul, 1), (106, .iadd, 1), (107, .aload_n 3, 1), (108, .iload 4, 2), (110, .iload 5, 2), (112, .iload 6, 2), (114, .invokevirtual 44, 3), (117, .ifCond .eq 5, 3), (120, .iconst 1, 1), (121, .ireturn, 1), (122, .iinc 9 1, 3), (125, .goto (-52), 3), (128, .iconst 0, 1), (129, .ireturn, 1)]
theorem mt_We_tryFrom_ok : ∀ x ∈ mt_We_tryFrom, decode prog_7_method_8_code x.1 = .ok (x.2.1, x.2.2) := by decide +kernel
abbrev mY_We_tryFrom : mx_Y := (⟨"PegBoards$Weights", "tryFrom", "(IILPegBoards$Jumps;III)Z"⟩, prog_7_method_8_code, 10, (some .boolean), "PegBoards$Weights", [], Cond.code ⟨"PegBoards$Weights", "tryFrom", "(IILPegBoards$Jumps;III)Z"⟩ prog_7_method_8_code 10 (some .boolean) :: mx_WS)
theorem mo_We_tryFrom : mx_ok mY_We_tryFrom mf_We mt_We_tryFrom := ⟨mt_We_tryFrom_ok, mf_We_ok, fun w h => List.mem_cons_of_mem _ h⟩
def mt_We_triedHold : mx_B := [(0, .iconst 0, 1), (1, .istore_n 3, 1), (2, .iload_n 3, 1), (3, .aload_n 2, 1), (4, .invokevirtual 28, 3), (7, .if_icmp .ge 73, 3), (10, .aload_n 2, 1), (11, .iload_n 3, 1), (12, .invokevirtual 38, 3), (15, .istore 4, 2), (17, .aload_n 2, 1), (18, .iload_n 3, 1), (19, .invokevirtual 41, 3), (22, .istore 5, 2), (24, .aload_n 2, 1), (25, .iload_n 3, 1), (26, .invokevirtual 34, 3), (29, .istore 6, 2), (31, .iload 4, 2), (33, .iload 5, 2), (35, .iload 6, 2), (37, .invokestatic 63, 3), (40, .invokestatic 63, 3), (43, .iload_n 1, 1), (44, .if_icmp .ne 30, 3), (47, .aload_n 0, 1), (48, .getfield 15, 3), (51, .iload 6, 2), (53, .iaload, 1), (54, .aload_n 0, 1), (55, .getfield 15, 3), (58, .iload 4, 2), (60, .iaload, 1), (61, .aload_n 0, 1), (62, .getfield 15, 3), (65, .iload 5, 2), (67, .iaload, 1), (68, .iadd, 1), (69, .if_icmp .le 5, 3), (72, .iconst 0, 1), (73, .ireturn, 1), (74, .iinc 3 1, 3), (77, .goto (-75), 3), (80, .iconst 1, 1), (81, .ireturn, 1)]
theorem mt_We_triedHold_ok : ∀ x ∈ mt_We_triedHold, decode prog_7_method_9_code x.1 = .ok (x.2.1, x.2.2) := by decide +kernel
abbrev mY_We_triedHold : mx_Y := (⟨"PegBoards$Weights", "triedHold", "(ILPegBoards$Jumps;)Z"⟩, prog_7_method_9_code, 7, (some .boolean), "PegBoards$Weights", [], Cond.code ⟨"PegBoards$Weights", "triedHold", "(ILPegBoards$Jumps;)Z"⟩ prog_7_method_9_code 7 (some .boolean) :: mx_WS)
theorem mo_We_triedHold : mx_ok mY_We_triedHold mf_We mt_We_triedHold := ⟨mt_We_triedHold_ok, mf_We_ok, fun w h => List.mem_cons_of_mem _ h⟩
def mt_Ma_max : mx_B := [(0, .iload_n 0, 1), (1, .iload_n 1, 1), (2, .if_icmp .lt 7, 3), (5, .iload_n 0, 1), (6, .goto 4, 3), (9, .iload_n 1, 1), (10, .ireturn, 1)]
theorem mt_Ma_max_ok : ∀ x ∈ mt_Ma_max, decode prog_15_method_65_code x.1 = .ok (x.2.1, x.2.2) := by decide +kernel
abbrev mY_Ma_max : mx_Y := (⟨"java/lang/Math", "max", "(II)I"⟩, prog_15_method_65_code, 2, (some .int), "java/lang/Math", [], Cond.code ⟨"java/lang/Math", "max", "(II)I"⟩ prog_15_method_65_code 2 (some .int) :: mx_WS)
theorem mo_Ma_max : mx_ok mY_Ma_max mf_Ma mt_Ma_max := ⟨mt_Ma_max_ok, mf_Ma_ok, fun w h => List.mem_cons_of_mem _ h⟩
def mt_Mo_thrown : mx_B := [(0, .aload_n 0, 1), (1, .getfield 65, 3), (4, .ireturn, 1)]
theorem mt_Mo_thrown_ok : ∀ x ∈ mt_Mo_thrown, decode prog_9_method_2_code x.1 = .ok (x.2.1, x.2.2) := by decide +kernel
abbrev mY_Mo_thrown : mx_Y := (⟨"PegBoardsModel", "thrown", "()I"⟩, prog_9_method_2_code, 1, (some .int), "PegBoardsModel", [], Cond.code ⟨"PegBoardsModel", "thrown", "()I"⟩ prog_9_method_2_code 1 (some .int) :: mx_WS)
theorem mo_Mo_thrown : mx_ok mY_Mo_thrown mf_Mo mt_Mo_thrown := ⟨mt_Mo_thrown_ok, mf_Mo_ok, fun w h => List.mem_cons_of_mem _ h⟩
def mt_Mo_clear : mx_B := [(0, .aload_n 0, 1), (1, .iconst 0, 1), (2, .putfield 65, 3), (5, .aload_n 0, 1), (6, .iload_n 1, 1), (7, .putfield 69, 3), (10, .aload_n 0, 1), (11, .iconst 0, 1), (12, .putfield 73, 3), (15, .aload_n 0, 1), (16, .iconst 0, 1), (17, .putfield 76, 3), (20, .aload_n 0, 1), (21, .iconst 0, 1), (22, .putfield 79, 3), (25, .aload_n 0, 1), (26, .iconst 0, 1), (27, .putfield 82, 3), (30, .aload_n 0, 1), (31, .iconst 0, 1), (32, .putfield 85, 3), (35, .aload_n 0, 1), (36, .iconst 0, 1), (37, .putfield 88, 3), (40, .iconst 0, 1), (41, .istore_n 2, 1), (42, .iload_n 2, 1), (43, .bipush 64, 2), (45, .if_icmp .ge 16, 3), (48, .aload_n 0, 1), (49, .getfield 7, 3), (52, .iload_n 2, 1), (53, .iconst 0, 1), (54, .bastore, 1), (55, .iinc 2 1, 3), (58, .goto (-16), 3), (61, .iconst 0, 1), (62, .istore_n 2, 1), (63, .iload_n 2, 1), (64, .bipush 20, 2), (66, .if_icmp .ge 16, 3), (69, .aload_n 0, 1), (70, .getfield 41, 3), (73, .iload_n 2, 1), (74, .iconst 0, 1), (75, .iastore, 1), (76, .iinc 2 1, 3), (79, .goto (-16), 3), (82, .return_, 1)]
theorem mt_Mo_clear_ok : ∀ x ∈ mt_Mo_clear, decode prog_9_method_3_code x.1 = .ok (x.2.1, x.2.2) := by decide +kernel
abbrev mY_Mo_clear : mx_Y := (⟨"PegBoardsModel", "clear", "(Z)V"⟩, prog_9_method_3_code, 3, none, "PegBoardsModel", [], Cond.code ⟨"PegBoardsModel", "clear", "(Z)V"⟩ prog_9_method_3_code 3 none :: mx_WS)
theorem mo_Mo_clear : mx_ok mY_Mo_clear mf_Mo mt_Mo_clear := ⟨mt_Mo_clear_ok, mf_Mo_ok, fun w h => List.mem_cons_of_mem _ h⟩
def mt_Mo_hole : mx_B := [(0, .aload_n 0, 1), (1, .iload_n 1, 1), (2, .iload_n 2, 1), (3, .invokestatic 91, 3), (6, .ifCond .eq 7, 3), (9, .iconst 1, 1), (10, .goto 4, 3), (13, .iconst 0, 1), (14, .putfield 65, 3), (17, .aload_n 0, 1), (18, .getfield 65, 3), (21, .ifCond .ne 38, 3), (24, .aload_n 0, 1), (25, .getfield 73, 3), (28, .ifCond .ne 26, 3), (31, .aload_n 0, 1), (32, .getfield 7, 3), (35, .bipush 8, 2), (37, .iload_n 1, 1), (38, .imul, 1), (39, .iload_n 2, 1), (40, .iadd, 1), (41, .baload, 1), (42, .ifCond .ne 12, 3), (45, .aload_n 0, 1), (46, .getfield 76, 3), (49, .bipush 20, 2), (51, .if_icmp .ne 8, 3), (54, .aload_n 0, 1), (55, .iconst 2, 1), (56, .putfield 65, 3), (59, .aload_n 0, 1), (60, .getfield 65, 3), (63, .ifCond .le 5, 3), (66, .iconst 0, 1), (67, .ireturn, 1), (68, .aload_n 0, 1), (69, .getfield 7, 3), (72, .bipush 8, 2), (74, .iload_n 1, 1), (75, .imul, 1), (76, .iload_n 2, 1), (77, .iadd, 1), (78, .iconst 1, 1), (79, .bastore, 1), (80, .aload_n 0, 1), (81, .dup, 1), (82, .getfield 76, 3), (85, .iconst 1, 1), (86, .iadd, 1), (87, .putfield 76, 3), (90, .aload_n 0, 1), (91, .getfield 76, 3), (94, .ireturn, 1)]
theorem mt_Mo_hole_ok : ∀ x ∈ mt_Mo_hole, decode prog_9_method_5_code x.1 = .ok (x.2.1, x.2.2) := by decide +kernel
abbrev mY_Mo_hole : mx_Y := (⟨"PegBoardsModel", "hole", "(II)I"⟩, prog_9_method_5_code, 3, (some .int), "PegBoardsModel", [], Cond.code ⟨"PegBoardsModel", "hole", "(II)I"⟩ prog_9_method_5_code 3 (some .int) :: mx_WS)
theorem mo_Mo_hole : mx_ok mY_Mo_hole mf_Mo mt_Mo_hole := ⟨mt_Mo_hole_ok, mf_Mo_ok, fun w h => List.mem_cons_of_mem _ h⟩
def mt_Mo_off : mx_B := [(0, .iload_n 0, 1), (1, .ifCond .lt 19, 3), (4, .iload_n 0, 1), (5, .bipush 7, 2), (7, .if_icmp .gt 13, 3), (10, .iload_n 1, 1), (11, .ifCond .lt 9, 3), (14, .iload_n 1, 1), (15, .bipush 7, 2), (17, .if_icmp .le 7, 3), (20, .iconst 1, 1), (21, .goto 4, 3), (24, .iconst 0, 1), (25, .ireturn, 1)]
theorem mt_Mo_off_ok : ∀ x ∈ mt_Mo_off, decode prog_9_method_4_code x.1 = .ok (x.2.1, x.2.2) := by decide +kernel
abbrev mY_Mo_off : mx_Y := (⟨"PegBoardsModel", "off", "(II)Z"⟩, prog_9_method_4_code, 2, (some .boolean), "PegBoardsModel", [], Cond.code ⟨"PegBoardsModel", "off", "(II)Z"⟩ prog_9_method_4_code 2 (some .boolean) :: mx_WS)
theorem mo_Mo_off : mx_ok mY_Mo_off mf_Mo mt_Mo_off := ⟨mt_Mo_off_ok, mf_Mo_ok, fun w h => List.mem_cons_of_mem _ h⟩
def mt_Mo_freeze : mx_B := [(0, .aload_n 0, 1), (1, .aload_n 0, 1), (2, .getfield 73, 3), (5, .ifCond .ne 10, 3), (8, .aload_n 0, 1), (9, .getfield 76, 3), (12, .ifCond .ne 7, 3), (15, .iconst 1, 1), (16, .goto 4, 3), (19, .iconst 0, 1), (20, .putfield 65, 3), (23, .aload_n 0, 1), (24, .getfield 65, 3), (27, .ifCond .le 5, 3), (30, .iconst 0, 1), (31, .ireturn, 1), (32, .aload_n 0, 1), (33, .iconst 1, 1), (34, .putfield 73, 3), (37, .iconst 0, 1), (38, .istore_n 1, 1), (39, .iconst 0, 1), (40, .istore_n 2, 1), (41, .iload_n 2, 1), (42, .bipush 8, 2), (44, .if_icmp .ge 66, 3), (47, .iconst 0, 1), (48, .istore_n 3, 1), (49, .iload_n 3, 1), (50, .bipush 8, 2), (52, .if_icmp .ge 52, 3), (55, .aload_n 0, 1), (56, .getfield 7, 3), (59, .bipush 8, 2), (61, .iload_n 2, 1), (62, .imul, 1), (63, .iload_n 3, 1), (64, .iadd, 1), (65, .baload, 1), (66, .ifCond .eq 32, 3), (69, .aload_n 0, 1), (70, .getfield 13, 3), (73, .bipush 8, 2), (75, .iload_n 2, 1), (76, .imul, 1), (77, .iload_n 3, 1), (78, .iadd, 1), (79, .iload_n 1, 1), (80, .iastore, 1), (81, .aload_n 0, 1), (82, .getfield 17, 3), (85, .iload_n 1, 1), (86, .iload_n 2, 1), (87, .iastore, 1), (88, .aload_n 0, 1), (89, .getfield 20, 3), (92, .iload_n 1, 1), (93, .iload_n 3, 1), (94, .iastore, 1), (95, .iinc 1 1, 3), (98, .iinc 3 1, 3), (101, .goto (-52), 3), (104, .iinc 2 1, 3), (107, .goto (-66), 3), (110, .iconst 0, 1), (111, .istore_n 2, 1), (112, .iload_n 2, 1), (113, .aload_n 0, 1), (114, .getfield 76, 3), (117, .if_icmp .ge 141, 3), (120, .iconst 0, 1), (121, .istore_n 3, 1), (122, .iload_n 3, 1), (123, .aload_n 0, 1), (124, .invokevirtual 95, 3), (127, .if_icmp .ge 125, 3), (130, .aload_n 0, 1), (131, .aload_n 0, 1), (132, .getfield 17, 3), (135, .iload_n 2, 1), (136, .iaload, 1), (137, .aload_n 0, 1), (138, .iload_n 3, 1), (139, .invokevirtual 103, 3), (142, .iadd, 1), (143, .aload_n 0, 1), (144, .getfield 20, 3), (147, .iload_n 2, 1), (148, .iaload, 1), (149, .aload_n 0, 1), (150, .iload_n 3, 1), (151, .invokevirtual 107, 3), (154, .iadd, 1), (155, .invokevirtual 99, 3), (158, .istore 4, 2), (160, .aload_n 0, 1), (161, .aload_n 0, 1), (162, .getfield 17, 3), (165, .iload_n 2, 1), (166, .iaload, 1), (167, .iconst 2, 1), (168, .aload_n 0, 1), (169, .iload_n 3, 1), (170, .invokevirtual 103, 3), (173, .imul, 1), (174, .iadd, 1), (175, .aload_n 0, 1), (176, .getfield 20, 3), (179, .iload_n 2, 1), (180, .iaload, 1), (181, .iconst 2, 1), (182, .aload_n 0, 1), (183, .iload_n 3, 1), (184, .invokevirtual 107, 3), (187, .imul, 1), (188, .iadd, 1), (189, .invokevirtual 99, 3), (192, .istore 5, 2), (194, .iload 4, 2), (196, .ifCond .lt 50, 3), (199, .iload 5, 2), (201, .ifCond .lt 45, 3), (204, .aload_n 0, 1), (205, .getfield 23, 3), (208, .aload_n 0, 1), (209, .getfield 79, 3), (212, .iload_n 2, 1), (213, .iastore, 1), (214, .aload_n 0, 1), (215, .getfield 26, 3), (218, .aload_n 0, 1), (219, .getfield 79, 3), (222, .iload 4, 2), (224, .iastore, 1), (225, .aload_n 0, 1), (226, .getfield 29, 3), (229, .aload_n 0, 1), (230, .getfield 79, 3), (233, .iload 5, 2), (235, .iastore, 1), (236, .aload_n 0, 1), (237, .dup, 1), (238, .getfield 79, 3), (241, .iconst 1, 1), (242, .iadd, 1), (243, .putfield 79, 3), (246, .iinc 3 1, 3), (249, .goto (-127), 3), (252, .iinc 2 1, 3), (255, .goto (-143), 3), (258, .iconst 0, 1), (259, .istore_n 2, 1), (260, .iload_n 2, 1), (261, .iconst 2, 1), (262, .aload_n 0, 1), (263, .invokevirtual 95, 3), (266, .imul, 1), (267, .if_icmp .ge 27, 3), (270, .aload_n 0, 1), (271, .iload_n 2, 1), (272, .invokevirtual 110, 3), (275, .ifCond .eq 13, 3), (278, .aload_n 0, 1), (279, .dup, 1), (280, .getfield 82, 3), (283, .iconst 1, 1), (284, .iadd, 1), (285, .putfield 82, 3), (288, .iinc 2 1, 3), (291, .goto (-31), 3), (294, .aload_n 0, 1), (295, .getfield 79, 3), (298, .ireturn, 1)]
theorem mt_Mo_freeze_ok : ∀ x ∈ mt_Mo_freeze, decode prog_9_method_11_code x.1 = .ok (x.2.1, x.2.2) := by decide +kernel
abbrev mY_Mo_freeze : mx_Y := (⟨"PegBoardsModel", "freeze", "()I"⟩, prog_9_method_11_code, 6, (some .int), "PegBoardsModel", [], Cond.code ⟨"PegBoardsModel", "freeze", "()I"⟩ prog_9_method_11_code 6 (some .int) :: mx_WS)
theorem mo_Mo_freeze : mx_ok mY_Mo_freeze mf_Mo mt_Mo_freeze := ⟨mt_Mo_freeze_ok, mf_Mo_ok, fun w h => List.mem_cons_of_mem _ h⟩
def mt_Mo_turns : mx_B := [(0, .aload_n 0, 1), (1, .getfield 69, 3), (4, .ifCond .eq 8, 3), (7, .bipush 6, 2), (9, .goto 4, 3), (12, .iconst 4, 1), (13, .ireturn, 1)]
theorem mt_Mo_turns_ok : ∀ x ∈ mt_Mo_turns, decode prog_9_method_9_code x.1 = .ok (x.2.1, x.2.2) := by decide +kernel
abbrev mY_Mo_turns : mx_Y := (⟨"PegBoardsModel", "turns", "()I"⟩, prog_9_method_9_code, 1, (some .int), "PegBoardsModel", [], Cond.code ⟨"PegBoardsModel", "turns", "()I"⟩ prog_9_method_9_code 1 (some .int) :: mx_WS)
theorem mo_Mo_turns : mx_ok mY_Mo_turns mf_Mo mt_Mo_turns := ⟨mt_Mo_turns_ok, mf_Mo_ok, fun w h => List.mem_cons_of_mem _ h⟩
def mt_Mo_down : mx_B := [(0, .aload_n 0, 1), (1, .getfield 69, 3), (4, .ifCond .ne 23, 3), (7, .iload_n 1, 1), (8, .iconst 1, 1), (9, .if_icmp .ne 7, 3), (12, .iconst 1, 1), (13, .goto 13, 3), (16, .iload_n 1, 1), (17, .iconst 3, 1), (18, .if_icmp .ne 7, 3), (21, .iconst (-1), 1), (22, .goto 4, 3), (25, .iconst 0, 1), (26, .ireturn, 1), (27, .iload_n 1, 1), (28, .iconst 1, 1), (29, .if_icmp .eq 8, 3), (32, .iload_n 1, 1), (33, .iconst 2, 1), (34, .if_icmp .ne 7, 3), (37, .iconst 1, 1), (38, .goto 18, 3), (41, .iload_n 1, 1), (42, .iconst 4, 1), (43, .if_icmp .eq 8, 3), (46, .iload_n 1, 1), (47, .iconst 5, 1), (48, .if_icmp .ne 7, 3), (51, .iconst (-1), 1), (52, .goto 4, 3), (55, .iconst 0, 1), (56, .ireturn, 1)]
theorem mt_Mo_down_ok : ∀ x ∈ mt_Mo_down, decode prog_9_method_7_code x.1 = .ok (x.2.1, x.2.2) := by decide +kernel
abbrev mY_Mo_down : mx_Y := (⟨"PegBoardsModel", "down", "(I)I"⟩, prog_9_method_7_code, 2, (some .int), "PegBoardsModel", [], Cond.code ⟨"PegBoardsModel", "down", "(I)I"⟩ prog_9_method_7_code 2 (some .int) :: mx_WS)
theorem mo_Mo_down : mx_ok mY_Mo_down mf_Mo mt_Mo_down := ⟨mt_Mo_down_ok, mf_Mo_ok, fun w h => List.mem_cons_of_mem _ h⟩
def mt_Mo_right : mx_B := [(0, .aload_n 0, 1), (1, .getfield 69, 3), (4, .ifCond .ne 22, 3), (7, .iload_n 1, 1), (8, .ifCond .ne 7, 3), (11, .iconst 1, 1), (12, .goto 13, 3), (15, .iload_n 1, 1), (16, .iconst 2, 1), (17, .if_icmp .ne 7, 3), (20, .iconst (-1), 1), (21, .goto 4, 3), (24, .iconst 0, 1), (25, .ireturn, 1), (26, .iload_n 1, 1), (27, .ifCond .eq 8, 3), (30, .iload_n 1, 1), (31, .iconst 5, 1), (32, .if_icmp .ne 7, 3), (35, .iconst 1, 1), (36, .goto 18, 3), (39, .iload_n 1, 1), (40, .iconst 2, 1), (41, .if_icmp .eq 8, 3), (44, .iload_n 1, 1), (45, .iconst 3, 1), (46, .if_icmp .ne 7, 3), (49, .iconst (-1), 1), (50, .goto 4, 3), (53, .iconst 0, 1), (54, .ireturn, 1)]
theorem mt_Mo_right_ok : ∀ x ∈ mt_Mo_right, decode prog_9_method_8_code x.1 = .ok (x.2.1, x.2.2) := by decide +kernel
abbrev mY_Mo_right : mx_Y := (⟨"PegBoardsModel", "right", "(I)I"⟩, prog_9_method_8_code, 2, (some .int), "PegBoardsModel", [], Cond.code ⟨"PegBoardsModel", "right", "(I)I"⟩ prog_9_method_8_code 2 (some .int) :: mx_WS)
theorem mo_Mo_right : mx_ok mY_Mo_right mf_Mo mt_Mo_right := ⟨mt_Mo_right_ok, mf_Mo_ok, fun w h => List.mem_cons_of_mem _ h⟩
def mt_Mo_numberAt : mx_B := [(0, .iload_n 1, 1), (1, .iload_n 2, 1), (2, .invokestatic 91, 3), (5, .ifCond .ne 17, 3), (8, .aload_n 0, 1), (9, .getfield 7, 3), (12, .bipush 8, 2), (14, .iload_n 1, 1), (15, .imul, 1), (16, .iload_n 2, 1), (17, .iadd, 1), (18, .baload, 1), (19, .ifCond .ne 7, 3), (22, .iconst (-1), 1), (23, .goto 14, 3), (26, .aload_n 0, 1), (27, .getfield 13, 3), (30, .bipush 8, 2), (32, .iload_n 1, 1), (33, .imul, 1), (34, .iload_n 2, 1), (35, .iadd, 1), (36, .iaload, 1), (37, .ireturn, 1)]
theorem mt_Mo_numberAt_ok : ∀ x ∈ mt_Mo_numberAt, decode prog_9_method_6_code x.1 = .ok (x.2.1, x.2.2) := by decide +kernel
abbrev mY_Mo_numberAt : mx_Y := (⟨"PegBoardsModel", "numberAt", "(II)I"⟩, prog_9_method_6_code, 3, (some .int), "PegBoardsModel", [], Cond.code ⟨"PegBoardsModel", "numberAt", "(II)I"⟩ prog_9_method_6_code 3 (some .int) :: mx_WS)
theorem mo_Mo_numberAt : mx_ok mY_Mo_numberAt mf_Mo mt_Mo_numberAt := ⟨mt_Mo_numberAt_ok, mf_Mo_ok, fun w h => List.mem_cons_of_mem _ h⟩
def mt_Mo_isSymmetry : mx_B := [(0, .aload_n 0, 1), (1, .invokevirtual 95, 3), (4, .istore_n 2, 1), (5, .bipush 99, 2), (7, .istore_n 3, 1), (8, .bipush 99, 2), (10, .istore 4, 2), (12, .bipush 99, 2), (14, .istore 5, 2), (16, .bipush 99, 2), (18, .istore 6, 2), (20, .iconst 0, 1), (21, .istore 7, 2), (23, .iload 7, 2), (25, .aload_n 0, 1), (26, .getfield 76, 3), (29, .if_icmp .ge 212, 3), (32, .aload_n 0, 1), (33, .getfield 17, 3), (36, .iload 7, 2), (38, .iaload, 1), (39, .istore 8, 2), (41, .aload_n 0, 1), (42, .getfield 20, 3), (45, .iload 7, 2), (47, .iaload, 1), (48, .istore 9, 2), (50, .iconst 0, 1), (51, .istore 10, 2), (53, .iload 10, 2), (55, .iload_n 1, 1), (56, .iload_n 2, 1), (57, .irem, 1), (58, .if_icmp .ge 38, 3), (61, .aload_n 0, 1), (62, .getfield 69, 3), (65, .ifCond .eq 11, 3), (68, .iload 8, 2), (70, .iload 9, 2), (72, .iadd, 1), (73, .goto 5, 3), (76, .iload 9, 2), (78, .istore 11, 2), (80, .iconst 0, 1), (81, .iload 8, 2), (83, .isub, 1), (84, .istore 9, 2), (86, .iload 11, 2), (88, .istore 8, 2), (90, .iinc 10 1, 3), (93, .goto (-40), 3), (96, .aload_n 0, 1), (97, .getfield 35, 3), (100, .iload 7, 2), (102, .iload_n 1, 1), (103, .iload_n 2, 1), (104, .if_icmp .ge 8, 3), (107, .iload 8, 2), (109, .goto 5, 3), (112, .iload 9, 2), (114, .iastore, 1), (115, .aload_n 0, 1), (116, .getfield 38, 3), (119, .iload 7, 2), (121, .iload_n 1, 1), (122, .iload_n 2, 1), (123, .if_icmp .ge 8, 3), (126, .iload 9, 2), (128, .goto 5, 3), (131, .iload 8, 2), (133, .iastore, 1), (134, .aload_n 0, 1), (135, .getfield 35, 3), (138, .iload 7, 2), (140, .iaload, 1), (141, .iload_n 3, 1), (142, .if_icmp .ge 13, 3), (145, .aload_n 0, 1), (146, .getfield 35, 3), (149, .iload 7, 2), (151, .iaload, 1), (152, .goto 4, 3), (155, .iload_n 3, 1), (156, .istore_n 3, 1), (157, .aload_n 0, 1), (158, .getfield 38, 3), (161, .iload 7, 2), (163, .iaload, 1), (164, .iload 4, 2), (166, .if_icmp .ge 13, 3), (169, .aload_n 0, 1), (170, .getfield 38, 3), (173, .iload 7, 2), (175, .iaload, 1), (176, .goto 5, 3), (179, .iload 4, 2), (181, .istore 4, 2), (183, .aload_n 0, 1), (184, .getfield 17, 3), (187, .iload 7, 2), (189, .iaload, 1), (190, .iload 5, 2), (192, .if_icmp .ge 13, 3), (195, .aload_n 0, 1), (196, .getfield 17, 3), (199, .iload 7, 2), (201, .iaload, 1), (202, .goto 5, 3), (205, .iload 5, 2), (207, .istore 5, 2), (209, .aload_n 0, 1), (210, .getfield 20, 3), (213, .iload 7, 2), (215, .iaload, 1), (216, .iload 6, 2), (218, .if_icmp .ge 13, 3), (221, .aload_n 0, 1), (222, .getfield 20, 3), (225, .iload 7, 2), (227, .iaload, 1), (228, .goto 5, 3), (231, .iload 6, 2), (233, .istore 6, 2), (235, .iinc 7 1, 3), (238, .goto (-215), 3), (241, .iconst 1, 1), (242, .istore 7, 2), (244, .iconst 0, 1), (245, .istore 8, 2), (247, .iload 8, 2), (249, .aload_n 0, 1), (250, .getfield 76, 3), (253, .if_icmp .ge 74, 3), (256, .aload_n 0, 1), (257, .aload_n 0, 1), (258, .getfield 35, 3), (261, .iload 8, 2), (263, .iaload, 1), (264, .iload_n 3, 1), (265, .isub, 1), (266, .iload 5, 2), (268, .iadd, 1), (269, .aload_n 0, 1), (270, .getfield 38, 3), (273, .iload 8, 2), (275, .iaload, 1), (276, .iload 4, 2), (278, .isub, 1), (279, .iload 6, 2), (281, .iadd, 1), (282, .invokevirtual 99, 3), (285, .istore 9, 2), (287, .aload_n 0, 1), (288, .getfield 32, 3), (291, .bipush 20, 2), (293, .aload_n 0, 1), (294, .getfield 82, 3), (297, .imul, 1), (298, .iload 8, 2), (300, .iadd, 1), (301, .iload 9, 2), (303, .iastore, 1), (304, .iload 7, 2), (306, .ifCond .eq 12, 3), (309, .iload 9, 2), (311, .ifCond .lt 7, 3), (314, .iconst 1, 1), (315, .goto 4, 3), (318, .iconst 0, 1), (319, .istore 7, 2), (321, .iinc 8 1, 3), (324, .goto (-77), 3), (327, .iload 7, 2), (329, .ireturn, 1)]
theorem mt_Mo_isSymmetry_ok : ∀ x ∈ mt_Mo_isSymmetry, decode prog_9_method_10_code x.1 = .ok (x.2.1, x.2.2) := by decide +kernel
abbrev mY_Mo_isSymmetry : mx_Y := (⟨"PegBoardsModel", "isSymmetry", "(I)Z"⟩, prog_9_method_10_code, 12, (some .boolean), "PegBoardsModel", [], Cond.code ⟨"PegBoardsModel", "isSymmetry", "(I)Z"⟩ prog_9_method_10_code 12 (some .boolean) :: mx_WS)
theorem mo_Mo_isSymmetry : mx_ok mY_Mo_isSymmetry mf_Mo mt_Mo_isSymmetry := ⟨mt_Mo_isSymmetry_ok, mf_Mo_ok, fun w h => List.mem_cons_of_mem _ h⟩
def mt_Mo_at : mx_B := [(0, .aload_n 0, 1), (1, .iconst 0, 1), (2, .putfield 65, 3), (5, .aload_n 0, 1), (6, .getfield 73, 3), (9, .ifCond .eq 12, 3), (12, .aload_n 0, 1), (13, .iload_n 1, 1), (14, .iload_n 2, 1), (15, .invokevirtual 99, 3), (18, .goto 4, 3), (21, .iconst (-1), 1), (22, .ireturn, 1)]
theorem mt_Mo_at_ok : ∀ x ∈ mt_Mo_at, decode prog_9_method_12_code x.1 = .ok (x.2.1, x.2.2) := by decide +kernel
abbrev mY_Mo_at : mx_Y := (⟨"PegBoardsModel", "at", "(II)I"⟩, prog_9_method_12_code, 3, (some .int), "PegBoardsModel", [], Cond.code ⟨"PegBoardsModel", "at", "(II)I"⟩ prog_9_method_12_code 3 (some .int) :: mx_WS)
theorem mo_Mo_at : mx_ok mY_Mo_at mf_Mo mt_Mo_at := ⟨mt_Mo_at_ok, mf_Mo_ok, fun w h => List.mem_cons_of_mem _ h⟩
def mt_Mo_jump : mx_B := [(0, .aload_n 0, 1), (1, .aload_n 0, 1), (2, .iload_n 1, 1), (3, .invokevirtual 114, 3), (6, .ifCond .ne 12, 3), (9, .iload_n 2, 1), (10, .ifCond .lt 8, 3), (13, .iload_n 2, 1), (14, .iconst 2, 1), (15, .if_icmp .le 7, 3), (18, .iconst 1, 1), (19, .goto 4, 3), (22, .iconst 0, 1), (23, .putfield 65, 3), (26, .aload_n 0, 1), (27, .getfield 65, 3), (30, .ifCond .le 7, 3), (33, .iconst 0, 1), (34, .goto 36, 3), (37, .iload_n 2, 1), (38, .ifCond .ne 12, 3), (41, .aload_n 0, 1), (42, .getfield 23, 3), (45, .iload_n 1, 1), (46, .iaload, 1), (47, .goto 23, 3), (50, .iload_n 2, 1), (51, .iconst 1, 1), (52, .if_icmp .ne 12, 3), (55, .aload_n 0, 1), (56, .getfield 26, 3), (59, .iload_n 1, 1), (60, .iaload, 1), (61, .goto 9, 3), (64, .aload_n 0, 1), (65, .getfield 29, 3), (68, .iload_n 1, 1), (69, .iaload, 1), (70, .ireturn, 1)]
theorem mt_Mo_jump_ok : ∀ x ∈ mt_Mo_jump, decode prog_9_method_15_code x.1 = .ok (x.2.1, x.2.2) := by decide +kernel
abbrev mY_Mo_jump : mx_Y := (⟨"PegBoardsModel", "jump", "(II)I"⟩, prog_9_method_15_code, 3, (some .int), "PegBoardsModel", [], Cond.code ⟨"PegBoardsModel", "jump", "(II)I"⟩ prog_9_method_15_code 3 (some .int) :: mx_WS)
theorem mo_Mo_jump : mx_ok mY_Mo_jump mf_Mo mt_Mo_jump := ⟨mt_Mo_jump_ok, mf_Mo_ok, fun w h => List.mem_cons_of_mem _ h⟩
def mt_Mo_noJump : mx_B := [(0, .iload_n 1, 1), (1, .ifCond .lt 11, 3), (4, .iload_n 1, 1), (5, .aload_n 0, 1), (6, .getfield 79, 3), (9, .if_icmp .lt 7, 3), (12, .iconst 1, 1), (13, .goto 4, 3), (16, .iconst 0, 1), (17, .ireturn, 1)]
theorem mt_Mo_noJump_ok : ∀ x ∈ mt_Mo_noJump, decode prog_9_method_13_code x.1 = .ok (x.2.1, x.2.2) := by decide +kernel
abbrev mY_Mo_noJump : mx_Y := (⟨"PegBoardsModel", "noJump", "(I)Z"⟩, prog_9_method_13_code, 2, (some .boolean), "PegBoardsModel", [], Cond.code ⟨"PegBoardsModel", "noJump", "(I)Z"⟩ prog_9_method_13_code 2 (some .boolean) :: mx_WS)
theorem mo_Mo_noJump : mx_ok mY_Mo_noJump mf_Mo mt_Mo_noJump := ⟨mt_Mo_noJump_ok, mf_Mo_ok, fun w h => List.mem_cons_of_mem _ h⟩
def mt_Mo_place : mx_B := [(0, .aload_n 0, 1), (1, .aload_n 0, 1), (2, .iload_n 2, 1), (3, .invokevirtual 117, 3), (6, .ifCond .eq 7, 3), (9, .iconst 1, 1), (10, .goto 4, 3), (13, .iconst 0, 1), (14, .putfield 65, 3), (17, .aload_n 0, 1), (18, .getfield 65, 3), (21, .ifCond .le 4, 3), (24, .return_, 1), (25, .aload_n 0, 1), (26, .iload_n 1, 1), (27, .ifCond .eq 10, 3), (30, .aload_n 0, 1), (31, .getfield 85, 3), (34, .goto 4, 3), (37, .iload_n 2, 1), (38, .putfield 85, 3), (41, .aload_n 0, 1), (42, .iload_n 1, 1), (43, .ifCond .eq 7, 3), (46, .iload_n 2, 1), (47, .goto 7, 3), (50, .aload_n 0, 1), (51, .getfield 88, 3), (54, .putfield 88, 3), (57, .return_, 1)]
theorem mt_Mo_place_ok : ∀ x ∈ mt_Mo_place, decode prog_9_method_16_code x.1 = .ok (x.2.1, x.2.2) := by decide +kernel
abbrev mY_Mo_place : mx_Y := (⟨"PegBoardsModel", "place", "(ZI)V"⟩, prog_9_method_16_code, 3, none, "PegBoardsModel", [], Cond.code ⟨"PegBoardsModel", "place", "(ZI)V"⟩ prog_9_method_16_code 3 none :: mx_WS)
theorem mo_Mo_place : mx_ok mY_Mo_place mf_Mo mt_Mo_place := ⟨mt_Mo_place_ok, mf_Mo_ok, fun w h => List.mem_cons_of_mem _ h⟩
def mt_Mo_noPosition : mx_B := [(0, .iload_n 1, 1), (1, .ifCond .lt 24, 3), (4, .iload_n 1, 1), (5, .aload_n 0, 1), (6, .getfield 73, 3), (9, .ifCond .eq 12, 3), (12, .iconst 1, 1), (13, .aload_n 0, 1), (14, .getfield 76, 3), (17, .ishl, 1), (18, .goto 4, 3), (21, .iconst 1, 1), (22, .if_icmp .lt 7, 3), (25, .iconst 1, 1), (26, .goto 4, 3), (29, .iconst 0, 1), (30, .ireturn, 1)]
theorem mt_Mo_noPosition_ok : ∀ x ∈ mt_Mo_noPosition, decode prog_9_method_14_code x.1 = .ok (x.2.1, x.2.2) := by decide +kernel
abbrev mY_Mo_noPosition : mx_Y := (⟨"PegBoardsModel", "noPosition", "(I)Z"⟩, prog_9_method_14_code, 2, (some .boolean), "PegBoardsModel", [], Cond.code ⟨"PegBoardsModel", "noPosition", "(I)Z"⟩ prog_9_method_14_code 2 (some .boolean) :: mx_WS)
theorem mo_Mo_noPosition : mx_ok mY_Mo_noPosition mf_Mo mt_Mo_noPosition := ⟨mt_Mo_noPosition_ok, mf_Mo_ok, fun w h => List.mem_cons_of_mem _ h⟩
def mt_Mo_after : mx_B := [(0, .aload_n 0, 1), (1, .aload_n 0, 1), (2, .iload_n 2, 1), (3, .invokevirtual 114, 3), (6, .ifCond .eq 7, 3), (9, .iconst 1, 1), (10, .goto 16, 3), (13, .aload_n 0, 1), (14, .iload_n 1, 1), (15, .invokevirtual 117, 3), (18, .ifCond .eq 7, 3), (21, .iconst 2, 1), (22, .goto 4, 3), (25, .iconst 0, 1), (26, .putfield 65, 3), (29, .aload_n 0, 1), (30, .getfield 65, 3), (33, .ifCond .le 7, 3), (36, .iconst 0, 1), (37, .goto 9, 3), (40, .aload_n 0, 1), (41, .iload_n 1, 1), (42, .iload_n 2, 1), (43, .invokevirtual 123, 3), (46, .ireturn, 1)]
theorem mt_Mo_after_ok : ∀ x ∈ mt_Mo_after, decode prog_9_method_19_code x.1 = .ok (x.2.1, x.2.2) := by decide +kernel
abbrev mY_Mo_after : mx_Y := (⟨"PegBoardsModel", "after", "(II)I"⟩, prog_9_method_19_code, 3, (some .int), "PegBoardsModel", [], Cond.code ⟨"PegBoardsModel", "after", "(II)I"⟩ prog_9_method_19_code 3 (some .int) :: mx_WS)
theorem mo_Mo_after : mx_ok mY_Mo_after mf_Mo mt_Mo_after := ⟨mt_Mo_after_ok, mf_Mo_ok, fun w h => List.mem_cons_of_mem _ h⟩
def mt_Mo_made : mx_B := [(0, .iload_n 1, 1), (1, .aload_n 0, 1), (2, .getfield 23, 3), (5, .iload_n 2, 1), (6, .iaload, 1), (7, .invokestatic 120, 3), (10, .iload_n 1, 1), (11, .aload_n 0, 1), (12, .getfield 26, 3), (15, .iload_n 2, 1), (16, .iaload, 1), (17, .invokestatic 120, 3), (20, .iadd, 1), (21, .iconst 2, 1), (22, .if_icmp .lt 17, 3), (25, .iload_n 1, 1), (26, .aload_n 0, 1), (27, .getfield 29, 3), (30, .iload_n 2, 1), (31, .iaload, 1), (32, .invokestatic 120, 3), (35, .iconst 1, 1), (36, .if_icmp .ne 5, 3), (39, .iconst (-1), 1), (40, .ireturn, 1), (41, .iload_n 1, 1), (42, .iconst 1, 1), (43, .aload_n 0, 1), (44, .getfield 23, 3), (47, .iload_n 2, 1), (48, .iaload, 1), (49, .ishl, 1), (50, .isub, 1), (51, .iconst 1, 1), (52, .aload_n 0, 1), (53, .getfield 26, 3), (56, .iload_n 2, 1), (57, .iaload, 1), (58, .ishl, 1), (59, .isub, 1), (60, .iconst 1, 1), (61, .aload_n 0, 1), (62, .getfield 29, 3), (65, .iload_n 2, 1), (66, .iaload, 1), (67, .ishl, 1), (68, .iadd, 1), (69, .ireturn, 1)]
theorem mt_Mo_made_ok : ∀ x ∈ mt_Mo_made, decode prog_9_method_18_code x.1 = .ok (x.2.1, x.2.2) := by decide +kernel
abbrev mY_Mo_made : mx_Y := (⟨"PegBoardsModel", "made", "(II)I"⟩, prog_9_method_18_code, 3, (some .int), "PegBoardsModel", [], Cond.code ⟨"PegBoardsModel", "made", "(II)I"⟩ prog_9_method_18_code 3 (some .int) :: mx_WS)
theorem mo_Mo_made : mx_ok mY_Mo_made mf_Mo mt_Mo_made := ⟨mt_Mo_made_ok, mf_Mo_ok, fun w h => List.mem_cons_of_mem _ h⟩
def mt_Mo_bit : mx_B := [(0, .iload_n 0, 1), (1, .iload_n 1, 1), (2, .ishr, 1), (3, .iconst 1, 1), (4, .iand, 1), (5, .ireturn, 1)]
theorem mt_Mo_bit_ok : ∀ x ∈ mt_Mo_bit, decode prog_9_method_17_code x.1 = .ok (x.2.1, x.2.2) := by decide +kernel
abbrev mY_Mo_bit : mx_Y := (⟨"PegBoardsModel", "bit", "(II)I"⟩, prog_9_method_17_code, 2, (some .int), "PegBoardsModel", [], Cond.code ⟨"PegBoardsModel", "bit", "(II)I"⟩ prog_9_method_17_code 2 (some .int) :: mx_WS)
theorem mo_Mo_bit : mx_ok mY_Mo_bit mf_Mo mt_Mo_bit := ⟨mt_Mo_bit_ok, mf_Mo_ok, fun w h => List.mem_cons_of_mem _ h⟩
def mt_Mo_count : mx_B := [(0, .aload_n 0, 1), (1, .iload_n 1, 1), (2, .invokevirtual 139, 3), (5, .ifCond .eq 5, 3), (8, .iconst 0, 1), (9, .ireturn, 1), (10, .aload_n 0, 1), (11, .iload_n 1, 1), (12, .invokevirtual 142, 3), (15, .ifCond .eq 10, 3), (18, .aload_n 0, 1), (19, .getfield 129, 3), (22, .goto 5, 3), (25, .bipush (-2), 2), (27, .ireturn, 1)]
theorem mt_Mo_count_ok : ∀ x ∈ mt_Mo_count, decode prog_9_method_25_code x.1 = .ok (x.2.1, x.2.2) := by decide +kernel
abbrev mY_Mo_count : mx_Y := (⟨"PegBoardsModel", "count", "(I)I"⟩, prog_9_method_25_code, 2, (some .int), "PegBoardsModel", [], Cond.code ⟨"PegBoardsModel", "count", "(I)I"⟩ prog_9_method_25_code 2 (some .int) :: mx_WS)
theorem mo_Mo_count : mx_ok mY_Mo_count mf_Mo mt_Mo_count := ⟨mt_Mo_count_ok, mf_Mo_ok, fun w h => List.mem_cons_of_mem _ h⟩
def mt_Mo_cannot : mx_B := [(0, .aload_n 0, 1), (1, .aload_n 0, 1), (2, .getfield 73, 3), (5, .ifCond .ne 7, 3), (8, .iconst 1, 1), (9, .goto 20, 3), (12, .iload_n 1, 1), (13, .iconst 1, 1), (14, .if_icmp .lt 10, 3), (17, .iload_n 1, 1), (18, .sipush 500, 3), (21, .if_icmp .le 7, 3), (24, .iconst 2, 1), (25, .goto 4, 3), (28, .iconst 0, 1), (29, .putfield 65, 3), (32, .aload_n 0, 1), (33, .getfield 65, 3), (36, .ifCond .le 7, 3), (39, .iconst 1, 1), (40, .goto 4, 3), (43, .iconst 0, 1), (44, .ireturn, 1)]
theorem mt_Mo_cannot_ok : ∀ x ∈ mt_Mo_cannot, decode prog_9_method_24_code x.1 = .ok (x.2.1, x.2.2) := by decide +kernel
abbrev mY_Mo_cannot : mx_Y := (⟨"PegBoardsModel", "cannot", "(I)Z"⟩, prog_9_method_24_code, 2, (some .boolean), "PegBoardsModel", [], Cond.code ⟨"PegBoardsModel", "cannot", "(I)Z"⟩ prog_9_method_24_code 2 (some .boolean) :: mx_WS)
theorem mo_Mo_cannot : mx_ok mY_Mo_cannot mf_Mo mt_Mo_cannot := ⟨mt_Mo_cannot_ok, mf_Mo_ok, fun w h => List.mem_cons_of_mem _ h⟩
def mt_Mo_reach : mx_B := [(0, .aload_n 0, 1), (1, .iconst 0, 1), (2, .putfield 129, 3), (5, .iconst 0, 1), (6, .istore_n 2, 1), (7, .iload_n 2, 1), (8, .sipush 1024, 3), (11, .if_icmp .ge 16, 3), (14, .aload_n 0, 1), (15, .getfield 56, 3), (18, .iload_n 2, 1), (19, .iconst 0, 1), (20, .iastore, 1), (21, .iinc 2 1, 3), (24, .goto (-17), 3), (27, .aload_n 0, 1), (28, .aload_n 0, 1), (29, .getfield 85, 3), (32, .iconst (-1), 1), (33, .iconst (-1), 1), (34, .invokevirtual 132, 3), (37, .iconst 0, 1), (38, .istore_n 2, 1), (39, .iload_n 2, 1), (40, .aload_n 0, 1), (41, .getfield 129, 3), (44, .if_icmp .ge 70, 3), (47, .iconst 0, 1), (48, .istore_n 3, 1), (49, .iload_n 3, 1), (50, .aload_n 0, 1), (51, .getfield 79, 3), (54, .if_icmp .ge 54, 3), (57, .aload_n 0, 1), (58, .aload_n 0, 1), (59, .getfield 47, 3), (62, .iload_n 2, 1), (63, .iaload, 1), (64, .iload_n 3, 1), (65, .invokevirtual 123, 3), (68, .istore 4, 2), (70, .iload 4, 2), (72, .ifCond .lt 30, 3), (75, .aload_n 0, 1), (76, .iload 4, 2), (78, .invokevirtual 136, 3), (81, .ifCond .ge 21, 3), (84, .aload_n 0, 1), (85, .getfield 129, 3), (88, .iload_n 1, 1), (89, .if_icmp .ne 5, 3), (92, .iconst 0, 1), (93, .ireturn, 1), (94, .aload_n 0, 1), (95, .iload 4, 2), (97, .iload_n 2, 1), (98, .iload_n 3, 1), (99, .invokevirtual 132, 3), (102, .iinc 3 1, 3), (105, .goto (-56), 3), (108, .iinc 2 1, 3), (111, .goto (-72), 3), (114, .iconst 1, 1), (115, .ireturn, 1)]
theorem mt_Mo_reach_ok : ∀ x ∈ mt_Mo_reach, decode prog_9_method_23_code x.1 = .ok (x.2.1, x.2.2) := by decide +kernel
abbrev mY_Mo_reach : mx_Y := (⟨"PegBoardsModel", "reach", "(I)Z"⟩, prog_9_method_23_code, 5, (some .boolean), "PegBoardsModel", [], Cond.code ⟨"PegBoardsModel", "reach", "(I)Z"⟩ prog_9_method_23_code 5 (some .boolean) :: mx_WS)
theorem mo_Mo_reach : mx_ok mY_Mo_reach mf_Mo mt_Mo_reach := ⟨mt_Mo_reach_ok, mf_Mo_ok, fun w h => List.mem_cons_of_mem _ h⟩
def mt_Mo_enter : mx_B := [(0, .aload_n 0, 1), (1, .getfield 56, 3), (4, .aload_n 0, 1), (5, .iload_n 1, 1), (6, .invokevirtual 126, 3), (9, .aload_n 0, 1), (10, .getfield 129, 3), (13, .iconst 1, 1), (14, .iadd, 1), (15, .iastore, 1), (16, .aload_n 0, 1), (17, .getfield 47, 3), (20, .aload_n 0, 1), (21, .getfield 129, 3), (24, .iload_n 1, 1), (25, .iastore, 1), (26, .aload_n 0, 1), (27, .getfield 50, 3), (30, .aload_n 0, 1), (31, .getfield 129, 3), (34, .iload_n 2, 1), (35, .iastore, 1), (36, .aload_n 0, 1), (37, .getfield 53, 3), (40, .aload_n 0, 1), (41, .getfield 129, 3), (44, .iload_n 3, 1), (45, .iastore, 1), (46, .aload_n 0, 1), (47, .dup, 1), (48, .getfield 129, 3), (51, .iconst 1, 1), (52, .iadd, 1), (53, .putfield 129, 3), (56, .return_, 1)]
theorem mt_Mo_enter_ok : ∀ x ∈ mt_Mo_enter, decode prog_9_method_22_code x.1 = .ok (x.2.1, x.2.2) := by decide +kernel
abbrev mY_Mo_enter : mx_Y := (⟨"PegBoardsModel", "enter", "(III)V"⟩, prog_9_method_22_code, 4, none, "PegBoardsModel", [], Cond.code ⟨"PegBoardsModel", "enter", "(III)V"⟩ prog_9_method_22_code 4 none :: mx_WS)
theorem mo_Mo_enter : mx_ok mY_Mo_enter mf_Mo mt_Mo_enter := ⟨mt_Mo_enter_ok, mf_Mo_ok, fun w h => List.mem_cons_of_mem _ h⟩
def mt_Mo_lookAt : mx_B := [(0, .iload_n 1, 1), (1, .bipush 37, 2), (3, .imul, 1), (4, .iload_n 1, 1), (5, .bipush 9, 2), (7, .ishr, 1), (8, .iadd, 1), (9, .sipush 1023, 3), (12, .iand, 1), (13, .istore_n 2, 1), (14, .aload_n 0, 1), (15, .getfield 56, 3), (18, .iload_n 2, 1), (19, .iaload, 1), (20, .ifCond .le 31, 3), (23, .aload_n 0, 1), (24, .getfield 47, 3), (27, .aload_n 0, 1), (28, .getfield 56, 3), (31, .iload_n 2, 1), (32, .iaload, 1), (33, .iconst 1, 1), (34, .isub, 1), (35, .iaload, 1), (36, .iload_n 1, 1), (37, .if_icmp .eq 14, 3), (40, .iload_n 2, 1), (41, .iconst 1, 1), (42, .iadd, 1), (43, .sipush 1023, 3), (46, .iand, 1), (47, .istore_n 2, 1), (48, .goto (-34), 3), (51, .iload_n 2, 1), (52, .ireturn, 1)]
theorem mt_Mo_lookAt_ok : ∀ x ∈ mt_Mo_lookAt, decode prog_9_method_20_code x.1 = .ok (x.2.1, x.2.2) := by decide +kernel
abbrev mY_Mo_lookAt : mx_Y := (⟨"PegBoardsModel", "lookAt", "(I)I"⟩, prog_9_method_20_code, 3, (some .int), "PegBoardsModel", [], Cond.code ⟨"PegBoardsModel", "lookAt", "(I)I"⟩ prog_9_method_20_code 3 (some .int) :: mx_WS)
theorem mo_Mo_lookAt : mx_ok mY_Mo_lookAt mf_Mo mt_Mo_lookAt := ⟨mt_Mo_lookAt_ok, mf_Mo_ok, fun w h => List.mem_cons_of_mem _ h⟩
def mt_Mo_numberOf : mx_B := [(0, .aload_n 0, 1), (1, .getfield 56, 3), (4, .aload_n 0, 1), (5, .iload_n 1, 1), (6, .invokevirtual 126, 3), (9, .iaload, 1), (10, .iconst 1, 1), (11, .isub, 1), (12, .ireturn, 1)]
theorem mt_Mo_numberOf_ok : ∀ x ∈ mt_Mo_numberOf, decode prog_9_method_21_code x.1 = .ok (x.2.1, x.2.2) := by decide +kernel
abbrev mY_Mo_numberOf : mx_Y := (⟨"PegBoardsModel", "numberOf", "(I)I"⟩, prog_9_method_21_code, 2, (some .int), "PegBoardsModel", [], Cond.code ⟨"PegBoardsModel", "numberOf", "(I)I"⟩ prog_9_method_21_code 2 (some .int) :: mx_WS)
theorem mo_Mo_numberOf : mx_ok mY_Mo_numberOf mf_Mo mt_Mo_numberOf := ⟨mt_Mo_numberOf_ok, mf_Mo_ok, fun w h => List.mem_cons_of_mem _ h⟩
def mt_Mo_solve : mx_B := [(0, .aload_n 0, 1), (1, .iload_n 1, 1), (2, .invokevirtual 139, 3), (5, .ifCond .eq 5, 3), (8, .iconst 0, 1), (9, .ireturn, 1), (10, .aload_n 0, 1), (11, .iload_n 1, 1), (12, .invokevirtual 142, 3), (15, .istore_n 2, 1), (16, .aload_n 0, 1), (17, .aload_n 0, 1), (18, .getfield 88, 3), (21, .invokevirtual 136, 3), (24, .ifCond .lt 7, 3), (27, .iconst 1, 1), (28, .goto 13, 3), (31, .iload_n 2, 1), (32, .ifCond .eq 7, 3), (35, .iconst 0, 1), (36, .goto 5, 3), (39, .bipush (-2), 2), (41, .ireturn, 1)]
theorem mt_Mo_solve_ok : ∀ x ∈ mt_Mo_solve, decode prog_9_method_26_code x.1 = .ok (x.2.1, x.2.2) := by decide +kernel
abbrev mY_Mo_solve : mx_Y := (⟨"PegBoardsModel", "solve", "(I)I"⟩, prog_9_method_26_code, 3, (some .int), "PegBoardsModel", [], Cond.code ⟨"PegBoardsModel", "solve", "(I)I"⟩ prog_9_method_26_code 3 (some .int) :: mx_WS)
theorem mo_Mo_solve : mx_ok mY_Mo_solve mf_Mo mt_Mo_solve := ⟨mt_Mo_solve_ok, mf_Mo_ok, fun w h => List.mem_cons_of_mem _ h⟩
def mt_Mo_way : mx_B := [(0, .aload_n 0, 1), (1, .iload_n 1, 1), (2, .invokevirtual 139, 3), (5, .ifCond .eq 5, 3), (8, .iconst 0, 1), (9, .ireturn, 1), (10, .aload_n 0, 1), (11, .iload_n 1, 1), (12, .invokevirtual 142, 3), (15, .istore_n 3, 1), (16, .aload_n 0, 1), (17, .aload_n 0, 1), (18, .getfield 88, 3), (21, .invokevirtual 136, 3), (24, .istore 4, 2), (26, .iload 4, 2), (28, .ifCond .ge 5, 3), (31, .iconst (-1), 1), (32, .ireturn, 1), (33, .iconst 0, 1), (34, .istore 5, 2), (36, .iload 4, 2), (38, .istore 6, 2), (40, .aload_n 0, 1), (41, .getfield 50, 3), (44, .iload 6, 2), (46, .iaload, 1), (47, .ifCond .lt 18, 3), (50, .iinc 5 1, 3), (53, .aload_n 0, 1), (54, .getfield 50, 3), (57, .iload 6, 2), (59, .iaload, 1), (60, .istore 6, 2), (62, .goto (-22), 3), (65, .iload_n 2, 1), (66, .ifCond .lt 9, 3), (69, .iload_n 2, 1), (70, .iload 5, 2), (72, .if_icmp .lt 5, 3), (75, .iconst (-1), 1), (76, .ireturn, 1), (77, .iload 5, 2), (79, .iconst 1, 1), (80, .isub, 1), (81, .istore 6, 2), (83, .iload 6, 2), (85, .iload_n 2, 1), (86, .if_icmp .le 18, 3), (89, .aload_n 0, 1), (90, .getfield 50, 3), (93, .iload 4, 2), (95, .iaload, 1), (96, .istore 4, 2), (98, .iinc 6 (-1), 3), (101, .goto (-18), 3), (104, .aload_n 0, 1), (105, .getfield 53, 3), (108, .iload 4, 2), (110, .iaload, 1), (111, .ireturn, 1)]
theorem mt_Mo_way_ok : ∀ x ∈ mt_Mo_way, decode prog_9_method_27_code x.1 = .ok (x.2.1, x.2.2) := by decide +kernel
abbrev mY_Mo_way : mx_Y := (⟨"PegBoardsModel", "way", "(II)I"⟩, prog_9_method_27_code, 7, (some .int), "PegBoardsModel", [], Cond.code ⟨"PegBoardsModel", "way", "(II)I"⟩ prog_9_method_27_code 7 (some .int) :: mx_WS)
theorem mo_Mo_way : mx_ok mY_Mo_way mf_Mo mt_Mo_way := ⟨mt_Mo_way_ok, mf_Mo_ok, fun w h => List.mem_cons_of_mem _ h⟩
def mt_Mo_moves : mx_B := [(0, .aload_n 0, 1), (1, .iload_n 1, 1), (2, .invokevirtual 139, 3), (5, .ifCond .eq 5, 3), (8, .iconst 0, 1), (9, .ireturn, 1), (10, .aload_n 0, 1), (11, .iload_n 1, 1), (12, .invokevirtual 142, 3), (15, .ifCond .ne 6, 3), (18, .bipush (-2), 2), (20, .ireturn, 1), (21, .iconst 0, 1), (22, .istore_n 2, 1), (23, .iload_n 2, 1), (24, .bipush 21, 2), (26, .aload_n 0, 1), (27, .getfield 129, 3), (30, .imul, 1), (31, .if_icmp .ge 18, 3), (34, .aload_n 0, 1), (35, .getfield 59, 3), (38, .iload_n 2, 1), (39, .sipush 1000, 3), (42, .iastore, 1), (43, .iinc 2 1, 3), (46, .goto (-23), 3), (49, .aload_n 0, 1), (50, .getfield 59, 3), (53, .bipush 20, 2), (55, .iconst 0, 1), (56, .iastore, 1), (57, .aload_n 0, 1), (58, .aload_n 0, 1), (59, .getfield 85, 3), (62, .invokevirtual 145, 3), (65, .istore_n 2, 1), (66, .iload_n 2, 1), (67, .ifCond .le 44, 3), (70, .iconst 0, 1), (71, .istore_n 3, 1), (72, .iload_n 3, 1), (73, .aload_n 0, 1), (74, .getfield 129, 3), (77, .if_icmp .ge 28, 3), (80, .aload_n 0, 1), (81, .aload_n 0, 1), (82, .getfield 47, 3), (85, .iload_n 3, 1), (86, .iaload, 1), (87, .invokevirtual 145, 3), (90, .iload_n 2, 1), (91, .if_icmp .ne 8, 3), (94, .aload_n 0, 1), (95, .iload_n 3, 1), (96, .invokevirtual 148, 3), (99, .iinc 3 1, 3), (102, .goto (-30), 3), (105, .iinc 2 (-1), 3), (108, .goto (-42), 3), (111, .aload_n 0, 1), (112, .aload_n 0, 1), (113, .getfield 88, 3), (116, .invokevirtual 136, 3), (119, .istore_n 2, 1), (120, .sipush 1000, 3), (123, .istore_n 3, 1), (124, .iconst 0, 1), (125, .istore 4, 2), (127, .iload 4, 2), (129, .bipush 21, 2), (131, .if_icmp .ge 46, 3), (134, .iload_n 2, 1), (135, .ifCond .lt 42, 3), (138, .aload_n 0, 1), (139, .getfield 59, 3), (142, .bipush 21, 2), (144, .iload_n 2, 1), (145, .imul, 1), (146, .iload 4, 2), (148, .iadd, 1), (149, .iaload, 1), (150, .iload_n 3, 1), (151, .if_icmp .ge 18, 3), (154, .aload_n 0, 1), (155, .getfield 59, 3), (158, .bipush 21, 2), (160, .iload_n 2, 1), (161, .imul, 1), (162, .iload 4, 2), (164, .iadd, 1), (165, .iaload, 1), (166, .goto 4, 3), (169, .iload_n 3, 1), (170, .istore_n 3, 1), (171, .iinc 4 1, 3), (174, .goto (-47), 3), (177, .iload_n 2, 1), (178, .ifCond .ge 7, 3), (181, .iconst (-1), 1), (182, .goto 4, 3), (185, .iload_n 3, 1), (186, .ireturn, 1)]
theorem mt_Mo_moves_ok : ∀ x ∈ mt_Mo_moves, decode prog_9_method_30_code x.1 = .ok (x.2.1, x.2.2) := by decide +kernel
abbrev mY_Mo_moves : mx_Y := (⟨"PegBoardsModel", "moves", "(I)I"⟩, prog_9_method_30_code, 5, (some .int), "PegBoardsModel", [], Cond.code ⟨"PegBoardsModel", "moves", "(I)I"⟩ prog_9_method_30_code 5 (some .int) :: mx_WS)
theorem mo_Mo_moves : mx_ok mY_Mo_moves mf_Mo mt_Mo_moves := ⟨mt_Mo_moves_ok, mf_Mo_ok, fun w h => List.mem_cons_of_mem _ h⟩
def mt_Mo_pegs : mx_B := [(0, .iconst 0, 1), (1, .istore_n 2, 1), (2, .iconst 0, 1), (3, .istore_n 3, 1), (4, .iload_n 3, 1), (5, .aload_n 0, 1), (6, .getfield 76, 3), (9, .if_icmp .ge 17, 3), (12, .iload_n 2, 1), (13, .iload_n 1, 1), (14, .iload_n 3, 1), (15, .invokestatic 120, 3), (18, .iadd, 1), (19, .istore_n 2, 1), (20, .iinc 3 1, 3), (23, .goto (-19), 3), (26, .iload_n 2, 1), (27, .ireturn, 1)]
theorem mt_Mo_pegs_ok : ∀ x ∈ mt_Mo_pegs, decode prog_9_method_28_code x.1 = .ok (x.2.1, x.2.2) := by decide +kernel
abbrev mY_Mo_pegs : mx_Y := (⟨"PegBoardsModel", "pegs", "(I)I"⟩, prog_9_method_28_code, 4, (some .int), "PegBoardsModel", [], Cond.code ⟨"PegBoardsModel", "pegs", "(I)I"⟩ prog_9_method_28_code 4 (some .int) :: mx_WS)
theorem mo_Mo_pegs : mx_ok mY_Mo_pegs mf_Mo mt_Mo_pegs := ⟨mt_Mo_pegs_ok, mf_Mo_ok, fun w h => List.mem_cons_of_mem _ h⟩
def mt_Mo_spread : mx_B := [(0, .iconst 0, 1), (1, .istore_n 2, 1), (2, .iload_n 2, 1), (3, .aload_n 0, 1), (4, .getfield 79, 3), (7, .if_icmp .ge 120, 3), (10, .aload_n 0, 1), (11, .aload_n 0, 1), (12, .getfield 47, 3), (15, .iload_n 1, 1), (16, .iaload, 1), (17, .iload_n 2, 1), (18, .invokevirtual 123, 3), (21, .istore_n 3, 1), (22, .iload_n 3, 1), (23, .ifCond .lt 98, 3), (26, .bipush 21, 2), (28, .aload_n 0, 1), (29, .iload_n 3, 1), (30, .invokevirtual 136, 3), (33, .imul, 1), (34, .aload_n 0, 1), (35, .getfield 29, 3), (38, .iload_n 2, 1), (39, .iaload, 1), (40, .iadd, 1), (41, .istore 4, 2), (43, .iconst 0, 1), (44, .istore 5, 2), (46, .iload 5, 2), (48, .bipush 21, 2), (50, .if_icmp .ge 71, 3), (53, .aload_n 0, 1), (54, .getfield 59, 3), (57, .bipush 21, 2), (59, .iload_n 1, 1), (60, .imul, 1), (61, .iload 5, 2), (63, .iadd, 1), (64, .iaload, 1), (65, .iload 5, 2), (67, .aload_n 0, 1), (68, .getfield 23, 3), (71, .iload_n 2, 1), (72, .iaload, 1), (73, .if_icmp .ne 7, 3), (76, .iconst 0, 1), (77, .goto 4, 3), (80, .iconst 1, 1), (81, .iadd, 1), (82, .istore 6, 2), (84, .aload_n 0, 1), (85, .getfield 59, 3), (88, .iload 4, 2), (90, .iload 6, 2), (92, .aload_n 0, 1), (93, .getfield 59, 3), (96, .iload 4, 2), (98, .iaload, 1), (99, .if_icmp .ge 8, 3), (102, .iload 6, 2), (104, .goto 10, 3), (107, .aload_n 0, 1), (108, .getfield 59, 3), (111, .iload 4, 2), (113, .iaload, 1), (114, .iastore, 1), (115, .iinc 5 1, 3), (118, .goto (-72), 3), (121, .iinc 2 1, 3), (124, .goto (-122), 3), (127, .return_, 1)]
theorem mt_Mo_spread_ok : ∀ x ∈ mt_Mo_spread, decode prog_9_method_29_code x.1 = .ok (x.2.1, x.2.2) := by decide +kernel
abbrev mY_Mo_spread : mx_Y := (⟨"PegBoardsModel", "spread", "(I)V"⟩, prog_9_method_29_code, 7, none, "PegBoardsModel", [], Cond.code ⟨"PegBoardsModel", "spread", "(I)V"⟩ prog_9_method_29_code 7 none :: mx_WS)
theorem mo_Mo_spread : mx_ok mY_Mo_spread mf_Mo mt_Mo_spread := ⟨mt_Mo_spread_ok, mf_Mo_ok, fun w h => List.mem_cons_of_mem _ h⟩
def mt_Mo_classes : mx_B := [(0, .aload_n 0, 1), (1, .iload_n 1, 1), (2, .invokevirtual 139, 3), (5, .ifCond .eq 5, 3), (8, .iconst 0, 1), (9, .ireturn, 1), (10, .aload_n 0, 1), (11, .iload_n 1, 1), (12, .invokevirtual 142, 3), (15, .ifCond .ne 6, 3), (18, .bipush (-2), 2), (20, .ireturn, 1), (21, .aload_n 0, 1), (22, .iconst 0, 1), (23, .putfield 155, 3), (26, .iconst 0, 1), (27, .istore_n 2, 1), (28, .iload_n 2, 1), (29, .aload_n 0, 1), (30, .getfield 129, 3), (33, .if_icmp .ge 89, 3), (36, .aload_n 0, 1), (37, .aload_n 0, 1), (38, .getfield 47, 3), (41, .iload_n 2, 1), (42, .iaload, 1), (43, .invokevirtual 158, 3), (46, .istore_n 3, 1), (47, .iconst 0, 1), (48, .istore 4, 2), (50, .iconst 0, 1), (51, .istore 5, 2), (53, .iload 5, 2), (55, .aload_n 0, 1), (56, .getfield 155, 3), (59, .if_icmp .ge 32, 3), (62, .iload 4, 2), (64, .ifCond .ne 27, 3), (67, .aload_n 0, 1), (68, .getfield 62, 3), (71, .iload 5, 2), (73, .iaload, 1), (74, .iload_n 3, 1), (75, .if_icmp .ne 7, 3), (78, .iconst 1, 1), (79, .goto 4, 3), (82, .iconst 0, 1), (83, .istore 4, 2), (85, .iinc 5 1, 3), (88, .goto (-35), 3), (91, .iload 4, 2), (93, .ifCond .ne 23, 3), (96, .aload_n 0, 1), (97, .getfield 62, 3), (100, .aload_n 0, 1), (101, .getfield 155, 3), (104, .iload_n 3, 1), (105, .iastore, 1), (106, .aload_n 0, 1), (107, .dup, 1), (108, .getfield 155, 3), (111, .iconst 1, 1), (112, .iadd, 1), (113, .putfield 155, 3), (116, .iinc 2 1, 3), (119, .goto (-91), 3), (122, .aload_n 0, 1), (123, .getfield 155, 3), (126, .ireturn, 1)]
theorem mt_Mo_classes_ok : ∀ x ∈ mt_Mo_classes, decode prog_9_method_33_code x.1 = .ok (x.2.1, x.2.2) := by decide +kernel
abbrev mY_Mo_classes : mx_Y := (⟨"PegBoardsModel", "classes", "(I)I"⟩, prog_9_method_33_code, 6, (some .int), "PegBoardsModel", [], Cond.code ⟨"PegBoardsModel", "classes", "(I)I"⟩ prog_9_method_33_code 6 (some .int) :: mx_WS)
theorem mo_Mo_classes : mx_ok mY_Mo_classes mf_Mo mt_Mo_classes := ⟨mt_Mo_classes_ok, mf_Mo_ok, fun w h => List.mem_cons_of_mem _ h⟩
def mt_Mo_leastOf : mx_B := [(0, .iload_n 1, 1), (1, .istore_n 2, 1), (2, .iconst 0, 1), (3, .istore_n 3, 1), (4, .iload_n 3, 1), (5, .aload_n 0, 1), (6, .getfield 82, 3), (9, .if_icmp .ge 30, 3), (12, .aload_n 0, 1), (13, .iload_n 3, 1), (14, .iload_n 1, 1), (15, .invokevirtual 152, 3), (18, .istore 4, 2), (20, .iload 4, 2), (22, .iload_n 2, 1), (23, .if_icmp .ge 8, 3), (26, .iload 4, 2), (28, .goto 4, 3), (31, .iload_n 2, 1), (32, .istore_n 2, 1), (33, .iinc 3 1, 3), (36, .goto (-32), 3), (39, .iload_n 2, 1), (40, .ireturn, 1)]
theorem mt_Mo_leastOf_ok : ∀ x ∈ mt_Mo_leastOf, decode prog_9_method_32_code x.1 = .ok (x.2.1, x.2.2) := by decide +kernel
abbrev mY_Mo_leastOf : mx_Y := (⟨"PegBoardsModel", "leastOf", "(I)I"⟩, prog_9_method_32_code, 5, (some .int), "PegBoardsModel", [], Cond.code ⟨"PegBoardsModel", "leastOf", "(I)I"⟩ prog_9_method_32_code 5 (some .int) :: mx_WS)
theorem mo_Mo_leastOf : mx_ok mY_Mo_leastOf mf_Mo mt_Mo_leastOf := ⟨mt_Mo_leastOf_ok, mf_Mo_ok, fun w h => List.mem_cons_of_mem _ h⟩
def mt_Mo_imaged : mx_B := [(0, .iconst 0, 1), (1, .istore_n 3, 1), (2, .iconst 0, 1), (3, .istore 4, 2), (5, .iload 4, 2), (7, .aload_n 0, 1), (8, .getfield 76, 3), (11, .if_icmp .ge 31, 3), (14, .iload_n 3, 1), (15, .iload_n 2, 1), (16, .iload 4, 2), (18, .invokestatic 120, 3), (21, .aload_n 0, 1), (22, .getfield 32, 3), (25, .bipush 20, 2), (27, .iload_n 1, 1), (28, .imul, 1), (29, .iload 4, 2), (31, .iadd, 1), (32, .iaload, 1), (33, .ishl, 1), (34, .iadd, 1), (35, .istore_n 3, 1), (36, .iinc 4 1, 3), (39, .goto (-34), 3), (42, .iload_n 3, 1), (43, .ireturn, 1)]
theorem mt_Mo_imaged_ok : ∀ x ∈ mt_Mo_imaged, decode prog_9_method_31_code x.1 = .ok (x.2.1, x.2.2) := by decide +kernel
abbrev mY_Mo_imaged : mx_Y := (⟨"PegBoardsModel", "imaged", "(II)I"⟩, prog_9_method_31_code, 5, (some .int), "PegBoardsModel", [], Cond.code ⟨"PegBoardsModel", "imaged", "(II)I"⟩ prog_9_method_31_code 5 (some .int) :: mx_WS)
theorem mo_Mo_imaged : mx_ok mY_Mo_imaged mf_Mo mt_Mo_imaged := ⟨mt_Mo_imaged_ok, mf_Mo_ok, fun w h => List.mem_cons_of_mem _ h⟩
def mt_Mo_symmetries : mx_B := [(0, .aload_n 0, 1), (1, .iconst 0, 1), (2, .putfield 65, 3), (5, .aload_n 0, 1), (6, .getfield 82, 3), (9, .ireturn, 1)]
theorem mt_Mo_symmetries_ok : ∀ x ∈ mt_Mo_symmetries, decode prog_9_method_34_code x.1 = .ok (x.2.1, x.2.2) := by decide +kernel
abbrev mY_Mo_symmetries : mx_Y := (⟨"PegBoardsModel", "symmetries", "()I"⟩, prog_9_method_34_code, 1, (some .int), "PegBoardsModel", [], Cond.code ⟨"PegBoardsModel", "symmetries", "()I"⟩ prog_9_method_34_code 1 (some .int) :: mx_WS)
theorem mo_Mo_symmetries : mx_ok mY_Mo_symmetries mf_Mo mt_Mo_symmetries := ⟨mt_Mo_symmetries_ok, mf_Mo_ok, fun w h => List.mem_cons_of_mem _ h⟩
def mt_Mo_image : mx_B := [(0, .aload_n 0, 1), (1, .iload_n 1, 1), (2, .ifCond .lt 19, 3), (5, .iload_n 1, 1), (6, .aload_n 0, 1), (7, .getfield 82, 3), (10, .if_icmp .ge 11, 3), (13, .aload_n 0, 1), (14, .iload_n 2, 1), (15, .invokevirtual 161, 3), (18, .ifCond .eq 7, 3), (21, .iconst 1, 1), (22, .goto 4, 3), (25, .iconst 0, 1), (26, .putfield 65, 3), (29, .aload_n 0, 1), (30, .getfield 65, 3), (33, .ifCond .le 7, 3), (36, .iconst 0, 1), (37, .goto 14, 3), (40, .aload_n 0, 1), (41, .getfield 32, 3), (44, .bipush 20, 2), (46, .iload_n 1, 1), (47, .imul, 1), (48, .iload_n 2, 1), (49, .iadd, 1), (50, .iaload, 1), (51, .ireturn, 1)]
theorem mt_Mo_image_ok : ∀ x ∈ mt_Mo_image, decode prog_9_method_36_code x.1 = .ok (x.2.1, x.2.2) := by decide +kernel
abbrev mY_Mo_image : mx_Y := (⟨"PegBoardsModel", "image", "(II)I"⟩, prog_9_method_36_code, 3, (some .int), "PegBoardsModel", [], Cond.code ⟨"PegBoardsModel", "image", "(II)I"⟩ prog_9_method_36_code 3 (some .int) :: mx_WS)
theorem mo_Mo_image : mx_ok mY_Mo_image mf_Mo mt_Mo_image := ⟨mt_Mo_image_ok, mf_Mo_ok, fun w h => List.mem_cons_of_mem _ h⟩
def mt_Mo_noHole : mx_B := [(0, .aload_n 0, 1), (1, .getfield 73, 3), (4, .ifCond .eq 15, 3), (7, .iload_n 1, 1), (8, .ifCond .lt 11, 3), (11, .iload_n 1, 1), (12, .aload_n 0, 1), (13, .getfield 76, 3), (16, .if_icmp .lt 7, 3), (19, .iconst 1, 1), (20, .goto 4, 3), (23, .iconst 0, 1), (24, .ireturn, 1)]
theorem mt_Mo_noHole_ok : ∀ x ∈ mt_Mo_noHole, decode prog_9_method_35_code x.1 = .ok (x.2.1, x.2.2) := by decide +kernel
abbrev mY_Mo_noHole : mx_Y := (⟨"PegBoardsModel", "noHole", "(I)Z"⟩, prog_9_method_35_code, 2, (some .boolean), "PegBoardsModel", [], Cond.code ⟨"PegBoardsModel", "noHole", "(I)Z"⟩ prog_9_method_35_code 2 (some .boolean) :: mx_WS)
theorem mo_Mo_noHole : mx_ok mY_Mo_noHole mf_Mo mt_Mo_noHole := ⟨mt_Mo_noHole_ok, mf_Mo_ok, fun w h => List.mem_cons_of_mem _ h⟩
def mt_Mo_least : mx_B := [(0, .aload_n 0, 1), (1, .aload_n 0, 1), (2, .iload_n 1, 1), (3, .invokevirtual 117, 3), (6, .ifCond .eq 7, 3), (9, .iconst 1, 1), (10, .goto 15, 3), (13, .aload_n 0, 1), (14, .getfield 73, 3), (17, .ifCond .ne 7, 3), (20, .iconst 2, 1), (21, .goto 4, 3), (24, .iconst 0, 1), (25, .putfield 65, 3), (28, .aload_n 0, 1), (29, .getfield 65, 3), (32, .ifCond .le 7, 3), (35, .iconst 0, 1), (36, .goto 8, 3), (39, .aload_n 0, 1), (40, .iload_n 1, 1), (41, .invokevirtual 158, 3), (44, .ireturn, 1)]
theorem mt_Mo_least_ok : ∀ x ∈ mt_Mo_least, decode prog_9_method_37_code x.1 = .ok (x.2.1, x.2.2) := by decide +kernel
abbrev mY_Mo_least : mx_Y := (⟨"PegBoardsModel", "least", "(I)I"⟩, prog_9_method_37_code, 2, (some .int), "PegBoardsModel", [], Cond.code ⟨"PegBoardsModel", "least", "(I)I"⟩ prog_9_method_37_code 2 (some .int) :: mx_WS)
theorem mo_Mo_least : mx_ok mY_Mo_least mf_Mo mt_Mo_least := ⟨mt_Mo_least_ok, mf_Mo_ok, fun w h => List.mem_cons_of_mem _ h⟩
def mt_Mo_parity : mx_B := [(0, .aload_n 0, 1), (1, .aload_n 0, 1), (2, .iload_n 1, 1), (3, .invokevirtual 117, 3), (6, .ifCond .eq 7, 3), (9, .iconst 1, 1), (10, .goto 4, 3), (13, .iconst 0, 1), (14, .putfield 65, 3), (17, .aload_n 0, 1), (18, .getfield 65, 3), (21, .ifCond .le 5, 3), (24, .iconst 0, 1), (25, .ireturn, 1), (26, .aload_n 0, 1), (27, .getfield 69, 3), (30, .ifCond .eq 5, 3), (33, .iconst (-1), 1), (34, .ireturn, 1), (35, .iconst 0, 1), (36, .istore_n 2, 1), (37, .iconst 0, 1), (38, .istore_n 3, 1), (39, .iconst 0, 1), (40, .istore 4, 2), (42, .iconst 0, 1), (43, .istore 5, 2), (45, .iconst 0, 1), (46, .istore 6, 2), (48, .iload 6, 2), (50, .aload_n 0, 1), (51, .getfield 76, 3), (54, .if_icmp .ge 120, 3), (57, .iload_n 1, 1), (58, .iload 6, 2), (60, .invokestatic 120, 3), (63, .iconst 1, 1), (64, .if_icmp .ne 104, 3), (67, .aload_n 0, 1), (68, .getfield 17, 3), (71, .iload 6, 2), (73, .iaload, 1), (74, .aload_n 0, 1), (75, .getfield 20, 3), (78, .iload 6, 2), (80, .iaload, 1), (81, .iadd, 1), (82, .iconst 3, 1), (83, .irem, 1), (84, .istore 7, 2), (86, .aload_n 0, 1), (87, .getfield 17, 3), (90, .iload 6, 2), (92, .iaload, 1), (93, .aload_n 0, 1), (94, .getfield 20, 3), (97, .iload 6, 2), (99, .iaload, 1), (100, .isub, 1), (101, .bipush 9, 2), (103, .iadd, 1), (104, .iconst 3, 1), (105, .irem, 1), (106, .istore 8, 2), (108, .iload 7, 2), (110, .iconst 2, 1), (111, .if_icmp .ne 7, 3), (114, .iload_n 2, 1), (115, .goto 6, 3), (118, .iload_n 2, 1), (119, .iconst 1, 1), (120, .iadd, 1), (121, .istore_n 2, 1), (122, .iload 7, 2), (124, .ifCond .ne 7, 3), (127, .iload_n 3, 1), (128, .goto 6, 3), (131, .iload_n 3, 1), (132, .iconst 1, 1), (133, .iadd, 1), (134, .istore_n 3, 1), (135, .iload 8, 2), (137, .iconst 2, 1), (138, .if_icmp .ne 8, 3), (141, .iload 4, 2), (143, .goto 7, 3), (146, .iload 4, 2), (148, .iconst 1, 1), (149, .iadd, 1), (150, .istore 4, 2), (152, .iload 8, 2), (154, .ifCond .ne 8, 3), (157, .iload 5, 2), (159, .goto 7, 3), (162, .iload 5, 2), (164, .iconst 1, 1), (165, .iadd, 1), (166, .istore 5, 2), (168, .iinc 6 1, 3), (171, .goto (-123), 3), (174, .bipush 8, 2), (176, .iload_n 2, 1), (177, .iconst 2, 1), (178, .irem, 1), (179, .imul, 1), (180, .iconst 4, 1), (181, .iload_n 3, 1), (182, .iconst 2, 1), (183, .irem, 1), (184, .imul, 1), (185, .iadd, 1), (186, .iconst 2, 1), (187, .iload 4, 2), (189, .iconst 2, 1), (190, .irem, 1), (191, .imul, 1), (192, .iadd, 1), (193, .iload 5, 2), (195, .iconst 2, 1), (196, .irem, 1), (197, .iadd, 1), (198, .ireturn, 1)]
theorem mt_Mo_parity_ok : ∀ x ∈ mt_Mo_parity, decode prog_9_method_38_code x.1 = .ok (x.2.1, x.2.2) := by decide +kernel
abbrev mY_Mo_parity : mx_Y := (⟨"PegBoardsModel", "parity", "(I)I"⟩, prog_9_method_38_code, 9, (some .int), "PegBoardsModel", [], Cond.code ⟨"PegBoardsModel", "parity", "(I)I"⟩ prog_9_method_38_code 9 (some .int) :: mx_WS)
theorem mo_Mo_parity : mx_ok mY_Mo_parity mf_Mo mt_Mo_parity := ⟨mt_Mo_parity_ok, mf_Mo_ok, fun w h => List.mem_cons_of_mem _ h⟩
def mt_Mo_weight : mx_B := [(0, .aload_n 0, 1), (1, .aload_n 0, 1), (2, .iload_n 1, 1), (3, .invokevirtual 161, 3), (6, .ifCond .eq 7, 3), (9, .iconst 1, 1), (10, .goto 18, 3), (13, .iload_n 2, 1), (14, .ifCond .lt 9, 3), (17, .iload_n 2, 1), (18, .bipush 60, 2), (20, .if_icmp .le 7, 3), (23, .iconst 2, 1), (24, .goto 4, 3), (27, .iconst 0, 1), (28, .putfield 65, 3), (31, .aload_n 0, 1), (32, .getfield 65, 3), (35, .ifCond .ne 10, 3), (38, .aload_n 0, 1), (39, .getfield 41, 3), (42, .iload_n 1, 1), (43, .iload_n 2, 1), (44, .iastore, 1), (45, .return_, 1)]
theorem mt_Mo_weight_ok : ∀ x ∈ mt_Mo_weight, decode prog_9_method_39_code x.1 = .ok (x.2.1, x.2.2) := by decide +kernel
abbrev mY_Mo_weight : mx_Y := (⟨"PegBoardsModel", "weight", "(II)V"⟩, prog_9_method_39_code, 3, none, "PegBoardsModel", [], Cond.code ⟨"PegBoardsModel", "weight", "(II)V"⟩ prog_9_method_39_code 3 none :: mx_WS)
theorem mo_Mo_weight : mx_ok mY_Mo_weight mf_Mo mt_Mo_weight := ⟨mt_Mo_weight_ok, mf_Mo_ok, fun w h => List.mem_cons_of_mem _ h⟩
def mt_Mo_weights : mx_B := [(0, .aload_n 0, 1), (1, .iload_n 1, 1), (2, .ifCond .lt 18, 3), (5, .iload_n 1, 1), (6, .iconst 2, 1), (7, .if_icmp .le 17, 3), (10, .aload_n 0, 1), (11, .iload_n 1, 1), (12, .iconst 3, 1), (13, .isub, 1), (14, .invokevirtual 161, 3), (17, .ifCond .eq 7, 3), (20, .iconst 1, 1), (21, .goto 4, 3), (24, .iconst 0, 1), (25, .putfield 65, 3), (28, .aload_n 0, 1), (29, .getfield 65, 3), (32, .ifCond .le 5, 3), (35, .iconst 0, 1), (36, .ireturn, 1), (37, .iload_n 1, 1), (38, .ifCond .ne 18, 3), (41, .aload_n 0, 1), (42, .invokevirtual 164, 3), (45, .ifCond .eq 7, 3), (48, .iconst 1, 1), (49, .goto 47, 3), (52, .iconst 0, 1), (53, .goto 43, 3), (56, .iload_n 1, 1), (57, .iconst 1, 1), (58, .if_icmp .ne 14, 3), (61, .aload_n 0, 1), (62, .aload_n 0, 1), (63, .getfield 85, 3), (66, .invokevirtual 168, 3), (69, .goto 27, 3), (72, .iload_n 1, 1), (73, .iconst 2, 1), (74, .if_icmp .ne 14, 3), (77, .aload_n 0, 1), (78, .aload_n 0, 1), (79, .getfield 88, 3), (82, .invokevirtual 168, 3), (85, .goto 11, 3), (88, .aload_n 0, 1), (89, .getfield 41, 3), (92, .iload_n 1, 1), (93, .iconst 3, 1), (94, .isub, 1), (95, .iaload, 1), (96, .ireturn, 1)]
theorem mt_Mo_weights_ok : ∀ x ∈ mt_Mo_weights, decode prog_9_method_42_code x.1 = .ok (x.2.1, x.2.2) := by decide +kernel
abbrev mY_Mo_weights : mx_Y := (⟨"PegBoardsModel", "weights", "(I)I"⟩, prog_9_method_42_code, 2, (some .int), "PegBoardsModel", [], Cond.code ⟨"PegBoardsModel", "weights", "(I)I"⟩ prog_9_method_42_code 2 (some .int) :: mx_WS)
theorem mo_Mo_weights : mx_ok mY_Mo_weights mf_Mo mt_Mo_weights := ⟨mt_Mo_weights_ok, mf_Mo_ok, fun w h => List.mem_cons_of_mem _ h⟩
def mt_Mo_holding : mx_B := [(0, .iconst 1, 1), (1, .istore_n 1, 1), (2, .iconst 0, 1), (3, .istore_n 2, 1), (4, .iload_n 2, 1), (5, .aload_n 0, 1), (6, .getfield 79, 3), (9, .if_icmp .ge 56, 3), (12, .iload_n 1, 1), (13, .ifCond .eq 44, 3), (16, .aload_n 0, 1), (17, .getfield 41, 3), (20, .aload_n 0, 1), (21, .getfield 29, 3), (24, .iload_n 2, 1), (25, .iaload, 1), (26, .iaload, 1), (27, .aload_n 0, 1), (28, .getfield 41, 3), (31, .aload_n 0, 1), (32, .getfield 23, 3), (35, .iload_n 2, 1), (36, .iaload, 1), (37, .iaload, 1), (38, .aload_n 0, 1), (39, .getfield 41, 3), (42, .aload_n 0, 1), (43, .getfield 26, 3), (46, .iload_n 2, 1), (47, .iaload, 1), (48, .iaload, 1), (49, .iadd, 1), (50, .if_icmp .gt 7, 3), (53, .iconst 1, 1), (54, .goto 4, 3), (57, .iconst 0, 1), (58, .istore_n 1, 1), (59, .iinc 2 1, 3), (62, .goto (-58), 3), (65, .iload_n 1, 1), (66, .ireturn, 1)]
theorem mt_Mo_holding_ok : ∀ x ∈ mt_Mo_holding, decode prog_9_method_41_code x.1 = .ok (x.2.1, x.2.2) := by decide +kernel
abbrev mY_Mo_holding : mx_Y := (⟨"PegBoardsModel", "holding", "()Z"⟩, prog_9_method_41_code, 3, (some .boolean), "PegBoardsModel", [], Cond.code ⟨"PegBoardsModel", "holding", "()Z"⟩ prog_9_method_41_code 3 (some .boolean) :: mx_WS)
theorem mo_Mo_holding : mx_ok mY_Mo_holding mf_Mo mt_Mo_holding := ⟨mt_Mo_holding_ok, mf_Mo_ok, fun w h => List.mem_cons_of_mem _ h⟩
def mt_Mo_sumOf : mx_B := [(0, .iconst 0, 1), (1, .istore_n 2, 1), (2, .iconst 0, 1), (3, .istore_n 3, 1), (4, .iload_n 3, 1), (5, .bipush 20, 2), (7, .if_icmp .ge 24, 3), (10, .iload_n 2, 1), (11, .iload_n 1, 1), (12, .iload_n 3, 1), (13, .invokestatic 120, 3), (16, .aload_n 0, 1), (17, .getfield 41, 3), (20, .iload_n 3, 1), (21, .iaload, 1), (22, .imul, 1), (23, .iadd, 1), (24, .istore_n 2, 1), (25, .iinc 3 1, 3), (28, .goto (-24), 3), (31, .iload_n 2, 1), (32, .ireturn, 1)]
theorem mt_Mo_sumOf_ok : ∀ x ∈ mt_Mo_sumOf, decode prog_9_method_40_code x.1 = .ok (x.2.1, x.2.2) := by decide +kernel
abbrev mY_Mo_sumOf : mx_Y := (⟨"PegBoardsModel", "sumOf", "(I)I"⟩, prog_9_method_40_code, 4, (some .int), "PegBoardsModel", [], Cond.code ⟨"PegBoardsModel", "sumOf", "(I)I"⟩ prog_9_method_40_code 4 (some .int) :: mx_WS)
theorem mo_Mo_sumOf : mx_ok mY_Mo_sumOf mf_Mo mt_Mo_sumOf := ⟨mt_Mo_sumOf_ok, mf_Mo_ok, fun w h => List.mem_cons_of_mem _ h⟩
def mt_Mo_find : mx_B := [(0, .aload_n 0, 1), (1, .aload_n 0, 1), (2, .getfield 73, 3), (5, .ifCond .eq 12, 3), (8, .aload_n 0, 1), (9, .getfield 76, 3), (12, .bipush 8, 2), (14, .if_icmp .le 7, 3), (17, .iconst 1, 1), (18, .goto 4, 3), (21, .iconst 0, 1), (22, .putfield 65, 3), (25, .aload_n 0, 1), (26, .getfield 65, 3), (29, .ifCond .le 5, 3), (32, .iconst 0, 1), (33, .ireturn, 1), (34, .iconst 1, 1), (35, .istore_n 1, 1), (36, .iconst 0, 1), (37, .istore_n 2, 1), (38, .iload_n 2, 1), (39, .aload_n 0, 1), (40, .getfield 76, 3), (43, .if_icmp .ge 13, 3), (46, .iconst 3, 1), (47, .iload_n 1, 1), (48, .imul, 1), (49, .istore_n 1, 1), (50, .iinc 2 1, 3), (53, .goto (-15), 3), (56, .iconst 0, 1), (57, .istore_n 2, 1), (58, .iload_n 2, 1), (59, .iload_n 1, 1), (60, .if_icmp .ge 85, 3), (63, .iload_n 2, 1), (64, .istore_n 3, 1), (65, .aload_n 0, 1), (66, .getfield 76, 3), (69, .iconst 1, 1), (70, .isub, 1), (71, .istore 4, 2), (73, .iload 4, 2), (75, .ifCond .lt 23, 3), (78, .aload_n 0, 1), (79, .getfield 44, 3), (82, .iload 4, 2), (84, .iload_n 3, 1), (85, .iconst 3, 1), (86, .irem, 1), (87, .iastore, 1), (88, .iload_n 3, 1), (89, .iconst 3, 1), (90, .idiv, 1), (91, .istore_n 3, 1), (92, .iinc 4 (-1), 3), (95, .goto (-22), 3), (98, .aload_n 0, 1), (99, .invokevirtual 171, 3), (102, .ifCond .eq 37, 3), (105, .iconst 0, 1), (106, .istore 4, 2), (108, .iload 4, 2), (110, .aload_n 0, 1), (111, .getfield 76, 3), (114, .if_icmp .ge 23, 3), (117, .aload_n 0, 1), (118, .getfield 41, 3), (121, .iload 4, 2), (123, .aload_n 0, 1), (124, .getfield 44, 3), (127, .iload 4, 2), (129, .iaload, 1), (130, .iastore, 1), (131, .iinc 4 1, 3), (134, .goto (-26), 3), (137, .iconst 1, 1), (138, .ireturn, 1), (139, .iinc 2 1, 3), (142, .goto (-84), 3), (145, .iconst 0, 1), (146, .ireturn, 1)]
theorem mt_Mo_find_ok : ∀ x ∈ mt_Mo_find, decode prog_9_method_44_code x.1 = .ok (x.2.1, x.2.2) := by decide +kernel
abbrev mY_Mo_find : mx_Y := (⟨"PegBoardsModel", "find", "()Z"⟩, prog_9_method_44_code, 5, (some .boolean), "PegBoardsModel", [], Cond.code ⟨"PegBoardsModel", "find", "()Z"⟩ prog_9_method_44_code 5 (some .boolean) :: mx_WS)
theorem mo_Mo_find : mx_ok mY_Mo_find mf_Mo mt_Mo_find := ⟨mt_Mo_find_ok, mf_Mo_ok, fun w h => List.mem_cons_of_mem _ h⟩
def mt_Mo_fits : mx_B := [(0, .iconst 0, 1), (1, .istore_n 1, 1), (2, .iconst 1, 1), (3, .istore_n 2, 1), (4, .iconst 0, 1), (5, .istore_n 3, 1), (6, .iload_n 3, 1), (7, .aload_n 0, 1), (8, .getfield 76, 3), (11, .if_icmp .ge 36, 3), (14, .iload_n 1, 1), (15, .aload_n 0, 1), (16, .getfield 44, 3), (19, .iload_n 3, 1), (20, .iaload, 1), (21, .aload_n 0, 1), (22, .getfield 88, 3), (25, .iload_n 3, 1), (26, .invokestatic 120, 3), (29, .aload_n 0, 1), (30, .getfield 85, 3), (33, .iload_n 3, 1), (34, .invokestatic 120, 3), (37, .isub, 1), (38, .imul, 1), (39, .iadd, 1), (40, .istore_n 1, 1), (41, .iinc 3 1, 3), (44, .goto (-38), 3), (47, .iconst 0, 1), (48, .istore_n 3, 1), (49, .iload_n 3, 1), (50, .aload_n 0, 1), (51, .getfield 79, 3), (54, .if_icmp .ge 56, 3), (57, .iload_n 2, 1), (58, .ifCond .eq 44, 3), (61, .aload_n 0, 1), (62, .getfield 44, 3), (65, .aload_n 0, 1), (66, .getfield 29, 3), (69, .iload_n 3, 1), (70, .iaload, 1), (71, .iaload, 1), (72, .aload_n 0, 1), (73, .getfield 44, 3), (76, .aload_n 0, 1), (77, .getfield 23, 3), (80, .iload_n 3, 1), (81, .iaload, 1), (82, .iaload, 1), (83, .aload_n 0, 1), (84, .getfield 44, 3), (87, .aload_n 0, 1), (88, .getfield 26, 3), (91, .iload_n 3, 1), (92, .iaload, 1), (93, .iaload, 1), (94, .iadd, 1), (95, .if_icmp .gt 7, 3), (98, .iconst 1, 1), (99, .goto 4, 3), (102, .iconst 0, 1), (103, .istore_n 2, 1), (104, .iinc 3 1, 3), (107, .goto (-58), 3), (110, .iload_n 2, 1), (111, .ifCond .eq 11, 3), (114, .iload_n 1, 1), (115, .ifCond .le 7, 3), (118, .iconst 1, 1), (119, .goto 4, 3), (122, .iconst 0, 1), (123, .ireturn, 1)]
theorem mt_Mo_fits_ok : ∀ x ∈ mt_Mo_fits, decode prog_9_method_43_code x.1 = .ok (x.2.1, x.2.2) := by decide +kernel
abbrev mY_Mo_fits : mx_Y := (⟨"PegBoardsModel", "fits", "()Z"⟩, prog_9_method_43_code, 4, (some .boolean), "PegBoardsModel", [], Cond.code ⟨"PegBoardsModel", "fits", "()Z"⟩ prog_9_method_43_code 4 (some .boolean) :: mx_WS)
theorem mo_Mo_fits : mx_ok mY_Mo_fits mf_Mo mt_Mo_fits := ⟨mt_Mo_fits_ok, mf_Mo_ok, fun w h => List.mem_cons_of_mem _ h⟩
end
section
/-! Printed by wip/whole/gen.py: what the call sites ask of the words. -/
theorem mx_in {w : Cond} (k : Nat) (h : lw_tbl[k]? = some w) (hg : goodWord w = true) : w ∈ mx_WS := List.mem_filter.mpr ⟨List.mem_of_getElem? h, hg⟩
theorem mx_inN {w : Cond} (k : Nat) (h : lw_tbl[k]? = some w) (hg : mx_nk w = true) : w ∈ mx_NW := List.mem_filter.mpr ⟨List.mem_of_getElem? h, hg⟩
theorem wi_Ar : Cond.initialized "java/util/Arrays" ∈ mx_WS := mx_in 43 (by decide +kernel) rfl
theorem wc_Ar_fill : Cond.code ⟨"java/util/Arrays", "fill", "([II)V"⟩ prog_20_method_103_code 4 none ∈ mx_WS := mx_in 75 (by decide +kernel) rfl
theorem kd_Ar_fill : mx_cdb mY_Ar_fill 2 = true := by
  simp only [mx_cdb, Bool.and_eq_true, decide_eq_true_eq]
  exact ⟨⟨⟨⟨⟨wi_Ar, wc_Ar_fill⟩, by decide +kernel⟩, by decide +kernel⟩, by decide +kernel⟩, by decide +kernel⟩
theorem wl_Bo_21 : Cond.methodLink "PegBoards$Board" 21 ⟨"java/util/Arrays", "fill", "([II)V"⟩ ∈ mx_WS := mx_in 73 (by decide +kernel) rfl
theorem wt_Ar_fill : Cond.static ⟨"java/util/Arrays", "fill", "([II)V"⟩ ∈ mx_WS := mx_in 74 (by decide +kernel) rfl
theorem ks_Bo_21 : mx_csb "PegBoards$Board" 21 mY_Ar_fill = true := by
  simp only [mx_csb, Bool.and_eq_true, decide_eq_true_eq]
  exact ⟨wl_Bo_21, wt_Ar_fill⟩
theorem wi_Pe : Cond.initialized "PegBoards" ∈ mx_WS := mx_in 41 (by decide +kernel) rfl
theorem wc_Pe_clear : Cond.code ⟨"PegBoards", "clear", "(Z)V"⟩ prog_1_method_2_code 2 none ∈ mx_WS := mx_in 227 (by decide +kernel) rfl
theorem kd_Pe_clear : mx_cdb mY_Pe_clear 1 = true := by
  simp only [mx_cdb, Bool.and_eq_true, decide_eq_true_eq]
  exact ⟨⟨⟨⟨⟨wi_Pe, wc_Pe_clear⟩, by decide +kernel⟩, by decide +kernel⟩, by decide +kernel⟩, by decide +kernel⟩
theorem wl_La_73 : Cond.methodLink "PegBoardsLaw" 73 ⟨"PegBoards", "clear", "(Z)V"⟩ ∈ mx_WS := mx_in 224 (by decide +kernel) rfl
theorem wm_Pe_clear : Cond.instanceMethod ⟨"PegBoards", "clear", "(Z)V"⟩ ∈ mx_WS := mx_in 225 (by decide +kernel) rfl
theorem wv_Pe_clear : Cond.selects "PegBoards" ⟨"PegBoards", "clear", "(Z)V"⟩ ⟨"PegBoards", "clear", "(Z)V"⟩ ∈ mx_WS := mx_in 226 (by decide +kernel) rfl
theorem kv_La_73 : mx_cvb "PegBoardsLaw" 73 mY_Pe_clear = true := by
  simp only [mx_cvb, Bool.and_eq_true, decide_eq_true_eq]
  exact ⟨⟨wl_La_73, wm_Pe_clear⟩, wv_Pe_clear⟩
theorem wi_Bo : Cond.initialized "PegBoards$Board" ∈ mx_WS := mx_in 42 (by decide +kernel) rfl
theorem wc_Bo_wipe : Cond.code ⟨"PegBoards$Board", "wipe", "(Z)V"⟩ prog_2_method_2_code 2 none ∈ mx_WS := mx_in 231 (by decide +kernel) rfl
theorem kd_Bo_wipe : mx_cdb mY_Bo_wipe 1 = true := by
  simp only [mx_cdb, Bool.and_eq_true, decide_eq_true_eq]
  exact ⟨⟨⟨⟨⟨wi_Bo, wc_Bo_wipe⟩, by decide +kernel⟩, by decide +kernel⟩, by decide +kernel⟩, by decide +kernel⟩
theorem wl_Pe_44 : Cond.methodLink "PegBoards" 44 ⟨"PegBoards$Board", "wipe", "(Z)V"⟩ ∈ mx_WS := mx_in 228 (by decide +kernel) rfl
theorem wm_Bo_wipe : Cond.instanceMethod ⟨"PegBoards$Board", "wipe", "(Z)V"⟩ ∈ mx_WS := mx_in 229 (by decide +kernel) rfl
theorem wv_Bo_wipe : Cond.selects "PegBoards$Board" ⟨"PegBoards$Board", "wipe", "(Z)V"⟩ ⟨"PegBoards$Board", "wipe", "(Z)V"⟩ ∈ mx_WS := mx_in 230 (by decide +kernel) rfl
theorem kv_Pe_44 : mx_cvb "PegBoards" 44 mY_Bo_wipe = true := by
  simp only [mx_cvb, Bool.and_eq_true, decide_eq_true_eq]
  exact ⟨⟨wl_Pe_44, wm_Bo_wipe⟩, wv_Bo_wipe⟩
theorem wi_Ju : Cond.initialized "PegBoards$Jumps" ∈ mx_WS := mx_in 44 (by decide +kernel) rfl
theorem wc_Ju_forget : Cond.code ⟨"PegBoards$Jumps", "forget", "()V"⟩ prog_4_method_2_code 1 none ∈ mx_WS := mx_in 235 (by decide +kernel) rfl
theorem kd_Ju_forget : mx_cdb mY_Ju_forget 0 = true := by
  simp only [mx_cdb, Bool.and_eq_true, decide_eq_true_eq]
  exact ⟨⟨⟨⟨⟨wi_Ju, wc_Ju_forget⟩, by decide +kernel⟩, by decide +kernel⟩, by decide +kernel⟩, by decide +kernel⟩
theorem wl_Pe_48 : Cond.methodLink "PegBoards" 48 ⟨"PegBoards$Jumps", "forget", "()V"⟩ ∈ mx_WS := mx_in 232 (by decide +kernel) rfl
theorem wm_Ju_forget : Cond.instanceMethod ⟨"PegBoards$Jumps", "forget", "()V"⟩ ∈ mx_WS := mx_in 233 (by decide +kernel) rfl
theorem wv_Ju_forget : Cond.selects "PegBoards$Jumps" ⟨"PegBoards$Jumps", "forget", "()V"⟩ ⟨"PegBoards$Jumps", "forget", "()V"⟩ ∈ mx_WS := mx_in 234 (by decide +kernel) rfl
theorem kv_Pe_48 : mx_cvb "PegBoards" 48 mY_Ju_forget = true := by
  simp only [mx_cvb, Bool.and_eq_true, decide_eq_true_eq]
  exact ⟨⟨wl_Pe_48, wm_Ju_forget⟩, wv_Ju_forget⟩
theorem wi_Sy : Cond.initialized "PegBoards$Symmetries" ∈ mx_WS := mx_in 45 (by decide +kernel) rfl
theorem wc_Sy_forget : Cond.code ⟨"PegBoards$Symmetries", "forget", "()V"⟩ prog_6_method_2_code 1 none ∈ mx_WS := mx_in 239 (by decide +kernel) rfl
theorem kd_Sy_forget : mx_cdb mY_Sy_forget 0 = true := by
  simp only [mx_cdb, Bool.and_eq_true, decide_eq_true_eq]
  exact ⟨⟨⟨⟨⟨wi_Sy, wc_Sy_forget⟩, by decide +kernel⟩, by decide +kernel⟩, by decide +kernel⟩, by decide +kernel⟩
theorem wl_Pe_51 : Cond.methodLink "PegBoards" 51 ⟨"PegBoards$Symmetries", "forget", "()V"⟩ ∈ mx_WS := mx_in 236 (by decide +kernel) rfl
theorem wm_Sy_forget : Cond.instanceMethod ⟨"PegBoards$Symmetries", "forget", "()V"⟩ ∈ mx_WS := mx_in 237 (by decide +kernel) rfl
theorem wv_Sy_forget : Cond.selects "PegBoards$Symmetries" ⟨"PegBoards$Symmetries", "forget", "()V"⟩ ⟨"PegBoards$Symmetries", "forget", "()V"⟩ ∈ mx_WS := mx_in 238 (by decide +kernel) rfl
theorem kv_Pe_51 : mx_cvb "PegBoards" 51 mY_Sy_forget = true := by
  simp only [mx_cvb, Bool.and_eq_true, decide_eq_true_eq]
  exact ⟨⟨wl_Pe_51, wm_Sy_forget⟩, wv_Sy_forget⟩
theorem wi_We : Cond.initialized "PegBoards$Weights" ∈ mx_WS := mx_in 48 (by decide +kernel) rfl
theorem wc_We_forget : Cond.code ⟨"PegBoards$Weights", "forget", "()V"⟩ prog_7_method_2_code 1 none ∈ mx_WS := mx_in 243 (by decide +kernel) rfl
theorem kd_We_forget : mx_cdb mY_We_forget 0 = true := by
  simp only [mx_cdb, Bool.and_eq_true, decide_eq_true_eq]
  exact ⟨⟨⟨⟨⟨wi_We, wc_We_forget⟩, by decide +kernel⟩, by decide +kernel⟩, by decide +kernel⟩, by decide +kernel⟩
theorem wl_Pe_52 : Cond.methodLink "PegBoards" 52 ⟨"PegBoards$Weights", "forget", "()V"⟩ ∈ mx_WS := mx_in 240 (by decide +kernel) rfl
theorem wm_We_forget : Cond.instanceMethod ⟨"PegBoards$Weights", "forget", "()V"⟩ ∈ mx_WS := mx_in 241 (by decide +kernel) rfl
theorem wv_We_forget : Cond.selects "PegBoards$Weights" ⟨"PegBoards$Weights", "forget", "()V"⟩ ⟨"PegBoards$Weights", "forget", "()V"⟩ ∈ mx_WS := mx_in 242 (by decide +kernel) rfl
theorem kv_Pe_52 : mx_cvb "PegBoards" 52 mY_We_forget = true := by
  simp only [mx_cvb, Bool.and_eq_true, decide_eq_true_eq]
  exact ⟨⟨wl_Pe_52, wm_We_forget⟩, wv_We_forget⟩
theorem wl_We_18 : Cond.methodLink "PegBoards$Weights" 18 ⟨"java/util/Arrays", "fill", "([II)V"⟩ ∈ mx_WS := mx_in 244 (by decide +kernel) rfl
theorem ks_We_18 : mx_csb "PegBoards$Weights" 18 mY_Ar_fill = true := by
  simp only [mx_csb, Bool.and_eq_true, decide_eq_true_eq]
  exact ⟨wl_We_18, wt_Ar_fill⟩
theorem wc_Pe_at : Cond.code ⟨"PegBoards", "at", "(II)I"⟩ prog_1_method_5_code 3 (some .int) ∈ mx_WS := mx_in 248 (by decide +kernel) rfl
theorem kd_Pe_at : mx_cdb mY_Pe_at 2 = true := by
  simp only [mx_cdb, Bool.and_eq_true, decide_eq_true_eq]
  exact ⟨⟨⟨⟨⟨wi_Pe, wc_Pe_at⟩, by decide +kernel⟩, by decide +kernel⟩, by decide +kernel⟩, by decide +kernel⟩
theorem wl_La_91 : Cond.methodLink "PegBoardsLaw" 91 ⟨"PegBoards", "at", "(II)I"⟩ ∈ mx_WS := mx_in 245 (by decide +kernel) rfl
theorem wm_Pe_at : Cond.instanceMethod ⟨"PegBoards", "at", "(II)I"⟩ ∈ mx_WS := mx_in 246 (by decide +kernel) rfl
theorem wv_Pe_at : Cond.selects "PegBoards" ⟨"PegBoards", "at", "(II)I"⟩ ⟨"PegBoards", "at", "(II)I"⟩ ∈ mx_WS := mx_in 247 (by decide +kernel) rfl
theorem kv_La_91 : mx_cvb "PegBoardsLaw" 91 mY_Pe_at = true := by
  simp only [mx_cvb, Bool.and_eq_true, decide_eq_true_eq]
  exact ⟨⟨wl_La_91, wm_Pe_at⟩, wv_Pe_at⟩
theorem wc_Bo_numberAt : Cond.code ⟨"PegBoards$Board", "numberAt", "(II)I"⟩ prog_2_method_11_code 3 (some .int) ∈ mx_WS := mx_in 252 (by decide +kernel) rfl
theorem kd_Bo_numberAt : mx_cdb mY_Bo_numberAt 2 = true := by
  simp only [mx_cdb, Bool.and_eq_true, decide_eq_true_eq]
  exact ⟨⟨⟨⟨⟨wi_Bo, wc_Bo_numberAt⟩, by decide +kernel⟩, by decide +kernel⟩, by decide +kernel⟩, by decide +kernel⟩
theorem wl_Pe_101 : Cond.methodLink "PegBoards" 101 ⟨"PegBoards$Board", "numberAt", "(II)I"⟩ ∈ mx_WS := mx_in 249 (by decide +kernel) rfl
theorem wm_Bo_numberAt : Cond.instanceMethod ⟨"PegBoards$Board", "numberAt", "(II)I"⟩ ∈ mx_WS := mx_in 250 (by decide +kernel) rfl
theorem wv_Bo_numberAt : Cond.selects "PegBoards$Board" ⟨"PegBoards$Board", "numberAt", "(II)I"⟩ ⟨"PegBoards$Board", "numberAt", "(II)I"⟩ ∈ mx_WS := mx_in 251 (by decide +kernel) rfl
theorem kv_Pe_101 : mx_cvb "PegBoards" 101 mY_Bo_numberAt = true := by
  simp only [mx_cvb, Bool.and_eq_true, decide_eq_true_eq]
  exact ⟨⟨wl_Pe_101, wm_Bo_numberAt⟩, wv_Bo_numberAt⟩
theorem wc_Pe_isPlace : Cond.code ⟨"PegBoards", "isPlace", "(II)Z"⟩ prog_1_method_26_code 2 (some .boolean) ∈ mx_WS := mx_in 255 (by decide +kernel) rfl
theorem kd_Pe_isPlace : mx_cdb mY_Pe_isPlace 2 = true := by
  simp only [mx_cdb, Bool.and_eq_true, decide_eq_true_eq]
  exact ⟨⟨⟨⟨⟨wi_Pe, wc_Pe_isPlace⟩, by decide +kernel⟩, by decide +kernel⟩, by decide +kernel⟩, by decide +kernel⟩
theorem wn_Bo_42 : Cond.methodLinkNest "PegBoards$Board" 42 ⟨"PegBoards", "isPlace", "(II)Z"⟩ "PegBoards" ∈ mx_NW := mx_inN 253 (by decide +kernel) rfl
theorem wt_Pe_isPlace : Cond.static ⟨"PegBoards", "isPlace", "(II)Z"⟩ ∈ mx_WS := mx_in 254 (by decide +kernel) rfl
theorem kn_Bo_42 : mx_cnb "PegBoards$Board" 42 mY_Pe_isPlace = true := by
  simp only [mx_cnb, Bool.and_eq_true, decide_eq_true_eq]
  exact ⟨wn_Bo_42, wt_Pe_isPlace⟩
theorem wc_Pe_symmetries : Cond.code ⟨"PegBoards", "symmetries", "()I"⟩ prog_1_method_14_code 1 (some .int) ∈ mx_WS := mx_in 259 (by decide +kernel) rfl
theorem kd_Pe_symmetries : mx_cdb mY_Pe_symmetries 0 = true := by
  simp only [mx_cdb, Bool.and_eq_true, decide_eq_true_eq]
  exact ⟨⟨⟨⟨⟨wi_Pe, wc_Pe_symmetries⟩, by decide +kernel⟩, by decide +kernel⟩, by decide +kernel⟩, by decide +kernel⟩
theorem wl_La_121 : Cond.methodLink "PegBoardsLaw" 121 ⟨"PegBoards", "symmetries", "()I"⟩ ∈ mx_WS := mx_in 256 (by decide +kernel) rfl
theorem wm_Pe_symmetries : Cond.instanceMethod ⟨"PegBoards", "symmetries", "()I"⟩ ∈ mx_WS := mx_in 257 (by decide +kernel) rfl
theorem wv_Pe_symmetries : Cond.selects "PegBoards" ⟨"PegBoards", "symmetries", "()I"⟩ ⟨"PegBoards", "symmetries", "()I"⟩ ∈ mx_WS := mx_in 258 (by decide +kernel) rfl
theorem kv_La_121 : mx_cvb "PegBoardsLaw" 121 mY_Pe_symmetries = true := by
  simp only [mx_cvb, Bool.and_eq_true, decide_eq_true_eq]
  exact ⟨⟨wl_La_121, wm_Pe_symmetries⟩, wv_Pe_symmetries⟩
theorem wc_Sy_size : Cond.code ⟨"PegBoards$Symmetries", "size", "()I"⟩ prog_6_method_8_code 1 (some .int) ∈ mx_WS := mx_in 263 (by decide +kernel) rfl
theorem kd_Sy_size : mx_cdb mY_Sy_size 0 = true := by
  simp only [mx_cdb, Bool.and_eq_true, decide_eq_true_eq]
  exact ⟨⟨⟨⟨⟨wi_Sy, wc_Sy_size⟩, by decide +kernel⟩, by decide +kernel⟩, by decide +kernel⟩, by decide +kernel⟩
theorem wl_Pe_151 : Cond.methodLink "PegBoards" 151 ⟨"PegBoards$Symmetries", "size", "()I"⟩ ∈ mx_WS := mx_in 260 (by decide +kernel) rfl
theorem wm_Sy_size : Cond.instanceMethod ⟨"PegBoards$Symmetries", "size", "()I"⟩ ∈ mx_WS := mx_in 261 (by decide +kernel) rfl
theorem wv_Sy_size : Cond.selects "PegBoards$Symmetries" ⟨"PegBoards$Symmetries", "size", "()I"⟩ ⟨"PegBoards$Symmetries", "size", "()I"⟩ ∈ mx_WS := mx_in 262 (by decide +kernel) rfl
theorem kv_Pe_151 : mx_cvb "PegBoards" 151 mY_Sy_size = true := by
  simp only [mx_cvb, Bool.and_eq_true, decide_eq_true_eq]
  exact ⟨⟨wl_Pe_151, wm_Sy_size⟩, wv_Sy_size⟩
theorem wc_Pe_hole : Cond.code ⟨"PegBoards", "hole", "(II)I"⟩ prog_1_method_3_code 3 (some .int) ∈ mx_WS := mx_in 272 (by decide +kernel) rfl
theorem kd_Pe_hole : mx_cdb mY_Pe_hole 2 = true := by
  simp only [mx_cdb, Bool.and_eq_true, decide_eq_true_eq]
  exact ⟨⟨⟨⟨⟨wi_Pe, wc_Pe_hole⟩, by decide +kernel⟩, by decide +kernel⟩, by decide +kernel⟩, by decide +kernel⟩
theorem wl_La_7 : Cond.methodLink "PegBoardsLaw" 7 ⟨"PegBoards", "hole", "(II)I"⟩ ∈ mx_WS := mx_in 269 (by decide +kernel) rfl
theorem wm_Pe_hole : Cond.instanceMethod ⟨"PegBoards", "hole", "(II)I"⟩ ∈ mx_WS := mx_in 270 (by decide +kernel) rfl
theorem wv_Pe_hole : Cond.selects "PegBoards" ⟨"PegBoards", "hole", "(II)I"⟩ ⟨"PegBoards", "hole", "(II)I"⟩ ∈ mx_WS := mx_in 271 (by decide +kernel) rfl
theorem kv_La_7 : mx_cvb "PegBoardsLaw" 7 mY_Pe_hole = true := by
  simp only [mx_cvb, Bool.and_eq_true, decide_eq_true_eq]
  exact ⟨⟨wl_La_7, wm_Pe_hole⟩, wv_Pe_hole⟩
theorem wl_Pe_60 : Cond.methodLink "PegBoards" 60 ⟨"PegBoards", "isPlace", "(II)Z"⟩ ∈ mx_WS := mx_in 273 (by decide +kernel) rfl
theorem ks_Pe_60 : mx_csb "PegBoards" 60 mY_Pe_isPlace = true := by
  simp only [mx_csb, Bool.and_eq_true, decide_eq_true_eq]
  exact ⟨wl_Pe_60, wt_Pe_isPlace⟩
theorem wc_Bo_canDraw : Cond.code ⟨"PegBoards$Board", "canDraw", "(II)Z"⟩ prog_2_method_3_code 3 (some .boolean) ∈ mx_WS := mx_in 345 (by decide +kernel) rfl
theorem kd_Bo_canDraw : mx_cdb mY_Bo_canDraw 2 = true := by
  simp only [mx_cdb, Bool.and_eq_true, decide_eq_true_eq]
  exact ⟨⟨⟨⟨⟨wi_Bo, wc_Bo_canDraw⟩, by decide +kernel⟩, by decide +kernel⟩, by decide +kernel⟩, by decide +kernel⟩
theorem wl_Pe_71 : Cond.methodLink "PegBoards" 71 ⟨"PegBoards$Board", "canDraw", "(II)Z"⟩ ∈ mx_WS := mx_in 342 (by decide +kernel) rfl
theorem wm_Bo_canDraw : Cond.instanceMethod ⟨"PegBoards$Board", "canDraw", "(II)Z"⟩ ∈ mx_WS := mx_in 343 (by decide +kernel) rfl
theorem wv_Bo_canDraw : Cond.selects "PegBoards$Board" ⟨"PegBoards$Board", "canDraw", "(II)Z"⟩ ⟨"PegBoards$Board", "canDraw", "(II)Z"⟩ ∈ mx_WS := mx_in 344 (by decide +kernel) rfl
theorem kv_Pe_71 : mx_cvb "PegBoards" 71 mY_Bo_canDraw = true := by
  simp only [mx_cvb, Bool.and_eq_true, decide_eq_true_eq]
  exact ⟨⟨wl_Pe_71, wm_Bo_canDraw⟩, wv_Bo_canDraw⟩
theorem wc_Bo_draw : Cond.code ⟨"PegBoards$Board", "draw", "(II)I"⟩ prog_2_method_4_code 3 (some .int) ∈ mx_WS := mx_in 365 (by decide +kernel) rfl
theorem kd_Bo_draw : mx_cdb mY_Bo_draw 2 = true := by
  simp only [mx_cdb, Bool.and_eq_true, decide_eq_true_eq]
  exact ⟨⟨⟨⟨⟨wi_Bo, wc_Bo_draw⟩, by decide +kernel⟩, by decide +kernel⟩, by decide +kernel⟩, by decide +kernel⟩
theorem wl_Pe_79 : Cond.methodLink "PegBoards" 79 ⟨"PegBoards$Board", "draw", "(II)I"⟩ ∈ mx_WS := mx_in 362 (by decide +kernel) rfl
theorem wm_Bo_draw : Cond.instanceMethod ⟨"PegBoards$Board", "draw", "(II)I"⟩ ∈ mx_WS := mx_in 363 (by decide +kernel) rfl
theorem wv_Bo_draw : Cond.selects "PegBoards$Board" ⟨"PegBoards$Board", "draw", "(II)I"⟩ ⟨"PegBoards$Board", "draw", "(II)I"⟩ ∈ mx_WS := mx_in 364 (by decide +kernel) rfl
theorem kv_Pe_79 : mx_cvb "PegBoards" 79 mY_Bo_draw = true := by
  simp only [mx_cvb, Bool.and_eq_true, decide_eq_true_eq]
  exact ⟨⟨wl_Pe_79, wm_Bo_draw⟩, wv_Bo_draw⟩
theorem wc_Pe_freeze : Cond.code ⟨"PegBoards", "freeze", "()I"⟩ prog_1_method_4_code 1 (some .int) ∈ mx_WS := mx_in 372 (by decide +kernel) rfl
theorem kd_Pe_freeze : mx_cdb mY_Pe_freeze 0 = true := by
  simp only [mx_cdb, Bool.and_eq_true, decide_eq_true_eq]
  exact ⟨⟨⟨⟨⟨wi_Pe, wc_Pe_freeze⟩, by decide +kernel⟩, by decide +kernel⟩, by decide +kernel⟩, by decide +kernel⟩
theorem wl_La_17 : Cond.methodLink "PegBoardsLaw" 17 ⟨"PegBoards", "freeze", "()I"⟩ ∈ mx_WS := mx_in 369 (by decide +kernel) rfl
theorem wm_Pe_freeze : Cond.instanceMethod ⟨"PegBoards", "freeze", "()I"⟩ ∈ mx_WS := mx_in 370 (by decide +kernel) rfl
theorem wv_Pe_freeze : Cond.selects "PegBoards" ⟨"PegBoards", "freeze", "()I"⟩ ⟨"PegBoards", "freeze", "()I"⟩ ∈ mx_WS := mx_in 371 (by decide +kernel) rfl
theorem kv_La_17 : mx_cvb "PegBoardsLaw" 17 mY_Pe_freeze = true := by
  simp only [mx_cvb, Bool.and_eq_true, decide_eq_true_eq]
  exact ⟨⟨wl_La_17, wm_Pe_freeze⟩, wv_Pe_freeze⟩
theorem wc_Bo_canBeNumbered : Cond.code ⟨"PegBoards$Board", "canBeNumbered", "()Z"⟩ prog_2_method_5_code 1 (some .boolean) ∈ mx_WS := mx_in 376 (by decide +kernel) rfl
theorem kd_Bo_canBeNumbered : mx_cdb mY_Bo_canBeNumbered 0 = true := by
  simp only [mx_cdb, Bool.and_eq_true, decide_eq_true_eq]
  exact ⟨⟨⟨⟨⟨wi_Bo, wc_Bo_canBeNumbered⟩, by decide +kernel⟩, by decide +kernel⟩, by decide +kernel⟩, by decide +kernel⟩
theorem wl_Pe_83 : Cond.methodLink "PegBoards" 83 ⟨"PegBoards$Board", "canBeNumbered", "()Z"⟩ ∈ mx_WS := mx_in 373 (by decide +kernel) rfl
theorem wm_Bo_canBeNumbered : Cond.instanceMethod ⟨"PegBoards$Board", "canBeNumbered", "()Z"⟩ ∈ mx_WS := mx_in 374 (by decide +kernel) rfl
theorem wv_Bo_canBeNumbered : Cond.selects "PegBoards$Board" ⟨"PegBoards$Board", "canBeNumbered", "()Z"⟩ ⟨"PegBoards$Board", "canBeNumbered", "()Z"⟩ ∈ mx_WS := mx_in 375 (by decide +kernel) rfl
theorem kv_Pe_83 : mx_cvb "PegBoards" 83 mY_Bo_canBeNumbered = true := by
  simp only [mx_cvb, Bool.and_eq_true, decide_eq_true_eq]
  exact ⟨⟨wl_Pe_83, wm_Bo_canBeNumbered⟩, wv_Bo_canBeNumbered⟩
theorem wc_Bo_numberHoles : Cond.code ⟨"PegBoards$Board", "numberHoles", "()V"⟩ prog_2_method_6_code 3 none ∈ mx_WS := mx_in 381 (by decide +kernel) rfl
theorem kd_Bo_numberHoles : mx_cdb mY_Bo_numberHoles 0 = true := by
  simp only [mx_cdb, Bool.and_eq_true, decide_eq_true_eq]
  exact ⟨⟨⟨⟨⟨wi_Bo, wc_Bo_numberHoles⟩, by decide +kernel⟩, by decide +kernel⟩, by decide +kernel⟩, by decide +kernel⟩
theorem wl_Pe_89 : Cond.methodLink "PegBoards" 89 ⟨"PegBoards$Board", "numberHoles", "()V"⟩ ∈ mx_WS := mx_in 378 (by decide +kernel) rfl
theorem wm_Bo_numberHoles : Cond.instanceMethod ⟨"PegBoards$Board", "numberHoles", "()V"⟩ ∈ mx_WS := mx_in 379 (by decide +kernel) rfl
theorem wv_Bo_numberHoles : Cond.selects "PegBoards$Board" ⟨"PegBoards$Board", "numberHoles", "()V"⟩ ⟨"PegBoards$Board", "numberHoles", "()V"⟩ ∈ mx_WS := mx_in 380 (by decide +kernel) rfl
theorem kv_Pe_89 : mx_cvb "PegBoards" 89 mY_Bo_numberHoles = true := by
  simp only [mx_cvb, Bool.and_eq_true, decide_eq_true_eq]
  exact ⟨⟨wl_Pe_89, wm_Bo_numberHoles⟩, wv_Bo_numberHoles⟩
theorem wc_Ju_list : Cond.code ⟨"PegBoards$Jumps", "list", "(LPegBoards$Board;)V"⟩ prog_4_method_3_code 6 none ∈ mx_WS := mx_in 385 (by decide +kernel) rfl
theorem kd_Ju_list : mx_cdb mY_Ju_list 1 = true := by
  simp only [mx_cdb, Bool.and_eq_true, decide_eq_true_eq]
  exact ⟨⟨⟨⟨⟨wi_Ju, wc_Ju_list⟩, by decide +kernel⟩, by decide +kernel⟩, by decide +kernel⟩, by decide +kernel⟩
theorem wl_Pe_92 : Cond.methodLink "PegBoards" 92 ⟨"PegBoards$Jumps", "list", "(LPegBoards$Board;)V"⟩ ∈ mx_WS := mx_in 382 (by decide +kernel) rfl
theorem wm_Ju_list : Cond.instanceMethod ⟨"PegBoards$Jumps", "list", "(LPegBoards$Board;)V"⟩ ∈ mx_WS := mx_in 383 (by decide +kernel) rfl
theorem wv_Ju_list : Cond.selects "PegBoards$Jumps" ⟨"PegBoards$Jumps", "list", "(LPegBoards$Board;)V"⟩ ⟨"PegBoards$Jumps", "list", "(LPegBoards$Board;)V"⟩ ∈ mx_WS := mx_in 384 (by decide +kernel) rfl
theorem kv_Pe_92 : mx_cvb "PegBoards" 92 mY_Ju_list = true := by
  simp only [mx_cvb, Bool.and_eq_true, decide_eq_true_eq]
  exact ⟨⟨wl_Pe_92, wm_Ju_list⟩, wv_Ju_list⟩
theorem wc_Bo_isTriangular : Cond.code ⟨"PegBoards$Board", "isTriangular", "()Z"⟩ prog_2_method_7_code 1 (some .boolean) ∈ mx_WS := mx_in 389 (by decide +kernel) rfl
theorem kd_Bo_isTriangular : mx_cdb mY_Bo_isTriangular 0 = true := by
  simp only [mx_cdb, Bool.and_eq_true, decide_eq_true_eq]
  exact ⟨⟨⟨⟨⟨wi_Bo, wc_Bo_isTriangular⟩, by decide +kernel⟩, by decide +kernel⟩, by decide +kernel⟩, by decide +kernel⟩
theorem wl_Ju_31 : Cond.methodLink "PegBoards$Jumps" 31 ⟨"PegBoards$Board", "isTriangular", "()Z"⟩ ∈ mx_WS := mx_in 386 (by decide +kernel) rfl
theorem wm_Bo_isTriangular : Cond.instanceMethod ⟨"PegBoards$Board", "isTriangular", "()Z"⟩ ∈ mx_WS := mx_in 387 (by decide +kernel) rfl
theorem wv_Bo_isTriangular : Cond.selects "PegBoards$Board" ⟨"PegBoards$Board", "isTriangular", "()Z"⟩ ⟨"PegBoards$Board", "isTriangular", "()Z"⟩ ∈ mx_WS := mx_in 388 (by decide +kernel) rfl
theorem kv_Ju_31 : mx_cvb "PegBoards$Jumps" 31 mY_Bo_isTriangular = true := by
  simp only [mx_cvb, Bool.and_eq_true, decide_eq_true_eq]
  exact ⟨⟨wl_Ju_31, wm_Bo_isTriangular⟩, wv_Bo_isTriangular⟩
theorem wc_Bo_holes : Cond.code ⟨"PegBoards$Board", "holes", "()I"⟩ prog_2_method_9_code 1 (some .int) ∈ mx_WS := mx_in 401 (by decide +kernel) rfl
theorem kd_Bo_holes : mx_cdb mY_Bo_holes 0 = true := by
  simp only [mx_cdb, Bool.and_eq_true, decide_eq_true_eq]
  exact ⟨⟨⟨⟨⟨wi_Bo, wc_Bo_holes⟩, by decide +kernel⟩, by decide +kernel⟩, by decide +kernel⟩, by decide +kernel⟩
theorem wl_Ju_49 : Cond.methodLink "PegBoards$Jumps" 49 ⟨"PegBoards$Board", "holes", "()I"⟩ ∈ mx_WS := mx_in 398 (by decide +kernel) rfl
theorem wm_Bo_holes : Cond.instanceMethod ⟨"PegBoards$Board", "holes", "()I"⟩ ∈ mx_WS := mx_in 399 (by decide +kernel) rfl
theorem wv_Bo_holes : Cond.selects "PegBoards$Board" ⟨"PegBoards$Board", "holes", "()I"⟩ ⟨"PegBoards$Board", "holes", "()I"⟩ ∈ mx_WS := mx_in 400 (by decide +kernel) rfl
theorem kv_Ju_49 : mx_cvb "PegBoards$Jumps" 49 mY_Bo_holes = true := by
  simp only [mx_cvb, Bool.and_eq_true, decide_eq_true_eq]
  exact ⟨⟨wl_Ju_49, wm_Bo_holes⟩, wv_Bo_holes⟩
theorem wc_Ju_listOne : Cond.code ⟨"PegBoards$Jumps", "listOne", "(LPegBoards$Board;III)V"⟩ prog_4_method_4_code 9 none ∈ mx_WS := mx_in 405 (by decide +kernel) rfl
theorem kd_Ju_listOne : mx_cdb mY_Ju_listOne 4 = true := by
  simp only [mx_cdb, Bool.and_eq_true, decide_eq_true_eq]
  exact ⟨⟨⟨⟨⟨wi_Ju, wc_Ju_listOne⟩, by decide +kernel⟩, by decide +kernel⟩, by decide +kernel⟩, by decide +kernel⟩
theorem wl_Ju_53 : Cond.methodLink "PegBoards$Jumps" 53 ⟨"PegBoards$Jumps", "listOne", "(LPegBoards$Board;III)V"⟩ ∈ mx_WS := mx_in 402 (by decide +kernel) rfl
theorem wm_Ju_listOne : Cond.instanceMethod ⟨"PegBoards$Jumps", "listOne", "(LPegBoards$Board;III)V"⟩ ∈ mx_WS := mx_in 404 (by decide +kernel) rfl
theorem wv_Ju_listOne : Cond.selects "PegBoards$Jumps" ⟨"PegBoards$Jumps", "listOne", "(LPegBoards$Board;III)V"⟩ ⟨"PegBoards$Jumps", "listOne", "(LPegBoards$Board;III)V"⟩ ∈ mx_WS := mx_in 1 (by decide +kernel) rfl
theorem kv_Ju_53 : mx_cvb "PegBoards$Jumps" 53 mY_Ju_listOne = true := by
  simp only [mx_cvb, Bool.and_eq_true, decide_eq_true_eq]
  exact ⟨⟨wl_Ju_53, wm_Ju_listOne⟩, wv_Ju_listOne⟩
theorem wc_Bo_rowOf : Cond.code ⟨"PegBoards$Board", "rowOf", "(I)I"⟩ prog_2_method_12_code 2 (some .int) ∈ mx_WS := mx_in 409 (by decide +kernel) rfl
theorem kd_Bo_rowOf : mx_cdb mY_Bo_rowOf 1 = true := by
  simp only [mx_cdb, Bool.and_eq_true, decide_eq_true_eq]
  exact ⟨⟨⟨⟨⟨wi_Bo, wc_Bo_rowOf⟩, by decide +kernel⟩, by decide +kernel⟩, by decide +kernel⟩, by decide +kernel⟩
theorem wl_Ju_57 : Cond.methodLink "PegBoards$Jumps" 57 ⟨"PegBoards$Board", "rowOf", "(I)I"⟩ ∈ mx_WS := mx_in 406 (by decide +kernel) rfl
theorem wm_Bo_rowOf : Cond.instanceMethod ⟨"PegBoards$Board", "rowOf", "(I)I"⟩ ∈ mx_WS := mx_in 407 (by decide +kernel) rfl
theorem wv_Bo_rowOf : Cond.selects "PegBoards$Board" ⟨"PegBoards$Board", "rowOf", "(I)I"⟩ ⟨"PegBoards$Board", "rowOf", "(I)I"⟩ ∈ mx_WS := mx_in 408 (by decide +kernel) rfl
theorem kv_Ju_57 : mx_cvb "PegBoards$Jumps" 57 mY_Bo_rowOf = true := by
  simp only [mx_cvb, Bool.and_eq_true, decide_eq_true_eq]
  exact ⟨⟨wl_Ju_57, wm_Bo_rowOf⟩, wv_Bo_rowOf⟩
theorem wc_Bo_columnOf : Cond.code ⟨"PegBoards$Board", "columnOf", "(I)I"⟩ prog_2_method_13_code 2 (some .int) ∈ mx_WS := mx_in 413 (by decide +kernel) rfl
theorem kd_Bo_columnOf : mx_cdb mY_Bo_columnOf 1 = true := by
  simp only [mx_cdb, Bool.and_eq_true, decide_eq_true_eq]
  exact ⟨⟨⟨⟨⟨wi_Bo, wc_Bo_columnOf⟩, by decide +kernel⟩, by decide +kernel⟩, by decide +kernel⟩, by decide +kernel⟩
theorem wl_Ju_61 : Cond.methodLink "PegBoards$Jumps" 61 ⟨"PegBoards$Board", "columnOf", "(I)I"⟩ ∈ mx_WS := mx_in 410 (by decide +kernel) rfl
theorem wm_Bo_columnOf : Cond.instanceMethod ⟨"PegBoards$Board", "columnOf", "(I)I"⟩ ∈ mx_WS := mx_in 411 (by decide +kernel) rfl
theorem wv_Bo_columnOf : Cond.selects "PegBoards$Board" ⟨"PegBoards$Board", "columnOf", "(I)I"⟩ ⟨"PegBoards$Board", "columnOf", "(I)I"⟩ ∈ mx_WS := mx_in 412 (by decide +kernel) rfl
theorem kv_Ju_61 : mx_cvb "PegBoards$Jumps" 61 mY_Bo_columnOf = true := by
  simp only [mx_cvb, Bool.and_eq_true, decide_eq_true_eq]
  exact ⟨⟨wl_Ju_61, wm_Bo_columnOf⟩, wv_Bo_columnOf⟩
theorem wl_Ju_64 : Cond.methodLink "PegBoards$Jumps" 64 ⟨"PegBoards$Board", "numberAt", "(II)I"⟩ ∈ mx_WS := mx_in 414 (by decide +kernel) rfl
theorem kv_Ju_64 : mx_cvb "PegBoards$Jumps" 64 mY_Bo_numberAt = true := by
  simp only [mx_cvb, Bool.and_eq_true, decide_eq_true_eq]
  exact ⟨⟨wl_Ju_64, wm_Bo_numberAt⟩, wv_Bo_numberAt⟩
theorem wc_Sy_list : Cond.code ⟨"PegBoards$Symmetries", "list", "(LPegBoards$Board;)V"⟩ prog_6_method_3_code 5 none ∈ mx_WS := mx_in 418 (by decide +kernel) rfl
theorem kd_Sy_list : mx_cdb mY_Sy_list 1 = true := by
  simp only [mx_cdb, Bool.and_eq_true, decide_eq_true_eq]
  exact ⟨⟨⟨⟨⟨wi_Sy, wc_Sy_list⟩, by decide +kernel⟩, by decide +kernel⟩, by decide +kernel⟩, by decide +kernel⟩
theorem wl_Pe_96 : Cond.methodLink "PegBoards" 96 ⟨"PegBoards$Symmetries", "list", "(LPegBoards$Board;)V"⟩ ∈ mx_WS := mx_in 415 (by decide +kernel) rfl
theorem wm_Sy_list : Cond.instanceMethod ⟨"PegBoards$Symmetries", "list", "(LPegBoards$Board;)V"⟩ ∈ mx_WS := mx_in 416 (by decide +kernel) rfl
theorem wv_Sy_list : Cond.selects "PegBoards$Symmetries" ⟨"PegBoards$Symmetries", "list", "(LPegBoards$Board;)V"⟩ ⟨"PegBoards$Symmetries", "list", "(LPegBoards$Board;)V"⟩ ∈ mx_WS := mx_in 417 (by decide +kernel) rfl
theorem kv_Pe_96 : mx_cvb "PegBoards" 96 mY_Sy_list = true := by
  simp only [mx_cvb, Bool.and_eq_true, decide_eq_true_eq]
  exact ⟨⟨wl_Pe_96, wm_Sy_list⟩, wv_Sy_list⟩
theorem wl_Sy_27 : Cond.methodLink "PegBoards$Symmetries" 27 ⟨"PegBoards$Board", "isTriangular", "()Z"⟩ ∈ mx_WS := mx_in 419 (by decide +kernel) rfl
theorem kv_Sy_27 : mx_cvb "PegBoards$Symmetries" 27 mY_Bo_isTriangular = true := by
  simp only [mx_cvb, Bool.and_eq_true, decide_eq_true_eq]
  exact ⟨⟨wl_Sy_27, wm_Bo_isTriangular⟩, wv_Bo_isTriangular⟩
theorem wl_Sy_33 : Cond.methodLink "PegBoards$Symmetries" 33 ⟨"PegBoards$Board", "holes", "()I"⟩ ∈ mx_WS := mx_in 420 (by decide +kernel) rfl
theorem kv_Sy_33 : mx_cvb "PegBoards$Symmetries" 33 mY_Bo_holes = true := by
  simp only [mx_cvb, Bool.and_eq_true, decide_eq_true_eq]
  exact ⟨⟨wl_Sy_33, wm_Bo_holes⟩, wv_Bo_holes⟩
theorem wc_Sy_turn : Cond.code ⟨"PegBoards$Symmetries", "turn", "(LPegBoards$Board;II)V"⟩ prog_6_method_4_code 8 none ∈ mx_WS := mx_in 424 (by decide +kernel) rfl
theorem kd_Sy_turn : mx_cdb mY_Sy_turn 3 = true := by
  simp only [mx_cdb, Bool.and_eq_true, decide_eq_true_eq]
  exact ⟨⟨⟨⟨⟨wi_Sy, wc_Sy_turn⟩, by decide +kernel⟩, by decide +kernel⟩, by decide +kernel⟩, by decide +kernel⟩
theorem wl_Sy_39 : Cond.methodLink "PegBoards$Symmetries" 39 ⟨"PegBoards$Symmetries", "turn", "(LPegBoards$Board;II)V"⟩ ∈ mx_WS := mx_in 421 (by decide +kernel) rfl
theorem wm_Sy_turn : Cond.instanceMethod ⟨"PegBoards$Symmetries", "turn", "(LPegBoards$Board;II)V"⟩ ∈ mx_WS := mx_in 423 (by decide +kernel) rfl
theorem wv_Sy_turn : Cond.selects "PegBoards$Symmetries" ⟨"PegBoards$Symmetries", "turn", "(LPegBoards$Board;II)V"⟩ ⟨"PegBoards$Symmetries", "turn", "(LPegBoards$Board;II)V"⟩ ∈ mx_WS := mx_in 2 (by decide +kernel) rfl
theorem kv_Sy_39 : mx_cvb "PegBoards$Symmetries" 39 mY_Sy_turn = true := by
  simp only [mx_cvb, Bool.and_eq_true, decide_eq_true_eq]
  exact ⟨⟨wl_Sy_39, wm_Sy_turn⟩, wv_Sy_turn⟩
theorem wl_Sy_65 : Cond.methodLink "PegBoards$Symmetries" 65 ⟨"PegBoards$Board", "rowOf", "(I)I"⟩ ∈ mx_WS := mx_in 425 (by decide +kernel) rfl
theorem kv_Sy_65 : mx_cvb "PegBoards$Symmetries" 65 mY_Bo_rowOf = true := by
  simp only [mx_cvb, Bool.and_eq_true, decide_eq_true_eq]
  exact ⟨⟨wl_Sy_65, wm_Bo_rowOf⟩, wv_Bo_rowOf⟩
theorem wl_Sy_69 : Cond.methodLink "PegBoards$Symmetries" 69 ⟨"PegBoards$Board", "columnOf", "(I)I"⟩ ∈ mx_WS := mx_in 426 (by decide +kernel) rfl
theorem kv_Sy_69 : mx_cvb "PegBoards$Symmetries" 69 mY_Bo_columnOf = true := by
  simp only [mx_cvb, Bool.and_eq_true, decide_eq_true_eq]
  exact ⟨⟨wl_Sy_69, wm_Bo_columnOf⟩, wv_Bo_columnOf⟩
theorem wc_Sy_mirror : Cond.code ⟨"PegBoards$Symmetries", "mirror", "(I)V"⟩ prog_6_method_5_code 3 none ∈ mx_WS := mx_in 430 (by decide +kernel) rfl
theorem kd_Sy_mirror : mx_cdb mY_Sy_mirror 1 = true := by
  simp only [mx_cdb, Bool.and_eq_true, decide_eq_true_eq]
  exact ⟨⟨⟨⟨⟨wi_Sy, wc_Sy_mirror⟩, by decide +kernel⟩, by decide +kernel⟩, by decide +kernel⟩, by decide +kernel⟩
theorem wl_Sy_43 : Cond.methodLink "PegBoards$Symmetries" 43 ⟨"PegBoards$Symmetries", "mirror", "(I)V"⟩ ∈ mx_WS := mx_in 427 (by decide +kernel) rfl
theorem wm_Sy_mirror : Cond.instanceMethod ⟨"PegBoards$Symmetries", "mirror", "(I)V"⟩ ∈ mx_WS := mx_in 429 (by decide +kernel) rfl
theorem wv_Sy_mirror : Cond.selects "PegBoards$Symmetries" ⟨"PegBoards$Symmetries", "mirror", "(I)V"⟩ ⟨"PegBoards$Symmetries", "mirror", "(I)V"⟩ ∈ mx_WS := mx_in 3 (by decide +kernel) rfl
theorem kv_Sy_43 : mx_cvb "PegBoards$Symmetries" 43 mY_Sy_mirror = true := by
  simp only [mx_cvb, Bool.and_eq_true, decide_eq_true_eq]
  exact ⟨⟨wl_Sy_43, wm_Sy_mirror⟩, wv_Sy_mirror⟩
theorem wc_Bo_leastRow : Cond.code ⟨"PegBoards$Board", "leastRow", "()I"⟩ prog_2_method_14_code 1 (some .int) ∈ mx_WS := mx_in 434 (by decide +kernel) rfl
theorem kd_Bo_leastRow : mx_cdb mY_Bo_leastRow 0 = true := by
  simp only [mx_cdb, Bool.and_eq_true, decide_eq_true_eq]
  exact ⟨⟨⟨⟨⟨wi_Bo, wc_Bo_leastRow⟩, by decide +kernel⟩, by decide +kernel⟩, by decide +kernel⟩, by decide +kernel⟩
theorem wl_Sy_47 : Cond.methodLink "PegBoards$Symmetries" 47 ⟨"PegBoards$Board", "leastRow", "()I"⟩ ∈ mx_WS := mx_in 431 (by decide +kernel) rfl
theorem wm_Bo_leastRow : Cond.instanceMethod ⟨"PegBoards$Board", "leastRow", "()I"⟩ ∈ mx_WS := mx_in 432 (by decide +kernel) rfl
theorem wv_Bo_leastRow : Cond.selects "PegBoards$Board" ⟨"PegBoards$Board", "leastRow", "()I"⟩ ⟨"PegBoards$Board", "leastRow", "()I"⟩ ∈ mx_WS := mx_in 433 (by decide +kernel) rfl
theorem kv_Sy_47 : mx_cvb "PegBoards$Symmetries" 47 mY_Bo_leastRow = true := by
  simp only [mx_cvb, Bool.and_eq_true, decide_eq_true_eq]
  exact ⟨⟨wl_Sy_47, wm_Bo_leastRow⟩, wv_Bo_leastRow⟩
theorem wl_Bo_38 : Cond.methodLink "PegBoards$Board" 38 ⟨"PegBoards$Board", "holes", "()I"⟩ ∈ mx_WS := mx_in 435 (by decide +kernel) rfl
theorem kv_Bo_38 : mx_cvb "PegBoards$Board" 38 mY_Bo_holes = true := by
  simp only [mx_cvb, Bool.and_eq_true, decide_eq_true_eq]
  exact ⟨⟨wl_Bo_38, wm_Bo_holes⟩, wv_Bo_holes⟩
theorem wc_Pe_leastIn : Cond.code ⟨"PegBoards", "leastIn", "([II)I"⟩ prog_1_method_28_code 4 (some .int) ∈ mx_WS := mx_in 438 (by decide +kernel) rfl
theorem kd_Pe_leastIn : mx_cdb mY_Pe_leastIn 2 = true := by
  simp only [mx_cdb, Bool.and_eq_true, decide_eq_true_eq]
  exact ⟨⟨⟨⟨⟨wi_Pe, wc_Pe_leastIn⟩, by decide +kernel⟩, by decide +kernel⟩, by decide +kernel⟩, by decide +kernel⟩
theorem wn_Bo_46 : Cond.methodLinkNest "PegBoards$Board" 46 ⟨"PegBoards", "leastIn", "([II)I"⟩ "PegBoards" ∈ mx_NW := mx_inN 436 (by decide +kernel) rfl
theorem wt_Pe_leastIn : Cond.static ⟨"PegBoards", "leastIn", "([II)I"⟩ ∈ mx_WS := mx_in 437 (by decide +kernel) rfl
theorem kn_Bo_46 : mx_cnb "PegBoards$Board" 46 mY_Pe_leastIn = true := by
  simp only [mx_cnb, Bool.and_eq_true, decide_eq_true_eq]
  exact ⟨wn_Bo_46, wt_Pe_leastIn⟩
theorem wi_Ma : Cond.initialized "java/lang/Math" ∈ mx_WS := mx_in 55 (by decide +kernel) rfl
theorem wc_Ma_min : Cond.code ⟨"java/lang/Math", "min", "(II)I"⟩ prog_15_method_69_code 2 (some .int) ∈ mx_WS := mx_in 441 (by decide +kernel) rfl
theorem kd_Ma_min : mx_cdb mY_Ma_min 2 = true := by
  simp only [mx_cdb, Bool.and_eq_true, decide_eq_true_eq]
  exact ⟨⟨⟨⟨⟨wi_Ma, wc_Ma_min⟩, by decide +kernel⟩, by decide +kernel⟩, by decide +kernel⟩, by decide +kernel⟩
theorem wl_Pe_219 : Cond.methodLink "PegBoards" 219 ⟨"java/lang/Math", "min", "(II)I"⟩ ∈ mx_WS := mx_in 439 (by decide +kernel) rfl
theorem wt_Ma_min : Cond.static ⟨"java/lang/Math", "min", "(II)I"⟩ ∈ mx_WS := mx_in 440 (by decide +kernel) rfl
theorem ks_Pe_219 : mx_csb "PegBoards" 219 mY_Ma_min = true := by
  simp only [mx_csb, Bool.and_eq_true, decide_eq_true_eq]
  exact ⟨wl_Pe_219, wt_Ma_min⟩
theorem wn_Sy_50 : Cond.methodLinkNest "PegBoards$Symmetries" 50 ⟨"PegBoards", "leastIn", "([II)I"⟩ "PegBoards" ∈ mx_NW := mx_inN 442 (by decide +kernel) rfl
theorem kn_Sy_50 : mx_cnb "PegBoards$Symmetries" 50 mY_Pe_leastIn = true := by
  simp only [mx_cnb, Bool.and_eq_true, decide_eq_true_eq]
  exact ⟨wn_Sy_50, wt_Pe_leastIn⟩
theorem wc_Sy_moveBy : Cond.code ⟨"PegBoards$Symmetries", "moveBy", "(I[I)V"⟩ prog_6_method_6_code 4 none ∈ mx_WS := mx_in 446 (by decide +kernel) rfl
theorem kd_Sy_moveBy : mx_cdb mY_Sy_moveBy 2 = true := by
  simp only [mx_cdb, Bool.and_eq_true, decide_eq_true_eq]
  exact ⟨⟨⟨⟨⟨wi_Sy, wc_Sy_moveBy⟩, by decide +kernel⟩, by decide +kernel⟩, by decide +kernel⟩, by decide +kernel⟩
theorem wl_Sy_54 : Cond.methodLink "PegBoards$Symmetries" 54 ⟨"PegBoards$Symmetries", "moveBy", "(I[I)V"⟩ ∈ mx_WS := mx_in 443 (by decide +kernel) rfl
theorem wm_Sy_moveBy : Cond.instanceMethod ⟨"PegBoards$Symmetries", "moveBy", "(I[I)V"⟩ ∈ mx_WS := mx_in 445 (by decide +kernel) rfl
theorem wv_Sy_moveBy : Cond.selects "PegBoards$Symmetries" ⟨"PegBoards$Symmetries", "moveBy", "(I[I)V"⟩ ⟨"PegBoards$Symmetries", "moveBy", "(I[I)V"⟩ ∈ mx_WS := mx_in 4 (by decide +kernel) rfl
theorem kv_Sy_54 : mx_cvb "PegBoards$Symmetries" 54 mY_Sy_moveBy = true := by
  simp only [mx_cvb, Bool.and_eq_true, decide_eq_true_eq]
  exact ⟨⟨wl_Sy_54, wm_Sy_moveBy⟩, wv_Sy_moveBy⟩
theorem wc_Bo_leastColumn : Cond.code ⟨"PegBoards$Board", "leastColumn", "()I"⟩ prog_2_method_15_code 1 (some .int) ∈ mx_WS := mx_in 450 (by decide +kernel) rfl
theorem kd_Bo_leastColumn : mx_cdb mY_Bo_leastColumn 0 = true := by
  simp only [mx_cdb, Bool.and_eq_true, decide_eq_true_eq]
  exact ⟨⟨⟨⟨⟨wi_Bo, wc_Bo_leastColumn⟩, by decide +kernel⟩, by decide +kernel⟩, by decide +kernel⟩, by decide +kernel⟩
theorem wl_Sy_58 : Cond.methodLink "PegBoards$Symmetries" 58 ⟨"PegBoards$Board", "leastColumn", "()I"⟩ ∈ mx_WS := mx_in 447 (by decide +kernel) rfl
theorem wm_Bo_leastColumn : Cond.instanceMethod ⟨"PegBoards$Board", "leastColumn", "()I"⟩ ∈ mx_WS := mx_in 448 (by decide +kernel) rfl
theorem wv_Bo_leastColumn : Cond.selects "PegBoards$Board" ⟨"PegBoards$Board", "leastColumn", "()I"⟩ ⟨"PegBoards$Board", "leastColumn", "()I"⟩ ∈ mx_WS := mx_in 449 (by decide +kernel) rfl
theorem kv_Sy_58 : mx_cvb "PegBoards$Symmetries" 58 mY_Bo_leastColumn = true := by
  simp only [mx_cvb, Bool.and_eq_true, decide_eq_true_eq]
  exact ⟨⟨wl_Sy_58, wm_Bo_leastColumn⟩, wv_Bo_leastColumn⟩
theorem wc_Sy_addIfSameHoles : Cond.code ⟨"PegBoards$Symmetries", "addIfSameHoles", "(LPegBoards$Board;)V"⟩ prog_6_method_7_code 4 none ∈ mx_WS := mx_in 454 (by decide +kernel) rfl
theorem kd_Sy_addIfSameHoles : mx_cdb mY_Sy_addIfSameHoles 1 = true := by
  simp only [mx_cdb, Bool.and_eq_true, decide_eq_true_eq]
  exact ⟨⟨⟨⟨⟨wi_Sy, wc_Sy_addIfSameHoles⟩, by decide +kernel⟩, by decide +kernel⟩, by decide +kernel⟩, by decide +kernel⟩
theorem wl_Sy_61 : Cond.methodLink "PegBoards$Symmetries" 61 ⟨"PegBoards$Symmetries", "addIfSameHoles", "(LPegBoards$Board;)V"⟩ ∈ mx_WS := mx_in 451 (by decide +kernel) rfl
theorem wm_Sy_addIfSameHoles : Cond.instanceMethod ⟨"PegBoards$Symmetries", "addIfSameHoles", "(LPegBoards$Board;)V"⟩ ∈ mx_WS := mx_in 453 (by decide +kernel) rfl
theorem wv_Sy_addIfSameHoles : Cond.selects "PegBoards$Symmetries" ⟨"PegBoards$Symmetries", "addIfSameHoles", "(LPegBoards$Board;)V"⟩ ⟨"PegBoards$Symmetries", "addIfSameHoles", "(LPegBoards$Board;)V"⟩ ∈ mx_WS := mx_in 5 (by decide +kernel) rfl
theorem kv_Sy_61 : mx_cvb "PegBoards$Symmetries" 61 mY_Sy_addIfSameHoles = true := by
  simp only [mx_cvb, Bool.and_eq_true, decide_eq_true_eq]
  exact ⟨⟨wl_Sy_61, wm_Sy_addIfSameHoles⟩, wv_Sy_addIfSameHoles⟩
theorem wl_Sy_72 : Cond.methodLink "PegBoards$Symmetries" 72 ⟨"PegBoards$Board", "numberAt", "(II)I"⟩ ∈ mx_WS := mx_in 455 (by decide +kernel) rfl
theorem kv_Sy_72 : mx_cvb "PegBoards$Symmetries" 72 mY_Bo_numberAt = true := by
  simp only [mx_cvb, Bool.and_eq_true, decide_eq_true_eq]
  exact ⟨⟨wl_Sy_72, wm_Bo_numberAt⟩, wv_Bo_numberAt⟩
theorem wc_Ju_size : Cond.code ⟨"PegBoards$Jumps", "size", "()I"⟩ prog_4_method_5_code 1 (some .int) ∈ mx_WS := mx_in 459 (by decide +kernel) rfl
theorem kd_Ju_size : mx_cdb mY_Ju_size 0 = true := by
  simp only [mx_cdb, Bool.and_eq_true, decide_eq_true_eq]
  exact ⟨⟨⟨⟨⟨wi_Ju, wc_Ju_size⟩, by decide +kernel⟩, by decide +kernel⟩, by decide +kernel⟩, by decide +kernel⟩
theorem wl_Pe_97 : Cond.methodLink "PegBoards" 97 ⟨"PegBoards$Jumps", "size", "()I"⟩ ∈ mx_WS := mx_in 456 (by decide +kernel) rfl
theorem wm_Ju_size : Cond.instanceMethod ⟨"PegBoards$Jumps", "size", "()I"⟩ ∈ mx_WS := mx_in 457 (by decide +kernel) rfl
theorem wv_Ju_size : Cond.selects "PegBoards$Jumps" ⟨"PegBoards$Jumps", "size", "()I"⟩ ⟨"PegBoards$Jumps", "size", "()I"⟩ ∈ mx_WS := mx_in 458 (by decide +kernel) rfl
theorem kv_Pe_97 : mx_cvb "PegBoards" 97 mY_Ju_size = true := by
  simp only [mx_cvb, Bool.and_eq_true, decide_eq_true_eq]
  exact ⟨⟨wl_Pe_97, wm_Ju_size⟩, wv_Ju_size⟩
theorem wc_Pe_jump : Cond.code ⟨"PegBoards", "jump", "(II)I"⟩ prog_1_method_6_code 3 (some .int) ∈ mx_WS := mx_in 467 (by decide +kernel) rfl
theorem kd_Pe_jump : mx_cdb mY_Pe_jump 2 = true := by
  simp only [mx_cdb, Bool.and_eq_true, decide_eq_true_eq]
  exact ⟨⟨⟨⟨⟨wi_Pe, wc_Pe_jump⟩, by decide +kernel⟩, by decide +kernel⟩, by decide +kernel⟩, by decide +kernel⟩
theorem wl_La_21 : Cond.methodLink "PegBoardsLaw" 21 ⟨"PegBoards", "jump", "(II)I"⟩ ∈ mx_WS := mx_in 464 (by decide +kernel) rfl
theorem wm_Pe_jump : Cond.instanceMethod ⟨"PegBoards", "jump", "(II)I"⟩ ∈ mx_WS := mx_in 465 (by decide +kernel) rfl
theorem wv_Pe_jump : Cond.selects "PegBoards" ⟨"PegBoards", "jump", "(II)I"⟩ ⟨"PegBoards", "jump", "(II)I"⟩ ∈ mx_WS := mx_in 466 (by decide +kernel) rfl
theorem kv_La_21 : mx_cvb "PegBoardsLaw" 21 mY_Pe_jump = true := by
  simp only [mx_cvb, Bool.and_eq_true, decide_eq_true_eq]
  exact ⟨⟨wl_La_21, wm_Pe_jump⟩, wv_Pe_jump⟩
theorem wc_Pe_requireJump : Cond.code ⟨"PegBoards", "requireJump", "(I)V"⟩ prog_1_method_24_code 2 none ∈ mx_WS := mx_in 471 (by decide +kernel) rfl
theorem kd_Pe_requireJump : mx_cdb mY_Pe_requireJump 1 = true := by
  simp only [mx_cdb, Bool.and_eq_true, decide_eq_true_eq]
  exact ⟨⟨⟨⟨⟨wi_Pe, wc_Pe_requireJump⟩, by decide +kernel⟩, by decide +kernel⟩, by decide +kernel⟩, by decide +kernel⟩
theorem wl_Pe_104 : Cond.methodLink "PegBoards" 104 ⟨"PegBoards", "requireJump", "(I)V"⟩ ∈ mx_WS := mx_in 468 (by decide +kernel) rfl
theorem wm_Pe_requireJump : Cond.instanceMethod ⟨"PegBoards", "requireJump", "(I)V"⟩ ∈ mx_WS := mx_in 470 (by decide +kernel) rfl
theorem wv_Pe_requireJump : Cond.selects "PegBoards" ⟨"PegBoards", "requireJump", "(I)V"⟩ ⟨"PegBoards", "requireJump", "(I)V"⟩ ∈ mx_WS := mx_in 6 (by decide +kernel) rfl
theorem kv_Pe_104 : mx_cvb "PegBoards" 104 mY_Pe_requireJump = true := by
  simp only [mx_cvb, Bool.and_eq_true, decide_eq_true_eq]
  exact ⟨⟨wl_Pe_104, wm_Pe_requireJump⟩, wv_Pe_requireJump⟩
theorem wc_Ju_from : Cond.code ⟨"PegBoards$Jumps", "from", "(I)I"⟩ prog_4_method_6_code 2 (some .int) ∈ mx_WS := mx_in 491 (by decide +kernel) rfl
theorem kd_Ju_from : mx_cdb mY_Ju_from 1 = true := by
  simp only [mx_cdb, Bool.and_eq_true, decide_eq_true_eq]
  exact ⟨⟨⟨⟨⟨wi_Ju, wc_Ju_from⟩, by decide +kernel⟩, by decide +kernel⟩, by decide +kernel⟩, by decide +kernel⟩
theorem wl_Pe_108 : Cond.methodLink "PegBoards" 108 ⟨"PegBoards$Jumps", "from", "(I)I"⟩ ∈ mx_WS := mx_in 488 (by decide +kernel) rfl
theorem wm_Ju_from : Cond.instanceMethod ⟨"PegBoards$Jumps", "from", "(I)I"⟩ ∈ mx_WS := mx_in 489 (by decide +kernel) rfl
theorem wv_Ju_from : Cond.selects "PegBoards$Jumps" ⟨"PegBoards$Jumps", "from", "(I)I"⟩ ⟨"PegBoards$Jumps", "from", "(I)I"⟩ ∈ mx_WS := mx_in 490 (by decide +kernel) rfl
theorem kv_Pe_108 : mx_cvb "PegBoards" 108 mY_Ju_from = true := by
  simp only [mx_cvb, Bool.and_eq_true, decide_eq_true_eq]
  exact ⟨⟨wl_Pe_108, wm_Ju_from⟩, wv_Ju_from⟩
theorem wc_Ju_over : Cond.code ⟨"PegBoards$Jumps", "over", "(I)I"⟩ prog_4_method_7_code 2 (some .int) ∈ mx_WS := mx_in 495 (by decide +kernel) rfl
theorem kd_Ju_over : mx_cdb mY_Ju_over 1 = true := by
  simp only [mx_cdb, Bool.and_eq_true, decide_eq_true_eq]
  exact ⟨⟨⟨⟨⟨wi_Ju, wc_Ju_over⟩, by decide +kernel⟩, by decide +kernel⟩, by decide +kernel⟩, by decide +kernel⟩
theorem wl_Pe_112 : Cond.methodLink "PegBoards" 112 ⟨"PegBoards$Jumps", "over", "(I)I"⟩ ∈ mx_WS := mx_in 492 (by decide +kernel) rfl
theorem wm_Ju_over : Cond.instanceMethod ⟨"PegBoards$Jumps", "over", "(I)I"⟩ ∈ mx_WS := mx_in 493 (by decide +kernel) rfl
theorem wv_Ju_over : Cond.selects "PegBoards$Jumps" ⟨"PegBoards$Jumps", "over", "(I)I"⟩ ⟨"PegBoards$Jumps", "over", "(I)I"⟩ ∈ mx_WS := mx_in 494 (by decide +kernel) rfl
theorem kv_Pe_112 : mx_cvb "PegBoards" 112 mY_Ju_over = true := by
  simp only [mx_cvb, Bool.and_eq_true, decide_eq_true_eq]
  exact ⟨⟨wl_Pe_112, wm_Ju_over⟩, wv_Ju_over⟩
theorem wc_Ju_to : Cond.code ⟨"PegBoards$Jumps", "to", "(I)I"⟩ prog_4_method_8_code 2 (some .int) ∈ mx_WS := mx_in 499 (by decide +kernel) rfl
theorem kd_Ju_to : mx_cdb mY_Ju_to 1 = true := by
  simp only [mx_cdb, Bool.and_eq_true, decide_eq_true_eq]
  exact ⟨⟨⟨⟨⟨wi_Ju, wc_Ju_to⟩, by decide +kernel⟩, by decide +kernel⟩, by decide +kernel⟩, by decide +kernel⟩
theorem wl_Pe_115 : Cond.methodLink "PegBoards" 115 ⟨"PegBoards$Jumps", "to", "(I)I"⟩ ∈ mx_WS := mx_in 496 (by decide +kernel) rfl
theorem wm_Ju_to : Cond.instanceMethod ⟨"PegBoards$Jumps", "to", "(I)I"⟩ ∈ mx_WS := mx_in 497 (by decide +kernel) rfl
theorem wv_Ju_to : Cond.selects "PegBoards$Jumps" ⟨"PegBoards$Jumps", "to", "(I)I"⟩ ⟨"PegBoards$Jumps", "to", "(I)I"⟩ ∈ mx_WS := mx_in 498 (by decide +kernel) rfl
theorem kv_Pe_115 : mx_cvb "PegBoards" 115 mY_Ju_to = true := by
  simp only [mx_cvb, Bool.and_eq_true, decide_eq_true_eq]
  exact ⟨⟨wl_Pe_115, wm_Ju_to⟩, wv_Ju_to⟩
theorem wc_Pe_place : Cond.code ⟨"PegBoards", "place", "(ZI)V"⟩ prog_1_method_7_code 3 none ∈ mx_WS := mx_in 507 (by decide +kernel) rfl
theorem kd_Pe_place : mx_cdb mY_Pe_place 2 = true := by
  simp only [mx_cdb, Bool.and_eq_true, decide_eq_true_eq]
  exact ⟨⟨⟨⟨⟨wi_Pe, wc_Pe_place⟩, by decide +kernel⟩, by decide +kernel⟩, by decide +kernel⟩, by decide +kernel⟩
theorem wl_La_26 : Cond.methodLink "PegBoardsLaw" 26 ⟨"PegBoards", "place", "(ZI)V"⟩ ∈ mx_WS := mx_in 504 (by decide +kernel) rfl
theorem wm_Pe_place : Cond.instanceMethod ⟨"PegBoards", "place", "(ZI)V"⟩ ∈ mx_WS := mx_in 505 (by decide +kernel) rfl
theorem wv_Pe_place : Cond.selects "PegBoards" ⟨"PegBoards", "place", "(ZI)V"⟩ ⟨"PegBoards", "place", "(ZI)V"⟩ ∈ mx_WS := mx_in 506 (by decide +kernel) rfl
theorem kv_La_26 : mx_cvb "PegBoardsLaw" 26 mY_Pe_place = true := by
  simp only [mx_cvb, Bool.and_eq_true, decide_eq_true_eq]
  exact ⟨⟨wl_La_26, wm_Pe_place⟩, wv_Pe_place⟩
theorem wc_Pe_requirePosition : Cond.code ⟨"PegBoards", "requirePosition", "(I)V"⟩ prog_1_method_23_code 2 none ∈ mx_WS := mx_in 511 (by decide +kernel) rfl
theorem kd_Pe_requirePosition : mx_cdb mY_Pe_requirePosition 1 = true := by
  simp only [mx_cdb, Bool.and_eq_true, decide_eq_true_eq]
  exact ⟨⟨⟨⟨⟨wi_Pe, wc_Pe_requirePosition⟩, by decide +kernel⟩, by decide +kernel⟩, by decide +kernel⟩, by decide +kernel⟩
theorem wl_Pe_123 : Cond.methodLink "PegBoards" 123 ⟨"PegBoards", "requirePosition", "(I)V"⟩ ∈ mx_WS := mx_in 508 (by decide +kernel) rfl
theorem wm_Pe_requirePosition : Cond.instanceMethod ⟨"PegBoards", "requirePosition", "(I)V"⟩ ∈ mx_WS := mx_in 510 (by decide +kernel) rfl
theorem wv_Pe_requirePosition : Cond.selects "PegBoards" ⟨"PegBoards", "requirePosition", "(I)V"⟩ ⟨"PegBoards", "requirePosition", "(I)V"⟩ ∈ mx_WS := mx_in 7 (by decide +kernel) rfl
theorem kv_Pe_123 : mx_cvb "PegBoards" 123 mY_Pe_requirePosition = true := by
  simp only [mx_cvb, Bool.and_eq_true, decide_eq_true_eq]
  exact ⟨⟨wl_Pe_123, wm_Pe_requirePosition⟩, wv_Pe_requirePosition⟩
theorem wc_Bo_allHoles : Cond.code ⟨"PegBoards$Board", "allHoles", "()I"⟩ prog_2_method_10_code 1 (some .int) ∈ mx_WS := mx_in 515 (by decide +kernel) rfl
theorem kd_Bo_allHoles : mx_cdb mY_Bo_allHoles 0 = true := by
  simp only [mx_cdb, Bool.and_eq_true, decide_eq_true_eq]
  exact ⟨⟨⟨⟨⟨wi_Bo, wc_Bo_allHoles⟩, by decide +kernel⟩, by decide +kernel⟩, by decide +kernel⟩, by decide +kernel⟩
theorem wl_Pe_210 : Cond.methodLink "PegBoards" 210 ⟨"PegBoards$Board", "allHoles", "()I"⟩ ∈ mx_WS := mx_in 512 (by decide +kernel) rfl
theorem wm_Bo_allHoles : Cond.instanceMethod ⟨"PegBoards$Board", "allHoles", "()I"⟩ ∈ mx_WS := mx_in 513 (by decide +kernel) rfl
theorem wv_Bo_allHoles : Cond.selects "PegBoards$Board" ⟨"PegBoards$Board", "allHoles", "()I"⟩ ⟨"PegBoards$Board", "allHoles", "()I"⟩ ∈ mx_WS := mx_in 514 (by decide +kernel) rfl
theorem kv_Pe_210 : mx_cvb "PegBoards" 210 mY_Bo_allHoles = true := by
  simp only [mx_cvb, Bool.and_eq_true, decide_eq_true_eq]
  exact ⟨⟨wl_Pe_210, wm_Bo_allHoles⟩, wv_Bo_allHoles⟩
theorem wc_Pe_after : Cond.code ⟨"PegBoards", "after", "(II)I"⟩ prog_1_method_8_code 3 (some .int) ∈ mx_WS := mx_in 523 (by decide +kernel) rfl
theorem kd_Pe_after : mx_cdb mY_Pe_after 2 = true := by
  simp only [mx_cdb, Bool.and_eq_true, decide_eq_true_eq]
  exact ⟨⟨⟨⟨⟨wi_Pe, wc_Pe_after⟩, by decide +kernel⟩, by decide +kernel⟩, by decide +kernel⟩, by decide +kernel⟩
theorem wl_La_30 : Cond.methodLink "PegBoardsLaw" 30 ⟨"PegBoards", "after", "(II)I"⟩ ∈ mx_WS := mx_in 520 (by decide +kernel) rfl
theorem wm_Pe_after : Cond.instanceMethod ⟨"PegBoards", "after", "(II)I"⟩ ∈ mx_WS := mx_in 521 (by decide +kernel) rfl
theorem wv_Pe_after : Cond.selects "PegBoards" ⟨"PegBoards", "after", "(II)I"⟩ ⟨"PegBoards", "after", "(II)I"⟩ ∈ mx_WS := mx_in 522 (by decide +kernel) rfl
theorem kv_La_30 : mx_cvb "PegBoardsLaw" 30 mY_Pe_after = true := by
  simp only [mx_cvb, Bool.and_eq_true, decide_eq_true_eq]
  exact ⟨⟨wl_La_30, wm_Pe_after⟩, wv_Pe_after⟩
theorem wc_Ju_make : Cond.code ⟨"PegBoards$Jumps", "make", "(II)I"⟩ prog_4_method_9_code 3 (some .int) ∈ mx_WS := mx_in 527 (by decide +kernel) rfl
theorem kd_Ju_make : mx_cdb mY_Ju_make 2 = true := by
  simp only [mx_cdb, Bool.and_eq_true, decide_eq_true_eq]
  exact ⟨⟨⟨⟨⟨wi_Ju, wc_Ju_make⟩, by decide +kernel⟩, by decide +kernel⟩, by decide +kernel⟩, by decide +kernel⟩
theorem wl_Pe_126 : Cond.methodLink "PegBoards" 126 ⟨"PegBoards$Jumps", "make", "(II)I"⟩ ∈ mx_WS := mx_in 524 (by decide +kernel) rfl
theorem wm_Ju_make : Cond.instanceMethod ⟨"PegBoards$Jumps", "make", "(II)I"⟩ ∈ mx_WS := mx_in 525 (by decide +kernel) rfl
theorem wv_Ju_make : Cond.selects "PegBoards$Jumps" ⟨"PegBoards$Jumps", "make", "(II)I"⟩ ⟨"PegBoards$Jumps", "make", "(II)I"⟩ ∈ mx_WS := mx_in 526 (by decide +kernel) rfl
theorem kv_Pe_126 : mx_cvb "PegBoards" 126 mY_Ju_make = true := by
  simp only [mx_cvb, Bool.and_eq_true, decide_eq_true_eq]
  exact ⟨⟨wl_Pe_126, wm_Ju_make⟩, wv_Ju_make⟩
theorem wc_Pe_count : Cond.code ⟨"PegBoards", "count", "(I)I"⟩ prog_1_method_9_code 2 (some .int) ∈ mx_WS := mx_in 534 (by decide +kernel) rfl
theorem kd_Pe_count : mx_cdb mY_Pe_count 1 = true := by
  simp only [mx_cdb, Bool.and_eq_true, decide_eq_true_eq]
  exact ⟨⟨⟨⟨⟨wi_Pe, wc_Pe_count⟩, by decide +kernel⟩, by decide +kernel⟩, by decide +kernel⟩, by decide +kernel⟩
theorem wl_La_33 : Cond.methodLink "PegBoardsLaw" 33 ⟨"PegBoards", "count", "(I)I"⟩ ∈ mx_WS := mx_in 531 (by decide +kernel) rfl
theorem wm_Pe_count : Cond.instanceMethod ⟨"PegBoards", "count", "(I)I"⟩ ∈ mx_WS := mx_in 532 (by decide +kernel) rfl
theorem wv_Pe_count : Cond.selects "PegBoards" ⟨"PegBoards", "count", "(I)I"⟩ ⟨"PegBoards", "count", "(I)I"⟩ ∈ mx_WS := mx_in 533 (by decide +kernel) rfl
theorem kv_La_33 : mx_cvb "PegBoardsLaw" 33 mY_Pe_count = true := by
  simp only [mx_cvb, Bool.and_eq_true, decide_eq_true_eq]
  exact ⟨⟨wl_La_33, wm_Pe_count⟩, wv_Pe_count⟩
theorem wc_Pe_reachWithin : Cond.code ⟨"PegBoards", "reachWithin", "(I)V"⟩ prog_1_method_21_code 2 none ∈ mx_WS := mx_in 538 (by decide +kernel) rfl
theorem kd_Pe_reachWithin : mx_cdb mY_Pe_reachWithin 1 = true := by
  simp only [mx_cdb, Bool.and_eq_true, decide_eq_true_eq]
  exact ⟨⟨⟨⟨⟨wi_Pe, wc_Pe_reachWithin⟩, by decide +kernel⟩, by decide +kernel⟩, by decide +kernel⟩, by decide +kernel⟩
theorem wl_Pe_129 : Cond.methodLink "PegBoards" 129 ⟨"PegBoards", "reachWithin", "(I)V"⟩ ∈ mx_WS := mx_in 535 (by decide +kernel) rfl
theorem wm_Pe_reachWithin : Cond.instanceMethod ⟨"PegBoards", "reachWithin", "(I)V"⟩ ∈ mx_WS := mx_in 537 (by decide +kernel) rfl
theorem wv_Pe_reachWithin : Cond.selects "PegBoards" ⟨"PegBoards", "reachWithin", "(I)V"⟩ ⟨"PegBoards", "reachWithin", "(I)V"⟩ ∈ mx_WS := mx_in 8 (by decide +kernel) rfl
theorem kv_Pe_129 : mx_cvb "PegBoards" 129 mY_Pe_reachWithin = true := by
  simp only [mx_cvb, Bool.and_eq_true, decide_eq_true_eq]
  exact ⟨⟨wl_Pe_129, wm_Pe_reachWithin⟩, wv_Pe_reachWithin⟩
theorem wc_Pe_requireFrozen : Cond.code ⟨"PegBoards", "requireFrozen", "()V"⟩ prog_1_method_22_code 1 none ∈ mx_WS := mx_in 542 (by decide +kernel) rfl
theorem kd_Pe_requireFrozen : mx_cdb mY_Pe_requireFrozen 0 = true := by
  simp only [mx_cdb, Bool.and_eq_true, decide_eq_true_eq]
  exact ⟨⟨⟨⟨⟨wi_Pe, wc_Pe_requireFrozen⟩, by decide +kernel⟩, by decide +kernel⟩, by decide +kernel⟩, by decide +kernel⟩
theorem wl_Pe_160 : Cond.methodLink "PegBoards" 160 ⟨"PegBoards", "requireFrozen", "()V"⟩ ∈ mx_WS := mx_in 539 (by decide +kernel) rfl
theorem wm_Pe_requireFrozen : Cond.instanceMethod ⟨"PegBoards", "requireFrozen", "()V"⟩ ∈ mx_WS := mx_in 541 (by decide +kernel) rfl
theorem wv_Pe_requireFrozen : Cond.selects "PegBoards" ⟨"PegBoards", "requireFrozen", "()V"⟩ ⟨"PegBoards", "requireFrozen", "()V"⟩ ∈ mx_WS := mx_in 9 (by decide +kernel) rfl
theorem kv_Pe_160 : mx_cvb "PegBoards" 160 mY_Pe_requireFrozen = true := by
  simp only [mx_cvb, Bool.and_eq_true, decide_eq_true_eq]
  exact ⟨⟨wl_Pe_160, wm_Pe_requireFrozen⟩, wv_Pe_requireFrozen⟩
theorem wc_Bo_isFrozen : Cond.code ⟨"PegBoards$Board", "isFrozen", "()Z"⟩ prog_2_method_8_code 1 (some .boolean) ∈ mx_WS := mx_in 546 (by decide +kernel) rfl
theorem kd_Bo_isFrozen : mx_cdb mY_Bo_isFrozen 0 = true := by
  simp only [mx_cdb, Bool.and_eq_true, decide_eq_true_eq]
  exact ⟨⟨⟨⟨⟨wi_Bo, wc_Bo_isFrozen⟩, by decide +kernel⟩, by decide +kernel⟩, by decide +kernel⟩, by decide +kernel⟩
theorem wl_Pe_205 : Cond.methodLink "PegBoards" 205 ⟨"PegBoards$Board", "isFrozen", "()Z"⟩ ∈ mx_WS := mx_in 543 (by decide +kernel) rfl
theorem wm_Bo_isFrozen : Cond.instanceMethod ⟨"PegBoards$Board", "isFrozen", "()Z"⟩ ∈ mx_WS := mx_in 544 (by decide +kernel) rfl
theorem wv_Bo_isFrozen : Cond.selects "PegBoards$Board" ⟨"PegBoards$Board", "isFrozen", "()Z"⟩ ⟨"PegBoards$Board", "isFrozen", "()Z"⟩ ∈ mx_WS := mx_in 545 (by decide +kernel) rfl
theorem kv_Pe_205 : mx_cvb "PegBoards" 205 mY_Bo_isFrozen = true := by
  simp only [mx_cvb, Bool.and_eq_true, decide_eq_true_eq]
  exact ⟨⟨wl_Pe_205, wm_Bo_isFrozen⟩, wv_Bo_isFrozen⟩
theorem wi_Re : Cond.initialized "PegBoards$Reaching" ∈ mx_WS := mx_in 46 (by decide +kernel) rfl
theorem wc_Re_run : Cond.code ⟨"PegBoards$Reaching", "run", "(LPegBoards$Jumps;II)V"⟩ prog_5_method_2_code 5 none ∈ mx_WS := mx_in 552 (by decide +kernel) rfl
theorem kd_Re_run : mx_cdb mY_Re_run 3 = true := by
  simp only [mx_cdb, Bool.and_eq_true, decide_eq_true_eq]
  exact ⟨⟨⟨⟨⟨wi_Re, wc_Re_run⟩, by decide +kernel⟩, by decide +kernel⟩, by decide +kernel⟩, by decide +kernel⟩
theorem wl_Pe_201 : Cond.methodLink "PegBoards" 201 ⟨"PegBoards$Reaching", "run", "(LPegBoards$Jumps;II)V"⟩ ∈ mx_WS := mx_in 549 (by decide +kernel) rfl
theorem wm_Re_run : Cond.instanceMethod ⟨"PegBoards$Reaching", "run", "(LPegBoards$Jumps;II)V"⟩ ∈ mx_WS := mx_in 550 (by decide +kernel) rfl
theorem wv_Re_run : Cond.selects "PegBoards$Reaching" ⟨"PegBoards$Reaching", "run", "(LPegBoards$Jumps;II)V"⟩ ⟨"PegBoards$Reaching", "run", "(LPegBoards$Jumps;II)V"⟩ ∈ mx_WS := mx_in 551 (by decide +kernel) rfl
theorem kv_Pe_201 : mx_cvb "PegBoards" 201 mY_Re_run = true := by
  simp only [mx_cvb, Bool.and_eq_true, decide_eq_true_eq]
  exact ⟨⟨wl_Pe_201, wm_Re_run⟩, wv_Re_run⟩
theorem wi_Fo : Cond.initialized "PegBoards$Found" ∈ mx_WS := mx_in 47 (by decide +kernel) rfl
theorem wc_Fo_forget : Cond.code ⟨"PegBoards$Found", "forget", "()V"⟩ prog_3_method_2_code 1 none ∈ mx_WS := mx_in 556 (by decide +kernel) rfl
theorem kd_Fo_forget : mx_cdb mY_Fo_forget 0 = true := by
  simp only [mx_cdb, Bool.and_eq_true, decide_eq_true_eq]
  exact ⟨⟨⟨⟨⟨wi_Fo, wc_Fo_forget⟩, by decide +kernel⟩, by decide +kernel⟩, by decide +kernel⟩, by decide +kernel⟩
theorem wl_Re_34 : Cond.methodLink "PegBoards$Reaching" 34 ⟨"PegBoards$Found", "forget", "()V"⟩ ∈ mx_WS := mx_in 553 (by decide +kernel) rfl
theorem wm_Fo_forget : Cond.instanceMethod ⟨"PegBoards$Found", "forget", "()V"⟩ ∈ mx_WS := mx_in 554 (by decide +kernel) rfl
theorem wv_Fo_forget : Cond.selects "PegBoards$Found" ⟨"PegBoards$Found", "forget", "()V"⟩ ⟨"PegBoards$Found", "forget", "()V"⟩ ∈ mx_WS := mx_in 555 (by decide +kernel) rfl
theorem kv_Re_34 : mx_cvb "PegBoards$Reaching" 34 mY_Fo_forget = true := by
  simp only [mx_cvb, Bool.and_eq_true, decide_eq_true_eq]
  exact ⟨⟨wl_Re_34, wm_Fo_forget⟩, wv_Fo_forget⟩
theorem wl_Fo_18 : Cond.methodLink "PegBoards$Found" 18 ⟨"java/util/Arrays", "fill", "([II)V"⟩ ∈ mx_WS := mx_in 557 (by decide +kernel) rfl
theorem ks_Fo_18 : mx_csb "PegBoards$Found" 18 mY_Ar_fill = true := by
  simp only [mx_csb, Bool.and_eq_true, decide_eq_true_eq]
  exact ⟨wl_Fo_18, wt_Ar_fill⟩
theorem wc_Fo_numberWithin : Cond.code ⟨"PegBoards$Found", "numberWithin", "(II)I"⟩ prog_3_method_6_code 4 (some .int) ∈ mx_WS := mx_in 561 (by decide +kernel) rfl
theorem kd_Fo_numberWithin : mx_cdb mY_Fo_numberWithin 2 = true := by
  simp only [mx_cdb, Bool.and_eq_true, decide_eq_true_eq]
  exact ⟨⟨⟨⟨⟨wi_Fo, wc_Fo_numberWithin⟩, by decide +kernel⟩, by decide +kernel⟩, by decide +kernel⟩, by decide +kernel⟩
theorem wl_Re_41 : Cond.methodLink "PegBoards$Reaching" 41 ⟨"PegBoards$Found", "numberWithin", "(II)I"⟩ ∈ mx_WS := mx_in 558 (by decide +kernel) rfl
theorem wm_Fo_numberWithin : Cond.instanceMethod ⟨"PegBoards$Found", "numberWithin", "(II)I"⟩ ∈ mx_WS := mx_in 559 (by decide +kernel) rfl
theorem wv_Fo_numberWithin : Cond.selects "PegBoards$Found" ⟨"PegBoards$Found", "numberWithin", "(II)I"⟩ ⟨"PegBoards$Found", "numberWithin", "(II)I"⟩ ∈ mx_WS := mx_in 560 (by decide +kernel) rfl
theorem kv_Re_41 : mx_cvb "PegBoards$Reaching" 41 mY_Fo_numberWithin = true := by
  simp only [mx_cvb, Bool.and_eq_true, decide_eq_true_eq]
  exact ⟨⟨wl_Re_41, wm_Fo_numberWithin⟩, wv_Fo_numberWithin⟩
theorem wc_Fo_slotFor : Cond.code ⟨"PegBoards$Found", "slotFor", "(I)I"⟩ prog_3_method_7_code 4 (some .int) ∈ mx_WS := mx_in 565 (by decide +kernel) rfl
theorem kd_Fo_slotFor : mx_cdb mY_Fo_slotFor 1 = true := by
  simp only [mx_cdb, Bool.and_eq_true, decide_eq_true_eq]
  exact ⟨⟨⟨⟨⟨wi_Fo, wc_Fo_slotFor⟩, by decide +kernel⟩, by decide +kernel⟩, by decide +kernel⟩, by decide +kernel⟩
theorem wl_Fo_28 : Cond.methodLink "PegBoards$Found" 28 ⟨"PegBoards$Found", "slotFor", "(I)I"⟩ ∈ mx_WS := mx_in 562 (by decide +kernel) rfl
theorem wm_Fo_slotFor : Cond.instanceMethod ⟨"PegBoards$Found", "slotFor", "(I)I"⟩ ∈ mx_WS := mx_in 564 (by decide +kernel) rfl
theorem wv_Fo_slotFor : Cond.selects "PegBoards$Found" ⟨"PegBoards$Found", "slotFor", "(I)I"⟩ ⟨"PegBoards$Found", "slotFor", "(I)I"⟩ ∈ mx_WS := mx_in 10 (by decide +kernel) rfl
theorem kv_Fo_28 : mx_cvb "PegBoards$Found" 28 mY_Fo_slotFor = true := by
  simp only [mx_cvb, Bool.and_eq_true, decide_eq_true_eq]
  exact ⟨⟨wl_Fo_28, wm_Fo_slotFor⟩, wv_Fo_slotFor⟩
theorem wc_Fo_isFreeOrHas : Cond.code ⟨"PegBoards$Found", "isFreeOrHas", "(II)Z"⟩ prog_3_method_8_code 3 (some .boolean) ∈ mx_WS := mx_in 569 (by decide +kernel) rfl
theorem kd_Fo_isFreeOrHas : mx_cdb mY_Fo_isFreeOrHas 2 = true := by
  simp only [mx_cdb, Bool.and_eq_true, decide_eq_true_eq]
  exact ⟨⟨⟨⟨⟨wi_Fo, wc_Fo_isFreeOrHas⟩, by decide +kernel⟩, by decide +kernel⟩, by decide +kernel⟩, by decide +kernel⟩
theorem wl_Fo_32 : Cond.methodLink "PegBoards$Found" 32 ⟨"PegBoards$Found", "isFreeOrHas", "(II)Z"⟩ ∈ mx_WS := mx_in 566 (by decide +kernel) rfl
theorem wm_Fo_isFreeOrHas : Cond.instanceMethod ⟨"PegBoards$Found", "isFreeOrHas", "(II)Z"⟩ ∈ mx_WS := mx_in 568 (by decide +kernel) rfl
theorem wv_Fo_isFreeOrHas : Cond.selects "PegBoards$Found" ⟨"PegBoards$Found", "isFreeOrHas", "(II)Z"⟩ ⟨"PegBoards$Found", "isFreeOrHas", "(II)Z"⟩ ∈ mx_WS := mx_in 11 (by decide +kernel) rfl
theorem kv_Fo_32 : mx_cvb "PegBoards$Found" 32 mY_Fo_isFreeOrHas = true := by
  simp only [mx_cvb, Bool.and_eq_true, decide_eq_true_eq]
  exact ⟨⟨wl_Fo_32, wm_Fo_isFreeOrHas⟩, wv_Fo_isFreeOrHas⟩
theorem wc_Fo_size : Cond.code ⟨"PegBoards$Found", "size", "()I"⟩ prog_3_method_3_code 1 (some .int) ∈ mx_WS := mx_in 573 (by decide +kernel) rfl
theorem kd_Fo_size : mx_cdb mY_Fo_size 0 = true := by
  simp only [mx_cdb, Bool.and_eq_true, decide_eq_true_eq]
  exact ⟨⟨⟨⟨⟨wi_Fo, wc_Fo_size⟩, by decide +kernel⟩, by decide +kernel⟩, by decide +kernel⟩, by decide +kernel⟩
theorem wl_Re_45 : Cond.methodLink "PegBoards$Reaching" 45 ⟨"PegBoards$Found", "size", "()I"⟩ ∈ mx_WS := mx_in 570 (by decide +kernel) rfl
theorem wm_Fo_size : Cond.instanceMethod ⟨"PegBoards$Found", "size", "()I"⟩ ∈ mx_WS := mx_in 571 (by decide +kernel) rfl
theorem wv_Fo_size : Cond.selects "PegBoards$Found" ⟨"PegBoards$Found", "size", "()I"⟩ ⟨"PegBoards$Found", "size", "()I"⟩ ∈ mx_WS := mx_in 572 (by decide +kernel) rfl
theorem kv_Re_45 : mx_cvb "PegBoards$Reaching" 45 mY_Fo_size = true := by
  simp only [mx_cvb, Bool.and_eq_true, decide_eq_true_eq]
  exact ⟨⟨wl_Re_45, wm_Fo_size⟩, wv_Fo_size⟩
theorem wc_Re_goOnFrom : Cond.code ⟨"PegBoards$Reaching", "goOnFrom", "(ILPegBoards$Jumps;I)V"⟩ prog_5_method_3_code 9 none ∈ mx_WS := mx_in 577 (by decide +kernel) rfl
theorem kd_Re_goOnFrom : mx_cdb mY_Re_goOnFrom 3 = true := by
  simp only [mx_cdb, Bool.and_eq_true, decide_eq_true_eq]
  exact ⟨⟨⟨⟨⟨wi_Re, wc_Re_goOnFrom⟩, by decide +kernel⟩, by decide +kernel⟩, by decide +kernel⟩, by decide +kernel⟩
theorem wl_Re_49 : Cond.methodLink "PegBoards$Reaching" 49 ⟨"PegBoards$Reaching", "goOnFrom", "(ILPegBoards$Jumps;I)V"⟩ ∈ mx_WS := mx_in 574 (by decide +kernel) rfl
theorem wm_Re_goOnFrom : Cond.instanceMethod ⟨"PegBoards$Reaching", "goOnFrom", "(ILPegBoards$Jumps;I)V"⟩ ∈ mx_WS := mx_in 576 (by decide +kernel) rfl
theorem wv_Re_goOnFrom : Cond.selects "PegBoards$Reaching" ⟨"PegBoards$Reaching", "goOnFrom", "(ILPegBoards$Jumps;I)V"⟩ ⟨"PegBoards$Reaching", "goOnFrom", "(ILPegBoards$Jumps;I)V"⟩ ∈ mx_WS := mx_in 12 (by decide +kernel) rfl
theorem kv_Re_49 : mx_cvb "PegBoards$Reaching" 49 mY_Re_goOnFrom = true := by
  simp only [mx_cvb, Bool.and_eq_true, decide_eq_true_eq]
  exact ⟨⟨wl_Re_49, wm_Re_goOnFrom⟩, wv_Re_goOnFrom⟩
theorem wc_Fo_positionOf : Cond.code ⟨"PegBoards$Found", "positionOf", "(I)I"⟩ prog_3_method_4_code 2 (some .int) ∈ mx_WS := mx_in 581 (by decide +kernel) rfl
theorem kd_Fo_positionOf : mx_cdb mY_Fo_positionOf 1 = true := by
  simp only [mx_cdb, Bool.and_eq_true, decide_eq_true_eq]
  exact ⟨⟨⟨⟨⟨wi_Fo, wc_Fo_positionOf⟩, by decide +kernel⟩, by decide +kernel⟩, by decide +kernel⟩, by decide +kernel⟩
theorem wl_Re_53 : Cond.methodLink "PegBoards$Reaching" 53 ⟨"PegBoards$Found", "positionOf", "(I)I"⟩ ∈ mx_WS := mx_in 578 (by decide +kernel) rfl
theorem wm_Fo_positionOf : Cond.instanceMethod ⟨"PegBoards$Found", "positionOf", "(I)I"⟩ ∈ mx_WS := mx_in 579 (by decide +kernel) rfl
theorem wv_Fo_positionOf : Cond.selects "PegBoards$Found" ⟨"PegBoards$Found", "positionOf", "(I)I"⟩ ⟨"PegBoards$Found", "positionOf", "(I)I"⟩ ∈ mx_WS := mx_in 580 (by decide +kernel) rfl
theorem kv_Re_53 : mx_cvb "PegBoards$Reaching" 53 mY_Fo_positionOf = true := by
  simp only [mx_cvb, Bool.and_eq_true, decide_eq_true_eq]
  exact ⟨⟨wl_Re_53, wm_Fo_positionOf⟩, wv_Fo_positionOf⟩
theorem wl_Re_57 : Cond.methodLink "PegBoards$Reaching" 57 ⟨"PegBoards$Jumps", "size", "()I"⟩ ∈ mx_WS := mx_in 582 (by decide +kernel) rfl
theorem kv_Re_57 : mx_cvb "PegBoards$Reaching" 57 mY_Ju_size = true := by
  simp only [mx_cvb, Bool.and_eq_true, decide_eq_true_eq]
  exact ⟨⟨wl_Re_57, wm_Ju_size⟩, wv_Ju_size⟩
theorem wl_Re_60 : Cond.methodLink "PegBoards$Reaching" 60 ⟨"PegBoards$Jumps", "make", "(II)I"⟩ ∈ mx_WS := mx_in 583 (by decide +kernel) rfl
theorem kv_Re_60 : mx_cvb "PegBoards$Reaching" 60 mY_Ju_make = true := by
  simp only [mx_cvb, Bool.and_eq_true, decide_eq_true_eq]
  exact ⟨⟨wl_Re_60, wm_Ju_make⟩, wv_Ju_make⟩
theorem wc_Re_enter : Cond.code ⟨"PegBoards$Reaching", "enter", "(III)V"⟩ prog_5_method_4_code 4 none ∈ mx_WS := mx_in 587 (by decide +kernel) rfl
theorem kd_Re_enter : mx_cdb mY_Re_enter 3 = true := by
  simp only [mx_cdb, Bool.and_eq_true, decide_eq_true_eq]
  exact ⟨⟨⟨⟨⟨wi_Re, wc_Re_enter⟩, by decide +kernel⟩, by decide +kernel⟩, by decide +kernel⟩, by decide +kernel⟩
theorem wl_Re_63 : Cond.methodLink "PegBoards$Reaching" 63 ⟨"PegBoards$Reaching", "enter", "(III)V"⟩ ∈ mx_WS := mx_in 584 (by decide +kernel) rfl
theorem wm_Re_enter : Cond.instanceMethod ⟨"PegBoards$Reaching", "enter", "(III)V"⟩ ∈ mx_WS := mx_in 586 (by decide +kernel) rfl
theorem wv_Re_enter : Cond.selects "PegBoards$Reaching" ⟨"PegBoards$Reaching", "enter", "(III)V"⟩ ⟨"PegBoards$Reaching", "enter", "(III)V"⟩ ∈ mx_WS := mx_in 13 (by decide +kernel) rfl
theorem kv_Re_63 : mx_cvb "PegBoards$Reaching" 63 mY_Re_enter = true := by
  simp only [mx_cvb, Bool.and_eq_true, decide_eq_true_eq]
  exact ⟨⟨wl_Re_63, wm_Re_enter⟩, wv_Re_enter⟩
theorem wl_Re_67 : Cond.methodLink "PegBoards$Reaching" 67 ⟨"PegBoards$Jumps", "from", "(I)I"⟩ ∈ mx_WS := mx_in 588 (by decide +kernel) rfl
theorem kv_Re_67 : mx_cvb "PegBoards$Reaching" 67 mY_Ju_from = true := by
  simp only [mx_cvb, Bool.and_eq_true, decide_eq_true_eq]
  exact ⟨⟨wl_Re_67, wm_Ju_from⟩, wv_Ju_from⟩
theorem wl_Re_70 : Cond.methodLink "PegBoards$Reaching" 70 ⟨"PegBoards$Jumps", "to", "(I)I"⟩ ∈ mx_WS := mx_in 589 (by decide +kernel) rfl
theorem kv_Re_70 : mx_cvb "PegBoards$Reaching" 70 mY_Ju_to = true := by
  simp only [mx_cvb, Bool.and_eq_true, decide_eq_true_eq]
  exact ⟨⟨wl_Re_70, wm_Ju_to⟩, wv_Ju_to⟩
theorem wc_Re_addMoves : Cond.code ⟨"PegBoards$Reaching", "addMoves", "(IIII)V"⟩ prog_5_method_5_code 6 none ∈ mx_WS := mx_in 593 (by decide +kernel) rfl
theorem kd_Re_addMoves : mx_cdb mY_Re_addMoves 4 = true := by
  simp only [mx_cdb, Bool.and_eq_true, decide_eq_true_eq]
  exact ⟨⟨⟨⟨⟨wi_Re, wc_Re_addMoves⟩, by decide +kernel⟩, by decide +kernel⟩, by decide +kernel⟩, by decide +kernel⟩
theorem wl_Re_73 : Cond.methodLink "PegBoards$Reaching" 73 ⟨"PegBoards$Reaching", "addMoves", "(IIII)V"⟩ ∈ mx_WS := mx_in 590 (by decide +kernel) rfl
theorem wm_Re_addMoves : Cond.instanceMethod ⟨"PegBoards$Reaching", "addMoves", "(IIII)V"⟩ ∈ mx_WS := mx_in 592 (by decide +kernel) rfl
theorem wv_Re_addMoves : Cond.selects "PegBoards$Reaching" ⟨"PegBoards$Reaching", "addMoves", "(IIII)V"⟩ ⟨"PegBoards$Reaching", "addMoves", "(IIII)V"⟩ ∈ mx_WS := mx_in 14 (by decide +kernel) rfl
theorem kv_Re_73 : mx_cvb "PegBoards$Reaching" 73 mY_Re_addMoves = true := by
  simp only [mx_cvb, Bool.and_eq_true, decide_eq_true_eq]
  exact ⟨⟨wl_Re_73, wm_Re_addMoves⟩, wv_Re_addMoves⟩
theorem wc_Pe_contains : Cond.code ⟨"PegBoards", "contains", "(II)Z"⟩ prog_1_method_27_code 2 (some .boolean) ∈ mx_WS := mx_in 596 (by decide +kernel) rfl
theorem kd_Pe_contains : mx_cdb mY_Pe_contains 2 = true := by
  simp only [mx_cdb, Bool.and_eq_true, decide_eq_true_eq]
  exact ⟨⟨⟨⟨⟨wi_Pe, wc_Pe_contains⟩, by decide +kernel⟩, by decide +kernel⟩, by decide +kernel⟩, by decide +kernel⟩
theorem wn_Re_77 : Cond.methodLinkNest "PegBoards$Reaching" 77 ⟨"PegBoards", "contains", "(II)Z"⟩ "PegBoards" ∈ mx_NW := mx_inN 594 (by decide +kernel) rfl
theorem wt_Pe_contains : Cond.static ⟨"PegBoards", "contains", "(II)Z"⟩ ∈ mx_WS := mx_in 595 (by decide +kernel) rfl
theorem kn_Re_77 : mx_cnb "PegBoards$Reaching" 77 mY_Pe_contains = true := by
  simp only [mx_cnb, Bool.and_eq_true, decide_eq_true_eq]
  exact ⟨wn_Re_77, wt_Pe_contains⟩
theorem wc_Re_limitMet : Cond.code ⟨"PegBoards$Reaching", "limitMet", "()Z"⟩ prog_5_method_6_code 1 (some .boolean) ∈ mx_WS := mx_in 600 (by decide +kernel) rfl
theorem kd_Re_limitMet : mx_cdb mY_Re_limitMet 0 = true := by
  simp only [mx_cdb, Bool.and_eq_true, decide_eq_true_eq]
  exact ⟨⟨⟨⟨⟨wi_Re, wc_Re_limitMet⟩, by decide +kernel⟩, by decide +kernel⟩, by decide +kernel⟩, by decide +kernel⟩
theorem wl_Pe_132 : Cond.methodLink "PegBoards" 132 ⟨"PegBoards$Reaching", "limitMet", "()Z"⟩ ∈ mx_WS := mx_in 597 (by decide +kernel) rfl
theorem wm_Re_limitMet : Cond.instanceMethod ⟨"PegBoards$Reaching", "limitMet", "()Z"⟩ ∈ mx_WS := mx_in 598 (by decide +kernel) rfl
theorem wv_Re_limitMet : Cond.selects "PegBoards$Reaching" ⟨"PegBoards$Reaching", "limitMet", "()Z"⟩ ⟨"PegBoards$Reaching", "limitMet", "()Z"⟩ ∈ mx_WS := mx_in 599 (by decide +kernel) rfl
theorem kv_Pe_132 : mx_cvb "PegBoards" 132 mY_Re_limitMet = true := by
  simp only [mx_cvb, Bool.and_eq_true, decide_eq_true_eq]
  exact ⟨⟨wl_Pe_132, wm_Re_limitMet⟩, wv_Re_limitMet⟩
theorem wc_Re_size : Cond.code ⟨"PegBoards$Reaching", "size", "()I"⟩ prog_5_method_7_code 1 (some .int) ∈ mx_WS := mx_in 604 (by decide +kernel) rfl
theorem kd_Re_size : mx_cdb mY_Re_size 0 = true := by
  simp only [mx_cdb, Bool.and_eq_true, decide_eq_true_eq]
  exact ⟨⟨⟨⟨⟨wi_Re, wc_Re_size⟩, by decide +kernel⟩, by decide +kernel⟩, by decide +kernel⟩, by decide +kernel⟩
theorem wl_Pe_135 : Cond.methodLink "PegBoards" 135 ⟨"PegBoards$Reaching", "size", "()I"⟩ ∈ mx_WS := mx_in 601 (by decide +kernel) rfl
theorem wm_Re_size : Cond.instanceMethod ⟨"PegBoards$Reaching", "size", "()I"⟩ ∈ mx_WS := mx_in 602 (by decide +kernel) rfl
theorem wv_Re_size : Cond.selects "PegBoards$Reaching" ⟨"PegBoards$Reaching", "size", "()I"⟩ ⟨"PegBoards$Reaching", "size", "()I"⟩ ∈ mx_WS := mx_in 603 (by decide +kernel) rfl
theorem kv_Pe_135 : mx_cvb "PegBoards" 135 mY_Re_size = true := by
  simp only [mx_cvb, Bool.and_eq_true, decide_eq_true_eq]
  exact ⟨⟨wl_Pe_135, wm_Re_size⟩, wv_Re_size⟩
theorem wc_Pe_solve : Cond.code ⟨"PegBoards", "solve", "(I)I"⟩ prog_1_method_10_code 2 (some .int) ∈ mx_WS := mx_in 611 (by decide +kernel) rfl
theorem kd_Pe_solve : mx_cdb mY_Pe_solve 1 = true := by
  simp only [mx_cdb, Bool.and_eq_true, decide_eq_true_eq]
  exact ⟨⟨⟨⟨⟨wi_Pe, wc_Pe_solve⟩, by decide +kernel⟩, by decide +kernel⟩, by decide +kernel⟩, by decide +kernel⟩
theorem wl_La_37 : Cond.methodLink "PegBoardsLaw" 37 ⟨"PegBoards", "solve", "(I)I"⟩ ∈ mx_WS := mx_in 608 (by decide +kernel) rfl
theorem wm_Pe_solve : Cond.instanceMethod ⟨"PegBoards", "solve", "(I)I"⟩ ∈ mx_WS := mx_in 609 (by decide +kernel) rfl
theorem wv_Pe_solve : Cond.selects "PegBoards" ⟨"PegBoards", "solve", "(I)I"⟩ ⟨"PegBoards", "solve", "(I)I"⟩ ∈ mx_WS := mx_in 610 (by decide +kernel) rfl
theorem kv_La_37 : mx_cvb "PegBoardsLaw" 37 mY_Pe_solve = true := by
  simp only [mx_cvb, Bool.and_eq_true, decide_eq_true_eq]
  exact ⟨⟨wl_La_37, wm_Pe_solve⟩, wv_Pe_solve⟩
theorem wc_Re_has : Cond.code ⟨"PegBoards$Reaching", "has", "(I)Z"⟩ prog_5_method_8_code 2 (some .boolean) ∈ mx_WS := mx_in 615 (by decide +kernel) rfl
theorem kd_Re_has : mx_cdb mY_Re_has 1 = true := by
  simp only [mx_cdb, Bool.and_eq_true, decide_eq_true_eq]
  exact ⟨⟨⟨⟨⟨wi_Re, wc_Re_has⟩, by decide +kernel⟩, by decide +kernel⟩, by decide +kernel⟩, by decide +kernel⟩
theorem wl_Pe_136 : Cond.methodLink "PegBoards" 136 ⟨"PegBoards$Reaching", "has", "(I)Z"⟩ ∈ mx_WS := mx_in 612 (by decide +kernel) rfl
theorem wm_Re_has : Cond.instanceMethod ⟨"PegBoards$Reaching", "has", "(I)Z"⟩ ∈ mx_WS := mx_in 613 (by decide +kernel) rfl
theorem wv_Re_has : Cond.selects "PegBoards$Reaching" ⟨"PegBoards$Reaching", "has", "(I)Z"⟩ ⟨"PegBoards$Reaching", "has", "(I)Z"⟩ ∈ mx_WS := mx_in 614 (by decide +kernel) rfl
theorem kv_Pe_136 : mx_cvb "PegBoards" 136 mY_Re_has = true := by
  simp only [mx_cvb, Bool.and_eq_true, decide_eq_true_eq]
  exact ⟨⟨wl_Pe_136, wm_Re_has⟩, wv_Re_has⟩
theorem wc_Fo_numberOf : Cond.code ⟨"PegBoards$Found", "numberOf", "(I)I"⟩ prog_3_method_5_code 2 (some .int) ∈ mx_WS := mx_in 619 (by decide +kernel) rfl
theorem kd_Fo_numberOf : mx_cdb mY_Fo_numberOf 1 = true := by
  simp only [mx_cdb, Bool.and_eq_true, decide_eq_true_eq]
  exact ⟨⟨⟨⟨⟨wi_Fo, wc_Fo_numberOf⟩, by decide +kernel⟩, by decide +kernel⟩, by decide +kernel⟩, by decide +kernel⟩
theorem wl_Re_81 : Cond.methodLink "PegBoards$Reaching" 81 ⟨"PegBoards$Found", "numberOf", "(I)I"⟩ ∈ mx_WS := mx_in 616 (by decide +kernel) rfl
theorem wm_Fo_numberOf : Cond.instanceMethod ⟨"PegBoards$Found", "numberOf", "(I)I"⟩ ∈ mx_WS := mx_in 617 (by decide +kernel) rfl
theorem wv_Fo_numberOf : Cond.selects "PegBoards$Found" ⟨"PegBoards$Found", "numberOf", "(I)I"⟩ ⟨"PegBoards$Found", "numberOf", "(I)I"⟩ ∈ mx_WS := mx_in 618 (by decide +kernel) rfl
theorem kv_Re_81 : mx_cvb "PegBoards$Reaching" 81 mY_Fo_numberOf = true := by
  simp only [mx_cvb, Bool.and_eq_true, decide_eq_true_eq]
  exact ⟨⟨wl_Re_81, wm_Fo_numberOf⟩, wv_Fo_numberOf⟩
theorem wc_Pe_way : Cond.code ⟨"PegBoards", "way", "(II)I"⟩ prog_1_method_11_code 3 (some .int) ∈ mx_WS := mx_in 626 (by decide +kernel) rfl
theorem kd_Pe_way : mx_cdb mY_Pe_way 2 = true := by
  simp only [mx_cdb, Bool.and_eq_true, decide_eq_true_eq]
  exact ⟨⟨⟨⟨⟨wi_Pe, wc_Pe_way⟩, by decide +kernel⟩, by decide +kernel⟩, by decide +kernel⟩, by decide +kernel⟩
theorem wl_La_40 : Cond.methodLink "PegBoardsLaw" 40 ⟨"PegBoards", "way", "(II)I"⟩ ∈ mx_WS := mx_in 623 (by decide +kernel) rfl
theorem wm_Pe_way : Cond.instanceMethod ⟨"PegBoards", "way", "(II)I"⟩ ∈ mx_WS := mx_in 624 (by decide +kernel) rfl
theorem wv_Pe_way : Cond.selects "PegBoards" ⟨"PegBoards", "way", "(II)I"⟩ ⟨"PegBoards", "way", "(II)I"⟩ ∈ mx_WS := mx_in 625 (by decide +kernel) rfl
theorem kv_La_40 : mx_cvb "PegBoardsLaw" 40 mY_Pe_way = true := by
  simp only [mx_cvb, Bool.and_eq_true, decide_eq_true_eq]
  exact ⟨⟨wl_La_40, wm_Pe_way⟩, wv_Pe_way⟩
theorem wc_Re_jumpOnWay : Cond.code ⟨"PegBoards$Reaching", "jumpOnWay", "(III)I"⟩ prog_5_method_10_code 7 (some .int) ∈ mx_WS := mx_in 630 (by decide +kernel) rfl
theorem kd_Re_jumpOnWay : mx_cdb mY_Re_jumpOnWay 3 = true := by
  simp only [mx_cdb, Bool.and_eq_true, decide_eq_true_eq]
  exact ⟨⟨⟨⟨⟨wi_Re, wc_Re_jumpOnWay⟩, by decide +kernel⟩, by decide +kernel⟩, by decide +kernel⟩, by decide +kernel⟩
theorem wl_Pe_140 : Cond.methodLink "PegBoards" 140 ⟨"PegBoards$Reaching", "jumpOnWay", "(III)I"⟩ ∈ mx_WS := mx_in 627 (by decide +kernel) rfl
theorem wm_Re_jumpOnWay : Cond.instanceMethod ⟨"PegBoards$Reaching", "jumpOnWay", "(III)I"⟩ ∈ mx_WS := mx_in 628 (by decide +kernel) rfl
theorem wv_Re_jumpOnWay : Cond.selects "PegBoards$Reaching" ⟨"PegBoards$Reaching", "jumpOnWay", "(III)I"⟩ ⟨"PegBoards$Reaching", "jumpOnWay", "(III)I"⟩ ∈ mx_WS := mx_in 629 (by decide +kernel) rfl
theorem kv_Pe_140 : mx_cvb "PegBoards" 140 mY_Re_jumpOnWay = true := by
  simp only [mx_cvb, Bool.and_eq_true, decide_eq_true_eq]
  exact ⟨⟨wl_Pe_140, wm_Re_jumpOnWay⟩, wv_Re_jumpOnWay⟩
theorem wi_In : Cond.initialized "java/lang/Integer" ∈ mx_WS := mx_in 57 (by decide +kernel) rfl
theorem wc_In_bitCount : Cond.code ⟨"java/lang/Integer", "bitCount", "(I)I"⟩ prog_14_method_49_code 1 (some .int) ∈ mx_WS := mx_in 633 (by decide +kernel) rfl
theorem kd_In_bitCount : mx_cdb mY_In_bitCount 1 = true := by
  simp only [mx_cdb, Bool.and_eq_true, decide_eq_true_eq]
  exact ⟨⟨⟨⟨⟨wi_In, wc_In_bitCount⟩, by decide +kernel⟩, by decide +kernel⟩, by decide +kernel⟩, by decide +kernel⟩
theorem wl_Re_84 : Cond.methodLink "PegBoards$Reaching" 84 ⟨"java/lang/Integer", "bitCount", "(I)I"⟩ ∈ mx_WS := mx_in 631 (by decide +kernel) rfl
theorem wt_In_bitCount : Cond.static ⟨"java/lang/Integer", "bitCount", "(I)I"⟩ ∈ mx_WS := mx_in 632 (by decide +kernel) rfl
theorem ks_Re_84 : mx_csb "PegBoards$Reaching" 84 mY_In_bitCount = true := by
  simp only [mx_csb, Bool.and_eq_true, decide_eq_true_eq]
  exact ⟨wl_Re_84, wt_In_bitCount⟩
theorem wc_Pe_moves : Cond.code ⟨"PegBoards", "moves", "(I)I"⟩ prog_1_method_12_code 2 (some .int) ∈ mx_WS := mx_in 643 (by decide +kernel) rfl
theorem kd_Pe_moves : mx_cdb mY_Pe_moves 1 = true := by
  simp only [mx_cdb, Bool.and_eq_true, decide_eq_true_eq]
  exact ⟨⟨⟨⟨⟨wi_Pe, wc_Pe_moves⟩, by decide +kernel⟩, by decide +kernel⟩, by decide +kernel⟩, by decide +kernel⟩
theorem wl_La_43 : Cond.methodLink "PegBoardsLaw" 43 ⟨"PegBoards", "moves", "(I)I"⟩ ∈ mx_WS := mx_in 640 (by decide +kernel) rfl
theorem wm_Pe_moves : Cond.instanceMethod ⟨"PegBoards", "moves", "(I)I"⟩ ∈ mx_WS := mx_in 641 (by decide +kernel) rfl
theorem wv_Pe_moves : Cond.selects "PegBoards" ⟨"PegBoards", "moves", "(I)I"⟩ ⟨"PegBoards", "moves", "(I)I"⟩ ∈ mx_WS := mx_in 642 (by decide +kernel) rfl
theorem kv_La_43 : mx_cvb "PegBoardsLaw" 43 mY_Pe_moves = true := by
  simp only [mx_cvb, Bool.and_eq_true, decide_eq_true_eq]
  exact ⟨⟨wl_La_43, wm_Pe_moves⟩, wv_Pe_moves⟩
theorem wc_Re_fewestMoves : Cond.code ⟨"PegBoards$Reaching", "fewestMoves", "(I)I"⟩ prog_5_method_9_code 3 (some .int) ∈ mx_WS := mx_in 647 (by decide +kernel) rfl
theorem kd_Re_fewestMoves : mx_cdb mY_Re_fewestMoves 1 = true := by
  simp only [mx_cdb, Bool.and_eq_true, decide_eq_true_eq]
  exact ⟨⟨⟨⟨⟨wi_Re, wc_Re_fewestMoves⟩, by decide +kernel⟩, by decide +kernel⟩, by decide +kernel⟩, by decide +kernel⟩
theorem wl_Pe_144 : Cond.methodLink "PegBoards" 144 ⟨"PegBoards$Reaching", "fewestMoves", "(I)I"⟩ ∈ mx_WS := mx_in 644 (by decide +kernel) rfl
theorem wm_Re_fewestMoves : Cond.instanceMethod ⟨"PegBoards$Reaching", "fewestMoves", "(I)I"⟩ ∈ mx_WS := mx_in 645 (by decide +kernel) rfl
theorem wv_Re_fewestMoves : Cond.selects "PegBoards$Reaching" ⟨"PegBoards$Reaching", "fewestMoves", "(I)I"⟩ ⟨"PegBoards$Reaching", "fewestMoves", "(I)I"⟩ ∈ mx_WS := mx_in 646 (by decide +kernel) rfl
theorem kv_Pe_144 : mx_cvb "PegBoards" 144 mY_Re_fewestMoves = true := by
  simp only [mx_cvb, Bool.and_eq_true, decide_eq_true_eq]
  exact ⟨⟨wl_Pe_144, wm_Re_fewestMoves⟩, wv_Re_fewestMoves⟩
theorem wc_Pe_classes : Cond.code ⟨"PegBoards", "classes", "(I)I"⟩ prog_1_method_13_code 2 (some .int) ∈ mx_WS := mx_in 654 (by decide +kernel) rfl
theorem kd_Pe_classes : mx_cdb mY_Pe_classes 1 = true := by
  simp only [mx_cdb, Bool.and_eq_true, decide_eq_true_eq]
  exact ⟨⟨⟨⟨⟨wi_Pe, wc_Pe_classes⟩, by decide +kernel⟩, by decide +kernel⟩, by decide +kernel⟩, by decide +kernel⟩
theorem wl_La_46 : Cond.methodLink "PegBoardsLaw" 46 ⟨"PegBoards", "classes", "(I)I"⟩ ∈ mx_WS := mx_in 651 (by decide +kernel) rfl
theorem wm_Pe_classes : Cond.instanceMethod ⟨"PegBoards", "classes", "(I)I"⟩ ∈ mx_WS := mx_in 652 (by decide +kernel) rfl
theorem wv_Pe_classes : Cond.selects "PegBoards" ⟨"PegBoards", "classes", "(I)I"⟩ ⟨"PegBoards", "classes", "(I)I"⟩ ∈ mx_WS := mx_in 653 (by decide +kernel) rfl
theorem kv_La_46 : mx_cvb "PegBoardsLaw" 46 mY_Pe_classes = true := by
  simp only [mx_cvb, Bool.and_eq_true, decide_eq_true_eq]
  exact ⟨⟨wl_La_46, wm_Pe_classes⟩, wv_Pe_classes⟩
theorem wc_Re_differentLeasts : Cond.code ⟨"PegBoards$Reaching", "differentLeasts", "(LPegBoards$Symmetries;)I"⟩ prog_5_method_11_code 3 (some .int) ∈ mx_WS := mx_in 658 (by decide +kernel) rfl
theorem kd_Re_differentLeasts : mx_cdb mY_Re_differentLeasts 1 = true := by
  simp only [mx_cdb, Bool.and_eq_true, decide_eq_true_eq]
  exact ⟨⟨⟨⟨⟨wi_Re, wc_Re_differentLeasts⟩, by decide +kernel⟩, by decide +kernel⟩, by decide +kernel⟩, by decide +kernel⟩
theorem wl_Pe_147 : Cond.methodLink "PegBoards" 147 ⟨"PegBoards$Reaching", "differentLeasts", "(LPegBoards$Symmetries;)I"⟩ ∈ mx_WS := mx_in 655 (by decide +kernel) rfl
theorem wm_Re_differentLeasts : Cond.instanceMethod ⟨"PegBoards$Reaching", "differentLeasts", "(LPegBoards$Symmetries;)I"⟩ ∈ mx_WS := mx_in 656 (by decide +kernel) rfl
theorem wv_Re_differentLeasts : Cond.selects "PegBoards$Reaching" ⟨"PegBoards$Reaching", "differentLeasts", "(LPegBoards$Symmetries;)I"⟩ ⟨"PegBoards$Reaching", "differentLeasts", "(LPegBoards$Symmetries;)I"⟩ ∈ mx_WS := mx_in 657 (by decide +kernel) rfl
theorem kv_Pe_147 : mx_cvb "PegBoards" 147 mY_Re_differentLeasts = true := by
  simp only [mx_cvb, Bool.and_eq_true, decide_eq_true_eq]
  exact ⟨⟨wl_Pe_147, wm_Re_differentLeasts⟩, wv_Re_differentLeasts⟩
theorem wc_Sy_leastOf : Cond.code ⟨"PegBoards$Symmetries", "leastOf", "(I)I"⟩ prog_6_method_10_code 4 (some .int) ∈ mx_WS := mx_in 662 (by decide +kernel) rfl
theorem kd_Sy_leastOf : mx_cdb mY_Sy_leastOf 1 = true := by
  simp only [mx_cdb, Bool.and_eq_true, decide_eq_true_eq]
  exact ⟨⟨⟨⟨⟨wi_Sy, wc_Sy_leastOf⟩, by decide +kernel⟩, by decide +kernel⟩, by decide +kernel⟩, by decide +kernel⟩
theorem wl_Re_89 : Cond.methodLink "PegBoards$Reaching" 89 ⟨"PegBoards$Symmetries", "leastOf", "(I)I"⟩ ∈ mx_WS := mx_in 659 (by decide +kernel) rfl
theorem wm_Sy_leastOf : Cond.instanceMethod ⟨"PegBoards$Symmetries", "leastOf", "(I)I"⟩ ∈ mx_WS := mx_in 660 (by decide +kernel) rfl
theorem wv_Sy_leastOf : Cond.selects "PegBoards$Symmetries" ⟨"PegBoards$Symmetries", "leastOf", "(I)I"⟩ ⟨"PegBoards$Symmetries", "leastOf", "(I)I"⟩ ∈ mx_WS := mx_in 661 (by decide +kernel) rfl
theorem kv_Re_89 : mx_cvb "PegBoards$Reaching" 89 mY_Sy_leastOf = true := by
  simp only [mx_cvb, Bool.and_eq_true, decide_eq_true_eq]
  exact ⟨⟨wl_Re_89, wm_Sy_leastOf⟩, wv_Sy_leastOf⟩
theorem wc_Sy_imageOf : Cond.code ⟨"PegBoards$Symmetries", "imageOf", "(II)I"⟩ prog_6_method_11_code 5 (some .int) ∈ mx_WS := mx_in 666 (by decide +kernel) rfl
theorem kd_Sy_imageOf : mx_cdb mY_Sy_imageOf 2 = true := by
  simp only [mx_cdb, Bool.and_eq_true, decide_eq_true_eq]
  exact ⟨⟨⟨⟨⟨wi_Sy, wc_Sy_imageOf⟩, by decide +kernel⟩, by decide +kernel⟩, by decide +kernel⟩, by decide +kernel⟩
theorem wl_Sy_76 : Cond.methodLink "PegBoards$Symmetries" 76 ⟨"PegBoards$Symmetries", "imageOf", "(II)I"⟩ ∈ mx_WS := mx_in 663 (by decide +kernel) rfl
theorem wm_Sy_imageOf : Cond.instanceMethod ⟨"PegBoards$Symmetries", "imageOf", "(II)I"⟩ ∈ mx_WS := mx_in 665 (by decide +kernel) rfl
theorem wv_Sy_imageOf : Cond.selects "PegBoards$Symmetries" ⟨"PegBoards$Symmetries", "imageOf", "(II)I"⟩ ⟨"PegBoards$Symmetries", "imageOf", "(II)I"⟩ ∈ mx_WS := mx_in 15 (by decide +kernel) rfl
theorem kv_Sy_76 : mx_cvb "PegBoards$Symmetries" 76 mY_Sy_imageOf = true := by
  simp only [mx_cvb, Bool.and_eq_true, decide_eq_true_eq]
  exact ⟨⟨wl_Sy_76, wm_Sy_imageOf⟩, wv_Sy_imageOf⟩
theorem wn_Sy_84 : Cond.methodLinkNest "PegBoards$Symmetries" 84 ⟨"PegBoards", "contains", "(II)Z"⟩ "PegBoards" ∈ mx_NW := mx_inN 667 (by decide +kernel) rfl
theorem kn_Sy_84 : mx_cnb "PegBoards$Symmetries" 84 mY_Pe_contains = true := by
  simp only [mx_cnb, Bool.and_eq_true, decide_eq_true_eq]
  exact ⟨wn_Sy_84, wt_Pe_contains⟩
theorem wl_Sy_79 : Cond.methodLink "PegBoards$Symmetries" 79 ⟨"java/lang/Math", "min", "(II)I"⟩ ∈ mx_WS := mx_in 668 (by decide +kernel) rfl
theorem ks_Sy_79 : mx_csb "PegBoards$Symmetries" 79 mY_Ma_min = true := by
  simp only [mx_csb, Bool.and_eq_true, decide_eq_true_eq]
  exact ⟨wl_Sy_79, wt_Ma_min⟩
theorem wc_Pe_image : Cond.code ⟨"PegBoards", "image", "(II)I"⟩ prog_1_method_15_code 3 (some .int) ∈ mx_WS := mx_in 675 (by decide +kernel) rfl
theorem kd_Pe_image : mx_cdb mY_Pe_image 2 = true := by
  simp only [mx_cdb, Bool.and_eq_true, decide_eq_true_eq]
  exact ⟨⟨⟨⟨⟨wi_Pe, wc_Pe_image⟩, by decide +kernel⟩, by decide +kernel⟩, by decide +kernel⟩, by decide +kernel⟩
theorem wl_La_49 : Cond.methodLink "PegBoardsLaw" 49 ⟨"PegBoards", "image", "(II)I"⟩ ∈ mx_WS := mx_in 672 (by decide +kernel) rfl
theorem wm_Pe_image : Cond.instanceMethod ⟨"PegBoards", "image", "(II)I"⟩ ∈ mx_WS := mx_in 673 (by decide +kernel) rfl
theorem wv_Pe_image : Cond.selects "PegBoards" ⟨"PegBoards", "image", "(II)I"⟩ ⟨"PegBoards", "image", "(II)I"⟩ ∈ mx_WS := mx_in 674 (by decide +kernel) rfl
theorem kv_La_49 : mx_cvb "PegBoardsLaw" 49 mY_Pe_image = true := by
  simp only [mx_cvb, Bool.and_eq_true, decide_eq_true_eq]
  exact ⟨⟨wl_La_49, wm_Pe_image⟩, wv_Pe_image⟩
theorem wc_Pe_requireHole : Cond.code ⟨"PegBoards", "requireHole", "(I)V"⟩ prog_1_method_25_code 2 none ∈ mx_WS := mx_in 680 (by decide +kernel) rfl
theorem kd_Pe_requireHole : mx_cdb mY_Pe_requireHole 1 = true := by
  simp only [mx_cdb, Bool.and_eq_true, decide_eq_true_eq]
  exact ⟨⟨⟨⟨⟨wi_Pe, wc_Pe_requireHole⟩, by decide +kernel⟩, by decide +kernel⟩, by decide +kernel⟩, by decide +kernel⟩
theorem wl_Pe_154 : Cond.methodLink "PegBoards" 154 ⟨"PegBoards", "requireHole", "(I)V"⟩ ∈ mx_WS := mx_in 677 (by decide +kernel) rfl
theorem wm_Pe_requireHole : Cond.instanceMethod ⟨"PegBoards", "requireHole", "(I)V"⟩ ∈ mx_WS := mx_in 679 (by decide +kernel) rfl
theorem wv_Pe_requireHole : Cond.selects "PegBoards" ⟨"PegBoards", "requireHole", "(I)V"⟩ ⟨"PegBoards", "requireHole", "(I)V"⟩ ∈ mx_WS := mx_in 16 (by decide +kernel) rfl
theorem kv_Pe_154 : mx_cvb "PegBoards" 154 mY_Pe_requireHole = true := by
  simp only [mx_cvb, Bool.and_eq_true, decide_eq_true_eq]
  exact ⟨⟨wl_Pe_154, wm_Pe_requireHole⟩, wv_Pe_requireHole⟩
theorem wl_Pe_190 : Cond.methodLink "PegBoards" 190 ⟨"PegBoards$Board", "holes", "()I"⟩ ∈ mx_WS := mx_in 681 (by decide +kernel) rfl
theorem kv_Pe_190 : mx_cvb "PegBoards" 190 mY_Bo_holes = true := by
  simp only [mx_cvb, Bool.and_eq_true, decide_eq_true_eq]
  exact ⟨⟨wl_Pe_190, wm_Bo_holes⟩, wv_Bo_holes⟩
theorem wc_Sy_holeOf : Cond.code ⟨"PegBoards$Symmetries", "holeOf", "(II)I"⟩ prog_6_method_9_code 3 (some .int) ∈ mx_WS := mx_in 686 (by decide +kernel) rfl
theorem kd_Sy_holeOf : mx_cdb mY_Sy_holeOf 2 = true := by
  simp only [mx_cdb, Bool.and_eq_true, decide_eq_true_eq]
  exact ⟨⟨⟨⟨⟨wi_Sy, wc_Sy_holeOf⟩, by decide +kernel⟩, by decide +kernel⟩, by decide +kernel⟩, by decide +kernel⟩
theorem wl_Pe_157 : Cond.methodLink "PegBoards" 157 ⟨"PegBoards$Symmetries", "holeOf", "(II)I"⟩ ∈ mx_WS := mx_in 683 (by decide +kernel) rfl
theorem wm_Sy_holeOf : Cond.instanceMethod ⟨"PegBoards$Symmetries", "holeOf", "(II)I"⟩ ∈ mx_WS := mx_in 684 (by decide +kernel) rfl
theorem wv_Sy_holeOf : Cond.selects "PegBoards$Symmetries" ⟨"PegBoards$Symmetries", "holeOf", "(II)I"⟩ ⟨"PegBoards$Symmetries", "holeOf", "(II)I"⟩ ∈ mx_WS := mx_in 685 (by decide +kernel) rfl
theorem kv_Pe_157 : mx_cvb "PegBoards" 157 mY_Sy_holeOf = true := by
  simp only [mx_cvb, Bool.and_eq_true, decide_eq_true_eq]
  exact ⟨⟨wl_Pe_157, wm_Sy_holeOf⟩, wv_Sy_holeOf⟩
theorem wc_Pe_least : Cond.code ⟨"PegBoards", "least", "(I)I"⟩ prog_1_method_16_code 2 (some .int) ∈ mx_WS := mx_in 693 (by decide +kernel) rfl
theorem kd_Pe_least : mx_cdb mY_Pe_least 1 = true := by
  simp only [mx_cdb, Bool.and_eq_true, decide_eq_true_eq]
  exact ⟨⟨⟨⟨⟨wi_Pe, wc_Pe_least⟩, by decide +kernel⟩, by decide +kernel⟩, by decide +kernel⟩, by decide +kernel⟩
theorem wl_La_52 : Cond.methodLink "PegBoardsLaw" 52 ⟨"PegBoards", "least", "(I)I"⟩ ∈ mx_WS := mx_in 690 (by decide +kernel) rfl
theorem wm_Pe_least : Cond.instanceMethod ⟨"PegBoards", "least", "(I)I"⟩ ∈ mx_WS := mx_in 691 (by decide +kernel) rfl
theorem wv_Pe_least : Cond.selects "PegBoards" ⟨"PegBoards", "least", "(I)I"⟩ ⟨"PegBoards", "least", "(I)I"⟩ ∈ mx_WS := mx_in 692 (by decide +kernel) rfl
theorem kv_La_52 : mx_cvb "PegBoardsLaw" 52 mY_Pe_least = true := by
  simp only [mx_cvb, Bool.and_eq_true, decide_eq_true_eq]
  exact ⟨⟨wl_La_52, wm_Pe_least⟩, wv_Pe_least⟩
theorem wl_Pe_163 : Cond.methodLink "PegBoards" 163 ⟨"PegBoards$Symmetries", "leastOf", "(I)I"⟩ ∈ mx_WS := mx_in 694 (by decide +kernel) rfl
theorem kv_Pe_163 : mx_cvb "PegBoards" 163 mY_Sy_leastOf = true := by
  simp only [mx_cvb, Bool.and_eq_true, decide_eq_true_eq]
  exact ⟨⟨wl_Pe_163, wm_Sy_leastOf⟩, wv_Sy_leastOf⟩
theorem wc_Pe_parity : Cond.code ⟨"PegBoards", "parity", "(I)I"⟩ prog_1_method_17_code 2 (some .int) ∈ mx_WS := mx_in 701 (by decide +kernel) rfl
theorem kd_Pe_parity : mx_cdb mY_Pe_parity 1 = true := by
  simp only [mx_cdb, Bool.and_eq_true, decide_eq_true_eq]
  exact ⟨⟨⟨⟨⟨wi_Pe, wc_Pe_parity⟩, by decide +kernel⟩, by decide +kernel⟩, by decide +kernel⟩, by decide +kernel⟩
theorem wl_La_55 : Cond.methodLink "PegBoardsLaw" 55 ⟨"PegBoards", "parity", "(I)I"⟩ ∈ mx_WS := mx_in 698 (by decide +kernel) rfl
theorem wm_Pe_parity : Cond.instanceMethod ⟨"PegBoards", "parity", "(I)I"⟩ ∈ mx_WS := mx_in 699 (by decide +kernel) rfl
theorem wv_Pe_parity : Cond.selects "PegBoards" ⟨"PegBoards", "parity", "(I)I"⟩ ⟨"PegBoards", "parity", "(I)I"⟩ ∈ mx_WS := mx_in 700 (by decide +kernel) rfl
theorem kv_La_55 : mx_cvb "PegBoardsLaw" 55 mY_Pe_parity = true := by
  simp only [mx_cvb, Bool.and_eq_true, decide_eq_true_eq]
  exact ⟨⟨wl_La_55, wm_Pe_parity⟩, wv_Pe_parity⟩
theorem wl_Pe_166 : Cond.methodLink "PegBoards" 166 ⟨"PegBoards$Board", "isTriangular", "()Z"⟩ ∈ mx_WS := mx_in 702 (by decide +kernel) rfl
theorem kv_Pe_166 : mx_cvb "PegBoards" 166 mY_Bo_isTriangular = true := by
  simp only [mx_cvb, Bool.and_eq_true, decide_eq_true_eq]
  exact ⟨⟨wl_Pe_166, wm_Bo_isTriangular⟩, wv_Bo_isTriangular⟩
theorem wc_Bo_classOf : Cond.code ⟨"PegBoards$Board", "classOf", "(I)I"⟩ prog_2_method_16_code 6 (some .int) ∈ mx_WS := mx_in 706 (by decide +kernel) rfl
theorem kd_Bo_classOf : mx_cdb mY_Bo_classOf 1 = true := by
  simp only [mx_cdb, Bool.and_eq_true, decide_eq_true_eq]
  exact ⟨⟨⟨⟨⟨wi_Bo, wc_Bo_classOf⟩, by decide +kernel⟩, by decide +kernel⟩, by decide +kernel⟩, by decide +kernel⟩
theorem wl_Pe_169 : Cond.methodLink "PegBoards" 169 ⟨"PegBoards$Board", "classOf", "(I)I"⟩ ∈ mx_WS := mx_in 703 (by decide +kernel) rfl
theorem wm_Bo_classOf : Cond.instanceMethod ⟨"PegBoards$Board", "classOf", "(I)I"⟩ ∈ mx_WS := mx_in 704 (by decide +kernel) rfl
theorem wv_Bo_classOf : Cond.selects "PegBoards$Board" ⟨"PegBoards$Board", "classOf", "(I)I"⟩ ⟨"PegBoards$Board", "classOf", "(I)I"⟩ ∈ mx_WS := mx_in 705 (by decide +kernel) rfl
theorem kv_Pe_169 : mx_cvb "PegBoards" 169 mY_Bo_classOf = true := by
  simp only [mx_cvb, Bool.and_eq_true, decide_eq_true_eq]
  exact ⟨⟨wl_Pe_169, wm_Bo_classOf⟩, wv_Bo_classOf⟩
theorem wn_Bo_50 : Cond.methodLinkNest "PegBoards$Board" 50 ⟨"PegBoards", "contains", "(II)Z"⟩ "PegBoards" ∈ mx_NW := mx_inN 707 (by decide +kernel) rfl
theorem kn_Bo_50 : mx_cnb "PegBoards$Board" 50 mY_Pe_contains = true := by
  simp only [mx_cnb, Bool.and_eq_true, decide_eq_true_eq]
  exact ⟨wn_Bo_50, wt_Pe_contains⟩
theorem wc_Bo_colours : Cond.code ⟨"PegBoards$Board", "colours", "(I)I"⟩ prog_2_method_17_code 1 (some .int) ∈ mx_WS := mx_in 710 (by decide +kernel) rfl
theorem kd_Bo_colours : mx_cdb mY_Bo_colours 1 = true := by
  simp only [mx_cdb, Bool.and_eq_true, decide_eq_true_eq]
  exact ⟨⟨⟨⟨⟨wi_Bo, wc_Bo_colours⟩, by decide +kernel⟩, by decide +kernel⟩, by decide +kernel⟩, by decide +kernel⟩
theorem wl_Bo_53 : Cond.methodLink "PegBoards$Board" 53 ⟨"PegBoards$Board", "colours", "(I)I"⟩ ∈ mx_WS := mx_in 708 (by decide +kernel) rfl
theorem wt_Bo_colours : Cond.static ⟨"PegBoards$Board", "colours", "(I)I"⟩ ∈ mx_WS := mx_in 709 (by decide +kernel) rfl
theorem ks_Bo_53 : mx_csb "PegBoards$Board" 53 mY_Bo_colours = true := by
  simp only [mx_csb, Bool.and_eq_true, decide_eq_true_eq]
  exact ⟨wl_Bo_53, wt_Bo_colours⟩
theorem wc_Pe_weight : Cond.code ⟨"PegBoards", "weight", "(II)V"⟩ prog_1_method_18_code 3 none ∈ mx_WS := mx_in 717 (by decide +kernel) rfl
theorem kd_Pe_weight : mx_cdb mY_Pe_weight 2 = true := by
  simp only [mx_cdb, Bool.and_eq_true, decide_eq_true_eq]
  exact ⟨⟨⟨⟨⟨wi_Pe, wc_Pe_weight⟩, by decide +kernel⟩, by decide +kernel⟩, by decide +kernel⟩, by decide +kernel⟩
theorem wl_La_58 : Cond.methodLink "PegBoardsLaw" 58 ⟨"PegBoards", "weight", "(II)V"⟩ ∈ mx_WS := mx_in 714 (by decide +kernel) rfl
theorem wm_Pe_weight : Cond.instanceMethod ⟨"PegBoards", "weight", "(II)V"⟩ ∈ mx_WS := mx_in 715 (by decide +kernel) rfl
theorem wv_Pe_weight : Cond.selects "PegBoards" ⟨"PegBoards", "weight", "(II)V"⟩ ⟨"PegBoards", "weight", "(II)V"⟩ ∈ mx_WS := mx_in 716 (by decide +kernel) rfl
theorem kv_La_58 : mx_cvb "PegBoardsLaw" 58 mY_Pe_weight = true := by
  simp only [mx_cvb, Bool.and_eq_true, decide_eq_true_eq]
  exact ⟨⟨wl_La_58, wm_Pe_weight⟩, wv_Pe_weight⟩
theorem wc_We_put : Cond.code ⟨"PegBoards$Weights", "put", "(II)V"⟩ prog_7_method_3_code 3 none ∈ mx_WS := mx_in 722 (by decide +kernel) rfl
theorem kd_We_put : mx_cdb mY_We_put 2 = true := by
  simp only [mx_cdb, Bool.and_eq_true, decide_eq_true_eq]
  exact ⟨⟨⟨⟨⟨wi_We, wc_We_put⟩, by decide +kernel⟩, by decide +kernel⟩, by decide +kernel⟩, by decide +kernel⟩
theorem wl_Pe_174 : Cond.methodLink "PegBoards" 174 ⟨"PegBoards$Weights", "put", "(II)V"⟩ ∈ mx_WS := mx_in 719 (by decide +kernel) rfl
theorem wm_We_put : Cond.instanceMethod ⟨"PegBoards$Weights", "put", "(II)V"⟩ ∈ mx_WS := mx_in 720 (by decide +kernel) rfl
theorem wv_We_put : Cond.selects "PegBoards$Weights" ⟨"PegBoards$Weights", "put", "(II)V"⟩ ⟨"PegBoards$Weights", "put", "(II)V"⟩ ∈ mx_WS := mx_in 721 (by decide +kernel) rfl
theorem kv_Pe_174 : mx_cvb "PegBoards" 174 mY_We_put = true := by
  simp only [mx_cvb, Bool.and_eq_true, decide_eq_true_eq]
  exact ⟨⟨wl_Pe_174, wm_We_put⟩, wv_We_put⟩
theorem wc_Pe_weights : Cond.code ⟨"PegBoards", "weights", "(I)I"⟩ prog_1_method_19_code 2 (some .int) ∈ mx_WS := mx_in 729 (by decide +kernel) rfl
theorem kd_Pe_weights : mx_cdb mY_Pe_weights 1 = true := by
  simp only [mx_cdb, Bool.and_eq_true, decide_eq_true_eq]
  exact ⟨⟨⟨⟨⟨wi_Pe, wc_Pe_weights⟩, by decide +kernel⟩, by decide +kernel⟩, by decide +kernel⟩, by decide +kernel⟩
theorem wl_La_62 : Cond.methodLink "PegBoardsLaw" 62 ⟨"PegBoards", "weights", "(I)I"⟩ ∈ mx_WS := mx_in 726 (by decide +kernel) rfl
theorem wm_Pe_weights : Cond.instanceMethod ⟨"PegBoards", "weights", "(I)I"⟩ ∈ mx_WS := mx_in 727 (by decide +kernel) rfl
theorem wv_Pe_weights : Cond.selects "PegBoards" ⟨"PegBoards", "weights", "(I)I"⟩ ⟨"PegBoards", "weights", "(I)I"⟩ ∈ mx_WS := mx_in 728 (by decide +kernel) rfl
theorem kv_La_62 : mx_cvb "PegBoardsLaw" 62 mY_Pe_weights = true := by
  simp only [mx_cvb, Bool.and_eq_true, decide_eq_true_eq]
  exact ⟨⟨wl_La_62, wm_Pe_weights⟩, wv_Pe_weights⟩
theorem wc_We_hold : Cond.code ⟨"PegBoards$Weights", "hold", "(LPegBoards$Jumps;)Z"⟩ prog_7_method_6_code 3 (some .boolean) ∈ mx_WS := mx_in 733 (by decide +kernel) rfl
theorem kd_We_hold : mx_cdb mY_We_hold 1 = true := by
  simp only [mx_cdb, Bool.and_eq_true, decide_eq_true_eq]
  exact ⟨⟨⟨⟨⟨wi_We, wc_We_hold⟩, by decide +kernel⟩, by decide +kernel⟩, by decide +kernel⟩, by decide +kernel⟩
theorem wl_Pe_178 : Cond.methodLink "PegBoards" 178 ⟨"PegBoards$Weights", "hold", "(LPegBoards$Jumps;)Z"⟩ ∈ mx_WS := mx_in 730 (by decide +kernel) rfl
theorem wm_We_hold : Cond.instanceMethod ⟨"PegBoards$Weights", "hold", "(LPegBoards$Jumps;)Z"⟩ ∈ mx_WS := mx_in 731 (by decide +kernel) rfl
theorem wv_We_hold : Cond.selects "PegBoards$Weights" ⟨"PegBoards$Weights", "hold", "(LPegBoards$Jumps;)Z"⟩ ⟨"PegBoards$Weights", "hold", "(LPegBoards$Jumps;)Z"⟩ ∈ mx_WS := mx_in 732 (by decide +kernel) rfl
theorem kv_Pe_178 : mx_cvb "PegBoards" 178 mY_We_hold = true := by
  simp only [mx_cvb, Bool.and_eq_true, decide_eq_true_eq]
  exact ⟨⟨wl_Pe_178, wm_We_hold⟩, wv_We_hold⟩
theorem wl_We_28 : Cond.methodLink "PegBoards$Weights" 28 ⟨"PegBoards$Jumps", "size", "()I"⟩ ∈ mx_WS := mx_in 734 (by decide +kernel) rfl
theorem kv_We_28 : mx_cvb "PegBoards$Weights" 28 mY_Ju_size = true := by
  simp only [mx_cvb, Bool.and_eq_true, decide_eq_true_eq]
  exact ⟨⟨wl_We_28, wm_Ju_size⟩, wv_Ju_size⟩
theorem wl_We_34 : Cond.methodLink "PegBoards$Weights" 34 ⟨"PegBoards$Jumps", "to", "(I)I"⟩ ∈ mx_WS := mx_in 735 (by decide +kernel) rfl
theorem kv_We_34 : mx_cvb "PegBoards$Weights" 34 mY_Ju_to = true := by
  simp only [mx_cvb, Bool.and_eq_true, decide_eq_true_eq]
  exact ⟨⟨wl_We_34, wm_Ju_to⟩, wv_Ju_to⟩
theorem wl_We_38 : Cond.methodLink "PegBoards$Weights" 38 ⟨"PegBoards$Jumps", "from", "(I)I"⟩ ∈ mx_WS := mx_in 736 (by decide +kernel) rfl
theorem kv_We_38 : mx_cvb "PegBoards$Weights" 38 mY_Ju_from = true := by
  simp only [mx_cvb, Bool.and_eq_true, decide_eq_true_eq]
  exact ⟨⟨wl_We_38, wm_Ju_from⟩, wv_Ju_from⟩
theorem wl_We_41 : Cond.methodLink "PegBoards$Weights" 41 ⟨"PegBoards$Jumps", "over", "(I)I"⟩ ∈ mx_WS := mx_in 737 (by decide +kernel) rfl
theorem kv_We_41 : mx_cvb "PegBoards$Weights" 41 mY_Ju_over = true := by
  simp only [mx_cvb, Bool.and_eq_true, decide_eq_true_eq]
  exact ⟨⟨wl_We_41, wm_Ju_over⟩, wv_Ju_over⟩
theorem wc_We_sumOf : Cond.code ⟨"PegBoards$Weights", "sumOf", "(I)I"⟩ prog_7_method_5_code 4 (some .int) ∈ mx_WS := mx_in 741 (by decide +kernel) rfl
theorem kd_We_sumOf : mx_cdb mY_We_sumOf 1 = true := by
  simp only [mx_cdb, Bool.and_eq_true, decide_eq_true_eq]
  exact ⟨⟨⟨⟨⟨wi_We, wc_We_sumOf⟩, by decide +kernel⟩, by decide +kernel⟩, by decide +kernel⟩, by decide +kernel⟩
theorem wl_Pe_182 : Cond.methodLink "PegBoards" 182 ⟨"PegBoards$Weights", "sumOf", "(I)I"⟩ ∈ mx_WS := mx_in 738 (by decide +kernel) rfl
theorem wm_We_sumOf : Cond.instanceMethod ⟨"PegBoards$Weights", "sumOf", "(I)I"⟩ ∈ mx_WS := mx_in 739 (by decide +kernel) rfl
theorem wv_We_sumOf : Cond.selects "PegBoards$Weights" ⟨"PegBoards$Weights", "sumOf", "(I)I"⟩ ⟨"PegBoards$Weights", "sumOf", "(I)I"⟩ ∈ mx_WS := mx_in 740 (by decide +kernel) rfl
theorem kv_Pe_182 : mx_cvb "PegBoards" 182 mY_We_sumOf = true := by
  simp only [mx_cvb, Bool.and_eq_true, decide_eq_true_eq]
  exact ⟨⟨wl_Pe_182, wm_We_sumOf⟩, wv_We_sumOf⟩
theorem wn_We_24 : Cond.methodLinkNest "PegBoards$Weights" 24 ⟨"PegBoards", "contains", "(II)Z"⟩ "PegBoards" ∈ mx_NW := mx_inN 742 (by decide +kernel) rfl
theorem kn_We_24 : mx_cnb "PegBoards$Weights" 24 mY_Pe_contains = true := by
  simp only [mx_cnb, Bool.and_eq_true, decide_eq_true_eq]
  exact ⟨wn_We_24, wt_Pe_contains⟩
theorem wc_We_of : Cond.code ⟨"PegBoards$Weights", "of", "(I)I"⟩ prog_7_method_4_code 2 (some .int) ∈ mx_WS := mx_in 747 (by decide +kernel) rfl
theorem kd_We_of : mx_cdb mY_We_of 1 = true := by
  simp only [mx_cdb, Bool.and_eq_true, decide_eq_true_eq]
  exact ⟨⟨⟨⟨⟨wi_We, wc_We_of⟩, by decide +kernel⟩, by decide +kernel⟩, by decide +kernel⟩, by decide +kernel⟩
theorem wl_Pe_187 : Cond.methodLink "PegBoards" 187 ⟨"PegBoards$Weights", "of", "(I)I"⟩ ∈ mx_WS := mx_in 744 (by decide +kernel) rfl
theorem wm_We_of : Cond.instanceMethod ⟨"PegBoards$Weights", "of", "(I)I"⟩ ∈ mx_WS := mx_in 745 (by decide +kernel) rfl
theorem wv_We_of : Cond.selects "PegBoards$Weights" ⟨"PegBoards$Weights", "of", "(I)I"⟩ ⟨"PegBoards$Weights", "of", "(I)I"⟩ ∈ mx_WS := mx_in 746 (by decide +kernel) rfl
theorem kv_Pe_187 : mx_cvb "PegBoards" 187 mY_We_of = true := by
  simp only [mx_cvb, Bool.and_eq_true, decide_eq_true_eq]
  exact ⟨⟨wl_Pe_187, wm_We_of⟩, wv_We_of⟩
theorem wc_Pe_find : Cond.code ⟨"PegBoards", "find", "()Z"⟩ prog_1_method_20_code 1 (some .boolean) ∈ mx_WS := mx_in 754 (by decide +kernel) rfl
theorem kd_Pe_find : mx_cdb mY_Pe_find 0 = true := by
  simp only [mx_cdb, Bool.and_eq_true, decide_eq_true_eq]
  exact ⟨⟨⟨⟨⟨wi_Pe, wc_Pe_find⟩, by decide +kernel⟩, by decide +kernel⟩, by decide +kernel⟩, by decide +kernel⟩
theorem wl_La_65 : Cond.methodLink "PegBoardsLaw" 65 ⟨"PegBoards", "find", "()Z"⟩ ∈ mx_WS := mx_in 751 (by decide +kernel) rfl
theorem wm_Pe_find : Cond.instanceMethod ⟨"PegBoards", "find", "()Z"⟩ ∈ mx_WS := mx_in 752 (by decide +kernel) rfl
theorem wv_Pe_find : Cond.selects "PegBoards" ⟨"PegBoards", "find", "()Z"⟩ ⟨"PegBoards", "find", "()Z"⟩ ∈ mx_WS := mx_in 753 (by decide +kernel) rfl
theorem kv_La_65 : mx_cvb "PegBoardsLaw" 65 mY_Pe_find = true := by
  simp only [mx_cvb, Bool.and_eq_true, decide_eq_true_eq]
  exact ⟨⟨wl_La_65, wm_Pe_find⟩, wv_Pe_find⟩
theorem wc_We_search : Cond.code ⟨"PegBoards$Weights", "search", "(LPegBoards$Jumps;III)Z"⟩ prog_7_method_7_code 5 (some .boolean) ∈ mx_WS := mx_in 759 (by decide +kernel) rfl
theorem kd_We_search : mx_cdb mY_We_search 4 = true := by
  simp only [mx_cdb, Bool.and_eq_true, decide_eq_true_eq]
  exact ⟨⟨⟨⟨⟨wi_We, wc_We_search⟩, by decide +kernel⟩, by decide +kernel⟩, by decide +kernel⟩, by decide +kernel⟩
theorem wl_Pe_195 : Cond.methodLink "PegBoards" 195 ⟨"PegBoards$Weights", "search", "(LPegBoards$Jumps;III)Z"⟩ ∈ mx_WS := mx_in 756 (by decide +kernel) rfl
theorem wm_We_search : Cond.instanceMethod ⟨"PegBoards$Weights", "search", "(LPegBoards$Jumps;III)Z"⟩ ∈ mx_WS := mx_in 757 (by decide +kernel) rfl
theorem wv_We_search : Cond.selects "PegBoards$Weights" ⟨"PegBoards$Weights", "search", "(LPegBoards$Jumps;III)Z"⟩ ⟨"PegBoards$Weights", "search", "(LPegBoards$Jumps;III)Z"⟩ ∈ mx_WS := mx_in 758 (by decide +kernel) rfl
theorem kv_Pe_195 : mx_cvb "PegBoards" 195 mY_We_search = true := by
  simp only [mx_cvb, Bool.and_eq_true, decide_eq_true_eq]
  exact ⟨⟨wl_Pe_195, wm_We_search⟩, wv_We_search⟩
theorem wc_We_tryFrom : Cond.code ⟨"PegBoards$Weights", "tryFrom", "(IILPegBoards$Jumps;III)Z"⟩ prog_7_method_8_code 10 (some .boolean) ∈ mx_WS := mx_in 763 (by decide +kernel) rfl
theorem kd_We_tryFrom : mx_cdb mY_We_tryFrom 6 = true := by
  simp only [mx_cdb, Bool.and_eq_true, decide_eq_true_eq]
  exact ⟨⟨⟨⟨⟨wi_We, wc_We_tryFrom⟩, by decide +kernel⟩, by decide +kernel⟩, by decide +kernel⟩, by decide +kernel⟩
theorem wl_We_44 : Cond.methodLink "PegBoards$Weights" 44 ⟨"PegBoards$Weights", "tryFrom", "(IILPegBoards$Jumps;III)Z"⟩ ∈ mx_WS := mx_in 760 (by decide +kernel) rfl
theorem wm_We_tryFrom : Cond.instanceMethod ⟨"PegBoards$Weights", "tryFrom", "(IILPegBoards$Jumps;III)Z"⟩ ∈ mx_WS := mx_in 762 (by decide +kernel) rfl
theorem wv_We_tryFrom : Cond.selects "PegBoards$Weights" ⟨"PegBoards$Weights", "tryFrom", "(IILPegBoards$Jumps;III)Z"⟩ ⟨"PegBoards$Weights", "tryFrom", "(IILPegBoards$Jumps;III)Z"⟩ ∈ mx_WS := mx_in 17 (by decide +kernel) rfl
theorem kv_We_44 : mx_cvb "PegBoards$Weights" 44 mY_We_tryFrom = true := by
  simp only [mx_cvb, Bool.and_eq_true, decide_eq_true_eq]
  exact ⟨⟨wl_We_44, wm_We_tryFrom⟩, wv_We_tryFrom⟩
theorem wl_We_54 : Cond.methodLink "PegBoards$Weights" 54 ⟨"java/lang/Integer", "bitCount", "(I)I"⟩ ∈ mx_WS := mx_in 764 (by decide +kernel) rfl
theorem ks_We_54 : mx_csb "PegBoards$Weights" 54 mY_In_bitCount = true := by
  simp only [mx_csb, Bool.and_eq_true, decide_eq_true_eq]
  exact ⟨wl_We_54, wt_In_bitCount⟩
theorem wc_We_triedHold : Cond.code ⟨"PegBoards$Weights", "triedHold", "(ILPegBoards$Jumps;)Z"⟩ prog_7_method_9_code 7 (some .boolean) ∈ mx_WS := mx_in 768 (by decide +kernel) rfl
theorem kd_We_triedHold : mx_cdb mY_We_triedHold 2 = true := by
  simp only [mx_cdb, Bool.and_eq_true, decide_eq_true_eq]
  exact ⟨⟨⟨⟨⟨wi_We, wc_We_triedHold⟩, by decide +kernel⟩, by decide +kernel⟩, by decide +kernel⟩, by decide +kernel⟩
theorem wl_We_59 : Cond.methodLink "PegBoards$Weights" 59 ⟨"PegBoards$Weights", "triedHold", "(ILPegBoards$Jumps;)Z"⟩ ∈ mx_WS := mx_in 765 (by decide +kernel) rfl
theorem wm_We_triedHold : Cond.instanceMethod ⟨"PegBoards$Weights", "triedHold", "(ILPegBoards$Jumps;)Z"⟩ ∈ mx_WS := mx_in 767 (by decide +kernel) rfl
theorem wv_We_triedHold : Cond.selects "PegBoards$Weights" ⟨"PegBoards$Weights", "triedHold", "(ILPegBoards$Jumps;)Z"⟩ ⟨"PegBoards$Weights", "triedHold", "(ILPegBoards$Jumps;)Z"⟩ ∈ mx_WS := mx_in 18 (by decide +kernel) rfl
theorem kv_We_59 : mx_cvb "PegBoards$Weights" 59 mY_We_triedHold = true := by
  simp only [mx_cvb, Bool.and_eq_true, decide_eq_true_eq]
  exact ⟨⟨wl_We_59, wm_We_triedHold⟩, wv_We_triedHold⟩
theorem wc_Ma_max : Cond.code ⟨"java/lang/Math", "max", "(II)I"⟩ prog_15_method_65_code 2 (some .int) ∈ mx_WS := mx_in 771 (by decide +kernel) rfl
theorem kd_Ma_max : mx_cdb mY_Ma_max 2 = true := by
  simp only [mx_cdb, Bool.and_eq_true, decide_eq_true_eq]
  exact ⟨⟨⟨⟨⟨wi_Ma, wc_Ma_max⟩, by decide +kernel⟩, by decide +kernel⟩, by decide +kernel⟩, by decide +kernel⟩
theorem wl_We_63 : Cond.methodLink "PegBoards$Weights" 63 ⟨"java/lang/Math", "max", "(II)I"⟩ ∈ mx_WS := mx_in 769 (by decide +kernel) rfl
theorem wt_Ma_max : Cond.static ⟨"java/lang/Math", "max", "(II)I"⟩ ∈ mx_WS := mx_in 770 (by decide +kernel) rfl
theorem ks_We_63 : mx_csb "PegBoards$Weights" 63 mY_Ma_max = true := by
  simp only [mx_csb, Bool.and_eq_true, decide_eq_true_eq]
  exact ⟨wl_We_63, wt_Ma_max⟩
theorem wi_Mo : Cond.initialized "PegBoardsModel" ∈ mx_WS := mx_in 49 (by decide +kernel) rfl
theorem wc_Mo_thrown : Cond.code ⟨"PegBoardsModel", "thrown", "()I"⟩ prog_9_method_2_code 1 (some .int) ∈ mx_WS := mx_in 870 (by decide +kernel) rfl
theorem kd_Mo_thrown : mx_cdb mY_Mo_thrown 0 = true := by
  simp only [mx_cdb, Bool.and_eq_true, decide_eq_true_eq]
  exact ⟨⟨⟨⟨⟨wi_Mo, wc_Mo_thrown⟩, by decide +kernel⟩, by decide +kernel⟩, by decide +kernel⟩, by decide +kernel⟩
theorem wl_La_84 : Cond.methodLink "PegBoardsLaw" 84 ⟨"PegBoardsModel", "thrown", "()I"⟩ ∈ mx_WS := mx_in 867 (by decide +kernel) rfl
theorem wm_Mo_thrown : Cond.instanceMethod ⟨"PegBoardsModel", "thrown", "()I"⟩ ∈ mx_WS := mx_in 868 (by decide +kernel) rfl
theorem wv_Mo_thrown : Cond.selects "PegBoardsModel" ⟨"PegBoardsModel", "thrown", "()I"⟩ ⟨"PegBoardsModel", "thrown", "()I"⟩ ∈ mx_WS := mx_in 869 (by decide +kernel) rfl
theorem kv_La_84 : mx_cvb "PegBoardsLaw" 84 mY_Mo_thrown = true := by
  simp only [mx_cvb, Bool.and_eq_true, decide_eq_true_eq]
  exact ⟨⟨wl_La_84, wm_Mo_thrown⟩, wv_Mo_thrown⟩
theorem wc_Mo_clear : Cond.code ⟨"PegBoardsModel", "clear", "(Z)V"⟩ prog_9_method_3_code 3 none ∈ mx_WS := mx_in 874 (by decide +kernel) rfl
theorem kd_Mo_clear : mx_cdb mY_Mo_clear 1 = true := by
  simp only [mx_cdb, Bool.and_eq_true, decide_eq_true_eq]
  exact ⟨⟨⟨⟨⟨wi_Mo, wc_Mo_clear⟩, by decide +kernel⟩, by decide +kernel⟩, by decide +kernel⟩, by decide +kernel⟩
theorem wl_La_77 : Cond.methodLink "PegBoardsLaw" 77 ⟨"PegBoardsModel", "clear", "(Z)V"⟩ ∈ mx_WS := mx_in 871 (by decide +kernel) rfl
theorem wm_Mo_clear : Cond.instanceMethod ⟨"PegBoardsModel", "clear", "(Z)V"⟩ ∈ mx_WS := mx_in 872 (by decide +kernel) rfl
theorem wv_Mo_clear : Cond.selects "PegBoardsModel" ⟨"PegBoardsModel", "clear", "(Z)V"⟩ ⟨"PegBoardsModel", "clear", "(Z)V"⟩ ∈ mx_WS := mx_in 873 (by decide +kernel) rfl
theorem kv_La_77 : mx_cvb "PegBoardsLaw" 77 mY_Mo_clear = true := by
  simp only [mx_cvb, Bool.and_eq_true, decide_eq_true_eq]
  exact ⟨⟨wl_La_77, wm_Mo_clear⟩, wv_Mo_clear⟩
theorem wc_Mo_hole : Cond.code ⟨"PegBoardsModel", "hole", "(II)I"⟩ prog_9_method_5_code 3 (some .int) ∈ mx_WS := mx_in 878 (by decide +kernel) rfl
theorem kd_Mo_hole : mx_cdb mY_Mo_hole 2 = true := by
  simp only [mx_cdb, Bool.and_eq_true, decide_eq_true_eq]
  exact ⟨⟨⟨⟨⟨wi_Mo, wc_Mo_hole⟩, by decide +kernel⟩, by decide +kernel⟩, by decide +kernel⟩, by decide +kernel⟩
theorem wl_La_83 : Cond.methodLink "PegBoardsLaw" 83 ⟨"PegBoardsModel", "hole", "(II)I"⟩ ∈ mx_WS := mx_in 875 (by decide +kernel) rfl
theorem wm_Mo_hole : Cond.instanceMethod ⟨"PegBoardsModel", "hole", "(II)I"⟩ ∈ mx_WS := mx_in 876 (by decide +kernel) rfl
theorem wv_Mo_hole : Cond.selects "PegBoardsModel" ⟨"PegBoardsModel", "hole", "(II)I"⟩ ⟨"PegBoardsModel", "hole", "(II)I"⟩ ∈ mx_WS := mx_in 877 (by decide +kernel) rfl
theorem kv_La_83 : mx_cvb "PegBoardsLaw" 83 mY_Mo_hole = true := by
  simp only [mx_cvb, Bool.and_eq_true, decide_eq_true_eq]
  exact ⟨⟨wl_La_83, wm_Mo_hole⟩, wv_Mo_hole⟩
theorem wc_Mo_off : Cond.code ⟨"PegBoardsModel", "off", "(II)Z"⟩ prog_9_method_4_code 2 (some .boolean) ∈ mx_WS := mx_in 881 (by decide +kernel) rfl
theorem kd_Mo_off : mx_cdb mY_Mo_off 2 = true := by
  simp only [mx_cdb, Bool.and_eq_true, decide_eq_true_eq]
  exact ⟨⟨⟨⟨⟨wi_Mo, wc_Mo_off⟩, by decide +kernel⟩, by decide +kernel⟩, by decide +kernel⟩, by decide +kernel⟩
theorem wl_Mo_91 : Cond.methodLink "PegBoardsModel" 91 ⟨"PegBoardsModel", "off", "(II)Z"⟩ ∈ mx_WS := mx_in 879 (by decide +kernel) rfl
theorem wt_Mo_off : Cond.static ⟨"PegBoardsModel", "off", "(II)Z"⟩ ∈ mx_WS := mx_in 880 (by decide +kernel) rfl
theorem ks_Mo_91 : mx_csb "PegBoardsModel" 91 mY_Mo_off = true := by
  simp only [mx_csb, Bool.and_eq_true, decide_eq_true_eq]
  exact ⟨wl_Mo_91, wt_Mo_off⟩
theorem wc_Mo_freeze : Cond.code ⟨"PegBoardsModel", "freeze", "()I"⟩ prog_9_method_11_code 6 (some .int) ∈ mx_WS := mx_in 885 (by decide +kernel) rfl
theorem kd_Mo_freeze : mx_cdb mY_Mo_freeze 0 = true := by
  simp only [mx_cdb, Bool.and_eq_true, decide_eq_true_eq]
  exact ⟨⟨⟨⟨⟨wi_Mo, wc_Mo_freeze⟩, by decide +kernel⟩, by decide +kernel⟩, by decide +kernel⟩, by decide +kernel⟩
theorem wl_La_90 : Cond.methodLink "PegBoardsLaw" 90 ⟨"PegBoardsModel", "freeze", "()I"⟩ ∈ mx_WS := mx_in 882 (by decide +kernel) rfl
theorem wm_Mo_freeze : Cond.instanceMethod ⟨"PegBoardsModel", "freeze", "()I"⟩ ∈ mx_WS := mx_in 883 (by decide +kernel) rfl
theorem wv_Mo_freeze : Cond.selects "PegBoardsModel" ⟨"PegBoardsModel", "freeze", "()I"⟩ ⟨"PegBoardsModel", "freeze", "()I"⟩ ∈ mx_WS := mx_in 884 (by decide +kernel) rfl
theorem kv_La_90 : mx_cvb "PegBoardsLaw" 90 mY_Mo_freeze = true := by
  simp only [mx_cvb, Bool.and_eq_true, decide_eq_true_eq]
  exact ⟨⟨wl_La_90, wm_Mo_freeze⟩, wv_Mo_freeze⟩
theorem wc_Mo_turns : Cond.code ⟨"PegBoardsModel", "turns", "()I"⟩ prog_9_method_9_code 1 (some .int) ∈ mx_WS := mx_in 889 (by decide +kernel) rfl
theorem kd_Mo_turns : mx_cdb mY_Mo_turns 0 = true := by
  simp only [mx_cdb, Bool.and_eq_true, decide_eq_true_eq]
  exact ⟨⟨⟨⟨⟨wi_Mo, wc_Mo_turns⟩, by decide +kernel⟩, by decide +kernel⟩, by decide +kernel⟩, by decide +kernel⟩
theorem wl_Mo_95 : Cond.methodLink "PegBoardsModel" 95 ⟨"PegBoardsModel", "turns", "()I"⟩ ∈ mx_WS := mx_in 886 (by decide +kernel) rfl
theorem wm_Mo_turns : Cond.instanceMethod ⟨"PegBoardsModel", "turns", "()I"⟩ ∈ mx_WS := mx_in 888 (by decide +kernel) rfl
theorem wv_Mo_turns : Cond.selects "PegBoardsModel" ⟨"PegBoardsModel", "turns", "()I"⟩ ⟨"PegBoardsModel", "turns", "()I"⟩ ∈ mx_WS := mx_in 19 (by decide +kernel) rfl
theorem kv_Mo_95 : mx_cvb "PegBoardsModel" 95 mY_Mo_turns = true := by
  simp only [mx_cvb, Bool.and_eq_true, decide_eq_true_eq]
  exact ⟨⟨wl_Mo_95, wm_Mo_turns⟩, wv_Mo_turns⟩
theorem wc_Mo_down : Cond.code ⟨"PegBoardsModel", "down", "(I)I"⟩ prog_9_method_7_code 2 (some .int) ∈ mx_WS := mx_in 893 (by decide +kernel) rfl
theorem kd_Mo_down : mx_cdb mY_Mo_down 1 = true := by
  simp only [mx_cdb, Bool.and_eq_true, decide_eq_true_eq]
  exact ⟨⟨⟨⟨⟨wi_Mo, wc_Mo_down⟩, by decide +kernel⟩, by decide +kernel⟩, by decide +kernel⟩, by decide +kernel⟩
theorem wl_Mo_103 : Cond.methodLink "PegBoardsModel" 103 ⟨"PegBoardsModel", "down", "(I)I"⟩ ∈ mx_WS := mx_in 890 (by decide +kernel) rfl
theorem wm_Mo_down : Cond.instanceMethod ⟨"PegBoardsModel", "down", "(I)I"⟩ ∈ mx_WS := mx_in 892 (by decide +kernel) rfl
theorem wv_Mo_down : Cond.selects "PegBoardsModel" ⟨"PegBoardsModel", "down", "(I)I"⟩ ⟨"PegBoardsModel", "down", "(I)I"⟩ ∈ mx_WS := mx_in 20 (by decide +kernel) rfl
theorem kv_Mo_103 : mx_cvb "PegBoardsModel" 103 mY_Mo_down = true := by
  simp only [mx_cvb, Bool.and_eq_true, decide_eq_true_eq]
  exact ⟨⟨wl_Mo_103, wm_Mo_down⟩, wv_Mo_down⟩
theorem wc_Mo_right : Cond.code ⟨"PegBoardsModel", "right", "(I)I"⟩ prog_9_method_8_code 2 (some .int) ∈ mx_WS := mx_in 897 (by decide +kernel) rfl
theorem kd_Mo_right : mx_cdb mY_Mo_right 1 = true := by
  simp only [mx_cdb, Bool.and_eq_true, decide_eq_true_eq]
  exact ⟨⟨⟨⟨⟨wi_Mo, wc_Mo_right⟩, by decide +kernel⟩, by decide +kernel⟩, by decide +kernel⟩, by decide +kernel⟩
theorem wl_Mo_107 : Cond.methodLink "PegBoardsModel" 107 ⟨"PegBoardsModel", "right", "(I)I"⟩ ∈ mx_WS := mx_in 894 (by decide +kernel) rfl
theorem wm_Mo_right : Cond.instanceMethod ⟨"PegBoardsModel", "right", "(I)I"⟩ ∈ mx_WS := mx_in 896 (by decide +kernel) rfl
theorem wv_Mo_right : Cond.selects "PegBoardsModel" ⟨"PegBoardsModel", "right", "(I)I"⟩ ⟨"PegBoardsModel", "right", "(I)I"⟩ ∈ mx_WS := mx_in 21 (by decide +kernel) rfl
theorem kv_Mo_107 : mx_cvb "PegBoardsModel" 107 mY_Mo_right = true := by
  simp only [mx_cvb, Bool.and_eq_true, decide_eq_true_eq]
  exact ⟨⟨wl_Mo_107, wm_Mo_right⟩, wv_Mo_right⟩
theorem wc_Mo_numberAt : Cond.code ⟨"PegBoardsModel", "numberAt", "(II)I"⟩ prog_9_method_6_code 3 (some .int) ∈ mx_WS := mx_in 901 (by decide +kernel) rfl
theorem kd_Mo_numberAt : mx_cdb mY_Mo_numberAt 2 = true := by
  simp only [mx_cdb, Bool.and_eq_true, decide_eq_true_eq]
  exact ⟨⟨⟨⟨⟨wi_Mo, wc_Mo_numberAt⟩, by decide +kernel⟩, by decide +kernel⟩, by decide +kernel⟩, by decide +kernel⟩
theorem wl_Mo_99 : Cond.methodLink "PegBoardsModel" 99 ⟨"PegBoardsModel", "numberAt", "(II)I"⟩ ∈ mx_WS := mx_in 898 (by decide +kernel) rfl
theorem wm_Mo_numberAt : Cond.instanceMethod ⟨"PegBoardsModel", "numberAt", "(II)I"⟩ ∈ mx_WS := mx_in 900 (by decide +kernel) rfl
theorem wv_Mo_numberAt : Cond.selects "PegBoardsModel" ⟨"PegBoardsModel", "numberAt", "(II)I"⟩ ⟨"PegBoardsModel", "numberAt", "(II)I"⟩ ∈ mx_WS := mx_in 22 (by decide +kernel) rfl
theorem kv_Mo_99 : mx_cvb "PegBoardsModel" 99 mY_Mo_numberAt = true := by
  simp only [mx_cvb, Bool.and_eq_true, decide_eq_true_eq]
  exact ⟨⟨wl_Mo_99, wm_Mo_numberAt⟩, wv_Mo_numberAt⟩
theorem wc_Mo_isSymmetry : Cond.code ⟨"PegBoardsModel", "isSymmetry", "(I)Z"⟩ prog_9_method_10_code 12 (some .boolean) ∈ mx_WS := mx_in 905 (by decide +kernel) rfl
theorem kd_Mo_isSymmetry : mx_cdb mY_Mo_isSymmetry 1 = true := by
  simp only [mx_cdb, Bool.and_eq_true, decide_eq_true_eq]
  exact ⟨⟨⟨⟨⟨wi_Mo, wc_Mo_isSymmetry⟩, by decide +kernel⟩, by decide +kernel⟩, by decide +kernel⟩, by decide +kernel⟩
theorem wl_Mo_110 : Cond.methodLink "PegBoardsModel" 110 ⟨"PegBoardsModel", "isSymmetry", "(I)Z"⟩ ∈ mx_WS := mx_in 902 (by decide +kernel) rfl
theorem wm_Mo_isSymmetry : Cond.instanceMethod ⟨"PegBoardsModel", "isSymmetry", "(I)Z"⟩ ∈ mx_WS := mx_in 904 (by decide +kernel) rfl
theorem wv_Mo_isSymmetry : Cond.selects "PegBoardsModel" ⟨"PegBoardsModel", "isSymmetry", "(I)Z"⟩ ⟨"PegBoardsModel", "isSymmetry", "(I)Z"⟩ ∈ mx_WS := mx_in 23 (by decide +kernel) rfl
theorem kv_Mo_110 : mx_cvb "PegBoardsModel" 110 mY_Mo_isSymmetry = true := by
  simp only [mx_cvb, Bool.and_eq_true, decide_eq_true_eq]
  exact ⟨⟨wl_Mo_110, wm_Mo_isSymmetry⟩, wv_Mo_isSymmetry⟩
theorem wc_Mo_at : Cond.code ⟨"PegBoardsModel", "at", "(II)I"⟩ prog_9_method_12_code 3 (some .int) ∈ mx_WS := mx_in 909 (by decide +kernel) rfl
theorem kd_Mo_at : mx_cdb mY_Mo_at 2 = true := by
  simp only [mx_cdb, Bool.and_eq_true, decide_eq_true_eq]
  exact ⟨⟨⟨⟨⟨wi_Mo, wc_Mo_at⟩, by decide +kernel⟩, by decide +kernel⟩, by decide +kernel⟩, by decide +kernel⟩
theorem wl_La_94 : Cond.methodLink "PegBoardsLaw" 94 ⟨"PegBoardsModel", "at", "(II)I"⟩ ∈ mx_WS := mx_in 906 (by decide +kernel) rfl
theorem wm_Mo_at : Cond.instanceMethod ⟨"PegBoardsModel", "at", "(II)I"⟩ ∈ mx_WS := mx_in 907 (by decide +kernel) rfl
theorem wv_Mo_at : Cond.selects "PegBoardsModel" ⟨"PegBoardsModel", "at", "(II)I"⟩ ⟨"PegBoardsModel", "at", "(II)I"⟩ ∈ mx_WS := mx_in 908 (by decide +kernel) rfl
theorem kv_La_94 : mx_cvb "PegBoardsLaw" 94 mY_Mo_at = true := by
  simp only [mx_cvb, Bool.and_eq_true, decide_eq_true_eq]
  exact ⟨⟨wl_La_94, wm_Mo_at⟩, wv_Mo_at⟩
theorem wc_Mo_jump : Cond.code ⟨"PegBoardsModel", "jump", "(II)I"⟩ prog_9_method_15_code 3 (some .int) ∈ mx_WS := mx_in 913 (by decide +kernel) rfl
theorem kd_Mo_jump : mx_cdb mY_Mo_jump 2 = true := by
  simp only [mx_cdb, Bool.and_eq_true, decide_eq_true_eq]
  exact ⟨⟨⟨⟨⟨wi_Mo, wc_Mo_jump⟩, by decide +kernel⟩, by decide +kernel⟩, by decide +kernel⟩, by decide +kernel⟩
theorem wl_La_97 : Cond.methodLink "PegBoardsLaw" 97 ⟨"PegBoardsModel", "jump", "(II)I"⟩ ∈ mx_WS := mx_in 910 (by decide +kernel) rfl
theorem wm_Mo_jump : Cond.instanceMethod ⟨"PegBoardsModel", "jump", "(II)I"⟩ ∈ mx_WS := mx_in 911 (by decide +kernel) rfl
theorem wv_Mo_jump : Cond.selects "PegBoardsModel" ⟨"PegBoardsModel", "jump", "(II)I"⟩ ⟨"PegBoardsModel", "jump", "(II)I"⟩ ∈ mx_WS := mx_in 912 (by decide +kernel) rfl
theorem kv_La_97 : mx_cvb "PegBoardsLaw" 97 mY_Mo_jump = true := by
  simp only [mx_cvb, Bool.and_eq_true, decide_eq_true_eq]
  exact ⟨⟨wl_La_97, wm_Mo_jump⟩, wv_Mo_jump⟩
theorem wc_Mo_noJump : Cond.code ⟨"PegBoardsModel", "noJump", "(I)Z"⟩ prog_9_method_13_code 2 (some .boolean) ∈ mx_WS := mx_in 917 (by decide +kernel) rfl
theorem kd_Mo_noJump : mx_cdb mY_Mo_noJump 1 = true := by
  simp only [mx_cdb, Bool.and_eq_true, decide_eq_true_eq]
  exact ⟨⟨⟨⟨⟨wi_Mo, wc_Mo_noJump⟩, by decide +kernel⟩, by decide +kernel⟩, by decide +kernel⟩, by decide +kernel⟩
theorem wl_Mo_114 : Cond.methodLink "PegBoardsModel" 114 ⟨"PegBoardsModel", "noJump", "(I)Z"⟩ ∈ mx_WS := mx_in 914 (by decide +kernel) rfl
theorem wm_Mo_noJump : Cond.instanceMethod ⟨"PegBoardsModel", "noJump", "(I)Z"⟩ ∈ mx_WS := mx_in 916 (by decide +kernel) rfl
theorem wv_Mo_noJump : Cond.selects "PegBoardsModel" ⟨"PegBoardsModel", "noJump", "(I)Z"⟩ ⟨"PegBoardsModel", "noJump", "(I)Z"⟩ ∈ mx_WS := mx_in 24 (by decide +kernel) rfl
theorem kv_Mo_114 : mx_cvb "PegBoardsModel" 114 mY_Mo_noJump = true := by
  simp only [mx_cvb, Bool.and_eq_true, decide_eq_true_eq]
  exact ⟨⟨wl_Mo_114, wm_Mo_noJump⟩, wv_Mo_noJump⟩
theorem wc_Mo_place : Cond.code ⟨"PegBoardsModel", "place", "(ZI)V"⟩ prog_9_method_16_code 3 none ∈ mx_WS := mx_in 921 (by decide +kernel) rfl
theorem kd_Mo_place : mx_cdb mY_Mo_place 2 = true := by
  simp only [mx_cdb, Bool.and_eq_true, decide_eq_true_eq]
  exact ⟨⟨⟨⟨⟨wi_Mo, wc_Mo_place⟩, by decide +kernel⟩, by decide +kernel⟩, by decide +kernel⟩, by decide +kernel⟩
theorem wl_La_101 : Cond.methodLink "PegBoardsLaw" 101 ⟨"PegBoardsModel", "place", "(ZI)V"⟩ ∈ mx_WS := mx_in 918 (by decide +kernel) rfl
theorem wm_Mo_place : Cond.instanceMethod ⟨"PegBoardsModel", "place", "(ZI)V"⟩ ∈ mx_WS := mx_in 919 (by decide +kernel) rfl
theorem wv_Mo_place : Cond.selects "PegBoardsModel" ⟨"PegBoardsModel", "place", "(ZI)V"⟩ ⟨"PegBoardsModel", "place", "(ZI)V"⟩ ∈ mx_WS := mx_in 920 (by decide +kernel) rfl
theorem kv_La_101 : mx_cvb "PegBoardsLaw" 101 mY_Mo_place = true := by
  simp only [mx_cvb, Bool.and_eq_true, decide_eq_true_eq]
  exact ⟨⟨wl_La_101, wm_Mo_place⟩, wv_Mo_place⟩
theorem wc_Mo_noPosition : Cond.code ⟨"PegBoardsModel", "noPosition", "(I)Z"⟩ prog_9_method_14_code 2 (some .boolean) ∈ mx_WS := mx_in 925 (by decide +kernel) rfl
theorem kd_Mo_noPosition : mx_cdb mY_Mo_noPosition 1 = true := by
  simp only [mx_cdb, Bool.and_eq_true, decide_eq_true_eq]
  exact ⟨⟨⟨⟨⟨wi_Mo, wc_Mo_noPosition⟩, by decide +kernel⟩, by decide +kernel⟩, by decide +kernel⟩, by decide +kernel⟩
theorem wl_Mo_117 : Cond.methodLink "PegBoardsModel" 117 ⟨"PegBoardsModel", "noPosition", "(I)Z"⟩ ∈ mx_WS := mx_in 922 (by decide +kernel) rfl
theorem wm_Mo_noPosition : Cond.instanceMethod ⟨"PegBoardsModel", "noPosition", "(I)Z"⟩ ∈ mx_WS := mx_in 924 (by decide +kernel) rfl
theorem wv_Mo_noPosition : Cond.selects "PegBoardsModel" ⟨"PegBoardsModel", "noPosition", "(I)Z"⟩ ⟨"PegBoardsModel", "noPosition", "(I)Z"⟩ ∈ mx_WS := mx_in 25 (by decide +kernel) rfl
theorem kv_Mo_117 : mx_cvb "PegBoardsModel" 117 mY_Mo_noPosition = true := by
  simp only [mx_cvb, Bool.and_eq_true, decide_eq_true_eq]
  exact ⟨⟨wl_Mo_117, wm_Mo_noPosition⟩, wv_Mo_noPosition⟩
theorem wc_Mo_after : Cond.code ⟨"PegBoardsModel", "after", "(II)I"⟩ prog_9_method_19_code 3 (some .int) ∈ mx_WS := mx_in 929 (by decide +kernel) rfl
theorem kd_Mo_after : mx_cdb mY_Mo_after 2 = true := by
  simp only [mx_cdb, Bool.and_eq_true, decide_eq_true_eq]
  exact ⟨⟨⟨⟨⟨wi_Mo, wc_Mo_after⟩, by decide +kernel⟩, by decide +kernel⟩, by decide +kernel⟩, by decide +kernel⟩
theorem wl_La_104 : Cond.methodLink "PegBoardsLaw" 104 ⟨"PegBoardsModel", "after", "(II)I"⟩ ∈ mx_WS := mx_in 926 (by decide +kernel) rfl
theorem wm_Mo_after : Cond.instanceMethod ⟨"PegBoardsModel", "after", "(II)I"⟩ ∈ mx_WS := mx_in 927 (by decide +kernel) rfl
theorem wv_Mo_after : Cond.selects "PegBoardsModel" ⟨"PegBoardsModel", "after", "(II)I"⟩ ⟨"PegBoardsModel", "after", "(II)I"⟩ ∈ mx_WS := mx_in 928 (by decide +kernel) rfl
theorem kv_La_104 : mx_cvb "PegBoardsLaw" 104 mY_Mo_after = true := by
  simp only [mx_cvb, Bool.and_eq_true, decide_eq_true_eq]
  exact ⟨⟨wl_La_104, wm_Mo_after⟩, wv_Mo_after⟩
theorem wc_Mo_made : Cond.code ⟨"PegBoardsModel", "made", "(II)I"⟩ prog_9_method_18_code 3 (some .int) ∈ mx_WS := mx_in 933 (by decide +kernel) rfl
theorem kd_Mo_made : mx_cdb mY_Mo_made 2 = true := by
  simp only [mx_cdb, Bool.and_eq_true, decide_eq_true_eq]
  exact ⟨⟨⟨⟨⟨wi_Mo, wc_Mo_made⟩, by decide +kernel⟩, by decide +kernel⟩, by decide +kernel⟩, by decide +kernel⟩
theorem wl_Mo_123 : Cond.methodLink "PegBoardsModel" 123 ⟨"PegBoardsModel", "made", "(II)I"⟩ ∈ mx_WS := mx_in 930 (by decide +kernel) rfl
theorem wm_Mo_made : Cond.instanceMethod ⟨"PegBoardsModel", "made", "(II)I"⟩ ∈ mx_WS := mx_in 932 (by decide +kernel) rfl
theorem wv_Mo_made : Cond.selects "PegBoardsModel" ⟨"PegBoardsModel", "made", "(II)I"⟩ ⟨"PegBoardsModel", "made", "(II)I"⟩ ∈ mx_WS := mx_in 26 (by decide +kernel) rfl
theorem kv_Mo_123 : mx_cvb "PegBoardsModel" 123 mY_Mo_made = true := by
  simp only [mx_cvb, Bool.and_eq_true, decide_eq_true_eq]
  exact ⟨⟨wl_Mo_123, wm_Mo_made⟩, wv_Mo_made⟩
theorem wc_Mo_bit : Cond.code ⟨"PegBoardsModel", "bit", "(II)I"⟩ prog_9_method_17_code 2 (some .int) ∈ mx_WS := mx_in 936 (by decide +kernel) rfl
theorem kd_Mo_bit : mx_cdb mY_Mo_bit 2 = true := by
  simp only [mx_cdb, Bool.and_eq_true, decide_eq_true_eq]
  exact ⟨⟨⟨⟨⟨wi_Mo, wc_Mo_bit⟩, by decide +kernel⟩, by decide +kernel⟩, by decide +kernel⟩, by decide +kernel⟩
theorem wl_Mo_120 : Cond.methodLink "PegBoardsModel" 120 ⟨"PegBoardsModel", "bit", "(II)I"⟩ ∈ mx_WS := mx_in 934 (by decide +kernel) rfl
theorem wt_Mo_bit : Cond.static ⟨"PegBoardsModel", "bit", "(II)I"⟩ ∈ mx_WS := mx_in 935 (by decide +kernel) rfl
theorem ks_Mo_120 : mx_csb "PegBoardsModel" 120 mY_Mo_bit = true := by
  simp only [mx_csb, Bool.and_eq_true, decide_eq_true_eq]
  exact ⟨wl_Mo_120, wt_Mo_bit⟩
theorem wc_Mo_count : Cond.code ⟨"PegBoardsModel", "count", "(I)I"⟩ prog_9_method_25_code 2 (some .int) ∈ mx_WS := mx_in 940 (by decide +kernel) rfl
theorem kd_Mo_count : mx_cdb mY_Mo_count 1 = true := by
  simp only [mx_cdb, Bool.and_eq_true, decide_eq_true_eq]
  exact ⟨⟨⟨⟨⟨wi_Mo, wc_Mo_count⟩, by decide +kernel⟩, by decide +kernel⟩, by decide +kernel⟩, by decide +kernel⟩
theorem wl_La_108 : Cond.methodLink "PegBoardsLaw" 108 ⟨"PegBoardsModel", "count", "(I)I"⟩ ∈ mx_WS := mx_in 937 (by decide +kernel) rfl
theorem wm_Mo_count : Cond.instanceMethod ⟨"PegBoardsModel", "count", "(I)I"⟩ ∈ mx_WS := mx_in 938 (by decide +kernel) rfl
theorem wv_Mo_count : Cond.selects "PegBoardsModel" ⟨"PegBoardsModel", "count", "(I)I"⟩ ⟨"PegBoardsModel", "count", "(I)I"⟩ ∈ mx_WS := mx_in 939 (by decide +kernel) rfl
theorem kv_La_108 : mx_cvb "PegBoardsLaw" 108 mY_Mo_count = true := by
  simp only [mx_cvb, Bool.and_eq_true, decide_eq_true_eq]
  exact ⟨⟨wl_La_108, wm_Mo_count⟩, wv_Mo_count⟩
theorem wc_Mo_cannot : Cond.code ⟨"PegBoardsModel", "cannot", "(I)Z"⟩ prog_9_method_24_code 2 (some .boolean) ∈ mx_WS := mx_in 944 (by decide +kernel) rfl
theorem kd_Mo_cannot : mx_cdb mY_Mo_cannot 1 = true := by
  simp only [mx_cdb, Bool.and_eq_true, decide_eq_true_eq]
  exact ⟨⟨⟨⟨⟨wi_Mo, wc_Mo_cannot⟩, by decide +kernel⟩, by decide +kernel⟩, by decide +kernel⟩, by decide +kernel⟩
theorem wl_Mo_139 : Cond.methodLink "PegBoardsModel" 139 ⟨"PegBoardsModel", "cannot", "(I)Z"⟩ ∈ mx_WS := mx_in 941 (by decide +kernel) rfl
theorem wm_Mo_cannot : Cond.instanceMethod ⟨"PegBoardsModel", "cannot", "(I)Z"⟩ ∈ mx_WS := mx_in 943 (by decide +kernel) rfl
theorem wv_Mo_cannot : Cond.selects "PegBoardsModel" ⟨"PegBoardsModel", "cannot", "(I)Z"⟩ ⟨"PegBoardsModel", "cannot", "(I)Z"⟩ ∈ mx_WS := mx_in 27 (by decide +kernel) rfl
theorem kv_Mo_139 : mx_cvb "PegBoardsModel" 139 mY_Mo_cannot = true := by
  simp only [mx_cvb, Bool.and_eq_true, decide_eq_true_eq]
  exact ⟨⟨wl_Mo_139, wm_Mo_cannot⟩, wv_Mo_cannot⟩
theorem wc_Mo_reach : Cond.code ⟨"PegBoardsModel", "reach", "(I)Z"⟩ prog_9_method_23_code 5 (some .boolean) ∈ mx_WS := mx_in 948 (by decide +kernel) rfl
theorem kd_Mo_reach : mx_cdb mY_Mo_reach 1 = true := by
  simp only [mx_cdb, Bool.and_eq_true, decide_eq_true_eq]
  exact ⟨⟨⟨⟨⟨wi_Mo, wc_Mo_reach⟩, by decide +kernel⟩, by decide +kernel⟩, by decide +kernel⟩, by decide +kernel⟩
theorem wl_Mo_142 : Cond.methodLink "PegBoardsModel" 142 ⟨"PegBoardsModel", "reach", "(I)Z"⟩ ∈ mx_WS := mx_in 945 (by decide +kernel) rfl
theorem wm_Mo_reach : Cond.instanceMethod ⟨"PegBoardsModel", "reach", "(I)Z"⟩ ∈ mx_WS := mx_in 947 (by decide +kernel) rfl
theorem wv_Mo_reach : Cond.selects "PegBoardsModel" ⟨"PegBoardsModel", "reach", "(I)Z"⟩ ⟨"PegBoardsModel", "reach", "(I)Z"⟩ ∈ mx_WS := mx_in 28 (by decide +kernel) rfl
theorem kv_Mo_142 : mx_cvb "PegBoardsModel" 142 mY_Mo_reach = true := by
  simp only [mx_cvb, Bool.and_eq_true, decide_eq_true_eq]
  exact ⟨⟨wl_Mo_142, wm_Mo_reach⟩, wv_Mo_reach⟩
theorem wc_Mo_enter : Cond.code ⟨"PegBoardsModel", "enter", "(III)V"⟩ prog_9_method_22_code 4 none ∈ mx_WS := mx_in 952 (by decide +kernel) rfl
theorem kd_Mo_enter : mx_cdb mY_Mo_enter 3 = true := by
  simp only [mx_cdb, Bool.and_eq_true, decide_eq_true_eq]
  exact ⟨⟨⟨⟨⟨wi_Mo, wc_Mo_enter⟩, by decide +kernel⟩, by decide +kernel⟩, by decide +kernel⟩, by decide +kernel⟩
theorem wl_Mo_132 : Cond.methodLink "PegBoardsModel" 132 ⟨"PegBoardsModel", "enter", "(III)V"⟩ ∈ mx_WS := mx_in 949 (by decide +kernel) rfl
theorem wm_Mo_enter : Cond.instanceMethod ⟨"PegBoardsModel", "enter", "(III)V"⟩ ∈ mx_WS := mx_in 951 (by decide +kernel) rfl
theorem wv_Mo_enter : Cond.selects "PegBoardsModel" ⟨"PegBoardsModel", "enter", "(III)V"⟩ ⟨"PegBoardsModel", "enter", "(III)V"⟩ ∈ mx_WS := mx_in 29 (by decide +kernel) rfl
theorem kv_Mo_132 : mx_cvb "PegBoardsModel" 132 mY_Mo_enter = true := by
  simp only [mx_cvb, Bool.and_eq_true, decide_eq_true_eq]
  exact ⟨⟨wl_Mo_132, wm_Mo_enter⟩, wv_Mo_enter⟩
theorem wc_Mo_lookAt : Cond.code ⟨"PegBoardsModel", "lookAt", "(I)I"⟩ prog_9_method_20_code 3 (some .int) ∈ mx_WS := mx_in 956 (by decide +kernel) rfl
theorem kd_Mo_lookAt : mx_cdb mY_Mo_lookAt 1 = true := by
  simp only [mx_cdb, Bool.and_eq_true, decide_eq_true_eq]
  exact ⟨⟨⟨⟨⟨wi_Mo, wc_Mo_lookAt⟩, by decide +kernel⟩, by decide +kernel⟩, by decide +kernel⟩, by decide +kernel⟩
theorem wl_Mo_126 : Cond.methodLink "PegBoardsModel" 126 ⟨"PegBoardsModel", "lookAt", "(I)I"⟩ ∈ mx_WS := mx_in 953 (by decide +kernel) rfl
theorem wm_Mo_lookAt : Cond.instanceMethod ⟨"PegBoardsModel", "lookAt", "(I)I"⟩ ∈ mx_WS := mx_in 955 (by decide +kernel) rfl
theorem wv_Mo_lookAt : Cond.selects "PegBoardsModel" ⟨"PegBoardsModel", "lookAt", "(I)I"⟩ ⟨"PegBoardsModel", "lookAt", "(I)I"⟩ ∈ mx_WS := mx_in 30 (by decide +kernel) rfl
theorem kv_Mo_126 : mx_cvb "PegBoardsModel" 126 mY_Mo_lookAt = true := by
  simp only [mx_cvb, Bool.and_eq_true, decide_eq_true_eq]
  exact ⟨⟨wl_Mo_126, wm_Mo_lookAt⟩, wv_Mo_lookAt⟩
theorem wc_Mo_numberOf : Cond.code ⟨"PegBoardsModel", "numberOf", "(I)I"⟩ prog_9_method_21_code 2 (some .int) ∈ mx_WS := mx_in 960 (by decide +kernel) rfl
theorem kd_Mo_numberOf : mx_cdb mY_Mo_numberOf 1 = true := by
  simp only [mx_cdb, Bool.and_eq_true, decide_eq_true_eq]
  exact ⟨⟨⟨⟨⟨wi_Mo, wc_Mo_numberOf⟩, by decide +kernel⟩, by decide +kernel⟩, by decide +kernel⟩, by decide +kernel⟩
theorem wl_Mo_136 : Cond.methodLink "PegBoardsModel" 136 ⟨"PegBoardsModel", "numberOf", "(I)I"⟩ ∈ mx_WS := mx_in 957 (by decide +kernel) rfl
theorem wm_Mo_numberOf : Cond.instanceMethod ⟨"PegBoardsModel", "numberOf", "(I)I"⟩ ∈ mx_WS := mx_in 959 (by decide +kernel) rfl
theorem wv_Mo_numberOf : Cond.selects "PegBoardsModel" ⟨"PegBoardsModel", "numberOf", "(I)I"⟩ ⟨"PegBoardsModel", "numberOf", "(I)I"⟩ ∈ mx_WS := mx_in 31 (by decide +kernel) rfl
theorem kv_Mo_136 : mx_cvb "PegBoardsModel" 136 mY_Mo_numberOf = true := by
  simp only [mx_cvb, Bool.and_eq_true, decide_eq_true_eq]
  exact ⟨⟨wl_Mo_136, wm_Mo_numberOf⟩, wv_Mo_numberOf⟩
theorem wc_Mo_solve : Cond.code ⟨"PegBoardsModel", "solve", "(I)I"⟩ prog_9_method_26_code 3 (some .int) ∈ mx_WS := mx_in 964 (by decide +kernel) rfl
theorem kd_Mo_solve : mx_cdb mY_Mo_solve 1 = true := by
  simp only [mx_cdb, Bool.and_eq_true, decide_eq_true_eq]
  exact ⟨⟨⟨⟨⟨wi_Mo, wc_Mo_solve⟩, by decide +kernel⟩, by decide +kernel⟩, by decide +kernel⟩, by decide +kernel⟩
theorem wl_La_111 : Cond.methodLink "PegBoardsLaw" 111 ⟨"PegBoardsModel", "solve", "(I)I"⟩ ∈ mx_WS := mx_in 961 (by decide +kernel) rfl
theorem wm_Mo_solve : Cond.instanceMethod ⟨"PegBoardsModel", "solve", "(I)I"⟩ ∈ mx_WS := mx_in 962 (by decide +kernel) rfl
theorem wv_Mo_solve : Cond.selects "PegBoardsModel" ⟨"PegBoardsModel", "solve", "(I)I"⟩ ⟨"PegBoardsModel", "solve", "(I)I"⟩ ∈ mx_WS := mx_in 963 (by decide +kernel) rfl
theorem kv_La_111 : mx_cvb "PegBoardsLaw" 111 mY_Mo_solve = true := by
  simp only [mx_cvb, Bool.and_eq_true, decide_eq_true_eq]
  exact ⟨⟨wl_La_111, wm_Mo_solve⟩, wv_Mo_solve⟩
theorem wc_Mo_way : Cond.code ⟨"PegBoardsModel", "way", "(II)I"⟩ prog_9_method_27_code 7 (some .int) ∈ mx_WS := mx_in 968 (by decide +kernel) rfl
theorem kd_Mo_way : mx_cdb mY_Mo_way 2 = true := by
  simp only [mx_cdb, Bool.and_eq_true, decide_eq_true_eq]
  exact ⟨⟨⟨⟨⟨wi_Mo, wc_Mo_way⟩, by decide +kernel⟩, by decide +kernel⟩, by decide +kernel⟩, by decide +kernel⟩
theorem wl_La_114 : Cond.methodLink "PegBoardsLaw" 114 ⟨"PegBoardsModel", "way", "(II)I"⟩ ∈ mx_WS := mx_in 965 (by decide +kernel) rfl
theorem wm_Mo_way : Cond.instanceMethod ⟨"PegBoardsModel", "way", "(II)I"⟩ ∈ mx_WS := mx_in 966 (by decide +kernel) rfl
theorem wv_Mo_way : Cond.selects "PegBoardsModel" ⟨"PegBoardsModel", "way", "(II)I"⟩ ⟨"PegBoardsModel", "way", "(II)I"⟩ ∈ mx_WS := mx_in 967 (by decide +kernel) rfl
theorem kv_La_114 : mx_cvb "PegBoardsLaw" 114 mY_Mo_way = true := by
  simp only [mx_cvb, Bool.and_eq_true, decide_eq_true_eq]
  exact ⟨⟨wl_La_114, wm_Mo_way⟩, wv_Mo_way⟩
theorem wc_Mo_moves : Cond.code ⟨"PegBoardsModel", "moves", "(I)I"⟩ prog_9_method_30_code 5 (some .int) ∈ mx_WS := mx_in 972 (by decide +kernel) rfl
theorem kd_Mo_moves : mx_cdb mY_Mo_moves 1 = true := by
  simp only [mx_cdb, Bool.and_eq_true, decide_eq_true_eq]
  exact ⟨⟨⟨⟨⟨wi_Mo, wc_Mo_moves⟩, by decide +kernel⟩, by decide +kernel⟩, by decide +kernel⟩, by decide +kernel⟩
theorem wl_La_117 : Cond.methodLink "PegBoardsLaw" 117 ⟨"PegBoardsModel", "moves", "(I)I"⟩ ∈ mx_WS := mx_in 969 (by decide +kernel) rfl
theorem wm_Mo_moves : Cond.instanceMethod ⟨"PegBoardsModel", "moves", "(I)I"⟩ ∈ mx_WS := mx_in 970 (by decide +kernel) rfl
theorem wv_Mo_moves : Cond.selects "PegBoardsModel" ⟨"PegBoardsModel", "moves", "(I)I"⟩ ⟨"PegBoardsModel", "moves", "(I)I"⟩ ∈ mx_WS := mx_in 971 (by decide +kernel) rfl
theorem kv_La_117 : mx_cvb "PegBoardsLaw" 117 mY_Mo_moves = true := by
  simp only [mx_cvb, Bool.and_eq_true, decide_eq_true_eq]
  exact ⟨⟨wl_La_117, wm_Mo_moves⟩, wv_Mo_moves⟩
theorem wc_Mo_pegs : Cond.code ⟨"PegBoardsModel", "pegs", "(I)I"⟩ prog_9_method_28_code 4 (some .int) ∈ mx_WS := mx_in 976 (by decide +kernel) rfl
theorem kd_Mo_pegs : mx_cdb mY_Mo_pegs 1 = true := by
  simp only [mx_cdb, Bool.and_eq_true, decide_eq_true_eq]
  exact ⟨⟨⟨⟨⟨wi_Mo, wc_Mo_pegs⟩, by decide +kernel⟩, by decide +kernel⟩, by decide +kernel⟩, by decide +kernel⟩
theorem wl_Mo_145 : Cond.methodLink "PegBoardsModel" 145 ⟨"PegBoardsModel", "pegs", "(I)I"⟩ ∈ mx_WS := mx_in 973 (by decide +kernel) rfl
theorem wm_Mo_pegs : Cond.instanceMethod ⟨"PegBoardsModel", "pegs", "(I)I"⟩ ∈ mx_WS := mx_in 975 (by decide +kernel) rfl
theorem wv_Mo_pegs : Cond.selects "PegBoardsModel" ⟨"PegBoardsModel", "pegs", "(I)I"⟩ ⟨"PegBoardsModel", "pegs", "(I)I"⟩ ∈ mx_WS := mx_in 32 (by decide +kernel) rfl
theorem kv_Mo_145 : mx_cvb "PegBoardsModel" 145 mY_Mo_pegs = true := by
  simp only [mx_cvb, Bool.and_eq_true, decide_eq_true_eq]
  exact ⟨⟨wl_Mo_145, wm_Mo_pegs⟩, wv_Mo_pegs⟩
theorem wc_Mo_spread : Cond.code ⟨"PegBoardsModel", "spread", "(I)V"⟩ prog_9_method_29_code 7 none ∈ mx_WS := mx_in 980 (by decide +kernel) rfl
theorem kd_Mo_spread : mx_cdb mY_Mo_spread 1 = true := by
  simp only [mx_cdb, Bool.and_eq_true, decide_eq_true_eq]
  exact ⟨⟨⟨⟨⟨wi_Mo, wc_Mo_spread⟩, by decide +kernel⟩, by decide +kernel⟩, by decide +kernel⟩, by decide +kernel⟩
theorem wl_Mo_148 : Cond.methodLink "PegBoardsModel" 148 ⟨"PegBoardsModel", "spread", "(I)V"⟩ ∈ mx_WS := mx_in 977 (by decide +kernel) rfl
theorem wm_Mo_spread : Cond.instanceMethod ⟨"PegBoardsModel", "spread", "(I)V"⟩ ∈ mx_WS := mx_in 979 (by decide +kernel) rfl
theorem wv_Mo_spread : Cond.selects "PegBoardsModel" ⟨"PegBoardsModel", "spread", "(I)V"⟩ ⟨"PegBoardsModel", "spread", "(I)V"⟩ ∈ mx_WS := mx_in 33 (by decide +kernel) rfl
theorem kv_Mo_148 : mx_cvb "PegBoardsModel" 148 mY_Mo_spread = true := by
  simp only [mx_cvb, Bool.and_eq_true, decide_eq_true_eq]
  exact ⟨⟨wl_Mo_148, wm_Mo_spread⟩, wv_Mo_spread⟩
theorem wc_Mo_classes : Cond.code ⟨"PegBoardsModel", "classes", "(I)I"⟩ prog_9_method_33_code 6 (some .int) ∈ mx_WS := mx_in 984 (by decide +kernel) rfl
theorem kd_Mo_classes : mx_cdb mY_Mo_classes 1 = true := by
  simp only [mx_cdb, Bool.and_eq_true, decide_eq_true_eq]
  exact ⟨⟨⟨⟨⟨wi_Mo, wc_Mo_classes⟩, by decide +kernel⟩, by decide +kernel⟩, by decide +kernel⟩, by decide +kernel⟩
theorem wl_La_120 : Cond.methodLink "PegBoardsLaw" 120 ⟨"PegBoardsModel", "classes", "(I)I"⟩ ∈ mx_WS := mx_in 981 (by decide +kernel) rfl
theorem wm_Mo_classes : Cond.instanceMethod ⟨"PegBoardsModel", "classes", "(I)I"⟩ ∈ mx_WS := mx_in 982 (by decide +kernel) rfl
theorem wv_Mo_classes : Cond.selects "PegBoardsModel" ⟨"PegBoardsModel", "classes", "(I)I"⟩ ⟨"PegBoardsModel", "classes", "(I)I"⟩ ∈ mx_WS := mx_in 983 (by decide +kernel) rfl
theorem kv_La_120 : mx_cvb "PegBoardsLaw" 120 mY_Mo_classes = true := by
  simp only [mx_cvb, Bool.and_eq_true, decide_eq_true_eq]
  exact ⟨⟨wl_La_120, wm_Mo_classes⟩, wv_Mo_classes⟩
theorem wc_Mo_leastOf : Cond.code ⟨"PegBoardsModel", "leastOf", "(I)I"⟩ prog_9_method_32_code 5 (some .int) ∈ mx_WS := mx_in 988 (by decide +kernel) rfl
theorem kd_Mo_leastOf : mx_cdb mY_Mo_leastOf 1 = true := by
  simp only [mx_cdb, Bool.and_eq_true, decide_eq_true_eq]
  exact ⟨⟨⟨⟨⟨wi_Mo, wc_Mo_leastOf⟩, by decide +kernel⟩, by decide +kernel⟩, by decide +kernel⟩, by decide +kernel⟩
theorem wl_Mo_158 : Cond.methodLink "PegBoardsModel" 158 ⟨"PegBoardsModel", "leastOf", "(I)I"⟩ ∈ mx_WS := mx_in 985 (by decide +kernel) rfl
theorem wm_Mo_leastOf : Cond.instanceMethod ⟨"PegBoardsModel", "leastOf", "(I)I"⟩ ∈ mx_WS := mx_in 987 (by decide +kernel) rfl
theorem wv_Mo_leastOf : Cond.selects "PegBoardsModel" ⟨"PegBoardsModel", "leastOf", "(I)I"⟩ ⟨"PegBoardsModel", "leastOf", "(I)I"⟩ ∈ mx_WS := mx_in 34 (by decide +kernel) rfl
theorem kv_Mo_158 : mx_cvb "PegBoardsModel" 158 mY_Mo_leastOf = true := by
  simp only [mx_cvb, Bool.and_eq_true, decide_eq_true_eq]
  exact ⟨⟨wl_Mo_158, wm_Mo_leastOf⟩, wv_Mo_leastOf⟩
theorem wc_Mo_imaged : Cond.code ⟨"PegBoardsModel", "imaged", "(II)I"⟩ prog_9_method_31_code 5 (some .int) ∈ mx_WS := mx_in 992 (by decide +kernel) rfl
theorem kd_Mo_imaged : mx_cdb mY_Mo_imaged 2 = true := by
  simp only [mx_cdb, Bool.and_eq_true, decide_eq_true_eq]
  exact ⟨⟨⟨⟨⟨wi_Mo, wc_Mo_imaged⟩, by decide +kernel⟩, by decide +kernel⟩, by decide +kernel⟩, by decide +kernel⟩
theorem wl_Mo_152 : Cond.methodLink "PegBoardsModel" 152 ⟨"PegBoardsModel", "imaged", "(II)I"⟩ ∈ mx_WS := mx_in 989 (by decide +kernel) rfl
theorem wm_Mo_imaged : Cond.instanceMethod ⟨"PegBoardsModel", "imaged", "(II)I"⟩ ∈ mx_WS := mx_in 991 (by decide +kernel) rfl
theorem wv_Mo_imaged : Cond.selects "PegBoardsModel" ⟨"PegBoardsModel", "imaged", "(II)I"⟩ ⟨"PegBoardsModel", "imaged", "(II)I"⟩ ∈ mx_WS := mx_in 35 (by decide +kernel) rfl
theorem kv_Mo_152 : mx_cvb "PegBoardsModel" 152 mY_Mo_imaged = true := by
  simp only [mx_cvb, Bool.and_eq_true, decide_eq_true_eq]
  exact ⟨⟨wl_Mo_152, wm_Mo_imaged⟩, wv_Mo_imaged⟩
theorem wc_Mo_symmetries : Cond.code ⟨"PegBoardsModel", "symmetries", "()I"⟩ prog_9_method_34_code 1 (some .int) ∈ mx_WS := mx_in 996 (by decide +kernel) rfl
theorem kd_Mo_symmetries : mx_cdb mY_Mo_symmetries 0 = true := by
  simp only [mx_cdb, Bool.and_eq_true, decide_eq_true_eq]
  exact ⟨⟨⟨⟨⟨wi_Mo, wc_Mo_symmetries⟩, by decide +kernel⟩, by decide +kernel⟩, by decide +kernel⟩, by decide +kernel⟩
theorem wl_La_124 : Cond.methodLink "PegBoardsLaw" 124 ⟨"PegBoardsModel", "symmetries", "()I"⟩ ∈ mx_WS := mx_in 993 (by decide +kernel) rfl
theorem wm_Mo_symmetries : Cond.instanceMethod ⟨"PegBoardsModel", "symmetries", "()I"⟩ ∈ mx_WS := mx_in 994 (by decide +kernel) rfl
theorem wv_Mo_symmetries : Cond.selects "PegBoardsModel" ⟨"PegBoardsModel", "symmetries", "()I"⟩ ⟨"PegBoardsModel", "symmetries", "()I"⟩ ∈ mx_WS := mx_in 995 (by decide +kernel) rfl
theorem kv_La_124 : mx_cvb "PegBoardsLaw" 124 mY_Mo_symmetries = true := by
  simp only [mx_cvb, Bool.and_eq_true, decide_eq_true_eq]
  exact ⟨⟨wl_La_124, wm_Mo_symmetries⟩, wv_Mo_symmetries⟩
theorem wc_Mo_image : Cond.code ⟨"PegBoardsModel", "image", "(II)I"⟩ prog_9_method_36_code 3 (some .int) ∈ mx_WS := mx_in 1000 (by decide +kernel) rfl
theorem kd_Mo_image : mx_cdb mY_Mo_image 2 = true := by
  simp only [mx_cdb, Bool.and_eq_true, decide_eq_true_eq]
  exact ⟨⟨⟨⟨⟨wi_Mo, wc_Mo_image⟩, by decide +kernel⟩, by decide +kernel⟩, by decide +kernel⟩, by decide +kernel⟩
theorem wl_La_127 : Cond.methodLink "PegBoardsLaw" 127 ⟨"PegBoardsModel", "image", "(II)I"⟩ ∈ mx_WS := mx_in 997 (by decide +kernel) rfl
theorem wm_Mo_image : Cond.instanceMethod ⟨"PegBoardsModel", "image", "(II)I"⟩ ∈ mx_WS := mx_in 998 (by decide +kernel) rfl
theorem wv_Mo_image : Cond.selects "PegBoardsModel" ⟨"PegBoardsModel", "image", "(II)I"⟩ ⟨"PegBoardsModel", "image", "(II)I"⟩ ∈ mx_WS := mx_in 999 (by decide +kernel) rfl
theorem kv_La_127 : mx_cvb "PegBoardsLaw" 127 mY_Mo_image = true := by
  simp only [mx_cvb, Bool.and_eq_true, decide_eq_true_eq]
  exact ⟨⟨wl_La_127, wm_Mo_image⟩, wv_Mo_image⟩
theorem wc_Mo_noHole : Cond.code ⟨"PegBoardsModel", "noHole", "(I)Z"⟩ prog_9_method_35_code 2 (some .boolean) ∈ mx_WS := mx_in 1004 (by decide +kernel) rfl
theorem kd_Mo_noHole : mx_cdb mY_Mo_noHole 1 = true := by
  simp only [mx_cdb, Bool.and_eq_true, decide_eq_true_eq]
  exact ⟨⟨⟨⟨⟨wi_Mo, wc_Mo_noHole⟩, by decide +kernel⟩, by decide +kernel⟩, by decide +kernel⟩, by decide +kernel⟩
theorem wl_Mo_161 : Cond.methodLink "PegBoardsModel" 161 ⟨"PegBoardsModel", "noHole", "(I)Z"⟩ ∈ mx_WS := mx_in 1001 (by decide +kernel) rfl
theorem wm_Mo_noHole : Cond.instanceMethod ⟨"PegBoardsModel", "noHole", "(I)Z"⟩ ∈ mx_WS := mx_in 1003 (by decide +kernel) rfl
theorem wv_Mo_noHole : Cond.selects "PegBoardsModel" ⟨"PegBoardsModel", "noHole", "(I)Z"⟩ ⟨"PegBoardsModel", "noHole", "(I)Z"⟩ ∈ mx_WS := mx_in 36 (by decide +kernel) rfl
theorem kv_Mo_161 : mx_cvb "PegBoardsModel" 161 mY_Mo_noHole = true := by
  simp only [mx_cvb, Bool.and_eq_true, decide_eq_true_eq]
  exact ⟨⟨wl_Mo_161, wm_Mo_noHole⟩, wv_Mo_noHole⟩
theorem wc_Mo_least : Cond.code ⟨"PegBoardsModel", "least", "(I)I"⟩ prog_9_method_37_code 2 (some .int) ∈ mx_WS := mx_in 1008 (by decide +kernel) rfl
theorem kd_Mo_least : mx_cdb mY_Mo_least 1 = true := by
  simp only [mx_cdb, Bool.and_eq_true, decide_eq_true_eq]
  exact ⟨⟨⟨⟨⟨wi_Mo, wc_Mo_least⟩, by decide +kernel⟩, by decide +kernel⟩, by decide +kernel⟩, by decide +kernel⟩
theorem wl_La_130 : Cond.methodLink "PegBoardsLaw" 130 ⟨"PegBoardsModel", "least", "(I)I"⟩ ∈ mx_WS := mx_in 1005 (by decide +kernel) rfl
theorem wm_Mo_least : Cond.instanceMethod ⟨"PegBoardsModel", "least", "(I)I"⟩ ∈ mx_WS := mx_in 1006 (by decide +kernel) rfl
theorem wv_Mo_least : Cond.selects "PegBoardsModel" ⟨"PegBoardsModel", "least", "(I)I"⟩ ⟨"PegBoardsModel", "least", "(I)I"⟩ ∈ mx_WS := mx_in 1007 (by decide +kernel) rfl
theorem kv_La_130 : mx_cvb "PegBoardsLaw" 130 mY_Mo_least = true := by
  simp only [mx_cvb, Bool.and_eq_true, decide_eq_true_eq]
  exact ⟨⟨wl_La_130, wm_Mo_least⟩, wv_Mo_least⟩
theorem wc_Mo_parity : Cond.code ⟨"PegBoardsModel", "parity", "(I)I"⟩ prog_9_method_38_code 9 (some .int) ∈ mx_WS := mx_in 1012 (by decide +kernel) rfl
theorem kd_Mo_parity : mx_cdb mY_Mo_parity 1 = true := by
  simp only [mx_cdb, Bool.and_eq_true, decide_eq_true_eq]
  exact ⟨⟨⟨⟨⟨wi_Mo, wc_Mo_parity⟩, by decide +kernel⟩, by decide +kernel⟩, by decide +kernel⟩, by decide +kernel⟩
theorem wl_La_133 : Cond.methodLink "PegBoardsLaw" 133 ⟨"PegBoardsModel", "parity", "(I)I"⟩ ∈ mx_WS := mx_in 1009 (by decide +kernel) rfl
theorem wm_Mo_parity : Cond.instanceMethod ⟨"PegBoardsModel", "parity", "(I)I"⟩ ∈ mx_WS := mx_in 1010 (by decide +kernel) rfl
theorem wv_Mo_parity : Cond.selects "PegBoardsModel" ⟨"PegBoardsModel", "parity", "(I)I"⟩ ⟨"PegBoardsModel", "parity", "(I)I"⟩ ∈ mx_WS := mx_in 1011 (by decide +kernel) rfl
theorem kv_La_133 : mx_cvb "PegBoardsLaw" 133 mY_Mo_parity = true := by
  simp only [mx_cvb, Bool.and_eq_true, decide_eq_true_eq]
  exact ⟨⟨wl_La_133, wm_Mo_parity⟩, wv_Mo_parity⟩
theorem wc_Mo_weight : Cond.code ⟨"PegBoardsModel", "weight", "(II)V"⟩ prog_9_method_39_code 3 none ∈ mx_WS := mx_in 1016 (by decide +kernel) rfl
theorem kd_Mo_weight : mx_cdb mY_Mo_weight 2 = true := by
  simp only [mx_cdb, Bool.and_eq_true, decide_eq_true_eq]
  exact ⟨⟨⟨⟨⟨wi_Mo, wc_Mo_weight⟩, by decide +kernel⟩, by decide +kernel⟩, by decide +kernel⟩, by decide +kernel⟩
theorem wl_La_137 : Cond.methodLink "PegBoardsLaw" 137 ⟨"PegBoardsModel", "weight", "(II)V"⟩ ∈ mx_WS := mx_in 1013 (by decide +kernel) rfl
theorem wm_Mo_weight : Cond.instanceMethod ⟨"PegBoardsModel", "weight", "(II)V"⟩ ∈ mx_WS := mx_in 1014 (by decide +kernel) rfl
theorem wv_Mo_weight : Cond.selects "PegBoardsModel" ⟨"PegBoardsModel", "weight", "(II)V"⟩ ⟨"PegBoardsModel", "weight", "(II)V"⟩ ∈ mx_WS := mx_in 1015 (by decide +kernel) rfl
theorem kv_La_137 : mx_cvb "PegBoardsLaw" 137 mY_Mo_weight = true := by
  simp only [mx_cvb, Bool.and_eq_true, decide_eq_true_eq]
  exact ⟨⟨wl_La_137, wm_Mo_weight⟩, wv_Mo_weight⟩
theorem wc_Mo_weights : Cond.code ⟨"PegBoardsModel", "weights", "(I)I"⟩ prog_9_method_42_code 2 (some .int) ∈ mx_WS := mx_in 1020 (by decide +kernel) rfl
theorem kd_Mo_weights : mx_cdb mY_Mo_weights 1 = true := by
  simp only [mx_cdb, Bool.and_eq_true, decide_eq_true_eq]
  exact ⟨⟨⟨⟨⟨wi_Mo, wc_Mo_weights⟩, by decide +kernel⟩, by decide +kernel⟩, by decide +kernel⟩, by decide +kernel⟩
theorem wl_La_140 : Cond.methodLink "PegBoardsLaw" 140 ⟨"PegBoardsModel", "weights", "(I)I"⟩ ∈ mx_WS := mx_in 1017 (by decide +kernel) rfl
theorem wm_Mo_weights : Cond.instanceMethod ⟨"PegBoardsModel", "weights", "(I)I"⟩ ∈ mx_WS := mx_in 1018 (by decide +kernel) rfl
theorem wv_Mo_weights : Cond.selects "PegBoardsModel" ⟨"PegBoardsModel", "weights", "(I)I"⟩ ⟨"PegBoardsModel", "weights", "(I)I"⟩ ∈ mx_WS := mx_in 1019 (by decide +kernel) rfl
theorem kv_La_140 : mx_cvb "PegBoardsLaw" 140 mY_Mo_weights = true := by
  simp only [mx_cvb, Bool.and_eq_true, decide_eq_true_eq]
  exact ⟨⟨wl_La_140, wm_Mo_weights⟩, wv_Mo_weights⟩
theorem wc_Mo_holding : Cond.code ⟨"PegBoardsModel", "holding", "()Z"⟩ prog_9_method_41_code 3 (some .boolean) ∈ mx_WS := mx_in 1024 (by decide +kernel) rfl
theorem kd_Mo_holding : mx_cdb mY_Mo_holding 0 = true := by
  simp only [mx_cdb, Bool.and_eq_true, decide_eq_true_eq]
  exact ⟨⟨⟨⟨⟨wi_Mo, wc_Mo_holding⟩, by decide +kernel⟩, by decide +kernel⟩, by decide +kernel⟩, by decide +kernel⟩
theorem wl_Mo_164 : Cond.methodLink "PegBoardsModel" 164 ⟨"PegBoardsModel", "holding", "()Z"⟩ ∈ mx_WS := mx_in 1021 (by decide +kernel) rfl
theorem wm_Mo_holding : Cond.instanceMethod ⟨"PegBoardsModel", "holding", "()Z"⟩ ∈ mx_WS := mx_in 1023 (by decide +kernel) rfl
theorem wv_Mo_holding : Cond.selects "PegBoardsModel" ⟨"PegBoardsModel", "holding", "()Z"⟩ ⟨"PegBoardsModel", "holding", "()Z"⟩ ∈ mx_WS := mx_in 37 (by decide +kernel) rfl
theorem kv_Mo_164 : mx_cvb "PegBoardsModel" 164 mY_Mo_holding = true := by
  simp only [mx_cvb, Bool.and_eq_true, decide_eq_true_eq]
  exact ⟨⟨wl_Mo_164, wm_Mo_holding⟩, wv_Mo_holding⟩
theorem wc_Mo_sumOf : Cond.code ⟨"PegBoardsModel", "sumOf", "(I)I"⟩ prog_9_method_40_code 4 (some .int) ∈ mx_WS := mx_in 1028 (by decide +kernel) rfl
theorem kd_Mo_sumOf : mx_cdb mY_Mo_sumOf 1 = true := by
  simp only [mx_cdb, Bool.and_eq_true, decide_eq_true_eq]
  exact ⟨⟨⟨⟨⟨wi_Mo, wc_Mo_sumOf⟩, by decide +kernel⟩, by decide +kernel⟩, by decide +kernel⟩, by decide +kernel⟩
theorem wl_Mo_168 : Cond.methodLink "PegBoardsModel" 168 ⟨"PegBoardsModel", "sumOf", "(I)I"⟩ ∈ mx_WS := mx_in 1025 (by decide +kernel) rfl
theorem wm_Mo_sumOf : Cond.instanceMethod ⟨"PegBoardsModel", "sumOf", "(I)I"⟩ ∈ mx_WS := mx_in 1027 (by decide +kernel) rfl
theorem wv_Mo_sumOf : Cond.selects "PegBoardsModel" ⟨"PegBoardsModel", "sumOf", "(I)I"⟩ ⟨"PegBoardsModel", "sumOf", "(I)I"⟩ ∈ mx_WS := mx_in 38 (by decide +kernel) rfl
theorem kv_Mo_168 : mx_cvb "PegBoardsModel" 168 mY_Mo_sumOf = true := by
  simp only [mx_cvb, Bool.and_eq_true, decide_eq_true_eq]
  exact ⟨⟨wl_Mo_168, wm_Mo_sumOf⟩, wv_Mo_sumOf⟩
theorem wc_Mo_find : Cond.code ⟨"PegBoardsModel", "find", "()Z"⟩ prog_9_method_44_code 5 (some .boolean) ∈ mx_WS := mx_in 1032 (by decide +kernel) rfl
theorem kd_Mo_find : mx_cdb mY_Mo_find 0 = true := by
  simp only [mx_cdb, Bool.and_eq_true, decide_eq_true_eq]
  exact ⟨⟨⟨⟨⟨wi_Mo, wc_Mo_find⟩, by decide +kernel⟩, by decide +kernel⟩, by decide +kernel⟩, by decide +kernel⟩
theorem wl_La_143 : Cond.methodLink "PegBoardsLaw" 143 ⟨"PegBoardsModel", "find", "()Z"⟩ ∈ mx_WS := mx_in 1029 (by decide +kernel) rfl
theorem wm_Mo_find : Cond.instanceMethod ⟨"PegBoardsModel", "find", "()Z"⟩ ∈ mx_WS := mx_in 1030 (by decide +kernel) rfl
theorem wv_Mo_find : Cond.selects "PegBoardsModel" ⟨"PegBoardsModel", "find", "()Z"⟩ ⟨"PegBoardsModel", "find", "()Z"⟩ ∈ mx_WS := mx_in 1031 (by decide +kernel) rfl
theorem kv_La_143 : mx_cvb "PegBoardsLaw" 143 mY_Mo_find = true := by
  simp only [mx_cvb, Bool.and_eq_true, decide_eq_true_eq]
  exact ⟨⟨wl_La_143, wm_Mo_find⟩, wv_Mo_find⟩
theorem wc_Mo_fits : Cond.code ⟨"PegBoardsModel", "fits", "()Z"⟩ prog_9_method_43_code 4 (some .boolean) ∈ mx_WS := mx_in 1036 (by decide +kernel) rfl
theorem kd_Mo_fits : mx_cdb mY_Mo_fits 0 = true := by
  simp only [mx_cdb, Bool.and_eq_true, decide_eq_true_eq]
  exact ⟨⟨⟨⟨⟨wi_Mo, wc_Mo_fits⟩, by decide +kernel⟩, by decide +kernel⟩, by decide +kernel⟩, by decide +kernel⟩
theorem wl_Mo_171 : Cond.methodLink "PegBoardsModel" 171 ⟨"PegBoardsModel", "fits", "()Z"⟩ ∈ mx_WS := mx_in 1033 (by decide +kernel) rfl
theorem wm_Mo_fits : Cond.instanceMethod ⟨"PegBoardsModel", "fits", "()Z"⟩ ∈ mx_WS := mx_in 1035 (by decide +kernel) rfl
theorem wv_Mo_fits : Cond.selects "PegBoardsModel" ⟨"PegBoardsModel", "fits", "()Z"⟩ ⟨"PegBoardsModel", "fits", "()Z"⟩ ∈ mx_WS := mx_in 39 (by decide +kernel) rfl
theorem kv_Mo_171 : mx_cvb "PegBoardsModel" 171 mY_Mo_fits = true := by
  simp only [mx_cvb, Bool.and_eq_true, decide_eq_true_eq]
  exact ⟨⟨wl_Mo_171, wm_Mo_fits⟩, wv_Mo_fits⟩
end
section
/-! A machine of our own over the kit's: the numbers of all cells are one function M (cell, place); the references in the cells never change (LK). A method's contract (mx_Ct) and a point of its body (mx_E) speak of M alone. -/
section MX
abbrev mx_M : Type := Nat → Nat → Int32
/-- what a cell is: n ints; an object of a class by its number, its fields (none: a number; some k: the cell k); an array of cells; n longs; n booleans -/
abbrev mx_K : Type := Nat ⊕ ((Nat × List (Option Nat)) ⊕ (List Nat ⊕ (Nat ⊕ Nat)))
/-- the array classes: ints, arrays of ints, longs, booleans -/
abbrev mx_T : Type := ClassId × ClassId × ClassId × ClassId
def mx_tys (T : mx_T) : List (ClassId × FieldType) := [(T.1, .int), (T.2.1, .array .int), (T.2.2.1, .long), (T.2.2.2, .boolean)]
def mx_v (ad : Nat → Nat) (v : Value) : Value := match v with
  | .ref k => .ref (ad k)
  | .int x => .int x
  | .long x => .long x
  | w => w
def mx_fv (ad : Nat → Nat) (g : Nat → Int32) (j : Nat) (o : Option Nat) : Value := match o with
  | none => Value.int (g j)
  | some k => Value.ref (ad k)
def mx_fs (ad : Nat → Nat) (g : Nat → Int32) (fs : List (Option Nat)) : List Value := fs.mapIdx (mx_fv ad g)
def mx_cell (T : mx_T) (ad : Nat → Nat) (K : mx_K) (g : Nat → Int32) : va_E := match K with
  | .inl n => .inl (T.1, n, .inl g)
  | .inr (.inl o) => .inr (o.1, mx_fs ad g o.2)
  | .inr (.inr (.inl rs)) => .inl (T.2.1, rs.length, .inr (.inr (.inr (.inr (fun j => (rs[j]?).map ad)))))
  | .inr (.inr (.inr (.inl n))) => .inl (T.2.2.1, n, .inr (.inl (fun j => (g j).toInt64)))
  | .inr (.inr (.inr (.inr n))) => .inl (T.2.2.2, n, .inl g)
/-- the cells; arrays of ints that nobody writes (their numbers as cells: 1000, 1001 ..): length, contents -/
abbrev mx_L : Type := List mx_K × List (Nat × (Nat → Int32))
def mx_lay (T : mx_T) (ad : Nat → Nat) (LK : mx_L) (M : mx_M) : va_W := LK.1.mapIdx (fun k K => (ad k, mx_cell T ad K (M k)))
def mx_up (M : mx_M) (k i : Nat) (v : Int32) : mx_M := fun a j => if a = k then (if j = i then v else M a j) else M a j
theorem mx_lay_get {T : mx_T} {ad : Nat → Nat} {LK : mx_L} {M : mx_M} {k : Nat} {K : mx_K} (h : LK.1[k]? = some K) : (mx_lay T ad LK M)[k]? = some (ad k, mx_cell T ad K (M k)) := by
  simp [mx_lay, h]
theorem mx_lay_of {T : mx_T} {ad : Nat → Nat} {LK : mx_L} {M : mx_M} {k : Nat} {q : Nat × va_E} (h : (mx_lay T ad LK M)[k]? = some q) : k < LK.1.length ∧ q.1 = ad k := by
  simp only [mx_lay, List.getElem?_mapIdx, Option.map_eq_some_iff] at h
  obtain ⟨K, hK, rfl⟩ := h
  exact ⟨(List.getElem?_eq_some_iff.mp hK).1, rfl⟩
theorem mx_up_row (M : mx_M) (k i : Nat) (v : Int32) : mx_up M k i v k = upd (M k) i v := by
  funext j; simp [mx_up, upd]
theorem mx_up_off {M : mx_M} {k i a : Nat} {v : Int32} (h : a ≠ k) : mx_up M k i v a = M a := by
  funext j; simp [mx_up, h]
theorem mx_lay_up {T : mx_T} {ad : Nat → Nat} {LK : mx_L} {M : mx_M} {k i : Nat} {v : Int32} {K : mx_K} (h : LK.1[k]? = some K) :
    (mx_lay T ad LK M).set k (ad k, mx_cell T ad K (upd (M k) i v)) = mx_lay T ad LK (mx_up M k i v) := by
  apply List.ext_getElem?
  intro j
  rw [List.getElem?_set]
  have hl : k < LK.1.length := (List.getElem?_eq_some_iff.mp h).1
  by_cases hj : k = j
  · subst hj
    rw [if_pos rfl, mx_lay_get h, mx_up_row]
    simp [mx_lay, hl]
  · rw [if_neg hj]
    simp only [mx_lay, List.getElem?_mapIdx]
    rw [mx_up_off (Ne.symm hj)]
theorem mx_fs_get {ad : Nat → Nat} {g : Nat → Int32} {fs : List (Option Nat)} {j : Nat} {o : Option Nat} (h : fs[j]? = some o) :
    (mx_fs ad g fs)[j]? = some (mx_fv ad g j o) := by
  simp [mx_fs, h]
theorem mx_fs_set {ad : Nat → Nat} {g : Nat → Int32} {fs : List (Option Nat)} {j : Nat} {v : Int32} (h : fs[j]? = some none) :
    (mx_fs ad g fs).set j (.int v) = mx_fs ad (upd g j v) fs := by
  apply List.ext_getElem?
  intro i
  rw [List.getElem?_set]
  have hl : j < fs.length := (List.getElem?_eq_some_iff.mp h).1
  by_cases hj : j = i
  · subst hj
    rw [if_pos rfl, mx_fs_get h]
    simp [mx_fs, hl, upd, mx_fv]
  · rw [if_neg hj]
    simp only [mx_fs, List.getElem?_mapIdx]
    cases fs[i]? with
    | none => rfl
    | some o => cases o with
      | none => simp [upd, Ne.symm hj, mx_fv]
      | some k => rfl
/-- addresses: apart, and in A -/
def mx_ad (LK : mx_L) (ad : Nat → Nat) : Prop := ∀ i j, i < LK.1.length → j < LK.1.length → ad i = ad j → i = j
theorem mx_D {T : mx_T} {ad : Nat → Nat} {LK : mx_L} {A : Nat → Prop} (h : mx_ad LK ad) (hA : ∀ k, k < LK.1.length → A (ad k)) (M : mx_M) : va_D A (mx_lay T ad LK M) := by
  refine ⟨fun i j p q hp hq e => ?_, fun k q hk => ?_⟩
  · obtain ⟨h1, h2⟩ := mx_lay_of hp
    obtain ⟨h3, h4⟩ := mx_lay_of hq
    exact h i j h1 h3 (by rw [← h2, ← h4, e])
  · obtain ⟨h1, h2⟩ := mx_lay_of hk
    rw [h2]; exact hA k h1
/-- the locals: one slot a value; .null: not known -/
def mx_ls (ad : Nat → Nat) (nL : Nat) (ls : List Value) (la : Array Slot) : Prop := ls.length = nL ∧ la.size = nL ∧ lv_wf la ∧ (∀ (i : Nat) (x : Int32), ls[i]? = some (Value.int x) → la[i]? = some (Slot.val (.int x))) ∧ ∀ (i a : Nat), ls[i]? = some (Value.ref a) → la[i]? = some (Slot.val (.ref (ad a)))
def mx_pr (ad : Nat → Nat) (ls : List Value) : List (Nat × Value) := (List.range ls.length).filterMap (fun (j : Nat) => match (ls[j]? : Option Value) with
  | some (.int x) => some (j, .int x)
  | some (.ref a) => some (j, .ref (ad a))
  | _ => none)
theorem mx_ls_has {ad : Nat → Nat} {nL : Nat} {ls : List Value} {la : Array Slot} (h : mx_ls ad nL ls la) : lv_has la nL (mx_pr ad ls) := by
  obtain ⟨-, h2, h3, h4, h5⟩ := h
  refine ⟨h2, h3, fun q hq => ?_⟩
  obtain ⟨j, -, hj⟩ := List.mem_filterMap.mp hq
  split at hj
  next x hx => cases hj; exact h4 _ _ hx
  next a ha => cases hj; exact h5 _ _ ha
  next => cases hj
theorem mx_pr_int {ad : Nat → Nat} {ls : List Value} {i : Nat} {x : Int32} (h : ls[i]? = some (.int x)) : (i, Value.int x) ∈ mx_pr ad ls :=
  List.mem_filterMap.mpr ⟨i, List.mem_range.mpr (List.getElem?_eq_some_iff.mp h).1, by rw [h]⟩
theorem mx_pr_ref {ad : Nat → Nat} {ls : List Value} {i a : Nat} (h : ls[i]? = some (.ref a)) : (i, Value.ref (ad a)) ∈ mx_pr ad ls :=
  List.mem_filterMap.mpr ⟨i, List.mem_range.mpr (List.getElem?_eq_some_iff.mp h).1, by rw [h]⟩
/-- behind a store of a number or a cell -/
theorem mx_ls_st {ad : Nat → Nat} {nL : Nat} {ls : List Value} {la la' : Array Slot} (h : mx_ls ad nL ls la) {i : Nat} {w : Value} (hi : i < nL) (hw : (∃ x, w = .int x) ∨ ∃ a, w = .ref a)
    (h' : lv_has la' nL ((i, mx_v ad w) :: (mx_pr ad ls).filter (fun q => !(q.1 == i) && !(q.1 + 1 == i && q.2.category == 2)))) : mx_ls ad nL (ls.set i w) la' := by
  obtain ⟨hn, -⟩ := h
  obtain ⟨h2, h3, h4⟩ := h'
  refine ⟨by rw [List.length_set]; exact hn, h2, h3, fun j x hx => ?_, fun j a ha => ?_⟩
  · rw [List.getElem?_set] at hx
    by_cases hj : i = j
    · subst hj
      rw [if_pos rfl, if_pos (by omega)] at hx
      cases hx
      exact h4 _ List.mem_cons_self
    · rw [if_neg hj] at hx
      refine h4 (j, .int x) (List.mem_cons_of_mem _ (List.mem_filter.mpr ⟨mx_pr_int hx, ?_⟩))
      simp [Value.category, Ne.symm hj]
  · rw [List.getElem?_set] at ha
    by_cases hj : i = j
    · subst hj
      rw [if_pos rfl, if_pos (by omega)] at ha
      cases ha
      exact h4 _ List.mem_cons_self
    · rw [if_neg hj] at ha
      refine h4 (j, .ref (ad a)) (List.mem_cons_of_mem _ (List.mem_filter.mpr ⟨mx_pr_ref ha, ?_⟩))
      simp [Value.category, Ne.symm hj]
/-- the locals at a method's start -/
theorem mx_args {ad : Nat → Nat} : ∀ (a : List Value) (i : Nat), (∀ v ∈ a, (∃ x, v = .int x) ∨ ∃ k, v = .ref k) → ∀ j w, a[j]? = some w → (i + j, mx_v ad w) ∈ lv_args i (a.map (mx_v ad)) := by
  intro a
  induction a with
  | nil => intro i _ j w h; simp at h
  | cons v t ih =>
    intro i hc j w h
    have hv : (mx_v ad v).category = 1 := by rcases hc v List.mem_cons_self with ⟨x, rfl⟩ | ⟨k, rfl⟩ <;> rfl
    rw [List.map_cons, lv_args, hv, if_neg (by decide)]
    cases j with
    | zero => simp at h; subst h; exact List.mem_cons_self
    | succ j =>
      have := ih (i + 1) (fun u hu => hc u (List.mem_cons_of_mem _ hu)) j w (by simpa using h)
      rw [show i + 1 + j = i + (j + 1) by omega] at this
      exact List.mem_cons_of_mem _ this
theorem mx_sl {ad : Nat → Nat} : ∀ (a : List Value), (∀ v ∈ a, (∃ x, v = .int x) ∨ ∃ k, v = .ref k) → (lg_sl (a.map (mx_v ad))).length = a.length := by
  intro a
  induction a with
  | nil => intro _; rfl
  | cons v t ih =>
    intro hc
    have hv : (mx_v ad v).category = 1 := by rcases hc v List.mem_cons_self with ⟨x, rfl⟩ | ⟨k, rfl⟩ <;> rfl
    have h2 := ih (fun u hu => hc u (List.mem_cons_of_mem _ hu))
    simp only [lg_sl, List.map_cons, List.flatMap_cons, hv] at h2 ⊢
    simp [h2]
theorem mx_ls_0 {ad : Nat → Nat} {n : Nat} (a : List Value) (hc : ∀ v ∈ a, (∃ x, v = .int x) ∨ ∃ k, v = .ref k) (hn : a.length ≤ n) :
    mx_ls ad n (a ++ List.replicate (n - a.length) .null) ((lg_sl (a.map (mx_v ad)) ++ List.replicate (n - (lg_sl (a.map (mx_v ad))).length) Slot.unset).toArray) := by
  obtain ⟨h1, h2, h3⟩ := lv_entry (a.map (mx_v ad)) (n := n) (by rw [mx_sl a hc]; exact hn)
  have key : ∀ (j : Nat) (w : Value), (a ++ List.replicate (n - a.length) Value.null)[j]? = some w → w ≠ Value.null → a[j]? = some w := by
    intro j w h hw
    rw [List.getElem?_append] at h
    split at h
    · exact h
    · rw [List.getElem?_replicate] at h
      split at h
      · cases h; exact absurd rfl hw
      · cases h
  refine ⟨by simp; omega, h1, h2, fun j x h => ?_, fun j k h => ?_⟩
  · have := mx_args (ad := ad) a 0 hc j _ (key j _ h (fun e => by cases e))
    exact h3 _ (by simpa [mx_v] using this)
  · have := mx_args (ad := ad) a 0 hc j _ (key j _ h (fun e => by cases e))
    exact h3 _ (by simpa [mx_v] using this)
/-- what never changes: words that no list carries, texts, classes that aren't one another's, statics -/
def mx_Z (LK : mx_L) (ad : Nat → Nat) (A : Nat → Prop) (U : State) (H : Heap) : Prop :=
  (∀ w ∈ mx_NW, va_Nw w U) ∧ (∀ q ∈ mx_SR, ∃ a, vk_R q.1 q.2.1 q.2.2 a U) ∧ (∀ q ∈ mx_NC, va_Nc q.1 q.2 U) ∧ vx_Zq Bundle.tN "UNASSIGNED_STACK" Bundle.steD A U H ∧ vx_Zq Bundle.tN "SUPPRESSED_SENTINEL" Bundle.listD A U H ∧
  (∀ (i : Nat) (nm : String), mx_SA[i]? = some nm → va_Z "PegBoards" nm "[I" (.ref (ad (1000 + i))) A U H) ∧
  ∀ (i : Nat) (q : Nat × (Nat → Int32)), LK.2[i]? = some q → va_X (ad (1000 + i)) q.1 q.2 U H ∧ ad (1000 + i) < H.size ∧ ¬ A (ad (1000 + i))
theorem mx_nk_warm {w : Cond} {s U : State} (hk : mx_nk w = true) (hW : s.WarmedH U.vm) (h : va_Nw w s) : va_Nw w U := by
  cases w <;> first | exact va_Nw.warmM hW h | exact va_Nw.warmF hW h | exact va_Nw.warmD hW h | exact va_Nw.warmC hW h | cases hk
theorem mx_Z.warm {LK : mx_L} {ad : Nat → Nat} {A : Nat → Prop} {s U : State} {H : Heap} (hW : s.WarmedH U.vm) (h : mx_Z LK ad A s H) : mx_Z LK ad A U H := by
  obtain ⟨h1, h2, h3, h4, h5, h6, h7⟩ := h
  refine ⟨fun w hw => mx_nk_warm (List.mem_filter.mp hw).2 hW (h1 w hw), fun q hq => ?_, fun q hq => ?_, vx_Zq.moved hW.alike h4, vx_Zq.moved hW.alike h5, fun i nm hi => va_Z.moved hW.alike (h6 i nm hi), fun i q hi => ?_⟩
  · obtain ⟨a, ha⟩ := h2 q hq
    exact ⟨a, vk_R.warm hW ha⟩
  · obtain ⟨c, t, q1, q2, q3⟩ := h3 q hq
    exact ⟨c, t, by rw [hW.alike.findClass]; exact q1, by rw [hW.alike.findClass]; exact q2, by rw [hW.alike.assignable]; exact q3⟩
  · obtain ⟨q2, q3, q4⟩ := h7 i q hi
    exact ⟨va_X.moved hW.alike q2, q3, q4⟩
theorem mx_Z.kept {LK : mx_L} {ad : Nat → Nat} {A : Nat → Prop} {U : State} {H H1 : Heap} (h : mx_Z LK ad A U H) (hs : H.size ≤ H1.size) (hq : ∀ a : Nat, a < H.size → ¬ A a → H1[a]? = H[a]?) : mx_Z LK ad A U H1 := by
  obtain ⟨h1, h2, h3, h4, h5, h6, h7⟩ := h
  refine ⟨h1, h2, h3, vx_Zq.kept h4 hq, vx_Zq.kept h5 hq, fun i nm hi => va_Z.kept (h6 i nm hi) hq, fun i q hi => ?_⟩
  obtain ⟨q2, q3, q4⟩ := h7 i q hi
  exact ⟨va_X.kept q2 (hq _ q3 q4), Nat.lt_of_lt_of_le q3 hs, q4⟩
theorem mx_Z.narrow {LK : mx_L} {ad : Nat → Nat} {A B : Nat → Prop} {U : State} {H : Heap} (h : mx_Z LK ad A U H) (hAB : ∀ q, B q → A q) : mx_Z LK ad B U H := by
  obtain ⟨h1, h2, h3, h4, h5, h6, h7⟩ := h
  refine ⟨h1, h2, h3, vx_Zq.narrow h4 hAB, vx_Zq.narrow h5 hAB, fun i nm hi => va_Z.narrow (h6 i nm hi) hAB, fun i q hi => ?_⟩
  obtain ⟨q2, q3, q4⟩ := h7 i q hi
  exact ⟨q2, q3, fun h => q4 (hAB _ h)⟩
end MX
end
section
/-! The machine's steps: what an instruction does to (pc, locals, stack, M), as a function; and that the bytecode does so. -/
section MS
def mx_len (i : Instr) : Nat := match i with
  | .bipush _ => 2
  | .iload _ => 2
  | .aload _ => 2
  | .istore _ => 2
  | .astore _ => 2
  | .sipush _ => 3
  | .iinc _ _ => 3
  | .getfield _ => 3
  | .putfield _ => 3
  | .goto _ => 3
  | _ => 1
abbrev mx_S : Type := Option (Option Prop × Nat × List Value × List Value × mx_M)
def mx_ld (pc : Nat) (ls st : List Value) (M : mx_M) (k : Nat) (n : Nat) (r : Bool) : mx_S := match ls[k]? with
  | some (.int x) => if r then none else some (none, pc + n, ls, .int x :: st, M)
  | some (.ref a) => if r then some (none, pc + n, ls, .ref a :: st, M) else none
  | _ => none
def mx_sto (pc : Nat) (ls st : List Value) (M : mx_M) (k : Nat) (n : Nat) (r : Bool) : mx_S := match st with
  | .int x :: st => if r then none else if k < ls.length then some (none, pc + n, ls.set k (.int x), st, M) else none
  | .ref a :: st => if r then (if k < ls.length then some (none, pc + n, ls.set k (.ref a), st, M) else none) else none
  | _ => none
def mx_bin (pc : Nat) (ls st : List Value) (M : mx_M) (f : Int32 → Int32 → Int32) : mx_S := match st with
  | .int y :: .int x :: st => some (none, pc + 1, ls, .int (f x y) :: st, M)
  | _ => none
def mx_dv (pc : Nat) (ls st : List Value) (M : mx_M) (f : Int32 → Int32 → Int32) : mx_S := match st with
  | .int y :: .int x :: st => some (some (¬ y = 0), pc + 1, ls, .int (f x y) :: st, M)
  | _ => none
def mx_one (v : Value) : Bool := match v with
  | .int _ => true
  | .ref _ => true
  | _ => false
def mx_gf (LK : mx_L) (M : mx_M) (a ci k : Nat) : Option Value := match LK.1[a]? with
  | some (.inr (.inl (c0, fs))) => if c0 = ci then (match fs[k]? with | some none => some (.int (M a k)) | some (some b) => some (.ref b) | none => none) else none
  | _ => none
def mx_pf (LK : mx_L) (a ci k : Nat) : Bool := match LK.1[a]? with
  | some (.inr (.inl (c0, fs))) => if c0 = ci then (match fs[k]? with | some none => true | _ => false) else false
  | _ => false
def mx_al (LK : mx_L) (a : Nat) : Option Nat := match LK.1[a]? with
  | some (.inl n) => some n
  | _ => none
def mx_zl (LK : mx_L) (a : Nat) : Option Nat := match LK.1[a]? with
  | some (.inr (.inr (.inr (.inr n)))) => some n
  | _ => none
def mx_ro (LK : mx_L) (a : Nat) : Option (Nat × (Nat → Int32)) := if 1000 ≤ a then LK.2[a - 1000]? else none
def mx_i (fl : mx_F) (LK : mx_L) (pc : Nat) (i : Instr) (ls st : List Value) (M : mx_M) : mx_S := match i with
  | .iconst c => some (none, pc + 1, ls, .int (Int32.ofInt c) :: st, M)
  | .bipush c => some (none, pc + 2, ls, .int (Int8.ofInt c).toInt32 :: st, M)
  | .sipush c => some (none, pc + 3, ls, .int (Int16.ofInt c).toInt32 :: st, M)
  | .iload_n k => mx_ld pc ls st M k 1 false
  | .iload k => mx_ld pc ls st M k 2 false
  | .aload_n k => mx_ld pc ls st M k 1 true
  | .aload k => mx_ld pc ls st M k 2 true
  | .istore_n k => mx_sto pc ls st M k 1 false
  | .istore k => mx_sto pc ls st M k 2 false
  | .astore_n k => mx_sto pc ls st M k 1 true
  | .astore k => mx_sto pc ls st M k 2 true
  | .iinc k c => (match ls[k]? with
    | some (.int x) => some (none, pc + 3, ls.set k (.int (x + Int32.ofInt c)), st, M)
    | _ => none)
  | .iadd => mx_bin pc ls st M (fun x y => x + y)
  | .isub => mx_bin pc ls st M (fun x y => x - y)
  | .imul => mx_bin pc ls st M (fun x y => x * y)
  | .iand => mx_bin pc ls st M (fun x y => x &&& y)
  | .ior => mx_bin pc ls st M (fun x y => x ||| y)
  | .ixor => mx_bin pc ls st M (fun x y => x ^^^ y)
  | .ishl => mx_bin pc ls st M (fun x y => x <<< (y &&& 31))
  | .ishr => mx_bin pc ls st M (fun x y => x >>> (y &&& 31))
  | .iushr => mx_bin pc ls st M (fun x y => (x.toUInt32 >>> (y.toUInt32 &&& Int32.toUInt32 31)).toInt32)
  | .idiv => mx_dv pc ls st M (fun x y => x / y)
  | .irem => mx_dv pc ls st M (fun x y => x - x / y * y)
  | .ineg => (match st with
    | .int x :: st => some (none, pc + 1, ls, .int (-x) :: st, M)
    | _ => none)
  | .dup => (match st with
    | v :: st => if mx_one v then some (none, pc + 1, ls, v :: v :: st, M) else none
    | _ => none)
  | .pop => (match st with
    | v :: st => if mx_one v then some (none, pc + 1, ls, st, M) else none
    | _ => none)
  | .dup_x1 => (match st with
    | v :: w :: st => if mx_one v && mx_one w then some (none, pc + 1, ls, v :: w :: v :: st, M) else none
    | _ => none)
  | .dup_x2 => (match st with
    | v :: w :: u :: st => if mx_one v && mx_one w && mx_one u then some (none, pc + 1, ls, v :: w :: u :: v :: st, M) else none
    | _ => none)
  | .dup2 => (match st with
    | v :: w :: st => if mx_one v && mx_one w then some (none, pc + 1, ls, v :: w :: v :: w :: st, M) else none
    | _ => none)
  | .goto off => if (0 : Int) ≤ (pc : Int) + off then some (none, ((pc : Int) + off).toNat, ls, st, M) else none
  | .getfield idx => (match st with
    | .ref a :: st => (match fl.lookup idx with
      | some (ci, kk, _) => (match mx_gf LK M a ci kk with
        | some v => some (none, pc + 3, ls, v :: st, M)
        | none => none)
      | none => none)
    | _ => none)
  | .putfield idx => (match st with
    | .int v :: .ref a :: st => (match fl.lookup idx with
      | some (ci, kk, t) => if mx_pf LK a ci kk then (if t = 1 then some (none, pc + 3, ls, st, mx_up M a kk v) else if t = 2 then some (some (v = 0 ∨ v = 1), pc + 3, ls, st, mx_up M a kk v) else none) else none
      | none => none)
    | _ => none)
  | .iaload => (match st with
    | .int i :: .ref a :: st => (match mx_al LK a with
      | some n => some (some (vp_in i n), pc + 1, ls, .int (M a i.toNatClampNeg) :: st, M)
      | none => (match mx_ro LK a with
        | some (n, f) => some (some (vp_in i n), pc + 1, ls, .int (f i.toNatClampNeg) :: st, M)
        | none => none))
    | _ => none)
  | .iastore => (match st with
    | .int v :: .int i :: .ref a :: st => (match mx_al LK a with
      | some n => some (some (vp_in i n), pc + 1, ls, st, mx_up M a i.toNatClampNeg v)
      | none => none)
    | _ => none)
  | .baload => (match st with
    | .int i :: .ref a :: st => (match mx_zl LK a with
      | some n => some (some (vp_in i n), pc + 1, ls, .int (M a i.toNatClampNeg) :: st, M)
      | none => none)
    | _ => none)
  | .bastore => (match st with
    | .int v :: .int i :: .ref a :: st => (match mx_zl LK a with
      | some n => some (some (vp_in i n ∧ (v = 0 ∨ v = 1)), pc + 1, ls, st, mx_up M a i.toNatClampNeg v)
      | none => none)
    | _ => none)
  | .arraylength => (match st with
    | .ref a :: st => (match mx_al LK a with
      | some n => some (none, pc + 1, ls, .int (Int32.ofNat n) :: st, M)
      | none => (match mx_ro LK a with
        | some (n, _) => some (none, pc + 1, ls, .int (Int32.ofNat n) :: st, M)
        | none => none))
    | _ => none)
  | _ => none
def mx_st (fl : mx_F) (LK : mx_L) (tab : mx_B) (pc : Nat) (ls st : List Value) (M : mx_M) : mx_S := match tab.lookup pc with
  | some (i, n) => if n = mx_len i then mx_i fl LK pc i ls st M else none
  | none => none
abbrev mx_SZ : Type := Option (Prop × Nat × List Value × List Value × mx_M)
def mx_run (fl : mx_F) (LK : mx_L) (tab : mx_B) : Nat → Nat → List Value → List Value → mx_M → mx_SZ
  | 0, pc, ls, st, M => some (True, pc, ls, st, M)
  | k + 1, pc, ls, st, M => match mx_st fl LK tab pc ls st M with
    | some (c, pc', ls', st', M') => (match mx_run fl LK tab k pc' ls' st' M' with
      | some (P, z) => some ((match c with | none => P | some q => q ∧ P), z)
      | none => none)
    | none => none
end MS
end
section
/-! Points of a body (mx_E), contracts (mx_Ct), and the step function's truth. -/
section MP
def mx_fr (d : Nat) : Nat := d + 10
def mx_lo (d : Nat) : Nat := 60 * d + 300
abbrev mx_R : Type := Option Value ⊕ String
def mx_Qc (LK : mx_L) (D : va_G) (T : mx_T) (ad : Nat → Nat) (A : Nat → Prop) (Q : mx_R → mx_M → Prop) : Array Value → State → Outcome → State → Prop := fun _ st o t =>
  (∃ (v : Option Value) (M : mx_M), o = .returned (v.map (mx_v ad)) ∧ Q (.inl v) M ∧ va_P D vwCl (mx_lay T ad LK M) t.heap) ∧ va_F A st t
def mx_XC (LK : mx_L) (D : va_G) (T : mx_T) (ad : Nat → Nat) (A : Nat → Prop) (Q : mx_R → mx_M → Prop) : String → State → State → Prop := fun E st t =>
  (∃ M : mx_M, Q (.inr E) M ∧ va_P D vwCl (mx_lay T ad LK M) t.heap) ∧ va_F A st t
/-- what holds all through a body -/
def mx_C (l : Launch) (LK : mx_L) (Y : mx_Y) (d : Nat) (p : Program) (R : Room) (s : State) (m : MethodId) (args : Array Value) (meth : Method) (c : Code) (D : va_G) (T : mx_T) (ad : Nat → Nat) (A : Nat → Prop) (mc ms : Nat) : Prop :=
  CallFix p m c (mx_bs Y) (mx_ml Y) s args (mx_ws Y) (mx_ow Y) ∧ (meth.sig.returnType = mx_rt Y ∧ meth.locks = false ∧ c.exceptionTable.toList = tableOf (mx_hh Y)) ∧
  (mx_ad LK ad ∧ (∀ k, k < LK.1.length → A (ad k)) ∧ ∀ q, s.heap.size ≤ q → A q) ∧ va_K D vwCl (mx_tys T) s ∧ mx_Z LK ad A s s.heap ∧
  (mc ≤ R.cells ∧ ms ≤ R.slots ∧ mx_fr d ≤ R.frames ∧ mx_lo d ≤ R.locals) ∧ l.stackTraces = false
def mx_E (l : Launch) (LK : mx_L) (Y : mx_Y) (d n : Nat) (Q : mx_R → mx_M → Prop) (pc : Nat) (ls st : List Value) (M : mx_M) : Prop :=
  ∀ (p : Program) (e : Env) (R : Room) (s : State) (m : MethodId) (args : Array Value) (below : List Frame) (meth : Method) (c : Code) (D : va_G) (T : mx_T) (ad : Nat → Nat) (A : Nat → Prop) (mc ms : Nat),
    mx_C l LK Y d p R s m args meth c D T ad A mc ms →
    ∀ (H : Heap) (locs : List Loc) (cells slots : Nat) (la : Array Slot), cells + n ≤ mc → slots + 6 * n ≤ ms → mx_ls ad (mx_ml Y) ls la → va_P D vwCl (mx_lay T ad LK M) H → va_S A s.heap H locs →
    W p l e R s m args below meth c H locs cells slots (vx_MQ below (mx_Qc LK D T ad A Q) (mx_XC LK D T ad A Q) args s mc ms A) (F0 m pc la (st.map (mx_v ad)))
theorem mx_lk {α : Type} : ∀ (l : List (Nat × α)) (k : Nat) (x : α), l.lookup k = some x → (k, x) ∈ l := by
  intro l
  induction l with
  | nil => intro k x h; simp at h
  | cons q t ih =>
    intro k x h
    obtain ⟨a, b⟩ := q
    rw [List.lookup_cons] at h
    split at h
    next hk => cases h; rw [eq_of_beq hk]; exact List.mem_cons_self
    next => exact List.mem_cons_of_mem _ (ih k x h)
theorem mx_ld_i {pc : Nat} {ls st : List Value} {M : mx_M} {k n : Nat} {r} (h : mx_ld pc ls st M k n false = some r) : ∃ x, ls[k]? = some (.int x) ∧ r = (none, pc + n, ls, .int x :: st, M) := by
  unfold mx_ld at h
  split at h
  next x hx => exact ⟨x, hx, (Option.some.inj h).symm⟩
  next => cases h
  next => cases h
theorem mx_ld_r {pc : Nat} {ls st : List Value} {M : mx_M} {k n : Nat} {r} (h : mx_ld pc ls st M k n true = some r) : ∃ x, ls[k]? = some (.ref x) ∧ r = (none, pc + n, ls, .ref x :: st, M) := by
  unfold mx_ld at h
  split at h
  next => cases h
  next x hx => exact ⟨x, hx, (Option.some.inj h).symm⟩
  next => cases h
theorem mx_sto_i {pc : Nat} {ls st : List Value} {M : mx_M} {k n : Nat} {r} (h : mx_sto pc ls st M k n false = some r) : ∃ x st', st = .int x :: st' ∧ k < ls.length ∧ r = (none, pc + n, ls.set k (.int x), st', M) := by
  unfold mx_sto at h
  split at h
  next x st' => 
    simp only [Bool.false_eq_true, if_false] at h
    split at h
    next hk => exact ⟨x, st', rfl, hk, (Option.some.inj h).symm⟩
    next => cases h
  next => cases h
  next => cases h
theorem mx_sto_r {pc : Nat} {ls st : List Value} {M : mx_M} {k n : Nat} {r} (h : mx_sto pc ls st M k n true = some r) : ∃ x st', st = .ref x :: st' ∧ k < ls.length ∧ r = (none, pc + n, ls.set k (.ref x), st', M) := by
  unfold mx_sto at h
  split at h
  next => cases h
  next x st' => 
    simp only [if_true] at h
    split at h
    next hk => exact ⟨x, st', rfl, hk, (Option.some.inj h).symm⟩
    next => cases h
  next => cases h
theorem mx_bin_s {pc : Nat} {ls st : List Value} {M : mx_M} {f} {r} (h : mx_bin pc ls st M f = some r) : ∃ x y st', st = .int y :: .int x :: st' ∧ r = (none, pc + 1, ls, .int (f x y) :: st', M) := by
  unfold mx_bin at h
  split at h
  next y x st' => exact ⟨x, y, st', rfl, (Option.some.inj h).symm⟩
  next => cases h
theorem mx_dv_s {pc : Nat} {ls st : List Value} {M : mx_M} {f} {r} (h : mx_dv pc ls st M f = some r) : ∃ x y st', st = .int y :: .int x :: st' ∧ r = (some (¬ y = 0), pc + 1, ls, .int (f x y) :: st', M) := by
  unfold mx_dv at h
  split at h
  next y x st' => exact ⟨x, y, st', rfl, (Option.some.inj h).symm⟩
  next => cases h
theorem mx_one_c {ad : Nat → Nat} {v : Value} (h : mx_one v = true) : (mx_v ad v).category = 1 := by
  cases v <;> first | rfl | cases h
theorem mx_gf_s {LK : mx_L} {M : mx_M} {a ci k : Nat} {v : Value} (h : mx_gf LK M a ci k = some v) : ∃ fs o, LK.1[a]? = some (.inr (.inl (ci, fs))) ∧ fs[k]? = some o ∧ v = (match o with | none => .int (M a k) | some b => .ref b) := by
  unfold mx_gf at h
  split at h
  next c fs ho =>
    split at h
    next hc =>
      subst hc
      split at h
      next hk => exact ⟨fs, _, ho, hk, (Option.some.inj h).symm⟩
      next b hk => exact ⟨fs, _, ho, hk, (Option.some.inj h).symm⟩
      next => cases h
    next => cases h
  next => cases h
theorem mx_pf_s {LK : mx_L} {a ci k : Nat} (h : mx_pf LK a ci k = true) : ∃ fs, LK.1[a]? = some (.inr (.inl (ci, fs))) ∧ fs[k]? = some none := by
  unfold mx_pf at h
  split at h
  next c fs ho =>
    split at h
    next hc =>
      subst hc
      split at h
      next hk => exact ⟨fs, ho, hk⟩
      next => cases h
    next => cases h
  next => cases h
theorem mx_al_s {LK : mx_L} {a n : Nat} (h : mx_al LK a = some n) : LK.1[a]? = some (.inl n) := by
  unfold mx_al at h
  split at h
  next m hm => cases h; exact hm
  next => cases h
theorem mx_ro_s {LK : mx_L} {a : Nat} {q : Nat × (Nat → Int32)} (h : mx_ro LK a = some q) : ∃ i, a = 1000 + i ∧ LK.2[i]? = some q := by
  unfold mx_ro at h
  split at h
  next ha => exact ⟨a - 1000, by omega, h⟩
  next => cases h
theorem mx_zl_s {LK : mx_L} {a n : Nat} (h : mx_zl LK a = some n) : LK.1[a]? = some (.inr (.inr (.inr (.inr n)))) := by
  unfold mx_zl at h
  split at h
  next m hm => cases h; exact hm
  next => cases h
theorem mx_fo_s {own : String} {f : Nat × Nat × Nat × Nat} (h : mx_fo own f = true) : ∃ (C : String) (T0 : u_T) (N : Nat), vwCl[f.2.1]? = some (C, T0, N) ∧ f.2.2.1 < N ∧ (T0 f.2.2.1).1 = C ∧ Cond.fieldLink own f.1 C (T0 f.2.2.1).2.1 (T0 f.2.2.1).2.2.1 ∈ mx_WS ∧ (∀ w ∈ u_ws C T0 N, w ∈ mx_WS) ∧
    (f.2.2.2 = 0 ∨ ((T0 f.2.2.1).2.2.2 = false ∧ parseFieldDescriptor (T0 f.2.2.1).2.2.1 = some (if f.2.2.2 = 2 then .boolean else .int))) := by
  unfold mx_fo at h
  split at h
  next q hq =>
    obtain ⟨C, T0, N⟩ := q
    simp only [Bool.and_eq_true, Bool.or_eq_true, decide_eq_true_eq, List.all_eq_true, Bool.not_eq_true'] at h
    obtain ⟨⟨⟨⟨h1, h2⟩, h3⟩, h4⟩, h5⟩ := h
    exact ⟨C, T0, N, hq, h1, h2, h3, h4, h5⟩
  next => cases h
/-- the step function tells the truth -/
theorem mx_st_ok {l : Launch} {LK : mx_L} {Y : mx_Y} {d n : Nat} {Q : mx_R → mx_M → Prop} {fl : mx_F} {tab : mx_B} (hok : mx_ok Y fl tab) {pc : Nat} {ls st : List Value} {M : mx_M} {r}
    (h : mx_st fl LK tab pc ls st M = some r) (hP : ∀ q, r.1 = some q → q) (kk : mx_E l LK Y d n Q r.2.1 r.2.2.1 r.2.2.2.1 r.2.2.2.2) : mx_E l LK Y d n Q pc ls st M := by
  unfold mx_st at h
  split at h
  next i len hx =>
    split at h
    next hlen =>
      have hd : decode (mx_bs Y) pc = .ok (i, mx_len i) := by
        have := hok.1 _ (mx_lk _ _ _ hx)
        dsimp only at this
        rw [this, hlen]
      clear hx hlen
      intro p e R s m args below meth c D T ad A mc ms hC H locs cells slots la h1 h2 hls hPw hS
      have hCC := hC
      obtain ⟨⟨hx, hb, hml, hown, hts⟩, ⟨hrt, hlk, htb⟩, ⟨had, hAd, hA⟩, hK, hZ, hroom, hl⟩ := hCC
      have k := kk p e R s m args below meth c D T ad A mc ms hC
      have hD := mx_D (T := T) had hAd
      cases i <;> (try (exact nomatch (show (none : mx_S) = some r from h)))
      case iconst v => obtain rfl := Option.some.inj h; exact lv_iconst hx hb hd rfl (k H locs cells slots la h1 h2 hls hPw hS)
      case bipush v => obtain rfl := Option.some.inj h; exact lv_bipush hx hb hd rfl (k H locs cells slots la h1 h2 hls hPw hS)
      case sipush v => obtain rfl := Option.some.inj h; exact lv_sipush hx hb hd rfl (k H locs cells slots la h1 h2 hls hPw hS)
      case iload_n v => obtain ⟨x, hx1, rfl⟩ := mx_ld_i h; exact lv_iload_n hx hb hd rfl (hls.2.2.2.1 _ _ hx1) (k H locs cells slots la h1 h2 hls hPw hS)
      case iload v => obtain ⟨x, hx1, rfl⟩ := mx_ld_i h; exact lv_iload hx hb hd (hls.2.2.2.1 _ _ hx1) (k H locs cells slots la h1 h2 hls hPw hS)
      case aload_n v => obtain ⟨x, hx1, rfl⟩ := mx_ld_r h; exact lv_aload_n hx hb hd rfl (hls.2.2.2.2 _ _ hx1) (k H locs cells slots la h1 h2 hls hPw hS)
      case aload v => obtain ⟨x, hx1, rfl⟩ := mx_ld_r h; exact lv_aload hx hb hd (hls.2.2.2.2 _ _ hx1) (k H locs cells slots la h1 h2 hls hPw hS)
      case istore_n v => obtain ⟨x, st', rfl, hk, rfl⟩ := mx_sto_i h; exact lv_istore_n hx hb hd rfl (mx_ls_has hls) (by rw [← hls.1]; exact hk) rfl (fun la' hl' => k H locs cells slots la' h1 h2 (mx_ls_st hls (by rw [← hls.1]; exact hk) (Or.inl ⟨x, rfl⟩) hl') hPw hS)
      case istore v => obtain ⟨x, st', rfl, hk, rfl⟩ := mx_sto_i h; exact lv_istore hx hb hd (mx_ls_has hls) (by rw [← hls.1]; exact hk) rfl (fun la' hl' => k H locs cells slots la' h1 h2 (mx_ls_st hls (by rw [← hls.1]; exact hk) (Or.inl ⟨x, rfl⟩) hl') hPw hS)
      case astore_n v => obtain ⟨x, st', rfl, hk, rfl⟩ := mx_sto_r h; exact lv_astore_n hx hb hd rfl (mx_ls_has hls) (by rw [← hls.1]; exact hk) rfl (fun la' hl' => k H locs cells slots la' h1 h2 (mx_ls_st hls (by rw [← hls.1]; exact hk) (Or.inr ⟨x, rfl⟩) hl') hPw hS)
      case astore v => obtain ⟨x, st', rfl, hk, rfl⟩ := mx_sto_r h; exact lv_astore hx hb hd (mx_ls_has hls) (by rw [← hls.1]; exact hk) rfl (fun la' hl' => k H locs cells slots la' h1 h2 (mx_ls_st hls (by rw [← hls.1]; exact hk) (Or.inr ⟨x, rfl⟩) hl') hPw hS)
      case iinc v c0 =>
        simp only [mx_i] at h
        split at h
        next x hx1 =>
          obtain rfl := Option.some.inj h
          obtain ⟨j, hj⟩ := List.getElem?_of_mem (mx_pr_int (ad := ad) hx1)
          have hk : v < mx_ml Y := by rw [← hls.1]; exact (List.getElem?_eq_some_iff.mp hx1).1
          exact lv_iinc hx hb hd (mx_ls_has hls) hj rfl hk rfl (fun la' hl' => k H locs cells slots la' h1 h2 (mx_ls_st hls hk (Or.inl ⟨_, rfl⟩) hl') hPw hS)
        next => cases h
      case iadd => obtain ⟨x, y, st', rfl, rfl⟩ := mx_bin_s h; exact lv_iadd hx hb hd (k H locs cells slots la h1 h2 hls hPw hS)
      case isub => obtain ⟨x, y, st', rfl, rfl⟩ := mx_bin_s h; exact lv_isub hx hb hd (k H locs cells slots la h1 h2 hls hPw hS)
      case imul => obtain ⟨x, y, st', rfl, rfl⟩ := mx_bin_s h; exact lv_imul hx hb hd (k H locs cells slots la h1 h2 hls hPw hS)
      case iand => obtain ⟨x, y, st', rfl, rfl⟩ := mx_bin_s h; exact lv_iand hx hb hd (k H locs cells slots la h1 h2 hls hPw hS)
      case ior => obtain ⟨x, y, st', rfl, rfl⟩ := mx_bin_s h; exact lv_ior hx hb hd (k H locs cells slots la h1 h2 hls hPw hS)
      case ixor => obtain ⟨x, y, st', rfl, rfl⟩ := mx_bin_s h; exact lv_ixor hx hb hd (k H locs cells slots la h1 h2 hls hPw hS)
      case ishl => obtain ⟨x, y, st', rfl, rfl⟩ := mx_bin_s h; exact lv_ishl hx hb hd (k H locs cells slots la h1 h2 hls hPw hS)
      case ishr => obtain ⟨x, y, st', rfl, rfl⟩ := mx_bin_s h; exact lv_ishr hx hb hd (k H locs cells slots la h1 h2 hls hPw hS)
      case iushr => obtain ⟨x, y, st', rfl, rfl⟩ := mx_bin_s h; exact lv_iushr hx hb hd rfl (k H locs cells slots la h1 h2 hls hPw hS)
      case idiv => obtain ⟨x, y, st', rfl, rfl⟩ := mx_dv_s h; exact lv_idiv hx hb hd (hP _ rfl) (k H locs cells slots la h1 h2 hls hPw hS)
      case irem => obtain ⟨x, y, st', rfl, rfl⟩ := mx_dv_s h; exact lv_irem hx hb hd (hP _ rfl) (k H locs cells slots la h1 h2 hls hPw hS)
      case ineg =>
        simp only [mx_i] at h
        split at h
        next => obtain rfl := Option.some.inj h; exact lv_ineg hx hb hd (k H locs cells slots la h1 h2 hls hPw hS)
        next => cases h
      case dup =>
        simp only [mx_i] at h
        split at h
        next v st' =>
          split at h
          next hv => obtain rfl := Option.some.inj h; exact lv_dup hx hb hd (mx_one_c hv) (k H locs cells slots la h1 h2 hls hPw hS)
          next => cases h
        next => cases h
      case pop =>
        simp only [mx_i] at h
        split at h
        next v st' =>
          split at h
          next hv => obtain rfl := Option.some.inj h; exact lv_pop hx hb hd (mx_one_c hv) (k H locs cells slots la h1 h2 hls hPw hS)
          next => cases h
        next => cases h
      case dup_x1 =>
        simp only [mx_i] at h
        split at h
        next v w st' =>
          split at h
          next hv => obtain rfl := Option.some.inj h; simp only [Bool.and_eq_true] at hv; exact lv_dup_x1 hx hb hd (mx_one_c hv.1) (mx_one_c hv.2) (k H locs cells slots la h1 h2 hls hPw hS)
          next => cases h
        next => cases h
      case dup_x2 =>
        simp only [mx_i] at h
        split at h
        next v w u st' =>
          split at h
          next hv => obtain rfl := Option.some.inj h; simp only [Bool.and_eq_true] at hv; exact lv_dup_x2 hx hb hd (mx_one_c hv.1.1) (mx_one_c hv.1.2) (mx_one_c hv.2) (k H locs cells slots la h1 h2 hls hPw hS)
          next => cases h
        next => cases h
      case dup2 =>
        simp only [mx_i] at h
        split at h
        next v w st' =>
          split at h
          next hv => obtain rfl := Option.some.inj h; simp only [Bool.and_eq_true] at hv; exact lv_dup2_11 hx hb hd (mx_one_c hv.1) (mx_one_c hv.2) (k H locs cells slots la h1 h2 hls hPw hS)
          next => cases h
        next => cases h
      case getfield idx =>
        simp only [mx_i] at h
        split at h
        next a st' =>
          split at h
          next ci kf tt hf =>
            split at h
            next v hv =>
              obtain rfl := Option.some.inj h
              obtain ⟨fs, o, hLK, ho, rfl⟩ := mx_gf_s hv
              obtain ⟨C, T0, N, q1, q2, q3, q4, q5, -⟩ := mx_fo_s (List.all_eq_true.mp hok.2.1 _ (mx_lk _ _ _ hf))
              dsimp only at q1 q2 q3 q4 q5
              refine va_get hx hb hts (fun w hw => hok.2.2 w (q5 w hw)) hown hK hPw a (mx_lay_get hLK) q1 kf q2 (hts _ (hok.2.2 _ q4)) (fun x hx => by rw [q3] at hx; exact hx) (mx_fs_get ho) hd ?_
              have k9 := k H locs cells slots la h1 h2 hls hPw hS
              cases o <;> exact k9
            next => cases h
          next => cases h
        next => cases h
      case putfield idx =>
        simp only [mx_i] at h
        split at h
        next v a st' =>
          split at h
          next ci kf tt hf =>
            split at h
            next hv =>
              obtain ⟨fs, hLK, ho⟩ := mx_pf_s hv
              obtain ⟨C, T0, N, q1, q2, q3, q4, q5, q6⟩ := mx_fo_s (List.all_eq_true.mp hok.2.1 _ (mx_lk _ _ _ hf))
              dsimp only at q1 q2 q3 q4 q5 q6
              obtain ⟨ty0, hty, hnm⟩ := mx_ty _ _ _ _ q1
              have hlen : kf < (mx_fs ad (M a) fs).length := by
                have := (List.getElem?_eq_some_iff.mp ho).1
                simpa [mx_fs] using this
              have key : ∀ (r2 : mx_M), r2 = mx_up M a kf v → (mx_lay T ad LK M).set a (ad a, .inr (ci, (mx_fs ad (M a) fs).set kf (.int v))) = mx_lay T ad LK r2 := by
                intro r2 e2
                rw [e2, ← mx_lay_up hLK, mx_fs_set ho]
                rfl
              split at h
              next ht =>
                obtain rfl := Option.some.inj h
                rcases q6 with q6 | ⟨q6, q7⟩
                · omega
                rw [if_neg (by omega)] at q7
                refine va_put hx hb hts (fun w hw => hok.2.2 w (q5 w hw)) ty0 hty hnm hown hK hPw (hD M) hS a (mx_lay_get hLK) q1 kf q2 (hts _ (hok.2.2 _ q4)) (fun x hx => by rw [q3] at hx; exact hx) q6 q7 rfl rfl hlen hd (fun H1 locs1 a1 a2 a3 => ?_)
                exact k H1 locs1 cells slots la h1 h2 hls (by rw [← key _ rfl]; exact a1) a3
              next =>
                split at h
                next ht =>
                  obtain rfl := Option.some.inj h
                  have hv2 := hP _ rfl
                  rcases q6 with q6 | ⟨q6, q7⟩
                  · omega
                  rw [if_pos ht] at q7
                  refine va_put hx hb hts (fun w hw => hok.2.2 w (q5 w hw)) ty0 hty hnm hown hK hPw (hD M) hS a (mx_lay_get hLK) q1 kf q2 (hts _ (hok.2.2 _ q4)) (fun x hx => by rw [q3] at hx; exact hx) q6 q7 (by rcases hv2 with rfl | rfl <;> rfl) (by rcases hv2 with rfl | rfl <;> rfl) hlen hd (fun H1 locs1 a1 a2 a3 => ?_)
                  exact k H1 locs1 cells slots la h1 h2 hls (by rw [← key _ rfl]; exact a1) a3
                next => cases h
            next => cases h
          next => cases h
        next => cases h
      case goto off =>
        simp only [mx_i] at h
        split at h
        next ho =>
          obtain rfl := Option.some.inj h
          exact lv_goto hx hb hd (Int.toNat_of_nonneg ho).symm (k H locs cells slots la h1 h2 hls hPw hS)
        next => cases h
      case iaload =>
        simp only [mx_i] at h
        split at h
        next j a st' =>
          split at h
          next n0 hn0 =>
            obtain rfl := Option.some.inj h
            exact va_iald hx hb hK hPw a 0 (mx_lay_get (mx_al_s hn0)) rfl (hP _ rfl) hd (k H locs cells slots la h1 h2 hls hPw hS)
          next =>
            split at h
            next qn qf hq =>
              obtain rfl := Option.some.inj h
              obtain ⟨i0, rfl, hi0⟩ := mx_ro_s hq
              obtain ⟨z1, z2, z3⟩ := hZ.2.2.2.2.2.2 i0 (qn, qf) hi0
              exact va_sld hx hb z1 z2 z3 hS (hP _ rfl) hd (k H locs cells slots la h1 h2 hls hPw hS)
            next => cases h
        next => cases h
      case iastore =>
        simp only [mx_i] at h
        split at h
        next v j a st' =>
          split at h
          next n0 hn0 =>
            obtain rfl := Option.some.inj h
            refine va_iast hx hb hK hPw (hD M) hS a 0 (mx_lay_get (mx_al_s hn0)) rfl (hP _ rfl) hd (fun H1 locs1 a1 a2 a3 => ?_)
            exact k H1 locs1 cells slots la h1 h2 hls (by rw [← mx_lay_up (mx_al_s hn0)]; exact a1) a3
          next => cases h
        next => cases h
      case baload =>
        simp only [mx_i] at h
        split at h
        next j a st' =>
          split at h
          next n0 hn0 =>
            obtain rfl := Option.some.inj h
            exact va_zald hx hb hK hPw a 3 (mx_lay_get (mx_zl_s hn0)) rfl (hP _ rfl) hd (k H locs cells slots la h1 h2 hls hPw hS)
          next => cases h
        next => cases h
      case bastore =>
        simp only [mx_i] at h
        split at h
        next v j a st' =>
          split at h
          next n0 hn0 =>
            obtain rfl := Option.some.inj h
            obtain ⟨hv1, hv2⟩ := hP _ rfl
            have hv3 : vp_nar .boolean v = v := by rcases hv2 with rfl | rfl <;> rfl
            refine va_zast hx hb hK hPw (hD M) hS a 3 (mx_lay_get (mx_zl_s hn0)) rfl hv1 hd (fun H1 locs1 a1 a2 a3 => ?_)
            rw [hv3] at a1
            exact k H1 locs1 cells slots la h1 h2 hls (by rw [← mx_lay_up (mx_zl_s hn0)]; exact a1) a3
          next => cases h
        next => cases h
      case arraylength =>
        simp only [mx_i] at h
        split at h
        next a st' =>
          split at h
          next n0 hn0 =>
            obtain rfl := Option.some.inj h
            exact va_alen hx hb hK hPw a 0 (mx_lay_get (mx_al_s hn0)) rfl rfl hd (k H locs cells slots la h1 h2 hls hPw hS)
          next =>
            split at h
            next qn qf hq =>
              obtain rfl := Option.some.inj h
              obtain ⟨i0, rfl, hi0⟩ := mx_ro_s hq
              obtain ⟨z1, z2, z3⟩ := hZ.2.2.2.2.2.2 i0 (qn, qf) hi0
              exact va_slen hx hb z1 z2 z3 hS hd (k H locs cells slots la h1 h2 hls hPw hS)
            next => cases h
        next => cases h
    next => cases h
  next => cases h
end MP
end
section
/-! Rules: many steps at once, branches, returns, calls, a method's whole body. -/
section MR
variable {l : Launch} {LK : mx_L} {Y : mx_Y} {d n : Nat} {Q : mx_R → mx_M → Prop} {fl : mx_F} {tab : mx_B} {pc : Nat} {ls st : List Value} {M : mx_M}
/-- k steps -/
theorem mx_go (hok : mx_ok Y fl tab) : ∀ (k : Nat) {pc : Nat} {ls st : List Value} {M : mx_M} {P : Prop} {pc' : Nat} {ls' st' : List Value} {M' : mx_M}, mx_run fl LK tab k pc ls st M = some (P, pc', ls', st', M') → P → mx_E l LK Y d n Q pc' ls' st' M' → mx_E l LK Y d n Q pc ls st M := by
  intro k
  induction k with
  | zero => intro pc ls st M P pc' ls' st' M' h _ kk; cases h; exact kk
  | succ k ih =>
    intro pc ls st M P pc' ls' st' M' h hP kk
    simp only [mx_run] at h
    split at h
    next c0 pc2 ls2 st2 M2 hr =>
      split at h
      next zP z2 hz =>
        have e := Option.some.inj h
        obtain ⟨e1, rfl⟩ := Prod.mk.inj e
        refine mx_st_ok hok hr ?_ (ih hz ?_ kk)
        · intro q hq
          dsimp only at hq
          subst hq
          dsimp only at e1
          rw [← e1] at hP
          exact hP.1
        · cases c0 with
          | none => dsimp only at e1; rw [← e1] at hP; exact hP
          | some q => dsimp only at e1; rw [← e1] at hP; exact hP.2
      next => cases h
    next => cases h
/-- where a branch goes: the question, its contrary, the place if yes, the place if no, the stack behind it -/
def mx_c (tab : mx_B) (pc : Nat) (st : List Value) : Option (Prop × Prop × Nat × Nat × List Value) := match tab.lookup pc with
  | some (.if_icmp cd off, 3) => (match st with
    | .int y :: .int x :: st => if (0 : Int) ≤ (pc : Int) + off then (match cd with
      | .eq => some (x = y, ¬ x = y, ((pc : Int) + off).toNat, pc + 3, st)
      | .ne => some (¬ x = y, x = y, ((pc : Int) + off).toNat, pc + 3, st)
      | .lt => some (x < y, ¬ x < y, ((pc : Int) + off).toNat, pc + 3, st)
      | .ge => some (y ≤ x, ¬ y ≤ x, ((pc : Int) + off).toNat, pc + 3, st)
      | .gt => some (y < x, ¬ y < x, ((pc : Int) + off).toNat, pc + 3, st)
      | .le => some (x ≤ y, ¬ x ≤ y, ((pc : Int) + off).toNat, pc + 3, st)) else none
    | _ => none)
  | some (.ifCond cd off, 3) => (match st with
    | .int x :: st => if (0 : Int) ≤ (pc : Int) + off then (match cd with
      | .eq => some (x = 0, ¬ x = 0, ((pc : Int) + off).toNat, pc + 3, st)
      | .ne => some (¬ x = 0, x = 0, ((pc : Int) + off).toNat, pc + 3, st)
      | .lt => some (x < 0, ¬ x < 0, ((pc : Int) + off).toNat, pc + 3, st)
      | .ge => some (0 ≤ x, ¬ 0 ≤ x, ((pc : Int) + off).toNat, pc + 3, st)
      | .gt => some (0 < x, ¬ 0 < x, ((pc : Int) + off).toNat, pc + 3, st)
      | .le => some (x ≤ 0, ¬ x ≤ 0, ((pc : Int) + off).toNat, pc + 3, st)) else none
    | _ => none)
  | _ => none
theorem mx_br (hok : mx_ok Y fl tab) {yes no : Prop} {t f : Nat} {st' : List Value} (h : mx_c tab pc st = some (yes, no, t, f, st')) (kt : yes → mx_E l LK Y d n Q t ls st' M) (kf : no → mx_E l LK Y d n Q f ls st' M) : mx_E l LK Y d n Q pc ls st M := by
  unfold mx_c at h
  split at h
  next cd off hl =>
    have hd := hok.1 _ (mx_lk _ _ _ hl)
    dsimp only at hd
    split at h
    next y x st2 =>
      split at h
      next ho =>
        intro p e R s m args below meth c D T ad A mc ms hC H locs cells slots la h1 h2 hls hPw hS
        have hCC := hC
        obtain ⟨⟨hx, hb, -⟩, -⟩ := hCC
        have ht : (pc : Int) + off = ((((pc : Int) + off).toNat : Nat) : Int) := by omega
        cases cd <;> (dsimp only at h; cases h)
        case eq => exact lv_icmp_eq hx hb hd ht (fun q => kt q p e R s m args below meth c D T ad A mc ms hC H locs cells slots la h1 h2 hls hPw hS) (fun q => kf q p e R s m args below meth c D T ad A mc ms hC H locs cells slots la h1 h2 hls hPw hS)
        case ne => exact lv_icmp_ne hx hb hd ht (fun q => kt q p e R s m args below meth c D T ad A mc ms hC H locs cells slots la h1 h2 hls hPw hS) (fun q => kf q p e R s m args below meth c D T ad A mc ms hC H locs cells slots la h1 h2 hls hPw hS)
        case lt => exact lv_icmp_lt hx hb hd ht (fun q => kt q p e R s m args below meth c D T ad A mc ms hC H locs cells slots la h1 h2 hls hPw hS) (fun q => kf q p e R s m args below meth c D T ad A mc ms hC H locs cells slots la h1 h2 hls hPw hS)
        case ge => exact lv_icmp_ge hx hb hd ht (fun q => kt q p e R s m args below meth c D T ad A mc ms hC H locs cells slots la h1 h2 hls hPw hS) (fun q => kf q p e R s m args below meth c D T ad A mc ms hC H locs cells slots la h1 h2 hls hPw hS)
        case gt => exact lv_icmp_gt hx hb hd ht (fun q => kt q p e R s m args below meth c D T ad A mc ms hC H locs cells slots la h1 h2 hls hPw hS) (fun q => kf q p e R s m args below meth c D T ad A mc ms hC H locs cells slots la h1 h2 hls hPw hS)
        case le => exact lv_icmp_le hx hb hd ht (fun q => kt q p e R s m args below meth c D T ad A mc ms hC H locs cells slots la h1 h2 hls hPw hS) (fun q => kf q p e R s m args below meth c D T ad A mc ms hC H locs cells slots la h1 h2 hls hPw hS)
      next => cases h
    next => cases h
  next cd off hl =>
    have hd := hok.1 _ (mx_lk _ _ _ hl)
    dsimp only at hd
    split at h
    next x st2 =>
      split at h
      next ho =>
        intro p e R s m args below meth c D T ad A mc ms hC H locs cells slots la h1 h2 hls hPw hS
        have hCC := hC
        obtain ⟨⟨hx, hb, -⟩, -⟩ := hCC
        have ht : (pc : Int) + off = ((((pc : Int) + off).toNat : Nat) : Int) := by omega
        cases cd <;> (dsimp only at h; cases h)
        case eq => exact lv_if_eq hx hb hd ht (fun q => kt q p e R s m args below meth c D T ad A mc ms hC H locs cells slots la h1 h2 hls hPw hS) (fun q => kf q p e R s m args below meth c D T ad A mc ms hC H locs cells slots la h1 h2 hls hPw hS)
        case ne => exact lv_if_ne hx hb hd ht (fun q => kt q p e R s m args below meth c D T ad A mc ms hC H locs cells slots la h1 h2 hls hPw hS) (fun q => kf q p e R s m args below meth c D T ad A mc ms hC H locs cells slots la h1 h2 hls hPw hS)
        case lt => exact lv_if_lt hx hb hd ht (fun q => kt q p e R s m args below meth c D T ad A mc ms hC H locs cells slots la h1 h2 hls hPw hS) (fun q => kf q p e R s m args below meth c D T ad A mc ms hC H locs cells slots la h1 h2 hls hPw hS)
        case ge => exact lv_if_ge hx hb hd ht (fun q => kt q p e R s m args below meth c D T ad A mc ms hC H locs cells slots la h1 h2 hls hPw hS) (fun q => kf q p e R s m args below meth c D T ad A mc ms hC H locs cells slots la h1 h2 hls hPw hS)
        case gt => exact lv_if_gt hx hb hd ht (fun q => kt q p e R s m args below meth c D T ad A mc ms hC H locs cells slots la h1 h2 hls hPw hS) (fun q => kf q p e R s m args below meth c D T ad A mc ms hC H locs cells slots la h1 h2 hls hPw hS)
        case le => exact lv_if_le hx hb hd ht (fun q => kt q p e R s m args below meth c D T ad A mc ms hC H locs cells slots la h1 h2 hls hPw hS) (fun q => kf q p e R s m args below meth c D T ad A mc ms hC H locs cells slots la h1 h2 hls hPw hS)
      next => cases h
    next => cases h
  next => cases h
/-- k steps, then a branch -/
def mx_rb (fl : mx_F) (LK : mx_L) (tab : mx_B) (k pc : Nat) (ls st : List Value) (M : mx_M) : Option (Prop × Prop × Prop × Nat × Nat × List Value × List Value × mx_M) := match mx_run fl LK tab k pc ls st M with
  | some (P, pc', ls', st', M') => (match mx_c tab pc' st' with
    | some (y, n, t, f, st2) => some (P, y, n, t, f, ls', st2, M')
    | none => none)
  | none => none
theorem mx_if (hok : mx_ok Y fl tab) (k : Nat) {P yes no : Prop} {t f : Nat} {ls' st' : List Value} {M' : mx_M} (h : mx_rb fl LK tab k pc ls st M = some (P, yes, no, t, f, ls', st', M')) (hP : P)
    (kt : yes → mx_E l LK Y d n Q t ls' st' M') (kf : no → mx_E l LK Y d n Q f ls' st' M') : mx_E l LK Y d n Q pc ls st M := by
  unfold mx_rb at h
  split at h
  next P2 pc2 ls2 st2 M2 h2 =>
    split at h
    next y2 n2 t2 f2 st3 h3 =>
      cases h
      exact mx_go hok k h2 hP (mx_br hok h3 kt kf)
    next => cases h
  next => cases h
theorem mx_ret_i (hok : mx_ok Y fl tab) (hr : mx_rt Y = some .int) (k : Nat) {P : Prop} {pc' : Nat} {ls' : List Value} {v : Int32} {M' : mx_M} (h : mx_run fl LK tab k pc ls st M = some (P, pc', ls', [.int v], M')) (hP : P) (hd : tab.lookup pc' = some (.ireturn, 1)) (hq : Q (.inl (some (.int v))) M') : mx_E l LK Y d n Q pc ls st M := by
  refine mx_go hok k h hP ?_
  have hd := hok.1 _ (mx_lk _ _ _ hd)
  dsimp only at hd
  intro p e R s m args below meth c D T ad A mc ms hC H locs cells slots la h1 h2 hls hPw hS
  obtain ⟨⟨hx, hb, -⟩, ⟨hrt, hlk, -⟩, -⟩ := hC
  refine W.widen (k := mc) (n := ms) (by omega) (by omega) (vx_ret ?_)
  exact W.iret hx hb (hrt.trans hr) (fun t ht hW => ⟨⟨some (.int v), M', rfl, hq, by rw [ht]; exact hPw⟩, hS.F ht⟩) hS.2.2 hd hlk
theorem mx_ret_z (hok : mx_ok Y fl tab) (hr : mx_rt Y = some .boolean) (k : Nat) {P : Prop} {pc' : Nat} {ls' : List Value} {v : Int32} {M' : mx_M} (h : mx_run fl LK tab k pc ls st M = some (P, pc', ls', [.int v], M')) (hP : P) (hd : tab.lookup pc' = some (.ireturn, 1)) (hv : v = 0 ∨ v = 1) (hq : Q (.inl (some (.int v))) M') : mx_E l LK Y d n Q pc ls st M := by
  refine mx_go hok k h hP ?_
  have hd := hok.1 _ (mx_lk _ _ _ hd)
  dsimp only at hd
  intro p e R s m args below meth c D T ad A mc ms hC H locs cells slots la h1 h2 hls hPw hS
  obtain ⟨⟨hx, hb, -⟩, ⟨hrt, hlk, -⟩, -⟩ := hC
  refine W.widen (k := mc) (n := ms) (by omega) (by omega) (vx_ret ?_)
  exact W.zret hx hb (hrt.trans hr) (by rcases hv with rfl | rfl <;> rfl) (fun t ht hW => ⟨⟨some (.int v), M', rfl, hq, by rw [ht]; exact hPw⟩, hS.F ht⟩) hS.2.2 hd hlk
theorem mx_ret_v (hok : mx_ok Y fl tab) (hr : mx_rt Y = none) (k : Nat) {P : Prop} {pc' : Nat} {ls' : List Value} {M' : mx_M} (h : mx_run fl LK tab k pc ls st M = some (P, pc', ls', [], M')) (hP : P) (hd : tab.lookup pc' = some (.return_, 1)) (hq : Q (.inl none) M') : mx_E l LK Y d n Q pc ls st M := by
  refine mx_go hok k h hP ?_
  have hd := hok.1 _ (mx_lk _ _ _ hd)
  dsimp only at hd
  intro p e R s m args below meth c D T ad A mc ms hC H locs cells slots la h1 h2 hls hPw hS
  obtain ⟨⟨hx, hb, -⟩, ⟨hrt, hlk, -⟩, -⟩ := hC
  refine W.widen (k := mc) (n := ms) (by omega) (by omega) (vx_ret ?_)
  exact W.vret hx hb (hrt.trans hr) (fun t ht hW => ⟨⟨none, M', rfl, hq, by rw [ht]; exact hPw⟩, hS.F ht⟩) hS.2.2 hd hlk
/-- what a contract may change -/
def mx_A (LK : mx_L) (ad : Nat → Nat) (sz : Nat) : Nat → Prop := fun q => (∃ k, k < LK.1.length ∧ q = ad k) ∨ sz ≤ q
def mx_rm (d n : Nat) : Room := { frames := mx_fr d, cells := n, slots := 6 * n, locals := mx_lo d }
def mx_Pc (LK : mx_L) (a : List Value) (M : mx_M) (D : va_G) (T : mx_T) (ad : Nat → Nat) (sz : Nat) : Array Value → State → Prop := va_Pc (a.map (mx_v ad)) (fun U => U.heap.size = sz ∧ va_P D vwCl (mx_lay T ad LK M) U.heap ∧ va_K D vwCl (mx_tys T) U ∧ mx_ad LK ad ∧ mx_Z LK ad (mx_A LK ad sz) U U.heap)
/-- a contract: with these arguments, from M: Q of the answer and of the numbers behind it; at most n cells (each of 6 places) are made -/
def mx_Ct (l : Launch) (LK : mx_L) (Y : mx_Y) (d n : Nat) (a : List Value) (M : mx_M) (Q : mx_R → mx_M → Prop) : Prop :=
  ∀ (D : va_G) (T : mx_T) (ad : Nat → Nat) (sz : Nat), vx_Met l (mx_nm Y) (mx_ws Y) (mx_rm d n) (mx_Pc LK a M D T ad sz) (mx_Qc LK D T ad (mx_A LK ad sz) Q) (mx_XC LK D T ad (mx_A LK ad sz) Q) n (6 * n) (mx_A LK ad sz)
theorem mx_blind {a : List Value} {D : va_G} {T : mx_T} {ad : Nat → Nat} {sz : Nat} : FrameBlind (mx_Pc LK a M D T ad sz) := by
  intro a2 U g mk ⟨q0, q1, q2, q3, q4, q5⟩
  exact ⟨q0, q1, q2, va_K.moved (u := U) (U := U.calling g mk a2) (Vm.Alike.refl U.vm) q3, q4, mx_Z.warm (s := U) (U := U.calling g mk a2) (State.WarmedH.refl U) q5⟩
theorem mx_ofW {y : MethodName} {ws ws' : List Cond} {rm : Room} {Pc : Array Value → State → Prop} {Qc : Array Value → State → Outcome → State → Prop} {XC : String → State → State → Prop} {mc ms : Nat} {free : Addr → Prop} {cc : ByteArray} {maxL : Nat} {ret : Option FieldType}
    (hy : plainFor y = true) (hw : ws = Cond.code y cc maxL ret :: ws')
    (body : ∀ p e s m args below meth c s₁, BodyLoose p l y (headSpec ws rm) cc maxL ret e s m args below meth c s₁ → c.maxLocals = maxL → (∀ x ∈ c.exceptionTable.toList, False) → Pc args s →
      W p l e (headSpec ws rm).room s m args below meth c s.heap [] 0 0 (vx_MQ below Qc XC args s mc ms free) (entryFrame m args maxL)) : vx_Met l y ws rm Pc Qc XC mc ms free := by
  refine MetFree.of_bodySF (code := cc) (maxLocals := maxL) (ret := ret) hy ?_ ?_
  · intro args s m h hn
    obtain ⟨meth, c, h1, h2, h3, h4, h5, h6, -, -⟩ := Cond.code_spec hn (atoms_spec (ws := ws) h _ (by rw [hw]; exact List.mem_cons_self))
    exact ⟨meth, c, h1, h2, h3, h4, h5, h6⟩
  · intro p e s m args below meth c s₁ B hml hP _
    have hh0 : s₁.heap = s.heap := by rw [B.state]; rfl
    have ht : ∀ x ∈ c.exceptionTable.toList, False := by
      obtain ⟨meth9, c9, h1, h2, -, -, -, -, h7, -⟩ := Cond.code_spec B.named (atoms_spec (ws := ws) B.pre _ (by rw [hw]; exact List.mem_cons_self))
      cases Option.some.inj (h1.symm.trans B.method)
      cases Option.some.inj (h2.symm.trans (Stand.of_body B).code)
      intro x hx
      rw [Array.isEmpty_iff.mp h7] at hx
      cases hx
    obtain ⟨t, a1, o, b1, b2, b3⟩ := body p e s m args below meth c s₁ B hml ht hP s₁ hh0 (Stand.of_body B)
    exact ⟨t, o, a1, b1, b2, b3⟩
theorem mx_body {a : List Value} {ws' : List Cond} (hl : l.stackTraces = false) (hy : plainFor (mx_nm Y) = true ∧ mx_ow Y = (mx_nm Y).cls ∧ mx_hh Y = [] ∧ a.length ≤ mx_ml Y) (hw : mx_ws Y = Cond.code (mx_nm Y) (mx_bs Y) (mx_ml Y) (mx_rt Y) :: ws') (hc : ∀ v ∈ a, (∃ x, v = .int x) ∨ ∃ k, v = .ref k)
    (h : mx_E l LK Y d n Q 0 (a ++ List.replicate (mx_ml Y - a.length) .null) [] M) : mx_Ct l LK Y d n a M Q := by
  obtain ⟨hy1, hy2, hy3, hy4⟩ := hy
  intro D T ad sz
  refine mx_ofW (cc := mx_bs Y) (maxL := mx_ml Y) (ret := mx_rt Y) hy1 hw ?_
  intro p e s m args below meth c s₁ B hml htb hv
  obtain ⟨rfl, rfl, hP, hK, had, hZ⟩ := hv
  have hts := atoms_spec (ws := mx_ws Y) B.pre
  have hown : s.vm.findClass (mx_ow Y) = some m.cls := by rw [hy2]; exact findClass_of_methodNamed B.named
  have h0 := mx_ls_0 (ad := ad) (n := mx_ml Y) a hc hy4
  rw [lg_entry_eq]
  have htb2 : c.exceptionTable.toList = tableOf (mx_hh Y) := by
    rw [hy3]
    cases hq : c.exceptionTable.toList with
    | nil => rfl
    | cons x t => exact (htb x (by rw [hq]; exact List.mem_cons_self)).elim
  exact h p e (headSpec (mx_ws Y) (mx_rm d n)).room s m _ below meth c D T ad (mx_A LK ad s.heap.size) n (6 * n)
    ⟨⟨B.exec, B.bytes, hml, hown, hts⟩, ⟨B.returns, B.notSynchronized, htb2⟩, ⟨had, fun k hk => Or.inl ⟨k, hk, rfl⟩, fun q hq => Or.inr hq⟩, hK, hZ, ⟨Nat.le_refl _, Nat.le_refl _, Nat.le_refl _, Nat.le_refl _⟩, hl⟩
    s.heap [] 0 0 _ (by omega) (by omega) h0 hP va_S.rf
end MR
end
section
/-! Calls by contract. -/
section MC
variable {l : Launch} {LK : mx_L} {Y Y' : mx_Y} {d n n' : Nat} {Q Q' : mx_R → mx_M → Prop} {fl : mx_F} {tab : mx_B} {pc : Nat} {ls st : List Value} {M : mx_M}
variable {p : Program} {e : Env} {R : Room} {s : State} {m : MethodId} {args : Array Value} {below : List Frame} {meth : Method} {c : Code} {D : va_G} {T : mx_T} {ad : Nat → Nat} {A : Nat → Prop} {mc ms : Nat} {H : Heap} {locs : List Loc} {cells slots : Nat} {la : Array Slot}
theorem mx_A_in (hC : mx_C l LK Y d p R s m args meth c D T ad A mc ms) (hS : va_S A s.heap H locs) : ∀ q, mx_A LK ad H.size q → A q := by
  obtain ⟨-, -, ⟨-, h2, h3⟩, -⟩ := hC
  intro q hq
  rcases hq with ⟨k, hk, rfl⟩ | hq
  · exact h2 k hk
  · exact h3 q (Nat.le_trans hS.1 hq)
/-- what a callee asks, at the caller's point -/
theorem mx_pre (hC : mx_C l LK Y d p R s m args meth c D T ad A mc ms) (hS : va_S A s.heap H locs) (hP : va_P D vwCl (mx_lay T ad LK M) H) (a : List Value) : ∀ U : State, U.heap = H → s.WarmedH U.vm → mx_Pc LK a M D T ad H.size (a.map (mx_v ad)).toArray U := by
  intro U hU hW
  have hin := mx_A_in hC hS
  obtain ⟨-, -, ⟨h1, -, -⟩, hK, hZ, -⟩ := hC
  exact ⟨rfl, by rw [hU], by rw [hU]; exact hP, va_K.moved hW.alike hK, h1, by rw [hU]; exact mx_Z.warm hW (mx_Z.narrow (mx_Z.kept hZ hS.1 hS.2.1) hin)⟩
/-- behind a call -/
theorem mx_back (hh : mx_hh Y = []) (hC : mx_C l LK Y d p R s m args meth c D T ad A mc ms) (h1 : cells + (n + n') ≤ mc) (h2 : slots + 6 * (n + n') ≤ ms) (hls : mx_ls ad (mx_ml Y) ls la) (hS : va_S A s.heap H locs) {st0 rest : List Value} {a : Array Value}
    (hr : vx_Run p l e R s m args below meth c H locs cells slots n' (6 * n') (F0 m pc la st0) (rest.map (mx_v ad)) (mx_Qc LK D T ad (mx_A LK ad H.size) Q' a) (mx_XC LK D T ad (mx_A LK ad H.size) Q') (mx_A LK ad H.size))
    (kr : ∀ v M', Q' (.inl v) M' → mx_E l LK Y d n Q (pc + 3) ls (v.toList ++ rest) M') (kx : ∀ E M', Q' (.inr E) M' → Q (.inr E) M') :
    W p l e R s m args below meth c H locs cells slots (vx_MQ below (mx_Qc LK D T ad A Q) (mx_XC LK D T ad A Q) args s mc ms A) (F0 m pc la st0) := by
  have hin := mx_A_in hC hS
  intro Tt hT X
  rcases hr Tt hT X with ⟨v0, st₀, t, T', L, h0, X', hL, e1, e2, ⟨⟨v, M', hv, hq, hP'⟩, hF⟩, st⟩ | ⟨q, st₀, t, T', L, E, ce, h0, X', hL, e1, e2, ⟨⟨M', hq, hP'⟩, hF⟩, hce, hcv, hcl, st⟩
  · obtain ⟨-, -, k3⟩ := vx_keep h0 e1 hS (fun q _ hq => hin q hq) hin hL hF
    have hv0 : v0 = v.map (mx_v ad) := by cases hv; rfl
    subst hv0
    obtain ⟨t2, a1, b1⟩ := kr v M' hq p e R s m args below meth c D T ad A mc ms hC T'.heap (locs ++ L) (cells + n') (slots + 6 * n') la (by omega) (by omega) hls (by rw [e1]; exact hP') k3 T' rfl X'
    refine ⟨t2, st t2 ?_, b1⟩
    have hst : (v.map (mx_v ad)).toList ++ rest.map (mx_v ad) = (v.toList ++ rest).map (mx_v ad) := by cases v <;> rfl
    show Steps p.tables e below (T'.setTop { method := m, pc := pc + 3, locals := la, stack := (v.map (mx_v ad)).toList ++ rest.map (mx_v ad), locked := none }) t2
    rw [hst]
    exact a1
  · obtain ⟨-, -, k3⟩ := vx_keep h0 e1 hS (fun q _ hq => hin q hq) hin hL hF
    obtain ⟨-, ⟨-, hlk, htb⟩, -⟩ := hC
    have hout : ∀ x ∈ c.exceptionTable.toList, covers x pc = false := by
      rw [htb, hh]
      intro x hx
      cases hx
    obtain ⟨t2, a1, b1⟩ := vx_out (Qc := mx_Qc LK D T ad A Q) (XC := mx_XC LK D T ad A Q) (mc := mc) (ms := ms) (free := A) (below := below) (args := args) (ls := la) (rest := rest.map (mx_v ad)) hout hlk (by rw [e1]; exact hce) hcv hcl
      (fun t' ht' _ => ⟨⟨M', kx E M' hq, by rw [ht', e1]; exact hP'⟩, k3.F ht'⟩) k3.2.2 (by omega) (by omega) T' rfl X'
    exact ⟨t2, st.trans a1, b1⟩
theorem mx_gi {big l : List Cond} (hb : ∀ w ∈ mx_WS, w ∈ big) (hl : ∀ w ∈ l, w ∈ mx_WS) : GoodIn big l := fun w hw => ⟨hb w (hl w hw), good_of_word (List.mem_filter.mp (hl w hw)).2⟩
theorem mx_cd_s {n0 : Nat} (h : mx_cdb Y' n0 = true) (hw : mx_ws Y' = Cond.code (mx_nm Y') (mx_bs Y') (mx_ml Y') (mx_rt Y') :: mx_WS) : (∀ w ∈ mx_ws Y', w ∈ mx_WS) ∧ Cond.initialized (mx_nm Y').cls ∈ mx_WS ∧ ((mx_nm Y').cls ≠ "java/lang/invoke/MethodHandle" ∧ (mx_nm Y').cls ≠ "java/lang/invoke/VarHandle" ∧ (parseMethodDescriptor (mx_nm Y').desc).map (fun d => d.parameters.length) = some n0) ∧ mx_ml Y' ≤ 40 := by
  simp only [mx_cdb, Bool.and_eq_true, decide_eq_true_eq] at h
  obtain ⟨⟨⟨⟨⟨h1, h2⟩, h3⟩, h4⟩, h5⟩, h6⟩ := h
  refine ⟨fun w hw2 => ?_, h1, ⟨h3, h4, h5⟩, h6⟩
  rw [hw] at hw2
  rcases List.mem_cons.mp hw2 with rfl | hw2
  · exact h2
  · exact hw2
theorem mx_room (hC : mx_C l LK Y (d + 1) p R s m args meth c D T ad A mc ms) (hm : mx_ml Y' ≤ 40) : (mx_rm d n').frames + 1 ≤ R.frames ∧ 8 + (mx_ml Y' + 11) + (mx_rm d n').locals ≤ R.locals := by
  obtain ⟨-, -, -, -, -, ⟨-, -, h3, h4⟩, -⟩ := hC
  have e1 : (mx_rm d n').frames = d + 10 := rfl
  have e2 : (mx_rm d n').locals = 60 * d + 300 := rfl
  have e3 : mx_fr (d + 1) = d + 1 + 10 := rfl
  have e4 : mx_lo (d + 1) = 60 * (d + 1) + 300 := rfl
  omega
def mx_w (st : List Value) : Nat := (st.map fun v => v.category).sum
theorem mx_w_v (rest : List Value) : ((rest.map (mx_v ad)).map fun v => v.category).sum = mx_w rest := by
  unfold mx_w
  rw [List.map_map]
  congr 1
  apply List.map_congr_left
  intro v _
  cases v <;> rfl
/-- an object of the layout, at the machine -/
theorem mx_recv (hC : mx_C l LK Y d p R s m args meth c D T ad A mc ms) (hP : va_P D vwCl (mx_lay T ad LK M) H) {b ci : Nat} {fs : List (Option Nat)} (hb : LK.1[b]? = some (.inr (.inl (ci, fs)))) {C : String} {T0 : u_T} {N : Nat} (hcl : vwCl[ci]? = some (C, T0, N)) :
    ∃ cellB : Cell, H[ad b]? = some cellB ∧ cellB.vm.isStatics = false ∧ s.vm.findClass C = some cellB.cls := by
  obtain ⟨-, -, -, hK, -⟩ := hC
  obtain ⟨r, h1, cell, q1, q2, q3, -⟩ := hP b _ (mx_lay_get hb)
  obtain ⟨-, hfc, -⟩ := hK.1 ci _ hcl
  refine ⟨cell, q1, by rw [q3]; rfl, ?_⟩
  rw [q2]; exact hfc
/-- a method of an object is called -/
theorem mx_cV (hok : mx_ok Y fl tab) (k : Nat) {P : Prop} {pc' b ci idx n0 : Nat} {ls' As rest : List Value} {M' : mx_M} {fs : List (Option Nat)} {T0 : u_T} {N : Nat} (hh : mx_hh Y = []) (hM : mx_Ct l LK Y' d n' (.ref b :: As) M' Q')
    (h : mx_run fl LK tab k pc ls st M = some (P, pc', ls', As.reverse ++ .ref b :: rest, M')) (hP : P) (hd : tab.lookup pc' = some (.invokevirtual idx, 3)) (hb : LK.1[b]? = some (.inr (.inl (ci, fs)))) (hcl : vwCl[ci]? = some ((mx_nm Y').cls, T0, N))
    (hc : mx_cvb (mx_ow Y) idx Y' = true) (hc2 : mx_cdb Y' n0 = true) (hw : mx_ws Y' = Cond.code (mx_nm Y') (mx_bs Y') (mx_ml Y') (mx_rt Y') :: mx_WS) (hn : As.length = n0) (hr : Nat.ble (mx_w rest) 8 = true)
    (kr : ∀ v M2, Q' (.inl v) M2 → mx_E l LK Y (d + 1) n Q (pc' + 3) ls' (v.toList ++ rest) M2) (kx : ∀ E M2, Q' (.inr E) M2 → Q (.inr E) M2) : mx_E l LK Y (d + 1) (n + n') Q pc ls st M := by
  refine mx_go hok k h hP ?_
  have hd := hok.1 _ (mx_lk _ _ _ hd)
  dsimp only at hd
  obtain ⟨w1, w2, w3, w4⟩ := mx_cd_s hc2 hw
  simp only [mx_cvb, Bool.and_eq_true, decide_eq_true_eq] at hc
  obtain ⟨⟨c1, c2⟩, c3⟩ := hc
  intro p e R s m args below meth c D T ad A mc ms hC H locs cells slots la h1 h2 hls hPw hS
  have hroom := mx_room (n' := n') hC w4
  have hrecv := mx_recv hC hPw hb hcl
  have hpre := mx_pre hC hS hPw (.ref b :: As)
  have hCC := hC
  obtain ⟨⟨hx, hbb, hml, hown, hts⟩, -, -, -, -, ⟨hmc, hms, -, -⟩, -⟩ := hCC
  have hg : GoodIn (mx_ws Y) (wsV (mx_ow Y) idx (mx_nm Y').cls (mx_nm Y') (mx_ws Y')) := mx_gi hok.2.2 (fun w hw2 => by
    simp only [wsV, List.mem_append, List.mem_cons, List.not_mem_nil, or_false] at hw2
    rcases hw2 with (rfl | rfl | rfl | rfl) | hw2
    · exact c1
    · exact c2
    · exact c3
    · exact w2
    · exact w1 w hw2)
  refine mx_back (n := n) (n' := n') (Q' := Q') (rest := rest) (a := (Value.ref (ad b) :: As.map (mx_v ad)).toArray) hh hC h1 h2 hls hS ?_ kr kx
  refine vx_runV (C := (mx_nm Y').cls) (bytes := mx_bs Y') (maxL := mx_ml Y') (ret := mx_rt Y') (n := n0) (b := ad b) (As := As.map (mx_v ad)) ⟨hx, hbb, hml, hown, hts⟩ (hM D T ad H.size) (cwV n0 hts hg hw rfl rfl ⟨rfl, w3⟩ hroom) ⟨mx_blind, hrecv, hpre⟩ rfl (by rw [List.length_map]; exact hn) hls.2.1 ?_ ?_ hd ⟨by omega, by omega⟩
  · show List.map (mx_v ad) (As.reverse ++ .ref b :: rest) = _
    rw [List.map_append, List.map_reverse]
    rfl
  · show 2 * 0 + ((rest.map (mx_v ad)).map fun v => v.category).sum ≤ 8
    rw [mx_w_v]
    have := Nat.le_of_ble_eq_true hr
    omega
/-- a static method is called -/
theorem mx_cS (hok : mx_ok Y fl tab) (k : Nat) {P : Prop} {pc' idx n0 : Nat} {ls' As rest : List Value} {M' : mx_M} (hh : mx_hh Y = []) (hM : mx_Ct l LK Y' d n' As M' Q')
    (h : mx_run fl LK tab k pc ls st M = some (P, pc', ls', As.reverse ++ rest, M')) (hP : P) (hd : tab.lookup pc' = some (.invokestatic idx, 3))
    (hc : mx_csb (mx_ow Y) idx Y' = true) (hc2 : mx_cdb Y' n0 = true) (hw : mx_ws Y' = Cond.code (mx_nm Y') (mx_bs Y') (mx_ml Y') (mx_rt Y') :: mx_WS) (hn : As.length = n0) (hr : Nat.ble (mx_w rest) 8 = true)
    (kr : ∀ v M2, Q' (.inl v) M2 → mx_E l LK Y (d + 1) n Q (pc' + 3) ls' (v.toList ++ rest) M2) (kx : ∀ E M2, Q' (.inr E) M2 → Q (.inr E) M2) : mx_E l LK Y (d + 1) (n + n') Q pc ls st M := by
  refine mx_go hok k h hP ?_
  have hd := hok.1 _ (mx_lk _ _ _ hd)
  dsimp only at hd
  obtain ⟨w1, w2, w3, w4⟩ := mx_cd_s hc2 hw
  simp only [mx_csb, Bool.and_eq_true, decide_eq_true_eq] at hc
  obtain ⟨c1, c2⟩ := hc
  intro p e R s m args below meth c D T ad A mc ms hC H locs cells slots la h1 h2 hls hPw hS
  have hroom := mx_room (n' := n') hC w4
  have hpre := mx_pre hC hS hPw As
  have hCC := hC
  obtain ⟨⟨hx, hbb, hml, hown, hts⟩, -, -, -, -, ⟨hmc, hms, -, -⟩, -⟩ := hCC
  have hg : GoodIn (mx_ws Y) (va_wsS (mx_ow Y) idx (mx_nm Y') (mx_ws Y')) := mx_gi hok.2.2 (fun w hw2 => by
    simp only [va_wsS, List.mem_append, List.mem_cons, List.not_mem_nil, or_false] at hw2
    rcases hw2 with (rfl | rfl | rfl) | hw2
    · exact c1
    · exact c2
    · exact w2
    · exact w1 w hw2)
  refine mx_back (n := n) (n' := n') (Q' := Q') (rest := rest) (a := (As.map (mx_v ad)).toArray) hh hC h1 h2 hls hS ?_ kr kx
  refine vx_runS (bytes := mx_bs Y') (maxL := mx_ml Y') (ret := mx_rt Y') (n := n0) (As := As.map (mx_v ad)) ⟨hx, hbb, hml, hown, hts⟩ (hM D T ad H.size) (va_cwS n0 hts hg hw rfl rfl w3 hroom) ⟨mx_blind, hpre⟩ rfl (by rw [List.length_map]; exact hn) hls.2.1 ?_ ?_ hd ⟨by omega, by omega⟩
  · show List.map (mx_v ad) (As.reverse ++ rest) = _
    rw [List.map_append, List.map_reverse]
  · show 2 * 0 + ((rest.map (mx_v ad)).map fun v => v.category).sum ≤ 8
    rw [mx_w_v]
    have := Nat.le_of_ble_eq_true hr
    omega
theorem mx_met {a : List Value} (h : mx_Ct l LK Y d 0 a M Q) (hx : ∀ E M2, ¬ Q (.inr E) M2) (D : va_G) (T : mx_T) (ad : Nat → Nat) (sz : Nat) : Met l (mx_nm Y) (mx_ws Y) (mx_rm d 0) (mx_Pc LK a M D T ad sz) (mx_Qc LK D T ad (mx_A LK ad sz) Q) 0 (6 * 0) (mx_A LK ad sz) := by
  refine MetFree.mono (h D T ad sz) (fun _ _ h => h) (fun _ _ _ _ _ h => h) (fun a2 s2 o t _ hq => ?_)
  rcases hq with hq | ⟨q, rfl, E, ce, L, ⟨⟨M2, hX, -⟩, -⟩, -⟩
  · exact hq
  · exact (hx E M2 hX).elim
/-- a private static method of the host is called; it throws nothing -/
theorem mx_cN (hok : mx_ok Y fl tab) (k : Nat) {P : Prop} {pc' idx n0 : Nat} {ls' As rest : List Value} {M' : mx_M} (hh : mx_hh Y = []) (hM : mx_Ct l LK Y' d 0 As M' Q') (hnx : ∀ E M2, ¬ Q' (.inr E) M2)
    (h : mx_run fl LK tab k pc ls st M = some (P, pc', ls', As.reverse ++ rest, M')) (hP : P) (hd : tab.lookup pc' = some (.invokestatic idx, 3))
    (hc : mx_cnb (mx_ow Y) idx Y' = true) (hc2 : mx_cdb Y' n0 = true) (hw : mx_ws Y' = Cond.code (mx_nm Y') (mx_bs Y') (mx_ml Y') (mx_rt Y') :: mx_WS) (hn : As.length = n0) (hr : Nat.ble (mx_w rest) 8 = true)
    (kr : ∀ v M2, Q' (.inl v) M2 → mx_E l LK Y (d + 1) n Q (pc' + 3) ls' (v.toList ++ rest) M2) : mx_E l LK Y (d + 1) n Q pc ls st M := by
  refine mx_go hok k h hP ?_
  have hd := hok.1 _ (mx_lk _ _ _ hd)
  dsimp only at hd
  obtain ⟨w1, w2, w3, w4⟩ := mx_cd_s hc2 hw
  simp only [mx_cnb, Bool.and_eq_true, decide_eq_true_eq] at hc
  obtain ⟨c1, c2⟩ := hc
  intro p e R s m args below meth c D T ad A mc ms hC H locs cells slots la h1 h2 hls hPw hS
  have hroom := mx_room (n' := 0) hC w4
  have hpre := mx_pre hC hS hPw As
  have hCC := hC
  obtain ⟨⟨hx, hbb, hml, hown, hts⟩, -, -, -, hZ, ⟨hmc, hms, -, -⟩, -⟩ := hCC
  have hg : GoodIn (mx_ws Y) (mx_ws Y') := mx_gi hok.2.2 w1
  refine mx_back (n := n) (n' := 0) (Q' := Q') (rest := rest) (a := (As.map (mx_v ad)).toArray) hh hC h1 h2 hls hS ?_ kr (fun E M2 hq => (hnx E M2 hq).elim)
  have hrun := va_runSN (p := p) (l := l) (e := e) (R := R) (s := s) (m := m) (args := args) (below := below) (meth := meth) (c := c) (H := H) (locs := locs) (cells := cells) (slots := slots) (g := F0 m pc' la ((As.reverse ++ rest).map (mx_v ad))) (rest := rest.map (mx_v ad)) (bytes := mx_bs Y') (maxL := mx_ml Y') (ret := mx_rt Y') (n := n0) (As := As.map (mx_v ad)) (host := "PegBoards") ⟨hx, hbb, hml, hown, hts⟩ (mx_met hM hnx D T ad H.size) ⟨va_cnB n0 hts hg hw rfl rfl (hZ.1 _ c1) (hts _ (hok.2.2 _ w2)) w3 hroom, hts _ (hok.2.2 _ c2), trivial⟩ ⟨mx_blind, hpre⟩ rfl (by rw [List.length_map]; exact hn) hls.2.1 (by
      show List.map (mx_v ad) (As.reverse ++ rest) = _
      rw [List.map_append, List.map_reverse]) (by
      show 2 * 0 + ((rest.map (mx_v ad)).map fun v => v.category).sum ≤ 8
      rw [mx_w_v]
      have := Nat.le_of_ble_eq_true hr
      omega) hd ⟨by omega, by omega⟩
  intro Tt hT X
  exact Or.inl (hrun Tt hT X)
end MC
end
section
/-! Rules for the rarer instructions: a throw, statics, arrays of arrays, switches, constants, System.arraycopy; and short forms. -/
section MM
variable {l : Launch} {LK : mx_L} {Y Y' : mx_Y} {d n n' : Nat} {Q Q' : mx_R → mx_M → Prop} {fl : mx_F} {tab : mx_B} {pc : Nat} {ls st : List Value} {M : mx_M}
def mx_row (M : mx_M) (k : Nat) (g : Nat → Int32) : mx_M := fun a => if a = k then g else M a
theorem mx_lay_row {T : mx_T} {ad : Nat → Nat} {k : Nat} {g : Nat → Int32} {K : mx_K} (h : LK.1[k]? = some K) : (mx_lay T ad LK M).set k (ad k, mx_cell T ad K g) = mx_lay T ad LK (mx_row M k g) := by
  apply List.ext_getElem?
  intro j
  rw [List.getElem?_set]
  have hl : k < LK.1.length := (List.getElem?_eq_some_iff.mp h).1
  by_cases hj : k = j
  · subst hj
    rw [if_pos rfl, mx_lay_get h]
    simp [mx_lay, hl, mx_row]
  · rw [if_neg hj]
    simp only [mx_lay, List.getElem?_mapIdx]
    rw [show mx_row M k g j = M j from if_neg (Ne.symm hj)]
def mx_nms : List String := ["java/lang/RuntimeException", "java/lang/Exception"]
/-- the words of a throw -/
def mx_tw (own : String) (ic : Nat) (cls : String) : Bool := (vx_atS own ic cls mx_nms).all (fun w => (decide (w ∈ mx_WS) || decide (w ∈ mx_NW)) && vx_ot w) && Bundle.fit cls
def mx_tl (own : String) (ik is : Nat) (cls text : String) : Bool := decide (Cond.classLink own ik cls ∈ mx_WS) && decide (Cond.initialized cls ∈ mx_WS) && decide ((own, is, text) ∈ mx_SR)
theorem mx_nk_on {w : Cond} (h : mx_nk w = true) : w.onTables = true := by
  cases w <;> first | rfl | cases h
theorem mx_thr (hok : mx_ok Y fl tab) (k : Nat) {P : Prop} {pc' ik is ic : Nat} {cls text : String} {ls' : List Value} {M' : mx_M} (hh : mx_hh Y = []) (h : mx_run fl LK tab k pc ls st M = some (P, pc', ls', [], M')) (hP : P)
    (d0 : tab.lookup pc' = some (.new ik, 3)) (d3 : tab.lookup (pc' + 3) = some (.dup, 1)) (d4 : tab.lookup (pc' + 4) = some (.ldc is, 2)) (d6 : tab.lookup (pc' + 6) = some (.invokespecial ic, 3)) (d9 : tab.lookup (pc' + 9) = some (.athrow, 1))
    (ht : mx_tw (mx_ow Y) ic cls = true) (ht2 : mx_tl (mx_ow Y) ik is cls text = true) (hq : Q (.inr cls) M') : mx_E l LK Y d (n + 1) Q pc ls st M := by
  refine mx_go hok k h hP ?_
  have hd0 := hok.1 _ (mx_lk _ _ _ d0)
  have hd3 := hok.1 _ (mx_lk _ _ _ d3)
  have hd4 := hok.1 _ (mx_lk _ _ _ d4)
  have hd6 := hok.1 _ (mx_lk _ _ _ d6)
  have hd9 := hok.1 _ (mx_lk _ _ _ d9)
  dsimp only at hd0 hd3 hd4 hd6 hd9
  simp only [mx_tw, Bool.and_eq_true, List.all_eq_true, Bool.or_eq_true, decide_eq_true_eq] at ht
  simp only [mx_tl, Bool.and_eq_true, decide_eq_true_eq] at ht2
  obtain ⟨ht, hfit⟩ := ht
  obtain ⟨⟨t1, t2⟩, t3⟩ := ht2
  intro p e R s m args below meth c D T ad A mc ms hC H locs cells slots la h1 h2 hls hPw hS
  obtain ⟨⟨hx, hb, hml, hown, hts⟩, ⟨hrt, hlk, htb⟩, -, hK, ⟨z1, z2, z3, z4, z5, z6, z7⟩, ⟨hmc, hms, hfr, hlo⟩, hl⟩ := hC
  obtain ⟨sa, hsa⟩ := z2 _ t3
  have e1 : mx_fr d = d + 10 := rfl
  have e2 : mx_lo d = 60 * d + 300 := rfl
  have e3 : mx_nms.length = 2 := rfl
  refine vx_throwS (own := mx_ow Y) (cls := cls) (text := text) (names := mx_nms) (ik := ik) (is := is) (ic := ic) (sa := sa) (A := A) (rest := []) hx hb hl hown hfit (by decide +kernel) (hts _ (hok.2.2 _ t1)) (hts _ (hok.2.2 _ t2)) hsa ?_ ?_ z4 z5 hS (hls.2.1.trans hml.symm) hd0 hd3 hd4 hd6 hd9 ?_ (by omega) ?_ (by omega) (by omega) hlk ?_ hS.2.2 (by omega) (by omega)
  · intro w hw
    rcases (ht w hw).1 with h9 | h9
    · exact hts _ (hok.2.2 _ h9)
    · exact va_Nw.use (mx_nk_on (List.mem_filter.mp h9).2) (z1 w h9)
  · intro w hw
    rcases List.mem_cons.mp hw with rfl | hw
    · rfl
    · rcases List.mem_cons.mp hw with rfl | hw
      · rfl
      · exact (ht w hw).2
  · rw [htb, hh]
    intro x hx
    cases hx
  · show 0 + (13 * (mx_nms.length + 1) + 43) ≤ R.locals
    omega
  · intro t hal hsz heq
    exact ⟨⟨M', hq, hPw.kept (fun k q hk => heq _ (hPw k q hk).lt)⟩, Nat.le_trans hS.1 hsz, fun q h1 h2 => (heq q (Nat.lt_of_lt_of_le h1 hS.1)).trans (hS.2.1 q h1 h2)⟩
/-- a static array of the host -/
theorem mx_gst (hok : mx_ok Y fl tab) (k : Nat) {P : Prop} {pc' idx i : Nat} {nm : String} {ls' st' : List Value} {M' : mx_M} (h : mx_run fl LK tab k pc ls st M = some (P, pc', ls', st', M')) (hP : P) (hd : tab.lookup pc' = some (.getstatic idx, 3))
    (hw : Cond.fieldLinkNest (mx_ow Y) idx "PegBoards" nm "[I" "PegBoards" ∈ mx_NW) (hi : mx_SA[i]? = some nm) (kk : mx_E l LK Y d n Q (pc' + 3) ls' (.ref (1000 + i) :: st') M') : mx_E l LK Y d n Q pc ls st M := by
  refine mx_go hok k h hP ?_
  have hd := hok.1 _ (mx_lk _ _ _ hd)
  dsimp only at hd
  intro p e R s m args below meth c D T ad A mc ms hC H locs cells slots la h1 h2 hls hPw hS
  have hCC := hC
  obtain ⟨⟨hx, hb, hml, hown, hts⟩, -, -, hK, ⟨z1, z2, z3, z4, z5, z6, z7⟩, -⟩ := hCC
  exact va_getsN hx hb (z6 i nm hi) hS hown (va_Nw.use rfl (z1 _ hw)) (fun x h => h) hd (kk p e R s m args below meth c D T ad A mc ms hC H locs cells slots la h1 h2 hls hPw hS)
/-- a row of an array of arrays -/
theorem mx_aal (hok : mx_ok Y fl tab) (k : Nat) {P : Prop} {pc' a b : Nat} {i : Int32} {rs : List Nat} {ls' st' : List Value} {M' : mx_M} (h : mx_run fl LK tab k pc ls st M = some (P, pc', ls', .int i :: .ref a :: st', M')) (hP : P) (hd : tab.lookup pc' = some (.aaload, 1))
    (ha : LK.1[a]? = some (.inr (.inr (.inl rs)))) (hi : vp_in i rs.length) (hb0 : rs[i.toNatClampNeg]? = some b) (kk : mx_E l LK Y d n Q (pc' + 1) ls' (.ref b :: st') M') : mx_E l LK Y d n Q pc ls st M := by
  refine mx_go hok k h hP ?_
  have hd := hok.1 _ (mx_lk _ _ _ hd)
  dsimp only at hd
  intro p e R s m args below meth c D T ad A mc ms hC H locs cells slots la h1 h2 hls hPw hS
  have hCC := hC
  obtain ⟨⟨hx, hb, hml, hown, hts⟩, -, -, hK, -⟩ := hCC
  have hlt : i.toNatClampNeg < rs.length := Nat.not_le.mp fun q => hi (Or.inr q)
  have k9 := kk p e R s m args below meth c D T ad A mc ms hC H locs cells slots la h1 h2 hls hPw hS
  have hcell := hPw a _ (mx_lay_get ha)
  have e9 : va_rf ((rs[i.toNatClampNeg]?).map ad) = Value.ref (ad b) := by rw [hb0]; rfl
  exact W.aald (v := Value.ref (ad b)) (ty := .array .int) hx hb hcell ((hK.2 1 _ rfl).1 rs.length (fun j => va_rf ((rs[j]?).map ad))) rfl (fun q => by cases q) (by show ¬ (i < 0 ∨ (arrV _ _ _).slots.size ≤ _); rw [arrV_size]; exact hi) (by show (arrV _ _ _).slots[_]? = _; rw [arrV_read _ _ hlt]; exact congrArg some e9) rfl rfl hd k9
/-- a switch over neighbouring numbers -/
theorem mx_ts (hok : mx_ok Y fl tab) (k : Nat) {P : Prop} {pc' len : Nat} {x : Int32} {df lo hi : Int} {offs : Array Int} {ls' st' : List Value} {M' : mx_M} (h : mx_run fl LK tab k pc ls st M = some (P, pc', ls', .int x :: st', M')) (hP : P) (hd : tab.lookup pc' = some (.tableswitch df lo hi offs, len))
    (kin : ¬ x.toInt < lo → ¬ hi < x.toInt → ∃ off tgt, offs[(x.toInt - lo).toNat]? = some off ∧ (pc' : Int) + off = ((tgt : Nat) : Int) ∧ mx_E l LK Y d n Q tgt ls' st' M') (kout : x.toInt < lo ∨ hi < x.toInt → ∃ tgt : Nat, (pc' : Int) + df = (tgt : Int) ∧ mx_E l LK Y d n Q tgt ls' st' M') : mx_E l LK Y d n Q pc ls st M := by
  refine mx_go hok k h hP ?_
  have hd := hok.1 _ (mx_lk _ _ _ hd)
  dsimp only at hd
  intro p e R s m args below meth c D T ad A mc ms hC H locs cells slots la h1 h2 hls hPw hS
  have hCC := hC
  obtain ⟨⟨hx, hb, hml, hown, hts⟩, -⟩ := hCC
  by_cases q1 : x.toInt < lo
  · obtain ⟨tgt, q3, q4⟩ := kout (Or.inl q1)
    exact lv_tableOut hx hb hd (Or.inl q1) q3 (q4 p e R s m args below meth c D T ad A mc ms hC H locs cells slots la h1 h2 hls hPw hS)
  · by_cases q2 : hi < x.toInt
    · obtain ⟨tgt, q3, q4⟩ := kout (Or.inr q2)
      exact lv_tableOut hx hb hd (Or.inr q2) q3 (q4 p e R s m args below meth c D T ad A mc ms hC H locs cells slots la h1 h2 hls hPw hS)
    · obtain ⟨off, tgt, q3, q4, q5⟩ := kin q1 q2
      exact lv_tableIn hx hb hd q1 q2 q3 q4 (q5 p e R s m args below meth c D T ad A mc ms hC H locs cells slots la h1 h2 hls hPw hS)
/-- a constant of the pool -/
theorem mx_ldw (hok : mx_ok Y fl tab) (k : Nat) {P : Prop} {pc' idx : Nat} {v : Int32} {ls' st' : List Value} {M' : mx_M} (h : mx_run fl LK tab k pc ls st M = some (P, pc', ls', st', M')) (hP : P) (hd : tab.lookup pc' = some (.ldc_w idx, 3))
    (hw : Cond.constant (mx_ow Y) idx v ∈ mx_WS) (kk : mx_E l LK Y d n Q (pc' + 3) ls' (.int v :: st') M') : mx_E l LK Y d n Q pc ls st M := by
  refine mx_go hok k h hP ?_
  have hd := hok.1 _ (mx_lk _ _ _ hd)
  dsimp only at hd
  intro p e R s m args below meth c D T ad A mc ms hC H locs cells slots la h1 h2 hls hPw hS
  have hCC := hC
  obtain ⟨⟨hx, hb, hml, hown, hts⟩, -⟩ := hCC
  exact lv_ldcw hx hb hown (hts _ (hok.2.2 _ hw)) hd (kk p e R s m args below meth c D T ad A mc ms hC H locs cells slots la h1 h2 hls hPw hS)
/-- System.arraycopy between two arrays of ints -/
theorem mx_cpy (hok : mx_ok Y fl tab) (k : Nat) {P : Prop} {pc' idx a0 a1 n0 n1 : Nat} {sp dp cn : Int32} {ls' rest : List Value} {M' : mx_M} (h : mx_run fl LK tab k pc ls st M = some (P, pc', ls', .int cn :: .int dp :: .ref a1 :: .int sp :: .ref a0 :: rest, M')) (hP : P) (hd : tab.lookup pc' = some (.invokestatic idx, 3))
    (hw : Cond.methodLink (mx_ow Y) idx arraycopyName ∈ mx_WS ∧ Cond.native arraycopyName ∈ mx_WS ∧ Cond.static arraycopyName ∈ mx_WS ∧ Cond.initialized "java/lang/System" ∈ mx_WS) (ha0 : LK.1[a0]? = some (.inl n0)) (ha1 : LK.1[a1]? = some (.inl n1)) (hr : Nat.ble (mx_w rest) 8 = true)
    (q1 : ¬ sp < 0) (q2 : ¬ dp < 0) (q3 : ¬ cn < 0) (q4 : sp.toNatClampNeg + cn.toNatClampNeg ≤ n0) (q5 : dp.toNatClampNeg + cn.toNatClampNeg ≤ n1)
    (kk : mx_E l LK Y d n Q (pc' + 3) ls' rest (mx_row M' a1 (va_cpy (M' a0) (M' a1) sp.toNatClampNeg dp.toNatClampNeg cn.toNatClampNeg))) : mx_E l LK Y d n Q pc ls st M := by
  refine mx_go hok k h hP ?_
  have hd := hok.1 _ (mx_lk _ _ _ hd)
  dsimp only at hd
  intro p e R s m args below meth c D T ad A mc ms hC H locs cells slots la h1 h2 hls hPw hS
  have hCC := hC
  obtain ⟨⟨hx, hb, hml, hown, hts⟩, -, ⟨had, hAd, -⟩, hK, -, ⟨-, -, hfr, hlo⟩, -⟩ := hCC
  have e1 : mx_fr d = d + 10 := rfl
  have e2 : mx_lo d = 60 * d + 300 := rfl
  have e3 : nativeFrameWords "java/lang/System" "arraycopy" 5 + 11 ≤ 200 := by decide +kernel
  refine va_copyi hx hb (hml.trans hls.2.1.symm) hown (hts _ (hok.2.2 _ hw.1)) (hts _ (hok.2.2 _ hw.2.1)) (hts _ (hok.2.2 _ hw.2.2.1)) (hts _ (hok.2.2 _ hw.2.2.2)) hK hPw (mx_D had hAd M') hS a0 a1 0 0 (mx_lay_get ha0) (mx_lay_get ha1) rfl rfl rfl q1 q2 q3 q4 q5 (fun i _ => rfl) (by omega) ?_ hd (fun H1 locs1 b1 b2 b3 => ?_)
  · rw [mx_w_v]
    have := Nat.le_of_ble_eq_true hr
    omega
  · exact kk p e R s m args below meth c D T ad A mc ms hC H1 locs1 cells slots la h1 h2 hls (by rw [← mx_lay_row ha1]; exact b1) b3
/-! short forms -/
def mx_rI (v : Int32) (M' : mx_M) : mx_R → mx_M → Prop := fun r M2 => r = .inl (some (.int v)) ∧ M2 = M'
def mx_rV (M' : mx_M) : mx_R → mx_M → Prop := fun r M2 => r = .inl none ∧ M2 = M'
def mx_yb (Y : mx_Y) (n : Nat) : Bool := plainFor (mx_nm Y) && decide (mx_ow Y = (mx_nm Y).cls) && decide (mx_hh Y = []) && decide (n ≤ mx_ml Y)
theorem mx_bd {a : List Value} {n0 : Nat} (hl : l.stackTraces = false) (hy : mx_yb Y n0 = true) (hw : mx_ws Y = Cond.code (mx_nm Y) (mx_bs Y) (mx_ml Y) (mx_rt Y) :: mx_WS) (hn : a.length = n0) (ha : a.all mx_one = true) (h : mx_E l LK Y d n Q 0 (a ++ List.replicate (mx_ml Y - n0) .null) [] M) : mx_Ct l LK Y d n a M Q := by
  simp only [mx_yb, Bool.and_eq_true, decide_eq_true_eq] at hy
  obtain ⟨⟨⟨h1, h2⟩, h3⟩, h4⟩ := hy
  subst hn
  refine mx_body hl ⟨h1, h2, h3, h4⟩ hw (fun v hv => ?_) h
  have := List.all_eq_true.mp ha v hv
  cases v <;> first | exact Or.inl ⟨_, rfl⟩ | exact Or.inr ⟨_, rfl⟩ | cases this
theorem mx_cVi (hok : mx_ok Y fl tab) (k : Nat) {P : Prop} {pc' b ci idx n0 : Nat} {ls' As rest : List Value} {v : Int32} {M' M3 : mx_M} {fs : List (Option Nat)} {T0 : u_T} {N : Nat} (hh : mx_hh Y = []) (hM : mx_Ct l LK Y' d 0 (.ref b :: As) M' (mx_rI v M3))
    (h : mx_run fl LK tab k pc ls st M = some (P, pc', ls', As.reverse ++ .ref b :: rest, M')) (hP : P) (hd : tab.lookup pc' = some (.invokevirtual idx, 3)) (hb : LK.1[b]? = some (.inr (.inl (ci, fs)))) (hcl : vwCl[ci]? = some ((mx_nm Y').cls, T0, N))
    (hc : mx_cvb (mx_ow Y) idx Y' = true) (hc2 : mx_cdb Y' n0 = true) (hw : mx_ws Y' = Cond.code (mx_nm Y') (mx_bs Y') (mx_ml Y') (mx_rt Y') :: mx_WS) (hn : As.length = n0) (hr : Nat.ble (mx_w rest) 8 = true)
    (kr : mx_E l LK Y (d + 1) n Q (pc' + 3) ls' (.int v :: rest) M3) : mx_E l LK Y (d + 1) n Q pc ls st M :=
  mx_cV hok k hh hM h hP hd hb hcl hc hc2 hw hn hr (fun v2 M2 q => by obtain ⟨q1, rfl⟩ := q; cases q1; exact kr) (fun E M2 q => by obtain ⟨q1, -⟩ := q; cases q1)
theorem mx_cVv (hok : mx_ok Y fl tab) (k : Nat) {P : Prop} {pc' b ci idx n0 : Nat} {ls' As rest : List Value} {M' M3 : mx_M} {fs : List (Option Nat)} {T0 : u_T} {N : Nat} (hh : mx_hh Y = []) (hM : mx_Ct l LK Y' d 0 (.ref b :: As) M' (mx_rV M3))
    (h : mx_run fl LK tab k pc ls st M = some (P, pc', ls', As.reverse ++ .ref b :: rest, M')) (hP : P) (hd : tab.lookup pc' = some (.invokevirtual idx, 3)) (hb : LK.1[b]? = some (.inr (.inl (ci, fs)))) (hcl : vwCl[ci]? = some ((mx_nm Y').cls, T0, N))
    (hc : mx_cvb (mx_ow Y) idx Y' = true) (hc2 : mx_cdb Y' n0 = true) (hw : mx_ws Y' = Cond.code (mx_nm Y') (mx_bs Y') (mx_ml Y') (mx_rt Y') :: mx_WS) (hn : As.length = n0) (hr : Nat.ble (mx_w rest) 8 = true)
    (kr : mx_E l LK Y (d + 1) n Q (pc' + 3) ls' rest M3) : mx_E l LK Y (d + 1) n Q pc ls st M :=
  mx_cV hok k hh hM h hP hd hb hcl hc hc2 hw hn hr (fun v2 M2 q => by obtain ⟨q1, rfl⟩ := q; cases q1; exact kr) (fun E M2 q => by obtain ⟨q1, -⟩ := q; cases q1)
theorem mx_cSi (hok : mx_ok Y fl tab) (k : Nat) {P : Prop} {pc' idx n0 : Nat} {ls' As rest : List Value} {v : Int32} {M' M3 : mx_M} (hh : mx_hh Y = []) (hM : mx_Ct l LK Y' d 0 As M' (mx_rI v M3))
    (h : mx_run fl LK tab k pc ls st M = some (P, pc', ls', As.reverse ++ rest, M')) (hP : P) (hd : tab.lookup pc' = some (.invokestatic idx, 3))
    (hc : mx_csb (mx_ow Y) idx Y' = true) (hc2 : mx_cdb Y' n0 = true) (hw : mx_ws Y' = Cond.code (mx_nm Y') (mx_bs Y') (mx_ml Y') (mx_rt Y') :: mx_WS) (hn : As.length = n0) (hr : Nat.ble (mx_w rest) 8 = true)
    (kr : mx_E l LK Y (d + 1) n Q (pc' + 3) ls' (.int v :: rest) M3) : mx_E l LK Y (d + 1) n Q pc ls st M :=
  mx_cS hok k hh hM h hP hd hc hc2 hw hn hr (fun v2 M2 q => by obtain ⟨q1, rfl⟩ := q; cases q1; exact kr) (fun E M2 q => by obtain ⟨q1, -⟩ := q; cases q1)
theorem mx_cSv (hok : mx_ok Y fl tab) (k : Nat) {P : Prop} {pc' idx n0 : Nat} {ls' As rest : List Value} {M' M3 : mx_M} (hh : mx_hh Y = []) (hM : mx_Ct l LK Y' d 0 As M' (mx_rV M3))
    (h : mx_run fl LK tab k pc ls st M = some (P, pc', ls', As.reverse ++ rest, M')) (hP : P) (hd : tab.lookup pc' = some (.invokestatic idx, 3))
    (hc : mx_csb (mx_ow Y) idx Y' = true) (hc2 : mx_cdb Y' n0 = true) (hw : mx_ws Y' = Cond.code (mx_nm Y') (mx_bs Y') (mx_ml Y') (mx_rt Y') :: mx_WS) (hn : As.length = n0) (hr : Nat.ble (mx_w rest) 8 = true)
    (kr : mx_E l LK Y (d + 1) n Q (pc' + 3) ls' rest M3) : mx_E l LK Y (d + 1) n Q pc ls st M :=
  mx_cS hok k hh hM h hP hd hc hc2 hw hn hr (fun v2 M2 q => by obtain ⟨q1, rfl⟩ := q; cases q1; exact kr) (fun E M2 q => by obtain ⟨q1, -⟩ := q; cases q1)
theorem mx_cNi (hok : mx_ok Y fl tab) (k : Nat) {P : Prop} {pc' idx n0 : Nat} {ls' As rest : List Value} {v : Int32} {M' M3 : mx_M} (hh : mx_hh Y = []) (hM : mx_Ct l LK Y' d 0 As M' (mx_rI v M3))
    (h : mx_run fl LK tab k pc ls st M = some (P, pc', ls', As.reverse ++ rest, M')) (hP : P) (hd : tab.lookup pc' = some (.invokestatic idx, 3))
    (hc : mx_cnb (mx_ow Y) idx Y' = true) (hc2 : mx_cdb Y' n0 = true) (hw : mx_ws Y' = Cond.code (mx_nm Y') (mx_bs Y') (mx_ml Y') (mx_rt Y') :: mx_WS) (hn : As.length = n0) (hr : Nat.ble (mx_w rest) 8 = true)
    (kr : mx_E l LK Y (d + 1) n Q (pc' + 3) ls' (.int v :: rest) M3) : mx_E l LK Y (d + 1) n Q pc ls st M :=
  mx_cN hok k hh hM (fun E M2 q => by obtain ⟨q1, -⟩ := q; cases q1) h hP hd hc hc2 hw hn hr (fun v2 M2 q => by obtain ⟨q1, rfl⟩ := q; cases q1; exact kr)
end MM
end
section
/-! The cells of the system behind the constructors: 0 PegBoards; 1 Board (2 numbers, 3 rows, 4 columns); 5 Jumps (6 froms, 7 overs, 8 tos, 9 pegs, 10 touched); 11 Symmetries (12 taken: 13 .. 24; 25 imageRows, 26 imageColumns); 27 Reaching (28 found: 29 positions, 30 slots; 31 leasts: 32, 33; 34 cameFrom, 35 cameBy, 36 fewest, 37 lastHoles); 38 Weights (39 kept, 40 tried); 41 the model (42 drawn, 43 numbers, 44 rows, 45 columns, 46 from, 47 over, 48 to, 49 image, 50 newRows, 51 newColumns, 52 weight, 53 trial, 54 position, 55 parent, 56 via, 57 open, 58 fewest, 59 kind); 60 out. Arrays that nobody writes: 1000 .. 1003 the class's steps, 1004 the script. -/
section PG
def pg_c : List mx_K := [
  .inr (.inl (6, [some 1, some 5, some 11, some 27, some 38, none, none])),
  .inr (.inl (0, [some 2, some 3, some 4, none, none, none])), .inl 64, .inl 20, .inl 20,
  .inr (.inl (2, [some 6, some 7, some 8, some 9, some 10, none])), .inl 120, .inl 120, .inl 120, .inl 120, .inl 120,
  .inr (.inl (4, [some 12, some 25, some 26, none, none])), .inr (.inr (.inl [13, 14, 15, 16, 17, 18, 19, 20, 21, 22, 23, 24])),
  .inl 20, .inl 20, .inl 20, .inl 20, .inl 20, .inl 20, .inl 20, .inl 20, .inl 20, .inl 20, .inl 20, .inl 20, .inl 20, .inl 20,
  .inr (.inl (3, [some 28, some 31, some 34, some 35, some 36, some 37, none])),
  .inr (.inl (1, [some 29, some 30, none])), .inl 500, .inl 1024, .inr (.inl (1, [some 32, some 33, none])), .inl 500, .inl 1024, .inl 500, .inl 500, .inl 500, .inl 500,
  .inr (.inl (5, [some 39, some 40])), .inl 20, .inl 8,
  .inr (.inl (7, [none, none, none, none, some 42, some 43, some 44, some 45, none, some 46, some 47, some 48, none, some 49, some 50, some 51, none, none, some 52, some 53, none, some 54, some 55, some 56, some 57, some 58, none, some 59])),
  .inr (.inr (.inr (.inr 64))), .inl 64, .inl 20, .inl 20, .inl 120, .inl 120, .inl 120, .inl 240, .inl 20, .inl 20, .inl 20, .inl 8, .inl 500, .inl 500, .inl 500, .inl 1024, .inl 10500, .inl 500,
  .inr (.inr (.inr (.inl 1)))]
def pg_s1 : Nat → Int32 := fun j => ([0, 1, 0, -1] : List Int32).getD j 0
def pg_s2 : Nat → Int32 := fun j => ([1, 0, -1, 0] : List Int32).getD j 0
def pg_s3 : Nat → Int32 := fun j => ([0, 1, 1, 0, -1, -1] : List Int32).getD j 0
def pg_s4 : Nat → Int32 := fun j => ([1, 0, -1, -1, 0, 1] : List Int32).getD j 0
def pg_L (sc : Nat × (Nat → Int32)) : mx_L := (pg_c, [(4, pg_s1), (4, pg_s2), (6, pg_s3), (6, pg_s4), sc])
end PG
end
section
/-! Leaves: contracts of methods that call nothing, or little. -/
section LF
variable {l : Launch} {sc : Nat × (Nat → Int32)} {d : Nat} {M : mx_M}
def pg_in (r c : Int32) : Int32 := if r < 0 then 0 else if 8 ≤ r then 0 else if c < 0 then 0 else if 8 ≤ c then 0 else 1
theorem ct_Pe_isPlace (hl : l.stackTraces = false) (r c : Int32) : mx_Ct l (pg_L sc) mY_Pe_isPlace d 0 [.int r, .int c] M (mx_rI (pg_in r c) M) := by
  refine mx_bd (n0 := 2) hl (by decide +kernel) rfl rfl rfl ?_
  refine mx_if mo_Pe_isPlace 1 (t := 24) (f := 4) rfl trivial (fun h => ?_) (fun h => ?_)
  · exact mx_ret_z mo_Pe_isPlace rfl 1 rfl trivial rfl (Or.inl rfl) ⟨by simp [pg_in, h], rfl⟩
  refine mx_if mo_Pe_isPlace 2 (t := 24) (f := 10) rfl trivial (fun (h2 : 8 ≤ r) => ?_) (fun (h2 : ¬ 8 ≤ r) => ?_)
  · exact mx_ret_z mo_Pe_isPlace rfl 1 rfl trivial rfl (Or.inl rfl) ⟨by rw [pg_in, if_neg h, if_pos h2]; rfl, rfl⟩
  refine mx_if mo_Pe_isPlace 1 (t := 24) (f := 14) rfl trivial (fun h3 => ?_) (fun h3 => ?_)
  · exact mx_ret_z mo_Pe_isPlace rfl 1 rfl trivial rfl (Or.inl rfl) ⟨by rw [pg_in, if_neg h, if_neg h2, if_pos h3]; rfl, rfl⟩
  refine mx_if mo_Pe_isPlace 2 (t := 24) (f := 20) rfl trivial (fun (h4 : 8 ≤ c) => ?_) (fun (h4 : ¬ 8 ≤ c) => ?_)
  · exact mx_ret_z mo_Pe_isPlace rfl 1 rfl trivial rfl (Or.inl rfl) ⟨by rw [pg_in, if_neg h, if_neg h2, if_neg h3, if_pos h4]; rfl, rfl⟩
  · exact mx_ret_z mo_Pe_isPlace rfl 2 rfl trivial rfl (Or.inr rfl) ⟨by rw [pg_in, if_neg h, if_neg h2, if_neg h3, if_neg h4]; rfl, rfl⟩
/-- is hole h in the position -/
def pg_has (p h : Int32) : Int32 := if (p >>> (h &&& 31)) &&& 1 = 1 then 1 else 0
theorem ct_Pe_contains (hl : l.stackTraces = false) (p h : Int32) : mx_Ct l (pg_L sc) mY_Pe_contains d 0 [.int p, .int h] M (mx_rI (pg_has p h) M) := by
  refine mx_bd (n0 := 2) hl (by decide +kernel) rfl rfl rfl ?_
  refine mx_if mo_Pe_contains 6 (t := 13) (f := 9) rfl trivial (fun (h2 : ¬ (p >>> (h &&& 31)) &&& 1 = 1) => ?_) (fun (h2 : (p >>> (h &&& 31)) &&& 1 = 1) => ?_)
  · exact mx_ret_z mo_Pe_contains rfl 1 rfl trivial rfl (Or.inl rfl) ⟨by rw [pg_has, if_neg h2]; rfl, rfl⟩
  · exact mx_ret_z mo_Pe_contains rfl 2 rfl trivial rfl (Or.inr rfl) ⟨by rw [pg_has, if_pos h2]; rfl, rfl⟩
theorem ct_Bo_holes (hl : l.stackTraces = false) : mx_Ct l (pg_L sc) mY_Bo_holes d 0 [.ref 1] M (mx_rI (if M 1 4 = 0 then 0 else M 1 5) M) := by
  refine mx_bd (n0 := 1) hl (by decide +kernel) rfl rfl rfl ?_
  refine mx_if mo_Bo_holes 2 (t := 14) (f := 7) rfl trivial (fun h => ?_) (fun h => ?_)
  · exact mx_ret_i mo_Bo_holes rfl 1 rfl trivial rfl ⟨by rw [if_pos h]; rfl, rfl⟩
  · exact mx_ret_i mo_Bo_holes rfl 3 rfl trivial rfl ⟨by rw [if_neg h], rfl⟩
theorem ct_Bo_isTriangular (hl : l.stackTraces = false) (h : M 1 3 = 0 ∨ M 1 3 = 1) : mx_Ct l (pg_L sc) mY_Bo_isTriangular d 0 [.ref 1] M (mx_rI (M 1 3) M) := by
  refine mx_bd (n0 := 1) hl (by decide +kernel) rfl rfl rfl ?_
  exact mx_ret_z mo_Bo_isTriangular rfl 2 rfl trivial rfl h ⟨rfl, rfl⟩
theorem ct_Bo_isFrozen (hl : l.stackTraces = false) (h : M 1 4 = 0 ∨ M 1 4 = 1) : mx_Ct l (pg_L sc) mY_Bo_isFrozen d 0 [.ref 1] M (mx_rI (M 1 4) M) := by
  refine mx_bd (n0 := 1) hl (by decide +kernel) rfl rfl rfl ?_
  exact mx_ret_z mo_Bo_isFrozen rfl 2 rfl trivial rfl h ⟨rfl, rfl⟩
theorem ct_Bo_rowOf (hl : l.stackTraces = false) {i : Nat} (hi : i < 20) : mx_Ct l (pg_L sc) mY_Bo_rowOf d 0 [.ref 1, .int (nI i)] M (mx_rI (M 3 i) M) := by
  refine mx_bd (n0 := 2) hl (by decide +kernel) rfl rfl rfl ?_
  exact mx_ret_i mo_Bo_rowOf rfl 4 rfl ⟨vp_in_nI hi (by decide), trivial⟩ rfl ⟨by rw [nI_clamp (by omega)], rfl⟩
theorem ct_Bo_columnOf (hl : l.stackTraces = false) {i : Nat} (hi : i < 20) : mx_Ct l (pg_L sc) mY_Bo_columnOf d 0 [.ref 1, .int (nI i)] M (mx_rI (M 4 i) M) := by
  refine mx_bd (n0 := 2) hl (by decide +kernel) rfl rfl rfl ?_
  exact mx_ret_i mo_Bo_columnOf rfl 4 rfl ⟨vp_in_nI hi (by decide), trivial⟩ rfl ⟨by rw [nI_clamp (by omega)], rfl⟩
theorem ct_Bo_allHoles (hl : l.stackTraces = false) : mx_Ct l (pg_L sc) mY_Bo_allHoles (d + 1) 0 [.ref 1] M (mx_rI ((1 <<< ((if M 1 4 = 0 then 0 else M 1 5) &&& 31)) - 1) M) := by
  refine mx_bd (n0 := 1) hl (by decide +kernel) rfl rfl rfl ?_
  refine mx_cVi mo_Bo_allHoles 2 rfl (ct_Bo_holes hl) rfl trivial rfl rfl rfl kv_Bo_38 kd_Bo_holes rfl rfl rfl ?_
  exact mx_ret_i mo_Bo_allHoles rfl 3 rfl trivial rfl ⟨rfl, rfl⟩
theorem ct_Ju_size (hl : l.stackTraces = false) : mx_Ct l (pg_L sc) mY_Ju_size d 0 [.ref 5] M (mx_rI (M 5 5) M) := by
  refine mx_bd (n0 := 1) hl (by decide +kernel) rfl rfl rfl ?_
  exact mx_ret_i mo_Ju_size rfl 2 rfl trivial rfl ⟨rfl, rfl⟩
theorem ct_Ju_forget (hl : l.stackTraces = false) : mx_Ct l (pg_L sc) mY_Ju_forget d 0 [.ref 5] M (mx_rV (mx_up M 5 5 0)) := by
  refine mx_bd (n0 := 1) hl (by decide +kernel) rfl rfl rfl ?_
  exact mx_ret_v mo_Ju_forget rfl 3 rfl trivial rfl ⟨rfl, rfl⟩
theorem ct_Ju_from (hl : l.stackTraces = false) {i : Nat} (hi : i < 120) : mx_Ct l (pg_L sc) mY_Ju_from d 0 [.ref 5, .int (nI i)] M (mx_rI (M 6 i) M) := by
  refine mx_bd (n0 := 2) hl (by decide +kernel) rfl rfl rfl ?_
  exact mx_ret_i mo_Ju_from rfl 4 rfl ⟨vp_in_nI hi (by decide), trivial⟩ rfl ⟨by rw [nI_clamp (by omega)], rfl⟩
theorem ct_Ju_over (hl : l.stackTraces = false) {i : Nat} (hi : i < 120) : mx_Ct l (pg_L sc) mY_Ju_over d 0 [.ref 5, .int (nI i)] M (mx_rI (M 7 i) M) := by
  refine mx_bd (n0 := 2) hl (by decide +kernel) rfl rfl rfl ?_
  exact mx_ret_i mo_Ju_over rfl 4 rfl ⟨vp_in_nI hi (by decide), trivial⟩ rfl ⟨by rw [nI_clamp (by omega)], rfl⟩
theorem ct_Ju_to (hl : l.stackTraces = false) {i : Nat} (hi : i < 120) : mx_Ct l (pg_L sc) mY_Ju_to d 0 [.ref 5, .int (nI i)] M (mx_rI (M 8 i) M) := by
  refine mx_bd (n0 := 2) hl (by decide +kernel) rfl rfl rfl ?_
  exact mx_ret_i mo_Ju_to rfl 4 rfl ⟨vp_in_nI hi (by decide), trivial⟩ rfl ⟨by rw [nI_clamp (by omega)], rfl⟩
/-- the position behind a jump -/
def pg_mk (p t g : Int32) : Int32 := if p &&& t = g then p ^^^ t else -1
theorem ct_Ju_make (hl : l.stackTraces = false) (p : Int32) {i : Nat} (hi : i < 120) : mx_Ct l (pg_L sc) mY_Ju_make d 0 [.ref 5, .int p, .int (nI i)] M (mx_rI (pg_mk p (M 10 i) (M 9 i)) M) := by
  have e : (nI i).toNatClampNeg = i := nI_clamp (by omega)
  have hv : vp_in (nI i) 120 := vp_in_nI hi (by decide)
  refine mx_bd (n0 := 3) hl (by decide +kernel) rfl rfl rfl ?_
  refine mx_if mo_Ju_make 10 (t := 28) (f := 17) rfl ⟨hv, hv, trivial⟩ (fun h => ?_) (fun h => ?_)
  · rw [e] at h
    exact mx_ret_i mo_Ju_make rfl 1 rfl trivial rfl ⟨by rw [pg_mk, if_neg h]; rfl, rfl⟩
  · rw [e] at h
    refine mx_ret_i mo_Ju_make rfl 7 (v := p ^^^ M 10 (nI i).toNatClampNeg) rfl ⟨hv, trivial⟩ rfl ⟨?_, rfl⟩
    rw [pg_mk, if_pos h, e]
theorem ct_Sy_size (hl : l.stackTraces = false) : mx_Ct l (pg_L sc) mY_Sy_size d 0 [.ref 11] M (mx_rI (M 11 4) M) := by
  refine mx_bd (n0 := 1) hl (by decide +kernel) rfl rfl rfl ?_
  exact mx_ret_i mo_Sy_size rfl 2 rfl trivial rfl ⟨rfl, rfl⟩
theorem ct_Sy_forget (hl : l.stackTraces = false) : mx_Ct l (pg_L sc) mY_Sy_forget d 0 [.ref 11] M (mx_rV (mx_up M 11 4 0)) := by
  refine mx_bd (n0 := 1) hl (by decide +kernel) rfl rfl rfl ?_
  exact mx_ret_v mo_Sy_forget rfl 3 rfl trivial rfl ⟨rfl, rfl⟩
theorem ct_We_of (hl : l.stackTraces = false) {i : Nat} (hi : i < 20) : mx_Ct l (pg_L sc) mY_We_of d 0 [.ref 38, .int (nI i)] M (mx_rI (M 39 i) M) := by
  refine mx_bd (n0 := 2) hl (by decide +kernel) rfl rfl rfl ?_
  exact mx_ret_i mo_We_of rfl 4 rfl ⟨vp_in_nI hi (by decide), trivial⟩ rfl ⟨by rw [nI_clamp (by omega)], rfl⟩
theorem ct_We_put (hl : l.stackTraces = false) (w : Int32) {i : Nat} (hi : i < 20) : mx_Ct l (pg_L sc) mY_We_put d 0 [.ref 38, .int (nI i), .int w] M (mx_rV (mx_up M 39 i w)) := by
  refine mx_bd (n0 := 3) hl (by decide +kernel) rfl rfl rfl ?_
  exact mx_ret_v mo_We_put rfl 5 rfl ⟨vp_in_nI hi (by decide), trivial⟩ rfl ⟨rfl, by rw [nI_clamp (by omega)]⟩
theorem ct_Re_limitMet (hl : l.stackTraces = false) (h : M 27 6 = 0 ∨ M 27 6 = 1) : mx_Ct l (pg_L sc) mY_Re_limitMet d 0 [.ref 27] M (mx_rI (M 27 6) M) := by
  refine mx_bd (n0 := 1) hl (by decide +kernel) rfl rfl rfl ?_
  exact mx_ret_z mo_Re_limitMet rfl 2 rfl trivial rfl h ⟨rfl, rfl⟩
theorem ct_Ma_min (hl : l.stackTraces = false) {LK : mx_L} (x y : Int32) : mx_Ct l LK mY_Ma_min d 0 [.int x, .int y] M (mx_rI (if y < x then y else x) M) := by
  refine mx_bd (n0 := 2) hl (by decide +kernel) rfl rfl rfl ?_
  refine mx_if mo_Ma_min 2 (t := 9) (f := 5) rfl trivial (fun h => ?_) (fun h => ?_)
  · exact mx_ret_i mo_Ma_min rfl 1 rfl trivial rfl ⟨by rw [if_pos h], rfl⟩
  · exact mx_ret_i mo_Ma_min rfl 2 rfl trivial rfl ⟨by rw [if_neg h], rfl⟩
theorem ct_Ma_max (hl : l.stackTraces = false) {LK : mx_L} (x y : Int32) : mx_Ct l LK mY_Ma_max d 0 [.int x, .int y] M (mx_rI (if x < y then y else x) M) := by
  refine mx_bd (n0 := 2) hl (by decide +kernel) rfl rfl rfl ?_
  refine mx_if mo_Ma_max 2 (t := 9) (f := 5) rfl trivial (fun h => ?_) (fun h => ?_)
  · exact mx_ret_i mo_Ma_max rfl 1 rfl trivial rfl ⟨by rw [if_pos h], rfl⟩
  · exact mx_ret_i mo_Ma_max rfl 2 rfl trivial rfl ⟨by rw [if_neg h], rfl⟩
/-- Arrays.fill -/
def pg_fill (M : mx_M) (k n : Nat) (v : Int32) : mx_M := mx_row M k (fun j => if j < n then v else M k j)
theorem pg_fill_s {k i : Nat} {v : Int32} : mx_up (pg_fill M k i v) k i v = pg_fill M k (i + 1) v := by
  funext a j
  by_cases ha : a = k
  · subst ha
    by_cases hj : j = i
    · subst hj; simp [mx_up, pg_fill, mx_row]
    · by_cases h2 : j < i
      · simp [mx_up, pg_fill, mx_row, hj, h2, Nat.lt_succ_of_lt h2]
      · simp [mx_up, pg_fill, mx_row, hj, h2, show ¬ j < i + 1 by omega]
  · simp [mx_up, pg_fill, mx_row, ha]
theorem pg_fill_0 {k : Nat} {v : Int32} : pg_fill M k 0 v = M := by
  funext a j
  by_cases ha : a = k
  · subst ha; simp [pg_fill, mx_row]
  · simp [pg_fill, mx_row, ha]
theorem ct_Ar_fill (hl : l.stackTraces = false) {LK : mx_L} {k n : Nat} (hn : n < 2 ^ 31) (v : Int32) (h1 : ∀ M0 : mx_M, mx_run mf_Ar LK mt_Ar_fill 5 0 [.ref k, .int v, .null, .null] [] M0 = some (True, 5, [.ref k, .int v, .int (nI 0), .int (nI n)], [], M0))
    (h2 : ∀ (x y : Int32) (M0 : mx_M), mx_run mf_Ar LK mt_Ar_fill 6 10 [.ref k, .int v, .int x, .int y] [] M0 = some (vp_in x n ∧ True, 5, [.ref k, .int v, .int (x + 1), .int y], [], mx_up M0 k x.toNatClampNeg v)) : mx_Ct l LK mY_Ar_fill d 0 [.ref k, .int v] M (mx_rV (pg_fill M k n v)) := by
  have loop : ∀ (m i : Nat), n - i = m → i ≤ n → mx_E l LK mY_Ar_fill d 0 (mx_rV (pg_fill M k n v)) 5 [.ref k, .int v, .int (nI i), .int (nI n)] [] (pg_fill M k i v) := by
    intro m
    induction m with
    | zero =>
      intro i hm hi
      have e : i = n := by omega
      subst e
      refine mx_if mo_Ar_fill 2 (t := 20) (f := 10) rfl trivial (fun h => ?_) (fun h => ?_)
      · exact mx_ret_v mo_Ar_fill rfl 0 rfl trivial rfl ⟨rfl, rfl⟩
      · exact absurd (nI_le (Nat.le_refl i) hn) h
    | succ m ih =>
      intro i hm hi
      have e : (nI i).toNatClampNeg = i := nI_clamp (by omega)
      refine mx_if mo_Ar_fill 2 (t := 20) (f := 10) rfl trivial (fun h => ?_) (fun h => ?_)
      · exact absurd h (nI_ge (by omega) hn)
      · refine mx_go mo_Ar_fill 6 (h2 (nI i) (nI n) _) ⟨vp_in_nI (by omega) hn, trivial⟩ ?_
        rw [e, pg_fill_s, nI_1]
        exact ih (i + 1) (by omega) (by omega)
  refine mx_bd (n0 := 2) hl (by decide +kernel) rfl rfl rfl ?_
  refine mx_go mo_Ar_fill 5 (h1 M) trivial ?_
  have := loop n 0 (by omega) (by omega)
  rw [pg_fill_0] at this
  exact this
theorem ct_fill_2 (hl : l.stackTraces = false) (v : Int32) : mx_Ct l (pg_L sc) mY_Ar_fill d 0 [.ref 2, .int v] M (mx_rV (pg_fill M 2 64 v)) := ct_Ar_fill hl (by decide) v (fun _ => rfl) (fun _ _ _ => rfl)
theorem ct_fill_30 (hl : l.stackTraces = false) (v : Int32) : mx_Ct l (pg_L sc) mY_Ar_fill d 0 [.ref 30, .int v] M (mx_rV (pg_fill M 30 1024 v)) := ct_Ar_fill hl (by decide) v (fun _ => rfl) (fun _ _ _ => rfl)
theorem ct_fill_33 (hl : l.stackTraces = false) (v : Int32) : mx_Ct l (pg_L sc) mY_Ar_fill d 0 [.ref 33, .int v] M (mx_rV (pg_fill M 33 1024 v)) := ct_Ar_fill hl (by decide) v (fun _ => rfl) (fun _ _ _ => rfl)
theorem ct_fill_39 (hl : l.stackTraces = false) (v : Int32) : mx_Ct l (pg_L sc) mY_Ar_fill d 0 [.ref 39, .int v] M (mx_rV (pg_fill M 39 20 v)) := ct_Ar_fill hl (by decide) v (fun _ => rfl) (fun _ _ _ => rfl)
end LF
end
section
/-! PegBoards$Board. -/
section BO
variable {l : Launch} {sc : Nat × (Nat → Int32)} {d : Nat} {M : mx_M}
theorem pg_in_s {r c : Int32} (h : ¬ pg_in r c = 0) : ∃ i j : Nat, i < 8 ∧ j < 8 ∧ r = nI i ∧ c = nI j := by
  unfold pg_in at h
  split at h
  · exact absurd rfl h
  next h1 =>
    split at h
    · exact absurd rfl h
    next h2 =>
      split at h
      · exact absurd rfl h
      next h3 =>
        split at h
        · exact absurd rfl h
        next h4 =>
          obtain ⟨i, hi, rfl⟩ := nI_of h1
          obtain ⟨j, hj, rfl⟩ := nI_of h3
          have e8 : (8 : Int32) = nI 8 := rfl
          rw [e8, nI_leI (by decide) hi] at h2
          rw [e8, nI_leI (by decide) hj] at h4
          exact ⟨i, j, by omega, by omega, rfl, rfl⟩
theorem pg_in_1 {i j : Nat} (hi : i < 8) (hj : j < 8) : pg_in (nI i) (nI j) = 1 := by
  have e8 : (8 : Int32) = nI 8 := rfl
  rw [pg_in, if_neg (nI_pos (by omega)), if_neg (by rw [e8, nI_leI (by decide) (by omega)]; omega), if_neg (nI_pos (by omega)), if_neg (by rw [e8, nI_leI (by decide) (by omega)]; omega)]
theorem pg_ix {i j : Nat} : nI i * 8 + nI j = nI (i * 8 + j) := by
  rw [show (8 : Int32) = nI 8 from rfl, pk_mul, nI_add]
/-- what Board.numberAt answers -/
def pg_at (M : mx_M) (r c : Int32) : Int32 := if M 1 4 = 0 then -1 else if pg_in r c = 0 then -1 else M 2 (r * 8 + c).toNatClampNeg
theorem ct_Bo_numberAt (hl : l.stackTraces = false) (r c : Int32) : mx_Ct l (pg_L sc) mY_Bo_numberAt (d + 1) 0 [.ref 1, .int r, .int c] M (mx_rI (pg_at M r c) M) := by
  refine mx_bd (n0 := 3) hl (by decide +kernel) rfl rfl rfl ?_
  refine mx_if mo_Bo_numberAt 2 (t := 29) (f := 7) rfl trivial (fun h => ?_) (fun h => ?_)
  · exact mx_ret_i mo_Bo_numberAt rfl 1 rfl trivial rfl ⟨by rw [pg_at, if_pos h]; rfl, rfl⟩
  refine mx_cNi mo_Bo_numberAt 2 (As := [.int r, .int c]) rfl (ct_Pe_isPlace hl r c) rfl trivial rfl kn_Bo_42 kd_Pe_isPlace rfl rfl rfl ?_
  refine mx_if mo_Bo_numberAt 0 (t := 29) (f := 15) rfl trivial (fun h2 => ?_) (fun h2 => ?_)
  · exact mx_ret_i mo_Bo_numberAt rfl 1 rfl trivial rfl ⟨by rw [pg_at, if_neg h, if_pos h2]; rfl, rfl⟩
  · obtain ⟨i, j, hi, hj, rfl, rfl⟩ := pg_in_s h2
    have hv : vp_in (nI i * 8 + nI j) 64 := by rw [pg_ix]; exact vp_in_nI (by omega) (by decide)
    exact mx_ret_i mo_Bo_numberAt rfl 9 (v := M 2 (nI i * 8 + nI j).toNatClampNeg) rfl ⟨hv, trivial⟩ rfl ⟨by rw [pg_at, if_neg h, if_neg h2], rfl⟩
def pg_cd (M : mx_M) (q : Nat) : Int32 := if ¬ M 1 4 = 0 then 0 else if 20 ≤ M 1 5 then 0 else if ¬ M 2 q = -1 then 0 else 1
theorem ct_Bo_canDraw (hl : l.stackTraces = false) {i j : Nat} (hi : i < 8) (hj : j < 8) : mx_Ct l (pg_L sc) mY_Bo_canDraw d 0 [.ref 1, .int (nI i), .int (nI j)] M (mx_rI (pg_cd M (i * 8 + j)) M) := by
  have hv : vp_in (nI i * 8 + nI j) 64 := by rw [pg_ix]; exact vp_in_nI (by omega) (by decide)
  have e : (nI i * 8 + nI j).toNatClampNeg = i * 8 + j := by rw [pg_ix]; exact nI_clamp (by omega)
  refine mx_bd (n0 := 3) hl (by decide +kernel) rfl rfl rfl ?_
  refine mx_if mo_Bo_canDraw 2 (t := 35) (f := 7) rfl trivial (fun h => ?_) (fun h => ?_)
  · exact mx_ret_z mo_Bo_canDraw rfl 1 rfl trivial rfl (Or.inl rfl) ⟨by rw [pg_cd, if_pos h]; rfl, rfl⟩
  refine mx_if mo_Bo_canDraw 3 (t := 35) (f := 16) rfl trivial (fun (h2 : 20 ≤ M 1 5) => ?_) (fun (h2 : ¬ 20 ≤ M 1 5) => ?_)
  · exact mx_ret_z mo_Bo_canDraw rfl 1 rfl trivial rfl (Or.inl rfl) ⟨by rw [pg_cd, if_neg (fun q => q h), if_pos h2]; rfl, rfl⟩
  refine mx_if mo_Bo_canDraw 9 (t := 35) (f := 31) rfl ⟨hv, trivial⟩ (fun (h3 : ¬ M 2 (nI i * 8 + nI j).toNatClampNeg = -1) => ?_) (fun (h3 : M 2 (nI i * 8 + nI j).toNatClampNeg = -1) => ?_)
  · rw [e] at h3
    exact mx_ret_z mo_Bo_canDraw rfl 1 rfl trivial rfl (Or.inl rfl) ⟨by rw [pg_cd, if_neg (fun q => q h), if_neg h2, if_pos h3]; rfl, rfl⟩
  · rw [e] at h3
    exact mx_ret_z mo_Bo_canDraw rfl 2 rfl trivial rfl (Or.inr rfl) ⟨by rw [pg_cd, if_neg (fun q => q h), if_neg h2, if_neg (fun q => q h3)]; rfl, rfl⟩
theorem ct_Bo_draw (hl : l.stackTraces = false) {i j : Nat} (hi : i < 8) (hj : j < 8) : mx_Ct l (pg_L sc) mY_Bo_draw d 0 [.ref 1, .int (nI i), .int (nI j)] M (mx_rI (M 1 5 + 1) (mx_up (mx_up M 2 (i * 8 + j) 0) 1 5 (M 1 5 + 1))) := by
  have hv : vp_in (nI i * 8 + nI j) 64 := by rw [pg_ix]; exact vp_in_nI (by omega) (by decide)
  have e : (nI i * 8 + nI j).toNatClampNeg = i * 8 + j := by rw [pg_ix]; exact nI_clamp (by omega)
  refine mx_bd (n0 := 3) hl (by decide +kernel) rfl rfl rfl ?_
  refine mx_go mo_Bo_draw 15 (pc' := 22) (ls' := [.ref 1, .int (nI i), .int (nI j)]) (st' := []) (M' := mx_up (mx_up M 2 (nI i * 8 + nI j).toNatClampNeg 0) 1 5 (M 1 5 + 1)) rfl ⟨hv, trivial⟩ ?_
  rw [e]
  exact mx_ret_i mo_Bo_draw rfl 2 (v := M 1 5 + 1) rfl trivial rfl ⟨rfl, rfl⟩
def pg_cb (M : mx_M) : Int32 := if ¬ M 1 4 = 0 then 0 else if M 1 5 ≤ 0 then 0 else 1
theorem ct_Bo_canBeNumbered (hl : l.stackTraces = false) : mx_Ct l (pg_L sc) mY_Bo_canBeNumbered d 0 [.ref 1] M (mx_rI (pg_cb M) M) := by
  refine mx_bd (n0 := 1) hl (by decide +kernel) rfl rfl rfl ?_
  refine mx_if mo_Bo_canBeNumbered 2 (t := 18) (f := 7) rfl trivial (fun h => ?_) (fun h => ?_)
  · exact mx_ret_z mo_Bo_canBeNumbered rfl 1 rfl trivial rfl (Or.inl rfl) ⟨by rw [pg_cb, if_pos h]; rfl, rfl⟩
  refine mx_if mo_Bo_canBeNumbered 2 (t := 18) (f := 14) rfl trivial (fun h2 => ?_) (fun h2 => ?_)
  · exact mx_ret_z mo_Bo_canBeNumbered rfl 1 rfl trivial rfl (Or.inl rfl) ⟨by rw [pg_cb, if_neg (fun q => q h), if_pos h2]; rfl, rfl⟩
  · exact mx_ret_z mo_Bo_canBeNumbered rfl 2 rfl trivial rfl (Or.inr rfl) ⟨by rw [pg_cb, if_neg (fun q => q h), if_neg h2]; rfl, rfl⟩
def pg_wipe (M : mx_M) (t : Int32) : mx_M := mx_up (mx_up (mx_up (pg_fill M 2 64 (-1)) 1 3 t) 1 4 0) 1 5 0
theorem ct_Bo_wipe (hl : l.stackTraces = false) {t : Int32} (ht : t = 0 ∨ t = 1) : mx_Ct l (pg_L sc) mY_Bo_wipe (d + 1) 0 [.ref 1, .int t] M (mx_rV (pg_wipe M t)) := by
  refine mx_bd (n0 := 2) hl (by decide +kernel) rfl rfl rfl ?_
  refine mx_cSv mo_Bo_wipe 3 (As := [.ref 2, .int (-1)]) rfl (ct_fill_2 hl (-1)) rfl trivial rfl ks_Bo_21 kd_Ar_fill rfl rfl rfl ?_
  exact mx_ret_v mo_Bo_wipe rfl 9 (M' := pg_wipe M t) rfl ⟨ht, Or.inl rfl, trivial⟩ rfl ⟨rfl, rfl⟩
def pg_col (x : Int32) : Int32 := (if x = 2 then 0 else 2) + (if x = 0 then 0 else 1)
theorem ct_Bo_colours (hl : l.stackTraces = false) (x : Int32) : mx_Ct l (pg_L sc) mY_Bo_colours d 0 [.int x] M (mx_rI (pg_col x) M) := by
  refine mx_bd (n0 := 1) hl (by decide +kernel) rfl rfl rfl ?_
  refine mx_if mo_Bo_colours 2 (t := 9) (f := 5) rfl trivial (fun (h : x = 2) => ?_) (fun (h : ¬ x = 2) => ?_)
  · refine mx_if mo_Bo_colours 2 (t := 18) (f := 14) rfl trivial (fun h2 => ?_) (fun h2 => ?_)
    · exact mx_ret_i mo_Bo_colours rfl 2 rfl trivial rfl ⟨by rw [pg_col, if_pos h, if_pos h2]; rfl, rfl⟩
    · exact mx_ret_i mo_Bo_colours rfl 3 rfl trivial rfl ⟨by rw [pg_col, if_pos h, if_neg h2]; rfl, rfl⟩
  · refine mx_if mo_Bo_colours 3 (t := 18) (f := 14) rfl trivial (fun h2 => ?_) (fun h2 => ?_)
    · exact mx_ret_i mo_Bo_colours rfl 2 rfl trivial rfl ⟨by rw [pg_col, if_neg h, if_pos h2]; rfl, rfl⟩
    · exact mx_ret_i mo_Bo_colours rfl 3 rfl trivial rfl ⟨by rw [pg_col, if_neg h, if_neg h2]; rfl, rfl⟩
/-- the least of f 0 .. f k -/
def pg_mn (f : Nat → Int32) : Nat → Int32
  | 0 => f 0
  | k + 1 => if f (k + 1) < pg_mn f k then f (k + 1) else pg_mn f k
theorem ct_Pe_leastIn (hl : l.stackTraces = false) {k n : Nat} (hn : n < 20) (h1 : ∀ M0 : mx_M, mx_run mf_Pe (pg_L sc) mt_Pe_leastIn 6 0 [.ref k, .int (nI (n + 1)), .null, .null] [] M0 = some (vp_in 0 20 ∧ True, 6, [.ref k, .int (nI (n + 1)), .int (M0 k 0), .int (nI 1)], [], M0))
    (h2 : ∀ (x y z : Int32) (M0 : mx_M), mx_run mf_Pe (pg_L sc) mt_Pe_leastIn 4 11 [.ref k, .int x, .int y, .int z] [] M0 = some (vp_in z 20 ∧ True, 15, [.ref k, .int x, .int y, .int z], [.int (M0 k z.toNatClampNeg), .int y], M0)) :
    mx_Ct l (pg_L sc) mY_Pe_leastIn (d + 1) 0 [.ref k, .int (nI (n + 1))] M (mx_rI (pg_mn (M k) n) M) := by
  have loop : ∀ (m i : Nat), n - i = m → i ≤ n → mx_E l (pg_L sc) mY_Pe_leastIn (d + 1) 0 (mx_rI (pg_mn (M k) n) M) 6 [.ref k, .int (nI (n + 1)), .int (pg_mn (M k) i), .int (nI (i + 1))] [] M := by
    intro m
    induction m with
    | zero =>
      intro i hm hi
      have e : i = n := by omega
      subst e
      refine mx_if mo_Pe_leastIn 2 (t := 25) (f := 11) rfl trivial (fun h => ?_) (fun h => ?_)
      · exact mx_ret_i mo_Pe_leastIn rfl 1 rfl trivial rfl ⟨rfl, rfl⟩
      · exact absurd (nI_le (Nat.le_refl _) (by omega)) h
    | succ m ih =>
      intro i hm hi
      have e : (nI (i + 1)).toNatClampNeg = i + 1 := nI_clamp (by omega)
      refine mx_if mo_Pe_leastIn 2 (t := 25) (f := 11) rfl trivial (fun h => ?_) (fun h => ?_)
      · exact absurd h (nI_ge (by omega) (by omega))
      · have h2' := h2 (nI (n + 1)) (pg_mn (M k) i) (nI (i + 1)) M
        rw [e] at h2'
        refine mx_cSi mo_Pe_leastIn 4 (As := [.int (pg_mn (M k) i), .int (M k (i + 1))]) rfl (ct_Ma_min hl _ _) h2' ⟨vp_in_nI (by omega) (by decide), trivial⟩ rfl ks_Pe_219 kd_Ma_min rfl rfl rfl ?_
        refine mx_go mo_Pe_leastIn 3 (pc' := 6) (ls' := [.ref k, .int (nI (n + 1)), .int (pg_mn (M k) (i + 1)), .int (nI (i + 1) + 1)]) (st' := []) (M' := M) rfl trivial ?_
        rw [nI_1]
        exact ih (i + 1) (by omega) (by omega)
  refine mx_bd (n0 := 2) hl (by decide +kernel) rfl rfl rfl ?_
  exact mx_go mo_Pe_leastIn 6 (h1 M) ⟨vp_in_nI (n := 0) (by decide) (by decide), trivial⟩ (loop n 0 (by omega) (by omega))
theorem ct_leastIn_3 (hl : l.stackTraces = false) {n : Nat} (hn : n < 20) : mx_Ct l (pg_L sc) mY_Pe_leastIn (d + 1) 0 [.ref 3, .int (nI (n + 1))] M (mx_rI (pg_mn (M 3) n) M) := ct_Pe_leastIn hl hn (fun _ => rfl) (fun _ _ _ _ => rfl)
theorem ct_leastIn_4 (hl : l.stackTraces = false) {n : Nat} (hn : n < 20) : mx_Ct l (pg_L sc) mY_Pe_leastIn (d + 1) 0 [.ref 4, .int (nI (n + 1))] M (mx_rI (pg_mn (M 4) n) M) := ct_Pe_leastIn hl hn (fun _ => rfl) (fun _ _ _ _ => rfl)
theorem ct_leastIn_25 (hl : l.stackTraces = false) {n : Nat} (hn : n < 20) : mx_Ct l (pg_L sc) mY_Pe_leastIn (d + 1) 0 [.ref 25, .int (nI (n + 1))] M (mx_rI (pg_mn (M 25) n) M) := ct_Pe_leastIn hl hn (fun _ => rfl) (fun _ _ _ _ => rfl)
theorem ct_leastIn_26 (hl : l.stackTraces = false) {n : Nat} (hn : n < 20) : mx_Ct l (pg_L sc) mY_Pe_leastIn (d + 1) 0 [.ref 26, .int (nI (n + 1))] M (mx_rI (pg_mn (M 26) n) M) := ct_Pe_leastIn hl hn (fun _ => rfl) (fun _ _ _ _ => rfl)
theorem ct_Bo_leastRow (hl : l.stackTraces = false) {n : Nat} (hn : n < 20) (hf : ¬ M 1 4 = 0) (hh : M 1 5 = nI (n + 1)) : mx_Ct l (pg_L sc) mY_Bo_leastRow (d + 2) 0 [.ref 1] M (mx_rI (pg_mn (M 3) n) M) := by
  refine mx_bd (n0 := 1) hl (by decide +kernel) rfl rfl rfl ?_
  refine mx_cVi mo_Bo_leastRow 3 (rest := [.ref 3]) rfl (ct_Bo_holes hl) rfl trivial rfl rfl rfl kv_Bo_38 kd_Bo_holes rfl rfl rfl ?_
  rw [if_neg hf, hh]
  refine mx_cNi mo_Bo_leastRow 0 (As := [.ref 3, .int (nI (n + 1))]) rfl (ct_leastIn_3 hl hn) rfl trivial rfl kn_Bo_46 kd_Pe_leastIn rfl rfl rfl ?_
  exact mx_ret_i mo_Bo_leastRow rfl 0 rfl trivial rfl ⟨rfl, rfl⟩
theorem ct_Bo_leastColumn (hl : l.stackTraces = false) {n : Nat} (hn : n < 20) (hf : ¬ M 1 4 = 0) (hh : M 1 5 = nI (n + 1)) : mx_Ct l (pg_L sc) mY_Bo_leastColumn (d + 2) 0 [.ref 1] M (mx_rI (pg_mn (M 4) n) M) := by
  refine mx_bd (n0 := 1) hl (by decide +kernel) rfl rfl rfl ?_
  refine mx_cVi mo_Bo_leastColumn 3 (rest := [.ref 4]) rfl (ct_Bo_holes hl) rfl trivial rfl rfl rfl kv_Bo_38 kd_Bo_holes rfl rfl rfl ?_
  rw [if_neg hf, hh]
  refine mx_cNi mo_Bo_leastColumn 0 (As := [.ref 4, .int (nI (n + 1))]) rfl (ct_leastIn_4 hl hn) rfl trivial rfl kn_Bo_46 kd_Pe_leastIn rfl rfl rfl ?_
  exact mx_ret_i mo_Bo_leastColumn rfl 0 rfl trivial rfl ⟨rfl, rfl⟩
end BO
end
section
/-! PegBoards$Board: the loops. -/
section BP
variable {l : Launch} {sc : Nat × (Nat → Int32)} {d : Nat} {M : mx_M}
/-- how many of the places below p are drawn -/
def pg_n (D : Nat → Bool) : Nat → Nat
  | 0 => 0
  | p + 1 => pg_n D p + (if D p then 1 else 0)
theorem pg_n_le {D : Nat → Bool} {p q : Nat} (h : p ≤ q) : pg_n D p ≤ pg_n D q := by
  induction q with
  | zero => rw [Nat.le_zero.mp h]; exact Nat.le_refl _
  | succ q ih =>
    by_cases e : p = q + 1
    · rw [e]; exact Nat.le_refl _
    · have := ih (by omega)
      rw [pg_n]; omega
theorem pg_n_lt {D : Nat → Bool} {p q : Nat} (h : p < q) (hp : D p = true) : pg_n D p < pg_n D q := by
  have h1 := pg_n_le (D := D) (show p + 1 ≤ q from h)
  rw [pg_n, hp] at h1
  simp at h1
  omega
/-- the numbers behind Board.numberHoles, up to place p -/
def pg_nh (D : Nat → Bool) (M : mx_M) : Nat → mx_M
  | 0 => M
  | p + 1 => if D p then mx_up (mx_up (mx_up (pg_nh D M p) 2 p (nI (pg_n D p))) 3 (pg_n D p) (nI (p / 8))) 4 (pg_n D p) (nI (p % 8)) else pg_nh D M p
theorem pg_nh_2 {D : Nat → Bool} {q : Nat} : ∀ p, p ≤ q → pg_nh D M p 2 q = M 2 q := by
  intro p
  induction p with
  | zero => intro _; rfl
  | succ p ih =>
    intro h
    rw [pg_nh]
    split
    · rw [mx_up_off (by decide), mx_up_off (by decide), ← ih (by omega)]
      simp [mx_up, show q ≠ p by omega]
    · exact ih (by omega)
theorem ct_Bo_numberHoles (hl : l.stackTraces = false) {D : Nat → Bool} (hD : ∀ p, p < 64 → (M 2 p = -1 ↔ D p = false)) (hc : pg_n D 64 ≤ 20) : mx_Ct l (pg_L sc) mY_Bo_numberHoles d 0 [.ref 1] M (mx_rV (mx_up (pg_nh D M 64) 1 4 1)) := by
  have e8 : (8 : Int32) = nI 8 := rfl
  have loop : ∀ (m p : Nat), 64 - p = m → p ≤ 64 → mx_E l (pg_L sc) mY_Bo_numberHoles d 0 (mx_rV (mx_up (pg_nh D M 64) 1 4 1)) 4 [.ref 1, .int (nI (pg_n D p)), .int (nI p)] [] (pg_nh D M p) := by
    intro m
    induction m with
    | zero =>
      intro p hm hp
      have e : p = 64 := by omega
      subst e
      refine mx_if mo_Bo_numberHoles 4 (t := 65) (f := 13) rfl trivial (fun h => ?_) (fun h => ?_)
      · exact mx_ret_v mo_Bo_numberHoles rfl 3 (M' := mx_up (pg_nh D M 64) 1 4 1) rfl ⟨Or.inr rfl, trivial⟩ rfl ⟨rfl, rfl⟩
      · exact absurd (nI_le (Nat.le_refl 64) (by decide)) h
    | succ m ih =>
      intro p hm hp
      have e : (nI p).toNatClampNeg = p := nI_clamp (by omega)
      have hv : vp_in (nI p) 64 := vp_in_nI (by omega) (by decide)
      refine mx_if mo_Bo_numberHoles 4 (t := 65) (f := 13) rfl trivial (fun (h : nI 64 ≤ nI p) => ?_) (fun h => ?_)
      · exact absurd h (nI_ge (by omega) (by decide))
      refine mx_if mo_Bo_numberHoles 5 (t := 59) (f := 23) rfl ⟨hv, trivial⟩ (fun (h2 : pg_nh D M p 2 (nI p).toNatClampNeg = -1) => ?_) (fun (h2 : ¬ pg_nh D M p 2 (nI p).toNatClampNeg = -1) => ?_)
      · rw [e, pg_nh_2 p (Nat.le_refl p), hD p (by omega)] at h2
        refine mx_go mo_Bo_numberHoles 2 (pc' := 4) (ls' := [.ref 1, .int (nI (pg_n D p)), .int (nI p + 1)]) (st' := []) rfl trivial ?_
        have := ih (p + 1) (by omega) (by omega)
        have e3 : pg_nh D M (p + 1) = pg_nh D M p := by rw [pg_nh, h2]; rfl
        have e4 : pg_n D (p + 1) = pg_n D p := by rw [pg_n, h2]; rfl
        rw [e3, e4] at this
        rw [nI_1]
        exact this
      · rw [e, pg_nh_2 p (Nat.le_refl p), hD p (by omega)] at h2
        have h3 : D p = true := by cases hh : D p <;> simp_all
        have h4 := pg_n_lt (D := D) (show p < 64 by omega) h3
        have e2 : (nI (pg_n D p)).toNatClampNeg = pg_n D p := nI_clamp (by omega)
        have hv2 : vp_in (nI (pg_n D p)) 20 := vp_in_nI (by omega) (by decide)
        refine mx_if mo_Bo_numberHoles 2 (t := 59) (f := 29) rfl trivial (fun (h5 : nI 20 ≤ nI (pg_n D p)) => ?_) (fun h5 => ?_)
        · exact absurd h5 (nI_ge (by omega) (by decide))
        refine mx_go mo_Bo_numberHoles 22 (pc' := 4) (ls' := [.ref 1, .int (nI (pg_n D p) + 1), .int (nI p + 1)]) (st' := []) (M' := mx_up (mx_up (mx_up (pg_nh D M p) 2 (nI p).toNatClampNeg (nI (pg_n D p))) 3 (nI (pg_n D p)).toNatClampNeg (nI p / 8)) 4 (nI (pg_n D p)).toNatClampNeg (nI p - nI p / 8 * 8)) rfl ⟨hv, by decide, hv2, by decide, hv2, trivial⟩ ?_
        rw [e, e2, e8, pk_rem (by omega) (by decide) (by decide), pk_div (by omega) (by decide) (by decide), nI_1, nI_1]
        have := ih (p + 1) (by omega) (by omega)
        have e3 : pg_nh D M (p + 1) = mx_up (mx_up (mx_up (pg_nh D M p) 2 p (nI (pg_n D p))) 3 (pg_n D p) (nI (p / 8))) 4 (pg_n D p) (nI (p % 8)) := by rw [pg_nh, h3]; rfl
        have e4 : pg_n D (p + 1) = pg_n D p + 1 := by rw [pg_n, h3]; rfl
        rw [e3, e4] at this
        exact this
  refine mx_bd (n0 := 1) hl (by decide +kernel) rfl rfl rfl ?_
  exact mx_go mo_Bo_numberHoles 4 (pc' := 4) (ls' := [.ref 1, .int (nI 0), .int (nI 0)]) (st' := []) (M' := M) rfl trivial (loop 64 0 (by omega) (by omega))
def pg_r3 (x : Int32) : Int32 := x - x / 3 * 3
/-- Board.classOf, up to hole h -/
def pg_cls (f g : Nat → Int32) (p : Int32) : Nat → Int32
  | 0 => 0
  | h + 1 => if pg_has p (nI h) = 0 then pg_cls f g p h else pg_cls f g p h ^^^ (4 * pg_col (pg_r3 (f h + g h)) + pg_col (pg_r3 (f h - g h + 9)))
theorem ct_Bo_classOf (hl : l.stackTraces = false) (p : Int32) {n : Nat} (hn : n ≤ 20) (hh : (if M 1 4 = 0 then 0 else M 1 5) = nI n) : mx_Ct l (pg_L sc) mY_Bo_classOf (d + 1) 0 [.ref 1, .int p] M (mx_rI (pg_cls (M 3) (M 4) p n) M) := by
  have loop : ∀ (m i : Nat), n - i = m → i ≤ n → ∀ x y : Value, mx_E l (pg_L sc) mY_Bo_classOf (d + 1) 0 (mx_rI (pg_cls (M 3) (M 4) p n) M) 4 [.ref 1, .int p, .int (pg_cls (M 3) (M 4) p i), .int (nI i), x, y] [] M := by
    intro m
    induction m with
    | zero =>
      intro i hm hi x y
      have e : i = n := by omega
      subst e
      refine mx_cVi mo_Bo_classOf 2 (rest := [.int (nI i)]) rfl (ct_Bo_holes hl) rfl trivial rfl rfl rfl kv_Bo_38 kd_Bo_holes rfl rfl rfl ?_
      rw [hh]
      refine mx_if mo_Bo_classOf 0 (t := 79) (f := 12) rfl trivial (fun h => ?_) (fun h => ?_)
      · exact mx_ret_i mo_Bo_classOf rfl 1 rfl trivial rfl ⟨rfl, rfl⟩
      · exact absurd (nI_le (Nat.le_refl i) (by omega)) h
    | succ m ih =>
      intro i hm hi x y
      have e : (nI i).toNatClampNeg = i := nI_clamp (by omega)
      have hv : vp_in (nI i) 20 := vp_in_nI (by omega) (by decide)
      refine mx_cVi mo_Bo_classOf 2 (rest := [.int (nI i)]) rfl (ct_Bo_holes hl) rfl trivial rfl rfl rfl kv_Bo_38 kd_Bo_holes rfl rfl rfl ?_
      rw [hh]
      refine mx_if mo_Bo_classOf 0 (t := 79) (f := 12) rfl trivial (fun h => ?_) (fun h => ?_)
      · exact absurd h (nI_ge (by omega) (by omega))
      refine mx_cNi mo_Bo_classOf 2 (As := [.int p, .int (nI i)]) rfl (ct_Pe_contains hl p (nI i)) rfl trivial rfl kn_Bo_50 kd_Pe_contains rfl rfl rfl ?_
      refine mx_if mo_Bo_classOf 0 (t := 73) (f := 20) rfl trivial (fun h2 => ?_) (fun h2 => ?_)
      · refine mx_go mo_Bo_classOf 2 (pc' := 4) (ls' := [.ref 1, .int p, .int (pg_cls (M 3) (M 4) p i), .int (nI i + 1), x, y]) (st' := []) (M' := M) rfl trivial ?_
        have := ih (i + 1) (by omega) (by omega) x y
        rw [pg_cls, if_pos h2] at this
        rw [nI_1]; exact this
      · refine mx_go mo_Bo_classOf 26 (pc' := 57) (ls' := [.ref 1, .int p, .int (pg_cls (M 3) (M 4) p i), .int (nI i), .int (pg_r3 (M 3 (nI i).toNatClampNeg + M 4 (nI i).toNatClampNeg)), .int (pg_r3 (M 3 (nI i).toNatClampNeg - M 4 (nI i).toNatClampNeg + 9))]) (st' := []) (M' := M) rfl ⟨hv, hv, by decide, hv, hv, by decide, trivial⟩ ?_
        rw [e]
        refine mx_cSi mo_Bo_classOf 3 (As := [.int (pg_r3 (M 3 i + M 4 i))]) (rest := [.int 4, .int (pg_cls (M 3) (M 4) p i)]) rfl (ct_Bo_colours hl _) rfl trivial rfl ks_Bo_53 kd_Bo_colours rfl rfl rfl ?_
        refine mx_cSi mo_Bo_classOf 2 (As := [.int (pg_r3 (M 3 i - M 4 i + 9))]) (rest := [.int (4 * pg_col (pg_r3 (M 3 i + M 4 i))), .int (pg_cls (M 3) (M 4) p i)]) rfl (ct_Bo_colours hl _) rfl trivial rfl ks_Bo_53 kd_Bo_colours rfl rfl rfl ?_
        refine mx_go mo_Bo_classOf 5 (pc' := 4) (ls' := [.ref 1, .int p, .int (pg_cls (M 3) (M 4) p i ^^^ (4 * pg_col (pg_r3 (M 3 i + M 4 i)) + pg_col (pg_r3 (M 3 i - M 4 i + 9)))), .int (nI i + 1), .int (pg_r3 (M 3 i + M 4 i)), .int (pg_r3 (M 3 i - M 4 i + 9))]) (st' := []) (M' := M) rfl trivial ?_
        have := ih (i + 1) (by omega) (by omega) (.int (pg_r3 (M 3 i + M 4 i))) (.int (pg_r3 (M 3 i - M 4 i + 9)))
        rw [pg_cls, if_neg h2] at this
        rw [nI_1]; exact this
  refine mx_bd (n0 := 2) hl (by decide +kernel) rfl rfl rfl ?_
  exact mx_go mo_Bo_classOf 4 (pc' := 4) (ls' := [.ref 1, .int p, .int 0, .int (nI 0), .null, .null]) (st' := []) (M' := M) rfl trivial (loop n 0 (by omega) (by omega) _ _)
end BP
end
section
/-! A table of 1024 slots, looked through from a place on: pure. -/
section HS
def hs_f (S P : Nat → Int32) (p : Int32) : Nat → Nat → Nat
  | 0, t => t
  | m + 1, t => if S t = 0 ∨ P ((S t).toNatClampNeg - 1) = p then t else hs_f S P p m ((t + 1) % 1024)
/-- the table holds the n different positions P 0 .. : each in a slot that can be come to from its first one -/
def hs_ok (h : Int32 → Nat) (S P : Nat → Int32) (n : Nat) : Prop :=
  n ≤ 500 ∧ (∀ p, h p < 1024) ∧ (∀ t, t < 1024 → S t = 0 ∨ ∃ i, i < n ∧ S t = nI (i + 1)) ∧
  (∀ i, i < n → ∃ k, k < 1024 ∧ S ((h (P i) + k) % 1024) = nI (i + 1) ∧ ∀ j, j < k → ¬ S ((h (P i) + j) % 1024) = 0) ∧
  (∀ t u, t < 1024 → u < 1024 → S t = S u → ¬ S t = 0 → t = u) ∧ ∀ i j, i < n → j < n → P i = P j → i = j
theorem hs_walk {S P : Nat → Int32} {p : Int32} : ∀ (m t : Nat), t < 1024 → (∃ k, k < m ∧ (S ((t + k) % 1024) = 0 ∨ P ((S ((t + k) % 1024)).toNatClampNeg - 1) = p)) →
    ∃ k, k < m ∧ hs_f S P p m t = (t + k) % 1024 ∧ (S ((t + k) % 1024) = 0 ∨ P ((S ((t + k) % 1024)).toNatClampNeg - 1) = p) ∧ ∀ j, j < k → ¬ (S ((t + j) % 1024) = 0 ∨ P ((S ((t + j) % 1024)).toNatClampNeg - 1) = p) := by
  intro m
  induction m with
  | zero => intro t _ h; obtain ⟨k, hk, -⟩ := h; omega
  | succ m ih =>
    intro t ht h
    by_cases h0 : S t = 0 ∨ P ((S t).toNatClampNeg - 1) = p
    · refine ⟨0, by omega, ?_, ?_, fun j hj => by omega⟩
      · rw [hs_f, if_pos h0, Nat.add_zero, Nat.mod_eq_of_lt ht]
      · rw [Nat.add_zero, Nat.mod_eq_of_lt ht]; exact h0
    · obtain ⟨k, hk, hs⟩ := h
      cases k with
      | zero => rw [Nat.add_zero, Nat.mod_eq_of_lt ht] at hs; exact absurd hs h0
      | succ k =>
        have e : ∀ j, ((t + 1) % 1024 + j) % 1024 = (t + (j + 1)) % 1024 := fun j => by omega
        obtain ⟨k', h1, h2, h3, h4⟩ := ih ((t + 1) % 1024) (by omega) ⟨k, by omega, by rw [e k]; exact hs⟩
        refine ⟨k' + 1, by omega, ?_, ?_, ?_⟩
        · rw [hs_f, if_neg h0, h2, e]
        · rw [← e]; exact h3
        · intro j hj
          cases j with
          | zero => rw [Nat.add_zero, Nat.mod_eq_of_lt ht]; exact h0
          | succ j => rw [← e]; exact h4 j (by omega)
theorem hs_free {h : Int32 → Nat} {S P : Nat → Int32} {n : Nat} (ok : hs_ok h S P n) : ∃ t, t < 1024 ∧ S t = 0 := by
  obtain ⟨h1, -, h3, -, h5, -⟩ := ok
  apply Classical.byContradiction
  intro hno
  have hf : ∀ t, t < 1024 → ¬ S t = 0 := fun t ht h0 => hno ⟨t, ht, h0⟩
  have hd : ((List.range 1024).map (fun t => (S t).toNatClampNeg)).Nodup := by
    show List.Pairwise _ _
    rw [List.pairwise_map]
    refine List.Pairwise.imp_of_mem ?_ (List.nodup_range (n := 1024))
    intro a b ha hb hab e
    have ha := List.mem_range.mp ha
    have hb := List.mem_range.mp hb
    obtain ⟨i, hi, ei⟩ := (h3 a ha).resolve_left (hf a ha)
    obtain ⟨j, hj, ej⟩ := (h3 b hb).resolve_left (hf b hb)
    rw [ei, ej, nI_clamp (by omega), nI_clamp (by omega)] at e
    exact hab (h5 a b ha hb (by rw [ei, ej, e]) (hf a ha))
  have hs : ((List.range 1024).map (fun t => (S t).toNatClampNeg)) ⊆ List.range 501 := by
    intro x hx
    obtain ⟨t, ht, rfl⟩ := List.mem_map.mp hx
    have ht := List.mem_range.mp ht
    obtain ⟨i, hi, ei⟩ := (h3 t ht).resolve_left (hf t ht)
    rw [ei, nI_clamp (by omega)]
    exact List.mem_range.mpr (by omega)
  have := hd.length_le_of_subset hs
  simp at this
/-- what is found: the slot that has the position, or a free one -/
theorem hs_find {h : Int32 → Nat} {S P : Nat → Int32} {n : Nat} (ok : hs_ok h S P n) (p : Int32) :
    ∃ k, k < 1024 ∧ hs_f S P p 1024 (h p) = (h p + k) % 1024 ∧ (∀ j, j < k → ¬ S ((h p + j) % 1024) = 0 ∧ ¬ P ((S ((h p + j) % 1024)).toNatClampNeg - 1) = p) ∧
      ((S ((h p + k) % 1024) = 0 ∧ ∀ i, i < n → ¬ P i = p) ∨ ∃ i, i < n ∧ P i = p ∧ S ((h p + k) % 1024) = nI (i + 1)) := by
  obtain ⟨u, hu, hu0⟩ := hs_free ok
  obtain ⟨h1, h2, h3, h4, h5, h6⟩ := ok
  have hp := h2 p
  obtain ⟨k, k1, k2, k3, k4⟩ := hs_walk (S := S) (P := P) (p := p) 1024 (h p) hp ⟨(u + 1024 - h p) % 1024, Nat.mod_lt _ (by decide), Or.inl (by
    rw [show (h p + (u + 1024 - h p) % 1024) % 1024 = u by omega]; exact hu0)⟩
  refine ⟨k, k1, k2, fun j hj => ⟨fun q => k4 j hj (Or.inl q), fun q => k4 j hj (Or.inr q)⟩, ?_⟩
  by_cases hz : S ((h p + k) % 1024) = 0
  · refine Or.inl ⟨hz, fun i hi e => ?_⟩
    obtain ⟨k', q1, q2, q3⟩ := h4 i hi
    rw [e] at q2 q3
    by_cases hlt : k' < k
    · refine k4 k' hlt (Or.inr ?_)
      rw [q2, nI_clamp (by omega)]
      exact e
    · by_cases he : k = k'
      · rw [he, q2] at hz
        exact nI_ne0 (by omega) (by omega) hz
      · exact q3 k (by omega) hz
  · obtain ⟨i, hi, ei⟩ := (h3 _ (Nat.mod_lt _ (by decide))).resolve_left hz
    refine Or.inr ⟨i, hi, ?_, ei⟩
    have := k3.resolve_left hz
    rw [ei, nI_clamp (by omega)] at this
    exact this
theorem hs_add {h : Int32 → Nat} {S P : Nat → Int32} {n : Nat} (ok : hs_ok h S P n) (hn : n < 500) {p : Int32} (hp : ∀ i, i < n → ¬ P i = p) : hs_ok h (upd S (hs_f S P p 1024 (h p)) (nI (n + 1))) (upd P n p) (n + 1) := by
  obtain ⟨k, k1, k2, k3, k4⟩ := hs_find ok p
  have hz : S ((h p + k) % 1024) = 0 := by
    rcases k4 with ⟨q, -⟩ | ⟨i, hi, e, -⟩
    · exact q
    · exact absurd e (hp i hi)
  obtain ⟨h1, h2, h3, h4, h5, h6⟩ := ok
  rw [k2]
  have hlt : (h p + k) % 1024 < 1024 := Nat.mod_lt _ (by decide)
  generalize hu : (h p + k) % 1024 = u at hz hlt
  have hne : ∀ i, i < n → ¬ nI (i + 1) = nI (n + 1) := fun i hi e => by
    have := (nI_eq (by omega) (by omega)).mp e
    omega
  refine ⟨by omega, h2, fun t ht => ?_, fun i hi => ?_, fun t w ht hw e1 e2 => ?_, fun i j hi hj e => ?_⟩
  · by_cases e : t = u
    · exact Or.inr ⟨n, by omega, by simp [upd, e]⟩
    · rcases h3 t ht with q | ⟨i, hi, q⟩
      · exact Or.inl (by simp [upd, e, q])
      · exact Or.inr ⟨i, by omega, by simp [upd, e, q]⟩
  · by_cases e : i = n
    · subst e
      refine ⟨k, k1, by simp [upd, hu], fun j hj => ?_⟩
      simp only [upd, if_pos]
      by_cases e2 : (h p + j) % 1024 = u
      · simp [e2]; exact nI_ne0 (by omega) (by omega)
      · simp [e2]; exact (k3 j hj).1
    · obtain ⟨k', q1, q2, q3⟩ := h4 i (by omega)
      have e3 : upd P n p i = P i := by simp [upd, e]
      rw [e3]
      refine ⟨k', q1, ?_, fun j hj => ?_⟩
      · have : (h (P i) + k') % 1024 ≠ u := fun e2 => by rw [e2, hz] at q2; exact nI_ne0 (n := i + 1) (by omega) (by omega) q2.symm
        simp [upd, this, q2]
      · by_cases e2 : (h (P i) + j) % 1024 = u
        · simp [upd, e2]; exact nI_ne0 (by omega) (by omega)
        · simp [upd, e2]; exact q3 j hj
  · by_cases a : t = u <;> by_cases b : w = u
    · rw [a, b]
    · simp only [upd, a, b, if_true, if_false] at e1 e2
      rcases h3 w hw with q | ⟨i, hi, q⟩
      · rw [q] at e1; exact absurd e1 e2
      · rw [q] at e1; exact absurd e1.symm (hne i hi)
    · simp only [upd, a, b, if_true, if_false] at e1 e2
      rcases h3 t ht with q | ⟨i, hi, q⟩
      · exact absurd q e2
      · rw [q] at e1; exact absurd e1 (hne i hi)
    · simp only [upd, a, b, if_false] at e1 e2
      exact h5 t w ht hw e1 e2
  · by_cases a : i = n <;> by_cases b : j = n
    · rw [a, b]
    · simp only [upd, a, b, if_true, if_false] at e
      exact absurd e.symm (hp j (by omega))
    · simp only [upd, a, b, if_true, if_false] at e
      exact absurd e (hp i (by omega))
    · simp only [upd, a, b, if_false] at e
      exact h6 i j (by omega) (by omega) e
theorem hs_nil {h : Int32 → Nat} {S P : Nat → Int32} (hh : ∀ p, h p < 1024) (hS : ∀ t, t < 1024 → S t = 0) : hs_ok h S P 0 :=
  ⟨by omega, hh, fun t ht => Or.inl (hS t ht), fun i hi => by omega, fun t _ ht _ _ h => absurd (hS t ht) h, fun i j hi => by omega⟩
theorem hs_lt {S P : Nat → Int32} {p : Int32} : ∀ (m t : Nat), t < 1024 → hs_f S P p m t < 1024 := by
  intro m
  induction m with
  | zero => intro t ht; exact ht
  | succ m ih =>
    intro t ht
    rw [hs_f]
    split
    · exact ht
    · exact ih _ (Nat.mod_lt _ (by decide))
end HS
end
section
/-! PegBoards$Found, for its two objects; printed by wip/whole/found.py. -/
section FO
variable {l : Launch} {sc : Nat × (Nat → Int32)} {d : Nat} {M : mx_M}
def fo_x (p : Int32) : Int32 := (p ^^^ (p >>> ((10 : Int32) &&& 31))) &&& 1023
def fo_h (p : Int32) : Nat := (fo_x p).toNatClampNeg
theorem fo_hx (p : Int32) : fo_x p = nI (fo_h p) ∧ fo_h p < 1024 := by
  obtain ⟨j, hj, e⟩ := pk_andE (p ^^^ (p >>> ((10 : Int32) &&& 31))) (m := 1023) 10 (by decide)
  have e2 : fo_x p = nI j := e
  have e3 : fo_h p = j := by rw [fo_h, e2]; exact nI_clamp (by omega)
  rw [e3]
  exact ⟨e2, hj⟩
theorem fo_nx {t : Nat} (ht : t < 1024) : (nI t + 1) &&& 1023 = nI ((t + 1) % 1024) := by
  rw [nI_1, pk_andN (by omega) (m := 1023) 10 (by decide)]
def fo_ok (S : Nat → Int32) : Prop := ∀ t, t < 1024 → S t = 0 ∨ ∃ i, i < 500 ∧ S t = nI (i + 1)
theorem ct_Fo0_size (hl : l.stackTraces = false) : mx_Ct l (pg_L sc) mY_Fo_size d 0 [.ref 28] M (mx_rI (M 28 2) M) := by
  refine mx_bd (n0 := 1) hl (by decide +kernel) rfl rfl rfl ?_
  exact mx_ret_i mo_Fo_size rfl 2 rfl trivial rfl ⟨rfl, rfl⟩
theorem ct_Fo0_positionOf (hl : l.stackTraces = false) {i : Nat} (hi : i < 500) : mx_Ct l (pg_L sc) mY_Fo_positionOf d 0 [.ref 28, .int (nI i)] M (mx_rI (M 29 i) M) := by
  refine mx_bd (n0 := 2) hl (by decide +kernel) rfl rfl rfl ?_
  exact mx_ret_i mo_Fo_positionOf rfl 4 rfl ⟨vp_in_nI hi (by decide), trivial⟩ rfl ⟨by rw [nI_clamp (by omega)], rfl⟩
theorem ct_Fo0_forget (hl : l.stackTraces = false) : mx_Ct l (pg_L sc) mY_Fo_forget (d + 1) 0 [.ref 28] M (mx_rV (mx_up (pg_fill M 30 1024 0) 28 2 0)) := by
  refine mx_bd (n0 := 1) hl (by decide +kernel) rfl rfl rfl ?_
  refine mx_cSv mo_Fo_forget 3 (As := [.ref 30, .int 0]) rfl (ct_fill_30 hl 0) rfl trivial rfl ks_Fo_18 kd_Ar_fill rfl rfl rfl ?_
  exact mx_ret_v mo_Fo_forget rfl 3 (M' := mx_up (pg_fill M 30 1024 0) 28 2 0) rfl trivial rfl ⟨rfl, rfl⟩
theorem ct_Fo0_isFreeOrHas (hl : l.stackTraces = false) (hS : fo_ok (M 30)) (p : Int32) {t : Nat} (ht : t < 1024) : mx_Ct l (pg_L sc) mY_Fo_isFreeOrHas d 0 [.ref 28, .int (nI t), .int p] M (mx_rI (if M 30 t = 0 ∨ M 29 ((M 30 t).toNatClampNeg - 1) = p then 1 else 0) M) := by
  have e : (nI t).toNatClampNeg = t := nI_clamp (by omega)
  have hv : vp_in (nI t) 1024 := vp_in_nI ht (by decide)
  refine mx_bd (n0 := 3) hl (by decide +kernel) rfl rfl rfl ?_
  refine mx_if mo_Fo_isFreeOrHas 4 (t := 26) (f := 9) rfl ⟨hv, trivial⟩ (fun h => ?_) (fun h => ?_)
  · rw [e] at h
    exact mx_ret_z mo_Fo_isFreeOrHas rfl 2 rfl trivial rfl (Or.inr rfl) ⟨by rw [if_pos (Or.inl h)]; rfl, rfl⟩
  · rw [e] at h
    obtain ⟨i, hi, ei⟩ := (hS t ht).resolve_left h
    have e2 : M 30 (nI t).toNatClampNeg - 1 = nI i := by rw [e, ei]; exact nI_pred i
    have e3 : (nI i).toNatClampNeg = i := nI_clamp (by omega)
    have hw : vp_in (M 30 (nI t).toNatClampNeg - 1) 500 := by rw [e2]; exact vp_in_nI hi (by decide)
    refine mx_if mo_Fo_isFreeOrHas 10 (t := 30) (f := 26) rfl ⟨hv, hw, trivial⟩ (fun (h2 : ¬ M 29 (M 30 (nI t).toNatClampNeg - 1).toNatClampNeg = p) => ?_) (fun (h2 : M 29 (M 30 (nI t).toNatClampNeg - 1).toNatClampNeg = p) => ?_)
    · rw [e2, e3] at h2
      exact mx_ret_z mo_Fo_isFreeOrHas rfl 1 rfl trivial rfl (Or.inl rfl) ⟨by rw [if_neg (by rw [ei, nI_clamp (by omega)]; rintro (q | q); exact nI_ne0 (by omega) (by omega) q; exact h2 q)]; rfl, rfl⟩
    · rw [e2, e3] at h2
      exact mx_ret_z mo_Fo_isFreeOrHas rfl 2 rfl trivial rfl (Or.inr rfl) ⟨by rw [if_pos (Or.inr (by rw [ei, nI_clamp (by omega)]; exact h2))]; rfl, rfl⟩
theorem ct_Fo0_slotFor (hl : l.stackTraces = false) (hS : fo_ok (M 30)) (p : Int32) : mx_Ct l (pg_L sc) mY_Fo_slotFor (d + 1) 0 [.ref 28, .int p] M (mx_rI (nI (hs_f (M 30) (M 29) p 1024 (fo_h p))) M) := by
  have loop : ∀ (m t : Nat), m ≤ 1024 → t < 1024 → hs_f (M 30) (M 29) p m t = hs_f (M 30) (M 29) p 1024 (fo_h p) → mx_E l (pg_L sc) mY_Fo_slotFor (d + 1) 0 (mx_rI (nI (hs_f (M 30) (M 29) p 1024 (fo_h p))) M) 13 [.ref 28, .int p, .int (nI t), .int (nI (1024 - m))] [] M := by
    intro m
    induction m with
    | zero =>
      intro t hm ht he
      refine mx_if mo_Fo_slotFor 2 (t := 43) (f := 20) rfl trivial (fun (h : nI 1024 ≤ nI (1024 - 0)) => ?_) (fun (h : ¬ nI 1024 ≤ nI (1024 - 0)) => ?_)
      · exact mx_ret_i mo_Fo_slotFor rfl 1 (v := nI t) rfl trivial rfl ⟨by rw [← he]; rfl, rfl⟩
      · exact absurd (nI_le (by omega) (by decide)) h
    | succ m ih =>
      intro t hm ht he
      refine mx_if mo_Fo_slotFor 2 (t := 43) (f := 20) rfl trivial (fun (h : nI 1024 ≤ nI (1024 - (m + 1))) => ?_) (fun h => ?_)
      · exact absurd h (nI_ge (by omega) (by decide))
      refine mx_cVi mo_Fo_slotFor 3 (As := [.int (nI t), .int p]) rfl (ct_Fo0_isFreeOrHas hl hS p ht) rfl trivial rfl rfl rfl kv_Fo_32 kd_Fo_isFreeOrHas rfl rfl rfl ?_
      rw [hs_f] at he
      by_cases hs : M 30 t = 0 ∨ M 29 ((M 30 t).toNatClampNeg - 1) = p
      · rw [if_pos hs] at he ⊢
        refine mx_if mo_Fo_slotFor 0 (t := 43) (f := 29) rfl trivial (fun h2 => ?_) (fun h2 => ?_)
        · exact mx_ret_i mo_Fo_slotFor rfl 1 (v := nI t) rfl trivial rfl ⟨by rw [← he], rfl⟩
        · exact absurd h2 (by decide)
      · rw [if_neg hs] at he ⊢
        refine mx_if mo_Fo_slotFor 0 (t := 43) (f := 29) rfl trivial (fun h2 => ?_) (fun h2 => ?_)
        · exact absurd rfl h2
        · refine mx_go mo_Fo_slotFor 8 (pc' := 13) (ls' := [.ref 28, .int p, .int ((nI t + 1) &&& 1023), .int (nI (1024 - (m + 1)) + 1)]) (st' := []) (M' := M) rfl trivial ?_
          rw [fo_nx ht, nI_1, show 1024 - (m + 1) + 1 = 1024 - m by omega]
          exact ih _ (by omega) (Nat.mod_lt _ (by decide)) he
  refine mx_bd (n0 := 2) hl (by decide +kernel) rfl rfl rfl ?_
  refine mx_go mo_Fo_slotFor 10 (pc' := 13) (ls' := [.ref 28, .int p, .int (fo_x p), .int (nI 0)]) (st' := []) (M' := M) rfl trivial ?_
  rw [(fo_hx p).1]
  have := loop 1024 (fo_h p) (Nat.le_refl _) (fo_hx p).2 rfl
  rw [Nat.sub_self] at this
  exact this
theorem ct_Fo0_numberOf (hl : l.stackTraces = false) (hS : fo_ok (M 30)) (p : Int32) : mx_Ct l (pg_L sc) mY_Fo_numberOf (d + 2) 0 [.ref 28, .int p] M (mx_rI (M 30 (hs_f (M 30) (M 29) p 1024 (fo_h p)) - 1) M) := by
  have ht := hs_lt (S := M 30) (P := M 29) (p := p) 1024 (fo_h p) (fo_hx p).2
  refine mx_bd (n0 := 2) hl (by decide +kernel) rfl rfl rfl ?_
  refine mx_cVi mo_Fo_numberOf 4 (As := [.int p]) (rest := [.ref 30]) rfl (ct_Fo0_slotFor hl hS p) rfl trivial rfl rfl rfl kv_Fo_28 kd_Fo_slotFor rfl rfl rfl ?_
  exact mx_ret_i mo_Fo_numberOf rfl 3 (v := M 30 (nI (hs_f (M 30) (M 29) p 1024 (fo_h p))).toNatClampNeg - 1) rfl ⟨vp_in_nI ht (by decide), trivial⟩ rfl ⟨by rw [nI_clamp (by omega)], rfl⟩
/-- a new position in the object -/
def fo0_in (M : mx_M) (n t : Nat) (p : Int32) : mx_M := mx_up (mx_up (mx_up M 29 n p) 28 2 (nI (n + 1))) 30 t (nI (n + 1))
theorem ct_Fo0_nwOld (hl : l.stackTraces = false) (hS : fo_ok (M 30)) (L p : Int32) (h0 : ¬ M 30 (hs_f (M 30) (M 29) p 1024 (fo_h p)) = 0) : mx_Ct l (pg_L sc) mY_Fo_numberWithin (d + 2) 0 [.ref 28, .int L, .int p] M (mx_rI (M 30 (hs_f (M 30) (M 29) p 1024 (fo_h p)) - 1) M) := by
  have ht := hs_lt (S := M 30) (P := M 29) (p := p) 1024 (fo_h p) (fo_hx p).2
  have hv : vp_in (nI (hs_f (M 30) (M 29) p 1024 (fo_h p))) 1024 := vp_in_nI ht (by decide)
  have e : (nI (hs_f (M 30) (M 29) p 1024 (fo_h p))).toNatClampNeg = hs_f (M 30) (M 29) p 1024 (fo_h p) := nI_clamp (by omega)
  refine mx_bd (n0 := 3) hl (by decide +kernel) rfl rfl rfl ?_
  refine mx_cVi mo_Fo_numberWithin 2 (As := [.int p]) rfl (ct_Fo0_slotFor hl hS p) rfl trivial rfl rfl rfl kv_Fo_28 kd_Fo_slotFor rfl rfl rfl ?_
  refine mx_if mo_Fo_numberWithin 5 (t := 65) (f := 15) rfl ⟨hv, trivial⟩ (fun h => ?_) (fun h => ?_)
  · exact mx_ret_i mo_Fo_numberWithin rfl 6 (v := M 30 (nI (hs_f (M 30) (M 29) p 1024 (fo_h p))).toNatClampNeg - 1) rfl ⟨hv, trivial⟩ rfl ⟨by rw [e], rfl⟩
  · rw [e] at h; exact absurd h h0
theorem ct_Fo0_nwFull (hl : l.stackTraces = false) (hS : fo_ok (M 30)) (p : Int32) {n L : Nat} (hn : M 28 2 = nI n) (h5 : n ≤ 500) (hL : L ≤ n) (h0 : M 30 (hs_f (M 30) (M 29) p 1024 (fo_h p)) = 0) : mx_Ct l (pg_L sc) mY_Fo_numberWithin (d + 2) 0 [.ref 28, .int (nI L), .int p] M (mx_rI (-1) M) := by
  have ht := hs_lt (S := M 30) (P := M 29) (p := p) 1024 (fo_h p) (fo_hx p).2
  have hv : vp_in (nI (hs_f (M 30) (M 29) p 1024 (fo_h p))) 1024 := vp_in_nI ht (by decide)
  have e : (nI (hs_f (M 30) (M 29) p 1024 (fo_h p))).toNatClampNeg = hs_f (M 30) (M 29) p 1024 (fo_h p) := nI_clamp (by omega)
  refine mx_bd (n0 := 3) hl (by decide +kernel) rfl rfl rfl ?_
  refine mx_cVi mo_Fo_numberWithin 2 (As := [.int p]) rfl (ct_Fo0_slotFor hl hS p) rfl trivial rfl rfl rfl kv_Fo_28 kd_Fo_slotFor rfl rfl rfl ?_
  refine mx_if mo_Fo_numberWithin 5 (t := 65) (f := 15) rfl ⟨hv, trivial⟩ (fun h => ?_) (fun h => ?_)
  · rw [e] at h; exact absurd h0 h
  refine mx_if mo_Fo_numberWithin 3 (t := 33) (f := 23) rfl trivial (fun (h : nI L ≤ M 28 2) => ?_) (fun (h : ¬ nI L ≤ M 28 2) => ?_)
  · exact mx_ret_i mo_Fo_numberWithin rfl 1 rfl trivial rfl ⟨rfl, rfl⟩
  · rw [hn] at h; exact absurd (nI_le hL (by omega)) h
theorem ct_Fo0_nwNew (hl : l.stackTraces = false) (hS : fo_ok (M 30)) (p : Int32) {n L : Nat} (hn : M 28 2 = nI n) (h5 : n < 500) (hL : n < L) (hL2 : L ≤ 500) (h0 : M 30 (hs_f (M 30) (M 29) p 1024 (fo_h p)) = 0) : mx_Ct l (pg_L sc) mY_Fo_numberWithin (d + 2) 0 [.ref 28, .int (nI L), .int p] M (mx_rI (nI n) (fo0_in M n (hs_f (M 30) (M 29) p 1024 (fo_h p)) p)) := by
  have ht := hs_lt (S := M 30) (P := M 29) (p := p) 1024 (fo_h p) (fo_hx p).2
  have hv : vp_in (nI (hs_f (M 30) (M 29) p 1024 (fo_h p))) 1024 := vp_in_nI ht (by decide)
  have e : (nI (hs_f (M 30) (M 29) p 1024 (fo_h p))).toNatClampNeg = hs_f (M 30) (M 29) p 1024 (fo_h p) := nI_clamp (by omega)
  have e2 : (nI n).toNatClampNeg = n := nI_clamp (by omega)
  refine mx_bd (n0 := 3) hl (by decide +kernel) rfl rfl rfl ?_
  refine mx_cVi mo_Fo_numberWithin 2 (As := [.int p]) rfl (ct_Fo0_slotFor hl hS p) rfl trivial rfl rfl rfl kv_Fo_28 kd_Fo_slotFor rfl rfl rfl ?_
  generalize hs_f (M 30) (M 29) p 1024 (fo_h p) = t at *
  refine mx_if mo_Fo_numberWithin 5 (t := 65) (f := 15) rfl ⟨hv, trivial⟩ (fun h => ?_) (fun h => ?_)
  · rw [e] at h; exact absurd h0 h
  refine mx_if mo_Fo_numberWithin 3 (t := 33) (f := 23) rfl trivial (fun (h : nI L ≤ M 28 2) => ?_) (fun (h : ¬ nI L ≤ M 28 2) => ?_)
  · rw [hn] at h; exact absurd h (nI_ge hL (by omega))
  refine mx_if mo_Fo_numberWithin 3 (t := 35) (f := 33) rfl trivial (fun (h : M 28 2 < nI 500) => ?_) (fun (h : ¬ M 28 2 < nI 500) => ?_)
  · refine mx_go mo_Fo_numberWithin 18 (pc' := 65) (ls' := [.ref 28, .int (nI L), .int p, .int (nI t)]) (st' := []) (M' := mx_up (mx_up (mx_up M 29 (M 28 2).toNatClampNeg p) 28 2 (M 28 2 + 1)) 30 (nI t).toNatClampNeg (M 28 2 + 1)) rfl ⟨by rw [hn]; exact vp_in_nI h5 (by decide), hv, trivial⟩ ?_
    rw [hn, e, e2, nI_1]
    refine mx_ret_i mo_Fo_numberWithin rfl 6 (v := fo0_in M n t p 30 (nI t).toNatClampNeg - 1) rfl ⟨hv, trivial⟩ rfl ⟨?_, rfl⟩
    rw [e]
    have : fo0_in M n t p 30 t = nI (n + 1) := by simp [fo0_in, mx_up]
    rw [this, nI_pred]
  · rw [hn] at h; exact absurd (nI_lt h5 (by decide)) h
theorem ct_Fo1_size (hl : l.stackTraces = false) : mx_Ct l (pg_L sc) mY_Fo_size d 0 [.ref 31] M (mx_rI (M 31 2) M) := by
  refine mx_bd (n0 := 1) hl (by decide +kernel) rfl rfl rfl ?_
  exact mx_ret_i mo_Fo_size rfl 2 rfl trivial rfl ⟨rfl, rfl⟩
theorem ct_Fo1_positionOf (hl : l.stackTraces = false) {i : Nat} (hi : i < 500) : mx_Ct l (pg_L sc) mY_Fo_positionOf d 0 [.ref 31, .int (nI i)] M (mx_rI (M 32 i) M) := by
  refine mx_bd (n0 := 2) hl (by decide +kernel) rfl rfl rfl ?_
  exact mx_ret_i mo_Fo_positionOf rfl 4 rfl ⟨vp_in_nI hi (by decide), trivial⟩ rfl ⟨by rw [nI_clamp (by omega)], rfl⟩
theorem ct_Fo1_forget (hl : l.stackTraces = false) : mx_Ct l (pg_L sc) mY_Fo_forget (d + 1) 0 [.ref 31] M (mx_rV (mx_up (pg_fill M 33 1024 0) 31 2 0)) := by
  refine mx_bd (n0 := 1) hl (by decide +kernel) rfl rfl rfl ?_
  refine mx_cSv mo_Fo_forget 3 (As := [.ref 33, .int 0]) rfl (ct_fill_33 hl 0) rfl trivial rfl ks_Fo_18 kd_Ar_fill rfl rfl rfl ?_
  exact mx_ret_v mo_Fo_forget rfl 3 (M' := mx_up (pg_fill M 33 1024 0) 31 2 0) rfl trivial rfl ⟨rfl, rfl⟩
theorem ct_Fo1_isFreeOrHas (hl : l.stackTraces = false) (hS : fo_ok (M 33)) (p : Int32) {t : Nat} (ht : t < 1024) : mx_Ct l (pg_L sc) mY_Fo_isFreeOrHas d 0 [.ref 31, .int (nI t), .int p] M (mx_rI (if M 33 t = 0 ∨ M 32 ((M 33 t).toNatClampNeg - 1) = p then 1 else 0) M) := by
  have e : (nI t).toNatClampNeg = t := nI_clamp (by omega)
  have hv : vp_in (nI t) 1024 := vp_in_nI ht (by decide)
  refine mx_bd (n0 := 3) hl (by decide +kernel) rfl rfl rfl ?_
  refine mx_if mo_Fo_isFreeOrHas 4 (t := 26) (f := 9) rfl ⟨hv, trivial⟩ (fun h => ?_) (fun h => ?_)
  · rw [e] at h
    exact mx_ret_z mo_Fo_isFreeOrHas rfl 2 rfl trivial rfl (Or.inr rfl) ⟨by rw [if_pos (Or.inl h)]; rfl, rfl⟩
  · rw [e] at h
    obtain ⟨i, hi, ei⟩ := (hS t ht).resolve_left h
    have e2 : M 33 (nI t).toNatClampNeg - 1 = nI i := by rw [e, ei]; exact nI_pred i
    have e3 : (nI i).toNatClampNeg = i := nI_clamp (by omega)
    have hw : vp_in (M 33 (nI t).toNatClampNeg - 1) 500 := by rw [e2]; exact vp_in_nI hi (by decide)
    refine mx_if mo_Fo_isFreeOrHas 10 (t := 30) (f := 26) rfl ⟨hv, hw, trivial⟩ (fun (h2 : ¬ M 32 (M 33 (nI t).toNatClampNeg - 1).toNatClampNeg = p) => ?_) (fun (h2 : M 32 (M 33 (nI t).toNatClampNeg - 1).toNatClampNeg = p) => ?_)
    · rw [e2, e3] at h2
      exact mx_ret_z mo_Fo_isFreeOrHas rfl 1 rfl trivial rfl (Or.inl rfl) ⟨by rw [if_neg (by rw [ei, nI_clamp (by omega)]; rintro (q | q); exact nI_ne0 (by omega) (by omega) q; exact h2 q)]; rfl, rfl⟩
    · rw [e2, e3] at h2
      exact mx_ret_z mo_Fo_isFreeOrHas rfl 2 rfl trivial rfl (Or.inr rfl) ⟨by rw [if_pos (Or.inr (by rw [ei, nI_clamp (by omega)]; exact h2))]; rfl, rfl⟩
theorem ct_Fo1_slotFor (hl : l.stackTraces = false) (hS : fo_ok (M 33)) (p : Int32) : mx_Ct l (pg_L sc) mY_Fo_slotFor (d + 1) 0 [.ref 31, .int p] M (mx_rI (nI (hs_f (M 33) (M 32) p 1024 (fo_h p))) M) := by
  have loop : ∀ (m t : Nat), m ≤ 1024 → t < 1024 → hs_f (M 33) (M 32) p m t = hs_f (M 33) (M 32) p 1024 (fo_h p) → mx_E l (pg_L sc) mY_Fo_slotFor (d + 1) 0 (mx_rI (nI (hs_f (M 33) (M 32) p 1024 (fo_h p))) M) 13 [.ref 31, .int p, .int (nI t), .int (nI (1024 - m))] [] M := by
    intro m
    induction m with
    | zero =>
      intro t hm ht he
      refine mx_if mo_Fo_slotFor 2 (t := 43) (f := 20) rfl trivial (fun (h : nI 1024 ≤ nI (1024 - 0)) => ?_) (fun (h : ¬ nI 1024 ≤ nI (1024 - 0)) => ?_)
      · exact mx_ret_i mo_Fo_slotFor rfl 1 (v := nI t) rfl trivial rfl ⟨by rw [← he]; rfl, rfl⟩
      · exact absurd (nI_le (by omega) (by decide)) h
    | succ m ih =>
      intro t hm ht he
      refine mx_if mo_Fo_slotFor 2 (t := 43) (f := 20) rfl trivial (fun (h : nI 1024 ≤ nI (1024 - (m + 1))) => ?_) (fun h => ?_)
      · exact absurd h (nI_ge (by omega) (by decide))
      refine mx_cVi mo_Fo_slotFor 3 (As := [.int (nI t), .int p]) rfl (ct_Fo1_isFreeOrHas hl hS p ht) rfl trivial rfl rfl rfl kv_Fo_32 kd_Fo_isFreeOrHas rfl rfl rfl ?_
      rw [hs_f] at he
      by_cases hs : M 33 t = 0 ∨ M 32 ((M 33 t).toNatClampNeg - 1) = p
      · rw [if_pos hs] at he ⊢
        refine mx_if mo_Fo_slotFor 0 (t := 43) (f := 29) rfl trivial (fun h2 => ?_) (fun h2 => ?_)
        · exact mx_ret_i mo_Fo_slotFor rfl 1 (v := nI t) rfl trivial rfl ⟨by rw [← he], rfl⟩
        · exact absurd h2 (by decide)
      · rw [if_neg hs] at he ⊢
        refine mx_if mo_Fo_slotFor 0 (t := 43) (f := 29) rfl trivial (fun h2 => ?_) (fun h2 => ?_)
        · exact absurd rfl h2
        · refine mx_go mo_Fo_slotFor 8 (pc' := 13) (ls' := [.ref 31, .int p, .int ((nI t + 1) &&& 1023), .int (nI (1024 - (m + 1)) + 1)]) (st' := []) (M' := M) rfl trivial ?_
          rw [fo_nx ht, nI_1, show 1024 - (m + 1) + 1 = 1024 - m by omega]
          exact ih _ (by omega) (Nat.mod_lt _ (by decide)) he
  refine mx_bd (n0 := 2) hl (by decide +kernel) rfl rfl rfl ?_
  refine mx_go mo_Fo_slotFor 10 (pc' := 13) (ls' := [.ref 31, .int p, .int (fo_x p), .int (nI 0)]) (st' := []) (M' := M) rfl trivial ?_
  rw [(fo_hx p).1]
  have := loop 1024 (fo_h p) (Nat.le_refl _) (fo_hx p).2 rfl
  rw [Nat.sub_self] at this
  exact this
theorem ct_Fo1_numberOf (hl : l.stackTraces = false) (hS : fo_ok (M 33)) (p : Int32) : mx_Ct l (pg_L sc) mY_Fo_numberOf (d + 2) 0 [.ref 31, .int p] M (mx_rI (M 33 (hs_f (M 33) (M 32) p 1024 (fo_h p)) - 1) M) := by
  have ht := hs_lt (S := M 33) (P := M 32) (p := p) 1024 (fo_h p) (fo_hx p).2
  refine mx_bd (n0 := 2) hl (by decide +kernel) rfl rfl rfl ?_
  refine mx_cVi mo_Fo_numberOf 4 (As := [.int p]) (rest := [.ref 33]) rfl (ct_Fo1_slotFor hl hS p) rfl trivial rfl rfl rfl kv_Fo_28 kd_Fo_slotFor rfl rfl rfl ?_
  exact mx_ret_i mo_Fo_numberOf rfl 3 (v := M 33 (nI (hs_f (M 33) (M 32) p 1024 (fo_h p))).toNatClampNeg - 1) rfl ⟨vp_in_nI ht (by decide), trivial⟩ rfl ⟨by rw [nI_clamp (by omega)], rfl⟩
/-- a new position in the object -/
def fo1_in (M : mx_M) (n t : Nat) (p : Int32) : mx_M := mx_up (mx_up (mx_up M 32 n p) 31 2 (nI (n + 1))) 33 t (nI (n + 1))
theorem ct_Fo1_nwOld (hl : l.stackTraces = false) (hS : fo_ok (M 33)) (L p : Int32) (h0 : ¬ M 33 (hs_f (M 33) (M 32) p 1024 (fo_h p)) = 0) : mx_Ct l (pg_L sc) mY_Fo_numberWithin (d + 2) 0 [.ref 31, .int L, .int p] M (mx_rI (M 33 (hs_f (M 33) (M 32) p 1024 (fo_h p)) - 1) M) := by
  have ht := hs_lt (S := M 33) (P := M 32) (p := p) 1024 (fo_h p) (fo_hx p).2
  have hv : vp_in (nI (hs_f (M 33) (M 32) p 1024 (fo_h p))) 1024 := vp_in_nI ht (by decide)
  have e : (nI (hs_f (M 33) (M 32) p 1024 (fo_h p))).toNatClampNeg = hs_f (M 33) (M 32) p 1024 (fo_h p) := nI_clamp (by omega)
  refine mx_bd (n0 := 3) hl (by decide +kernel) rfl rfl rfl ?_
  refine mx_cVi mo_Fo_numberWithin 2 (As := [.int p]) rfl (ct_Fo1_slotFor hl hS p) rfl trivial rfl rfl rfl kv_Fo_28 kd_Fo_slotFor rfl rfl rfl ?_
  refine mx_if mo_Fo_numberWithin 5 (t := 65) (f := 15) rfl ⟨hv, trivial⟩ (fun h => ?_) (fun h => ?_)
  · exact mx_ret_i mo_Fo_numberWithin rfl 6 (v := M 33 (nI (hs_f (M 33) (M 32) p 1024 (fo_h p))).toNatClampNeg - 1) rfl ⟨hv, trivial⟩ rfl ⟨by rw [e], rfl⟩
  · rw [e] at h; exact absurd h h0
theorem ct_Fo1_nwFull (hl : l.stackTraces = false) (hS : fo_ok (M 33)) (p : Int32) {n L : Nat} (hn : M 31 2 = nI n) (h5 : n ≤ 500) (hL : L ≤ n) (h0 : M 33 (hs_f (M 33) (M 32) p 1024 (fo_h p)) = 0) : mx_Ct l (pg_L sc) mY_Fo_numberWithin (d + 2) 0 [.ref 31, .int (nI L), .int p] M (mx_rI (-1) M) := by
  have ht := hs_lt (S := M 33) (P := M 32) (p := p) 1024 (fo_h p) (fo_hx p).2
  have hv : vp_in (nI (hs_f (M 33) (M 32) p 1024 (fo_h p))) 1024 := vp_in_nI ht (by decide)
  have e : (nI (hs_f (M 33) (M 32) p 1024 (fo_h p))).toNatClampNeg = hs_f (M 33) (M 32) p 1024 (fo_h p) := nI_clamp (by omega)
  refine mx_bd (n0 := 3) hl (by decide +kernel) rfl rfl rfl ?_
  refine mx_cVi mo_Fo_numberWithin 2 (As := [.int p]) rfl (ct_Fo1_slotFor hl hS p) rfl trivial rfl rfl rfl kv_Fo_28 kd_Fo_slotFor rfl rfl rfl ?_
  refine mx_if mo_Fo_numberWithin 5 (t := 65) (f := 15) rfl ⟨hv, trivial⟩ (fun h => ?_) (fun h => ?_)
  · rw [e] at h; exact absurd h0 h
  refine mx_if mo_Fo_numberWithin 3 (t := 33) (f := 23) rfl trivial (fun (h : nI L ≤ M 31 2) => ?_) (fun (h : ¬ nI L ≤ M 31 2) => ?_)
  · exact mx_ret_i mo_Fo_numberWithin rfl 1 rfl trivial rfl ⟨rfl, rfl⟩
  · rw [hn] at h; exact absurd (nI_le hL (by omega)) h
theorem ct_Fo1_nwNew (hl : l.stackTraces = false) (hS : fo_ok (M 33)) (p : Int32) {n L : Nat} (hn : M 31 2 = nI n) (h5 : n < 500) (hL : n < L) (hL2 : L ≤ 500) (h0 : M 33 (hs_f (M 33) (M 32) p 1024 (fo_h p)) = 0) : mx_Ct l (pg_L sc) mY_Fo_numberWithin (d + 2) 0 [.ref 31, .int (nI L), .int p] M (mx_rI (nI n) (fo1_in M n (hs_f (M 33) (M 32) p 1024 (fo_h p)) p)) := by
  have ht := hs_lt (S := M 33) (P := M 32) (p := p) 1024 (fo_h p) (fo_hx p).2
  have hv : vp_in (nI (hs_f (M 33) (M 32) p 1024 (fo_h p))) 1024 := vp_in_nI ht (by decide)
  have e : (nI (hs_f (M 33) (M 32) p 1024 (fo_h p))).toNatClampNeg = hs_f (M 33) (M 32) p 1024 (fo_h p) := nI_clamp (by omega)
  have e2 : (nI n).toNatClampNeg = n := nI_clamp (by omega)
  refine mx_bd (n0 := 3) hl (by decide +kernel) rfl rfl rfl ?_
  refine mx_cVi mo_Fo_numberWithin 2 (As := [.int p]) rfl (ct_Fo1_slotFor hl hS p) rfl trivial rfl rfl rfl kv_Fo_28 kd_Fo_slotFor rfl rfl rfl ?_
  generalize hs_f (M 33) (M 32) p 1024 (fo_h p) = t at *
  refine mx_if mo_Fo_numberWithin 5 (t := 65) (f := 15) rfl ⟨hv, trivial⟩ (fun h => ?_) (fun h => ?_)
  · rw [e] at h; exact absurd h0 h
  refine mx_if mo_Fo_numberWithin 3 (t := 33) (f := 23) rfl trivial (fun (h : nI L ≤ M 31 2) => ?_) (fun (h : ¬ nI L ≤ M 31 2) => ?_)
  · rw [hn] at h; exact absurd h (nI_ge hL (by omega))
  refine mx_if mo_Fo_numberWithin 3 (t := 35) (f := 33) rfl trivial (fun (h : M 31 2 < nI 500) => ?_) (fun (h : ¬ M 31 2 < nI 500) => ?_)
  · refine mx_go mo_Fo_numberWithin 18 (pc' := 65) (ls' := [.ref 31, .int (nI L), .int p, .int (nI t)]) (st' := []) (M' := mx_up (mx_up (mx_up M 32 (M 31 2).toNatClampNeg p) 31 2 (M 31 2 + 1)) 33 (nI t).toNatClampNeg (M 31 2 + 1)) rfl ⟨by rw [hn]; exact vp_in_nI h5 (by decide), hv, trivial⟩ ?_
    rw [hn, e, e2, nI_1]
    refine mx_ret_i mo_Fo_numberWithin rfl 6 (v := fo1_in M n t p 33 (nI t).toNatClampNeg - 1) rfl ⟨hv, trivial⟩ rfl ⟨?_, rfl⟩
    rw [e]
    have : fo1_in M n t p 33 t = nI (n + 1) := by simp [fo1_in, mx_up]
    rw [this, nI_pred]
  · rw [hn] at h; exact absurd (nI_lt h5 (by decide)) h
end FO
end
section
/-! PegBoards$Jumps: the list of jumps. -/
section JU
variable {l : Launch} {sc : Nat × (Nat → Int32)} {d : Nat} {M : mx_M}
def ju_pg (x y : Int32) : Int32 := (1 <<< (x &&& 31)) ||| (1 <<< (y &&& 31))
/-- a jump more -/
def ju_in (M : mx_M) (n : Nat) (x y z : Int32) : mx_M :=
  mx_up (mx_up (mx_up (mx_up (mx_up (mx_up M 6 n x) 7 n y) 8 n z) 9 n (ju_pg x y)) 10 n (ju_pg x y ||| (1 <<< (z &&& 31)))) 5 5 (M 5 5 + 1)
def ju_one (M : mx_M) (h : Nat) (a b : Int32) : mx_M :=
  if pg_at M (M 3 h + a) (M 4 h + b) = -1 then M else if pg_at M (M 3 h + 2 * a) (M 4 h + 2 * b) = -1 then M else if 120 ≤ M 5 5 then M else
    ju_in M (M 5 5).toNatClampNeg (nI h) (pg_at M (M 3 h + a) (M 4 h + b)) (pg_at M (M 3 h + 2 * a) (M 4 h + 2 * b))
theorem ct_Ju_listOne (hl : l.stackTraces = false) {h n : Nat} (hh : h < 20) (hn : n ≤ 120) (hs : M 5 5 = nI n) (a b : Int32) : mx_Ct l (pg_L sc) mY_Ju_listOne (d + 2) 0 [.ref 5, .ref 1, .int (nI h), .int a, .int b] M (mx_rV (ju_one M h a b)) := by
  refine mx_bd (n0 := 5) hl (by decide +kernel) rfl rfl rfl ?_
  refine mx_cVi mo_Ju_listOne 2 (As := [.int (nI h)]) rfl (ct_Bo_rowOf hl hh) rfl trivial rfl rfl rfl kv_Ju_57 kd_Bo_rowOf rfl rfl rfl ?_
  refine mx_cVi mo_Ju_listOne 3 (As := [.int (nI h)]) rfl (ct_Bo_columnOf hl hh) rfl trivial rfl rfl rfl kv_Ju_61 kd_Bo_columnOf rfl rfl rfl ?_
  refine mx_cVi mo_Ju_listOne 8 (As := [.int (M 3 h + a), .int (M 4 h + b)]) rfl (ct_Bo_numberAt hl _ _) rfl trivial rfl rfl rfl kv_Ju_64 kd_Bo_numberAt rfl rfl rfl ?_
  refine mx_cVi mo_Ju_listOne 12 (As := [.int (M 3 h + 2 * a), .int (M 4 h + 2 * b)]) rfl (ct_Bo_numberAt hl _ _) rfl trivial rfl rfl rfl kv_Ju_64 kd_Bo_numberAt rfl rfl rfl ?_
  unfold ju_one
  generalize pg_at M (M 3 h + a) (M 4 h + b) = y
  generalize pg_at M (M 3 h + 2 * a) (M 4 h + 2 * b) = z
  refine mx_go mo_Ju_listOne 1 (pc' := 48) (ls' := [.ref 5, .ref 1, .int (nI h), .int a, .int b, .int (M 3 h), .int (M 4 h), .int y, .int z]) (st' := []) (M' := M) rfl trivial ?_
  refine mx_if mo_Ju_listOne 2 (t := 151) (f := 54) rfl trivial (fun (h1 : y = -1) => ?_) (fun (h1 : ¬ y = -1) => ?_)
  · rw [if_pos h1]; exact mx_ret_v mo_Ju_listOne rfl 0 rfl trivial rfl ⟨rfl, rfl⟩
  rw [if_neg h1]
  refine mx_if mo_Ju_listOne 2 (t := 151) (f := 60) rfl trivial (fun (h2 : z = -1) => ?_) (fun (h2 : ¬ z = -1) => ?_)
  · rw [if_pos h2]; exact mx_ret_v mo_Ju_listOne rfl 0 rfl trivial rfl ⟨rfl, rfl⟩
  rw [if_neg h2]
  refine mx_if mo_Ju_listOne 3 (t := 151) (f := 69) rfl trivial (fun (h3 : 120 ≤ M 5 5) => ?_) (fun (h3 : ¬ 120 ≤ M 5 5) => ?_)
  · rw [if_pos h3]; exact mx_ret_v mo_Ju_listOne rfl 0 rfl trivial rfl ⟨rfl, rfl⟩
  rw [if_neg h3]
  have hv : vp_in (M 5 5) 120 := by
    rw [hs] at h3 ⊢
    rw [show (120 : Int32) = nI 120 from rfl, nI_leI (by decide) (by omega)] at h3
    exact vp_in_nI (by omega) (by decide)
  generalize hN : (M 5 5).toNatClampNeg = N
  refine mx_go mo_Ju_listOne 30 (pc' := 118) (ls' := [.ref 5, .ref 1, .int (nI h), .int a, .int b, .int (M 3 h), .int (M 4 h), .int y, .int z]) (st' := []) (M' := mx_up (mx_up (mx_up (mx_up M 6 (M 5 5).toNatClampNeg (nI h)) 7 (M 5 5).toNatClampNeg y) 8 (M 5 5).toNatClampNeg z) 9 (M 5 5).toNatClampNeg (ju_pg (nI h) y)) rfl ⟨hv, hv, hv, hv, trivial⟩ ?_
  refine mx_ret_v mo_Ju_listOne rfl 20 (M' := mx_up (mx_up (mx_up (mx_up (mx_up (mx_up M 6 (M 5 5).toNatClampNeg (nI h)) 7 (M 5 5).toNatClampNeg y) 8 (M 5 5).toNatClampNeg z) 9 (M 5 5).toNatClampNeg (ju_pg (nI h) y)) 10 (M 5 5).toNatClampNeg (mx_up (mx_up (mx_up (mx_up M 6 (M 5 5).toNatClampNeg (nI h)) 7 (M 5 5).toNatClampNeg y) 8 (M 5 5).toNatClampNeg z) 9 (M 5 5).toNatClampNeg (ju_pg (nI h) y) 9 (M 5 5).toNatClampNeg ||| (1 <<< (z &&& 31)))) 5 5 (M 5 5 + 1)) rfl ⟨hv, hv, trivial⟩ rfl ⟨rfl, ?_⟩
  rw [hN]
  have e : mx_up (mx_up (mx_up (mx_up M 6 N (nI h)) 7 N y) 8 N z) 9 N (ju_pg (nI h) y) 9 N = ju_pg (nI h) y := by simp [mx_up]
  rw [e]
  rfl
theorem ju_one_off {h c : Nat} {a b : Int32} (hc : c < 5 ∨ 10 < c) : ju_one M h a b c = M c := by
  unfold ju_one
  split
  · rfl
  split
  · rfl
  split
  · rfl
  · unfold ju_in
    rw [mx_up_off (by omega), mx_up_off (by omega), mx_up_off (by omega), mx_up_off (by omega), mx_up_off (by omega), mx_up_off (by omega)]
theorem ju_one_n {h n : Nat} {a b : Int32} (hn : n ≤ 120) (hs : M 5 5 = nI n) : ∃ n', n ≤ n' ∧ n' ≤ 120 ∧ ju_one M h a b 5 5 = nI n' := by
  unfold ju_one
  split
  · exact ⟨n, Nat.le_refl _, hn, hs⟩
  split
  · exact ⟨n, Nat.le_refl _, hn, hs⟩
  split
  · exact ⟨n, Nat.le_refl _, hn, hs⟩
  next h3 =>
    rw [hs, show (120 : Int32) = nI 120 from rfl, nI_leI (by decide) (by omega)] at h3
    refine ⟨n + 1, by omega, by omega, ?_⟩
    simp only [ju_in, mx_up, if_true]
    rw [hs, nI_1]
def ju_dir (ra ca : Nat → Int32) (M : mx_M) (h : Nat) : Nat → mx_M
  | 0 => M
  | j + 1 => ju_one (ju_dir ra ca M h j) h (ra j) (ca j)
def ju_all (ra ca : Nat → Int32) (nd : Nat) (M : mx_M) : Nat → mx_M
  | 0 => M
  | h + 1 => ju_dir ra ca (ju_all ra ca nd M h) h nd
theorem ju_dir_off {ra ca : Nat → Int32} {h c : Nat} (hc : c < 5 ∨ 10 < c) : ∀ j, ju_dir ra ca M h j c = M c := by
  intro j
  induction j with
  | zero => rfl
  | succ j ih => rw [ju_dir, ju_one_off hc, ih]
theorem ju_all_off {ra ca : Nat → Int32} {nd c : Nat} (hc : c < 5 ∨ 10 < c) : ∀ h, ju_all ra ca nd M h c = M c := by
  intro h
  induction h with
  | zero => rfl
  | succ h ih => rw [ju_all, ju_dir_off hc, ih]
theorem ju_dir_n {ra ca : Nat → Int32} {h n : Nat} (hn : n ≤ 120) (hs : M 5 5 = nI n) : ∀ j, ∃ n', n' ≤ 120 ∧ ju_dir ra ca M h j 5 5 = nI n' := by
  intro j
  induction j with
  | zero => exact ⟨n, hn, hs⟩
  | succ j ih =>
    obtain ⟨n', h1, h2⟩ := ih
    obtain ⟨n2, -, h4, h5⟩ := ju_one_n (h := h) (a := ra j) (b := ca j) h1 h2
    exact ⟨n2, h4, h5⟩
theorem ju_all_n {ra ca : Nat → Int32} {nd n : Nat} (hn : n ≤ 120) (hs : M 5 5 = nI n) : ∀ h, ∃ n', n' ≤ 120 ∧ ju_all ra ca nd M h 5 5 = nI n' := by
  intro h
  induction h with
  | zero => exact ⟨n, hn, hs⟩
  | succ h ih =>
    obtain ⟨n', h1, h2⟩ := ih
    exact ju_dir_n h1 h2 nd
theorem ct_Ju_listL (hl : l.stackTraces = false) {k1 k2 nd N n : Nat} {ra ca : Nat → Int32} (hnd : nd ≤ 6) (hN : N ≤ 20) (hf : ¬ M 1 4 = 0) (hh : M 1 5 = nI N) (hn : n ≤ 120) (hs : M 5 5 = nI n)
    (hA : ∀ (x y : Int32) (M0 : mx_M), mx_rb mf_Ju (pg_L sc) mt_Ju_list 3 49 [.ref 5, .ref 1, .ref k1, .ref k2, .int x, .int y] [] M0 = some (True, nI nd ≤ y, ¬ nI nd ≤ y, 77, 56, [.ref 5, .ref 1, .ref k1, .ref k2, .int x, .int y], [], M0))
    (hB : ∀ (x y : Int32) (M0 : mx_M), mx_run mf_Ju (pg_L sc) mt_Ju_list 9 56 [.ref 5, .ref 1, .ref k1, .ref k2, .int x, .int y] [] M0 = some (vp_in y nd ∧ vp_in y nd ∧ True, 68, [.ref 5, .ref 1, .ref k1, .ref k2, .int x, .int y], [.int (ca y.toNatClampNeg), .int (ra y.toNatClampNeg), .int x, .ref 1, .ref 5], M0)) :
    ∀ v : Value, mx_E l (pg_L sc) mY_Ju_list (d + 3) 0 (mx_rV (ju_all ra ca nd M N)) 37 [.ref 5, .ref 1, .ref k1, .ref k2, .int (nI 0), v] [] M := by
  have outer : ∀ (m h : Nat), N - h = m → h ≤ N → ∀ v : Value, mx_E l (pg_L sc) mY_Ju_list (d + 3) 0 (mx_rV (ju_all ra ca nd M N)) 37 [.ref 5, .ref 1, .ref k1, .ref k2, .int (nI h), v] [] (ju_all ra ca nd M h) := by
    intro m
    induction m with
    | zero =>
      intro h hm hle v
      have e : h = N := by omega
      subst e
      refine mx_cVi mo_Ju_list 2 (rest := [.int (nI h)]) rfl (ct_Bo_holes hl) rfl trivial rfl rfl rfl kv_Ju_49 kd_Bo_holes rfl rfl rfl ?_
      rw [ju_all_off (by decide), if_neg hf, hh]
      refine mx_if mo_Ju_list 0 (t := 83) (f := 46) rfl trivial (fun h1 => ?_) (fun h1 => ?_)
      · exact mx_ret_v mo_Ju_list rfl 0 rfl trivial rfl ⟨rfl, rfl⟩
      · exact absurd (nI_le (Nat.le_refl h) (by omega)) h1
    | succ m ih =>
      intro h hm hle v
      refine mx_cVi mo_Ju_list 2 (rest := [.int (nI h)]) rfl (ct_Bo_holes hl) rfl trivial rfl rfl rfl kv_Ju_49 kd_Bo_holes rfl rfl rfl ?_
      rw [ju_all_off (by decide), if_neg hf, hh]
      refine mx_if mo_Ju_list 0 (t := 83) (f := 46) rfl trivial (fun h1 => ?_) (fun h1 => ?_)
      · exact absurd h1 (nI_ge (by omega) (by omega))
      have inner : ∀ (m2 j : Nat), nd - j = m2 → j ≤ nd → mx_E l (pg_L sc) mY_Ju_list (d + 3) 0 (mx_rV (ju_all ra ca nd M N)) 49 [.ref 5, .ref 1, .ref k1, .ref k2, .int (nI h), .int (nI j)] [] (ju_dir ra ca (ju_all ra ca nd M h) h j) := by
        intro m2
        induction m2 with
        | zero =>
          intro j hm2 hj
          have e : j = nd := by omega
          subst e
          refine mx_if mo_Ju_list 3 (hA (nI h) (nI j) _) trivial (fun h2 => ?_) (fun h2 => ?_)
          · refine mx_go mo_Ju_list 2 (pc' := 37) (ls' := [.ref 5, .ref 1, .ref k1, .ref k2, .int (nI h + 1), .int (nI j)]) (st' := []) rfl trivial ?_
            rw [nI_1]
            exact ih (h + 1) (by omega) (by omega) _
          · exact absurd (nI_le (Nat.le_refl j) (by omega)) h2
        | succ m2 ih2 =>
          intro j hm2 hj
          have e : (nI j).toNatClampNeg = j := nI_clamp (by omega)
          have hv : vp_in (nI j) nd := vp_in_nI (by omega) (by omega)
          refine mx_if mo_Ju_list 3 (hA (nI h) (nI j) _) trivial (fun h2 => ?_) (fun h2 => ?_)
          · exact absurd h2 (nI_ge (by omega) (by omega))
          obtain ⟨n1, q1, q2⟩ := ju_all_n (ra := ra) (ca := ca) (nd := nd) hn hs h
          obtain ⟨n2, q3, q4⟩ := ju_dir_n (ra := ra) (ca := ca) (h := h) q1 q2 j
          have hB' := hB (nI h) (nI j) (ju_dir ra ca (ju_all ra ca nd M h) h j)
          rw [e] at hB'
          refine mx_cVv mo_Ju_list 9 (As := [.ref 1, .int (nI h), .int (ra j), .int (ca j)]) (rest := []) rfl (ct_Ju_listOne hl (by omega) q3 q4 (ra j) (ca j)) hB' ⟨hv, hv, trivial⟩ rfl rfl rfl kv_Ju_53 kd_Ju_listOne rfl rfl rfl ?_
          refine mx_go mo_Ju_list 2 (pc' := 49) (ls' := [.ref 5, .ref 1, .ref k1, .ref k2, .int (nI h), .int (nI j + 1)]) (st' := []) rfl trivial ?_
          rw [nI_1]
          exact ih2 (j + 1) (by omega) (by omega)
      exact mx_go mo_Ju_list 2 (pc' := 49) (ls' := [.ref 5, .ref 1, .ref k1, .ref k2, .int (nI h), .int (nI 0)]) (st' := []) rfl trivial (inner nd 0 (by omega) (by omega))
  exact outer N 0 (by omega) (by omega)
theorem wk_37 : Cond.fieldLinkNest "PegBoards$Jumps" 37 "PegBoards" "TRIANGULAR_ROW_STEPS" "[I" "PegBoards" ∈ mx_NW := by decide +kernel
theorem wk_40 : Cond.fieldLinkNest "PegBoards$Jumps" 40 "PegBoards" "SQUARE_ROW_STEPS" "[I" "PegBoards" ∈ mx_NW := by decide +kernel
theorem wk_43 : Cond.fieldLinkNest "PegBoards$Jumps" 43 "PegBoards" "TRIANGULAR_COLUMN_STEPS" "[I" "PegBoards" ∈ mx_NW := by decide +kernel
theorem wk_46 : Cond.fieldLinkNest "PegBoards$Jumps" 46 "PegBoards" "SQUARE_COLUMN_STEPS" "[I" "PegBoards" ∈ mx_NW := by decide +kernel
theorem ct_Ju_list (hl : l.stackTraces = false) {N n : Nat} (hN : N ≤ 20) (hf : ¬ M 1 4 = 0) (hh : M 1 5 = nI N) (hn : n ≤ 120) (hs : M 5 5 = nI n) (ht : M 1 3 = 0 ∨ M 1 3 = 1) :
    mx_Ct l (pg_L sc) mY_Ju_list (d + 3) 0 [.ref 5, .ref 1] M (mx_rV (if M 1 3 = 0 then ju_all pg_s1 pg_s2 4 M N else ju_all pg_s3 pg_s4 6 M N)) := by
  refine mx_bd (n0 := 2) hl (by decide +kernel) rfl rfl rfl ?_
  refine mx_cVi mo_Ju_list 1 rfl (ct_Bo_isTriangular hl ht) rfl trivial rfl rfl rfl kv_Ju_31 kd_Bo_isTriangular rfl rfl rfl ?_
  refine mx_if mo_Ju_list 0 (t := 13) (f := 7) rfl trivial (fun h => ?_) (fun h => ?_)
  · rw [if_pos h]
    refine mx_gst mo_Ju_list 0 (i := 0) rfl trivial rfl wk_40 rfl ?_
    refine mx_cVi mo_Ju_list 2 rfl (ct_Bo_isTriangular hl ht) rfl trivial rfl rfl rfl kv_Ju_31 kd_Bo_isTriangular rfl rfl rfl ?_
    refine mx_if mo_Ju_list 0 (t := 30) (f := 24) rfl trivial (fun h2 => ?_) (fun h2 => ?_)
    · refine mx_gst mo_Ju_list 0 (i := 1) rfl trivial rfl wk_46 rfl ?_
      exact mx_go mo_Ju_list 3 (pc' := 37) (ls' := [.ref 5, .ref 1, .ref 1000, .ref 1001, .int (nI 0), .null]) (st' := []) (M' := M) rfl trivial (ct_Ju_listL hl (by decide) hN hf hh hn hs (fun _ _ _ => rfl) (fun _ _ _ => rfl) _)
    · exact absurd h h2
  · rw [if_neg h]
    refine mx_gst mo_Ju_list 0 (i := 2) rfl trivial rfl wk_37 rfl ?_
    refine mx_cVi mo_Ju_list 3 rfl (ct_Bo_isTriangular hl ht) rfl trivial rfl rfl rfl kv_Ju_31 kd_Bo_isTriangular rfl rfl rfl ?_
    refine mx_if mo_Ju_list 0 (t := 30) (f := 24) rfl trivial (fun h2 => ?_) (fun h2 => ?_)
    · exact absurd h2 h
    · refine mx_gst mo_Ju_list 0 (i := 3) rfl trivial rfl wk_43 rfl ?_
      exact mx_go mo_Ju_list 4 (pc' := 37) (ls' := [.ref 5, .ref 1, .ref 1002, .ref 1003, .int (nI 0), .null]) (st' := []) (M' := M) rfl trivial (ct_Ju_listL hl (by decide) hN hf hh hn hs (fun _ _ _ => rfl) (fun _ _ _ => rfl) _)
end JU
end
section
/-! PegBoards$Symmetries. -/
section SY
variable {l : Launch} {sc : Nat × (Nat → Int32)} {d : Nat} {M : mx_M}
section
variable {LK : mx_L} {Y : mx_Y} {n : Nat} {Q : mx_R → mx_M → Prop} {fl : mx_F} {tab : mx_B} {pc : Nat} {ls st : List Value}
/-- a place of an array whose number isn't a literal -/
theorem mx_ial (hok : mx_ok Y fl tab) (k : Nat) {P : Prop} {pc' a n0 : Nat} {i : Int32} {ls' st' : List Value} {M' : mx_M} (h : mx_run fl LK tab k pc ls st M = some (P, pc', ls', .int i :: .ref a :: st', M')) (hP : P) (hd : tab.lookup pc' = some (.iaload, 1))
    (ha : LK.1[a]? = some (.inl n0)) (hi : vp_in i n0) (kk : mx_E l LK Y d n Q (pc' + 1) ls' (.int (M' a i.toNatClampNeg) :: st') M') : mx_E l LK Y d n Q pc ls st M := by
  refine mx_go hok k h hP (mx_st_ok hok (r := (some (vp_in i n0), pc' + 1, ls', .int (M' a i.toNatClampNeg) :: st', M')) ?_ (fun q hq => by cases hq; exact hi) kk)
  have hal : mx_al LK a = some n0 := by unfold mx_al; rw [ha]
  unfold mx_st
  rw [hd]
  show mx_i fl LK pc' .iaload ls' (.int i :: .ref a :: st') M' = _
  show (match mx_al LK a with
      | some n => some (some (vp_in i n), pc' + 1, ls', Value.int (M' a i.toNatClampNeg) :: st', M')
      | none => (match mx_ro LK a with
        | some (n, f) => some (some (vp_in i n), pc' + 1, ls', Value.int (f i.toNatClampNeg) :: st', M')
        | none => none)) = _
  rw [hal]
theorem mx_ias (hok : mx_ok Y fl tab) (k : Nat) {P : Prop} {pc' a n0 : Nat} {i v : Int32} {ls' st' : List Value} {M' : mx_M} (h : mx_run fl LK tab k pc ls st M = some (P, pc', ls', .int v :: .int i :: .ref a :: st', M')) (hP : P) (hd : tab.lookup pc' = some (.iastore, 1))
    (ha : LK.1[a]? = some (.inl n0)) (hi : vp_in i n0) (kk : mx_E l LK Y d n Q (pc' + 1) ls' st' (mx_up M' a i.toNatClampNeg v)) : mx_E l LK Y d n Q pc ls st M := by
  refine mx_go hok k h hP (mx_st_ok hok (r := (some (vp_in i n0), pc' + 1, ls', st', mx_up M' a i.toNatClampNeg v)) ?_ (fun q hq => by cases hq; exact hi) kk)
  have hal : mx_al LK a = some n0 := by unfold mx_al; rw [ha]
  unfold mx_st
  rw [hd]
  show (match mx_al LK a with
      | some n => some (some (vp_in i n), pc' + 1, ls', st', mx_up M' a i.toNatClampNeg v)
      | none => none) = _
  rw [hal]
end
theorem sy_tk : ∀ k : Nat, k < 12 → pg_c[13 + k]? = some (.inl 20)
  | 0, _ => rfl
  | 1, _ => rfl
  | 2, _ => rfl
  | 3, _ => rfl
  | 4, _ => rfl
  | 5, _ => rfl
  | 6, _ => rfl
  | 7, _ => rfl
  | 8, _ => rfl
  | 9, _ => rfl
  | 10, _ => rfl
  | 11, _ => rfl
  | k + 12, h => by omega
theorem sy_tr : ∀ k, k < 12 → ([13, 14, 15, 16, 17, 18, 19, 20, 21, 22, 23, 24] : List Nat)[k]? = some (13 + k) := by decide +kernel
theorem ct_Sy_holeOf (hl : l.stackTraces = false) {k h : Nat} (hk : k < 12) (hh : h < 20) : mx_Ct l (pg_L sc) mY_Sy_holeOf d 0 [.ref 11, .int (nI k), .int (nI h)] M (mx_rI (M (13 + k) h) M) := by
  have e : (nI k).toNatClampNeg = k := nI_clamp (by omega)
  have e2 : (nI h).toNatClampNeg = h := nI_clamp (by omega)
  refine mx_bd (n0 := 3) hl (by decide +kernel) rfl rfl rfl ?_
  refine mx_aal mo_Sy_holeOf 3 (a := 12) (i := nI k) (b := 13 + k) rfl trivial rfl rfl (vp_in_nI hk (by decide)) (by rw [e]; exact sy_tr k hk) ?_
  refine mx_ial mo_Sy_holeOf 1 (a := 13 + k) (i := nI h) rfl trivial rfl (sy_tk k hk) (vp_in_nI hh (by decide)) ?_
  exact mx_ret_i mo_Sy_holeOf rfl 0 rfl trivial rfl ⟨by rw [e2], rfl⟩
/-- a turn, so many times -/
def sy_t (t : Int32) : Nat → Int32 → Int32 → Int32 × Int32
  | 0, r, c => (r, c)
  | m + 1, r, c => sy_t t m (if t = 0 then c else r + c) (-r)
def sy_tn (M : mx_M) (h m : Nat) : mx_M := mx_up (mx_up M 25 h (sy_t (M 1 3) m (M 3 h) (M 4 h)).1) 26 h (sy_t (M 1 3) m (M 3 h) (M 4 h)).2
theorem ct_Sy_turn (hl : l.stackTraces = false) {h m : Nat} (hh : h < 20) (hm : m < 6) (ht : M 1 3 = 0 ∨ M 1 3 = 1) : mx_Ct l (pg_L sc) mY_Sy_turn (d + 1) 0 [.ref 11, .ref 1, .int (nI h), .int (nI m)] M (mx_rV (sy_tn M h m)) := by
  have e : (nI h).toNatClampNeg = h := nI_clamp (by omega)
  have hv : vp_in (nI h) 20 := vp_in_nI hh (by decide)
  have loop : ∀ (q i : Nat) (r c : Int32), m - i = q → i ≤ m → sy_t (M 1 3) q r c = sy_t (M 1 3) m (M 3 h) (M 4 h) → ∀ v : Value, mx_E l (pg_L sc) mY_Sy_turn (d + 1) 0 (mx_rV (sy_tn M h m)) 17 [.ref 11, .ref 1, .int (nI h), .int (nI m), .int r, .int c, .int (nI i), v] [] M := by
    intro q
    induction q with
    | zero =>
      intro i r c hq hi he v
      have e3 : i = m := by omega
      subst e3
      refine mx_if mo_Sy_turn 2 (t := 57) (f := 23) rfl trivial (fun h1 => ?_) (fun h1 => ?_)
      · refine mx_ret_v mo_Sy_turn rfl 10 (M' := mx_up (mx_up M 25 (nI h).toNatClampNeg r) 26 (nI h).toNatClampNeg c) rfl ⟨hv, hv, trivial⟩ rfl ⟨rfl, ?_⟩
        rw [e, sy_tn, ← he]
        rfl
      · exact absurd (nI_le (Nat.le_refl i) (by omega)) h1
    | succ q ih =>
      intro i r c hq hi he v
      refine mx_if mo_Sy_turn 2 (t := 57) (f := 23) rfl trivial (fun h1 => ?_) (fun h1 => ?_)
      · exact absurd h1 (nI_ge (by omega) (by omega))
      rw [sy_t] at he
      refine mx_cVi mo_Sy_turn 1 rfl (ct_Bo_isTriangular hl ht) rfl trivial rfl rfl rfl kv_Sy_27 kd_Bo_isTriangular rfl rfl rfl ?_
      refine mx_if mo_Sy_turn 0 (t := 38) (f := 30) rfl trivial (fun h2 => ?_) (fun h2 => ?_)
      · rw [if_pos h2] at he
        refine mx_go mo_Sy_turn 9 (pc' := 17) (ls' := [.ref 11, .ref 1, .int (nI h), .int (nI m), .int c, .int (-r), .int (nI i + 1), .int c]) (st' := []) (M' := M) rfl trivial ?_
        rw [nI_1]
        exact ih (i + 1) c (-r) (by omega) (by omega) he _
      · rw [if_neg h2] at he
        refine mx_go mo_Sy_turn 12 (pc' := 17) (ls' := [.ref 11, .ref 1, .int (nI h), .int (nI m), .int (r + c), .int (-r), .int (nI i + 1), .int (r + c)]) (st' := []) (M' := M) rfl trivial ?_
        rw [nI_1]
        exact ih (i + 1) (r + c) (-r) (by omega) (by omega) he _
  refine mx_bd (n0 := 4) hl (by decide +kernel) rfl rfl rfl ?_
  refine mx_cVi mo_Sy_turn 2 (As := [.int (nI h)]) rfl (ct_Bo_rowOf hl hh) rfl trivial rfl rfl rfl kv_Sy_65 kd_Bo_rowOf rfl rfl rfl ?_
  refine mx_cVi mo_Sy_turn 3 (As := [.int (nI h)]) rfl (ct_Bo_columnOf hl hh) rfl trivial rfl rfl rfl kv_Sy_69 kd_Bo_columnOf rfl rfl rfl ?_
  exact mx_go mo_Sy_turn 3 (pc' := 17) (ls' := [.ref 11, .ref 1, .int (nI h), .int (nI m), .int (M 3 h), .int (M 4 h), .int (nI 0), .null]) (st' := []) (M' := M) rfl trivial (loop m 0 _ _ (by omega) (by omega) rfl _)
def sy_mi (M : mx_M) (h : Nat) : mx_M := mx_up (mx_up M 25 h (M 26 h)) 26 h (M 25 h)
theorem ct_Sy_mirror (hl : l.stackTraces = false) {h : Nat} (hh : h < 20) : mx_Ct l (pg_L sc) mY_Sy_mirror d 0 [.ref 11, .int (nI h)] M (mx_rV (sy_mi M h)) := by
  have e : (nI h).toNatClampNeg = h := nI_clamp (by omega)
  have hv : vp_in (nI h) 20 := vp_in_nI hh (by decide)
  refine mx_bd (n0 := 2) hl (by decide +kernel) rfl rfl rfl ?_
  refine mx_ret_v mo_Sy_mirror rfl 18 (M' := mx_up (mx_up M 25 (nI h).toNatClampNeg (M 26 (nI h).toNatClampNeg)) 26 (nI h).toNatClampNeg (M 25 (nI h).toNatClampNeg)) rfl ⟨hv, hv, hv, hv, trivial⟩ rfl ⟨rfl, ?_⟩
  rw [e]
  rfl
/-- places below n moved -/
def sy_mv (M : mx_M) (k n : Nat) (s : Int32) : mx_M := mx_row M k (fun j => if j < n then M k j + s else M k j)
theorem sy_mv_0 {k : Nat} {s : Int32} : sy_mv M k 0 s = M := by
  funext a j
  by_cases ha : a = k
  · subst ha; simp [sy_mv, mx_row]
  · simp [sy_mv, mx_row, ha]
theorem sy_mv_s {k i : Nat} {s : Int32} : mx_up (sy_mv M k i s) k i (sy_mv M k i s k i + s) = sy_mv M k (i + 1) s := by
  funext a j
  by_cases ha : a = k
  · subst ha
    by_cases hj : j = i
    · subst hj; simp [mx_up, sy_mv, mx_row]
    · by_cases h2 : j < i
      · simp [mx_up, sy_mv, mx_row, hj, h2, Nat.lt_succ_of_lt h2]
      · simp [mx_up, sy_mv, mx_row, hj, h2, show ¬ j < i + 1 by omega]
  · simp [mx_up, sy_mv, mx_row, ha]
theorem ct_Sy_moveByK (hl : l.stackTraces = false) {k n : Nat} (hk : k ≠ 11) (hn : n ≤ 20) (hh : M 11 3 = nI n) (s : Int32)
    (hB : ∀ (j : Int32) (M0 : mx_M), mx_run mf_Sy (pg_L sc) mt_Sy_moveBy 9 10 [.ref 11, .int s, .ref k, .int j] [] M0 = some (vp_in j 20 ∧ vp_in j 20 ∧ True, 2, [.ref 11, .int s, .ref k, .int (j + 1)], [], mx_up M0 k j.toNatClampNeg (M0 k j.toNatClampNeg + s))) :
    mx_Ct l (pg_L sc) mY_Sy_moveBy d 0 [.ref 11, .int s, .ref k] M (mx_rV (sy_mv M k n s)) := by
  have h11 : ∀ i, sy_mv M k i s 11 3 = nI n := fun i => by rw [sy_mv, mx_row, if_neg (Ne.symm hk)]; exact hh
  have loop : ∀ (m i : Nat), n - i = m → i ≤ n → mx_E l (pg_L sc) mY_Sy_moveBy d 0 (mx_rV (sy_mv M k n s)) 2 [.ref 11, .int s, .ref k, .int (nI i)] [] (sy_mv M k i s) := by
    intro m
    induction m with
    | zero =>
      intro i hm hi
      have e : i = n := by omega
      subst e
      refine mx_if mo_Sy_moveBy 3 (t := 23) (f := 10) rfl trivial (fun (h : sy_mv M k i s 11 3 ≤ nI i) => ?_) (fun (h : ¬ sy_mv M k i s 11 3 ≤ nI i) => ?_)
      · exact mx_ret_v mo_Sy_moveBy rfl 0 rfl trivial rfl ⟨rfl, rfl⟩
      · rw [h11] at h; exact absurd (nI_le (Nat.le_refl i) (by omega)) h
    | succ m ih =>
      intro i hm hi
      have e : (nI i).toNatClampNeg = i := nI_clamp (by omega)
      have hv : vp_in (nI i) 20 := vp_in_nI (by omega) (by decide)
      refine mx_if mo_Sy_moveBy 3 (t := 23) (f := 10) rfl trivial (fun (h : sy_mv M k i s 11 3 ≤ nI i) => ?_) (fun h => ?_)
      · rw [h11] at h; exact absurd h (nI_ge (by omega) (by omega))
      · refine mx_go mo_Sy_moveBy 9 (hB (nI i) _) ⟨hv, hv, trivial⟩ ?_
        rw [e, sy_mv_s, nI_1]
        exact ih (i + 1) (by omega) (by omega)
  refine mx_bd (n0 := 3) hl (by decide +kernel) rfl rfl rfl ?_
  have := loop n 0 (by omega) (by omega)
  rw [sy_mv_0] at this
  exact mx_go mo_Sy_moveBy 2 (pc' := 2) (ls' := [.ref 11, .int s, .ref k, .int (nI 0)]) (st' := []) (M' := M) rfl trivial this
theorem ct_Sy_moveBy25 (hl : l.stackTraces = false) {n : Nat} (hn : n ≤ 20) (hh : M 11 3 = nI n) (s : Int32) : mx_Ct l (pg_L sc) mY_Sy_moveBy d 0 [.ref 11, .int s, .ref 25] M (mx_rV (sy_mv M 25 n s)) := ct_Sy_moveByK hl (by decide) hn hh s (fun _ _ => rfl)
theorem ct_Sy_moveBy26 (hl : l.stackTraces = false) {n : Nat} (hn : n ≤ 20) (hh : M 11 3 = nI n) (s : Int32) : mx_Ct l (pg_L sc) mY_Sy_moveBy d 0 [.ref 11, .int s, .ref 26] M (mx_rV (sy_mv M 26 n s)) := ct_Sy_moveByK hl (by decide) hn hh s (fun _ _ => rfl)
/-- the image laid into row k, from hole h on (m holes are left) -/
def sy_ad (k : Nat) : Nat → Nat → mx_M → mx_M
  | 0, _, M => mx_up M 11 4 (nI (k + 1))
  | m + 1, h, M => if pg_at M (M 25 h) (M 26 h) = -1 then M else if 12 ≤ k then M else sy_ad k m (h + 1) (mx_up M (13 + k) h (pg_at M (M 25 h) (M 26 h)))
theorem ct_Sy_addIfSameHoles (hl : l.stackTraces = false) {k n : Nat} (hn : n ≤ 20) (hn1 : 1 ≤ n) (hk : k ≤ 12) (hh : M 11 3 = nI n) (hs : M 11 4 = nI k) : mx_Ct l (pg_L sc) mY_Sy_addIfSameHoles (d + 2) 0 [.ref 11, .ref 1] M (mx_rV (sy_ad k n 0 M)) := by
  have loop : ∀ (m h : Nat) (M1 : mx_M), n - h = m → h ≤ n → M1 11 3 = nI n → M1 11 4 = nI k → sy_ad k m h M1 = sy_ad k n 0 M → ∀ v : Value, mx_E l (pg_L sc) mY_Sy_addIfSameHoles (d + 2) 0 (mx_rV (sy_ad k n 0 M)) 2 [.ref 11, .ref 1, .int (nI h), v] [] M1 := by
    intro m
    induction m with
    | zero =>
      intro h M1 hm hle h1 h2 he v
      have e : h = n := by omega
      subst e
      refine mx_if mo_Sy_addIfSameHoles 3 (t := 60) (f := 10) rfl trivial (fun (q : M1 11 3 ≤ nI h) => ?_) (fun (q : ¬ M1 11 3 ≤ nI h) => ?_)
      · refine mx_ret_v mo_Sy_addIfSameHoles rfl 6 (M' := mx_up M1 11 4 (M1 11 4 + 1)) rfl trivial rfl ⟨rfl, ?_⟩
        rw [← he, sy_ad, h2, nI_1]
      · rw [h1] at q; exact absurd (nI_le (Nat.le_refl h) (by omega)) q
    | succ m ih =>
      intro h M1 hm hle h1 h2 he v
      have e : (nI h).toNatClampNeg = h := nI_clamp (by omega)
      have hv : vp_in (nI h) 20 := vp_in_nI (by omega) (by decide)
      refine mx_if mo_Sy_addIfSameHoles 3 (t := 60) (f := 10) rfl trivial (fun (q : M1 11 3 ≤ nI h) => ?_) (fun q => ?_)
      · rw [h1] at q; exact absurd q (nI_ge (by omega) (by omega))
      refine mx_go mo_Sy_addIfSameHoles 9 (pc' := 23) (ls' := [.ref 11, .ref 1, .int (nI h), v]) (st' := [.int (M1 26 (nI h).toNatClampNeg), .int (M1 25 (nI h).toNatClampNeg), .ref 1]) (M' := M1) rfl ⟨hv, hv, trivial⟩ ?_
      rw [e]
      refine mx_cVi mo_Sy_addIfSameHoles 0 (As := [.int (M1 25 h), .int (M1 26 h)]) (rest := []) rfl (ct_Bo_numberAt hl _ _) rfl trivial rfl rfl rfl kv_Sy_72 kd_Bo_numberAt rfl rfl rfl ?_
      rw [sy_ad] at he
      generalize pg_at M1 (M1 25 h) (M1 26 h) = x at he ⊢
      refine mx_if mo_Sy_addIfSameHoles 3 (t := 41) (f := 32) rfl trivial (fun (q2 : x = -1) => ?_) (fun (q2 : ¬ x = -1) => ?_)
      · rw [if_pos q2] at he
        exact mx_ret_v mo_Sy_addIfSameHoles rfl 0 rfl trivial rfl ⟨rfl, he⟩
      rw [if_neg q2] at he
      refine mx_if mo_Sy_addIfSameHoles 3 (t := 42) (f := 41) rfl trivial (fun (q3 : M1 11 4 < nI 12) => ?_) (fun (q3 : ¬ M1 11 4 < nI 12) => ?_)
      · rw [h2, nI_ltI (by omega) (by decide)] at q3
        rw [if_neg (by omega)] at he
        have e4 : (M1 11 4).toNatClampNeg = k := by rw [h2]; exact nI_clamp (by omega)
        refine mx_aal mo_Sy_addIfSameHoles 4 (a := 12) (i := M1 11 4) (b := 13 + k) rfl trivial rfl rfl (by rw [h2]; exact vp_in_nI q3 (by decide)) (by rw [e4]; exact sy_tr k q3) ?_
        refine mx_ias mo_Sy_addIfSameHoles 2 (a := 13 + k) (i := nI h) (v := x) rfl trivial rfl (sy_tk k q3) hv ?_
        refine mx_go mo_Sy_addIfSameHoles 2 (pc' := 2) (ls' := [.ref 11, .ref 1, .int (nI h + 1), .int x]) (st' := []) rfl trivial ?_
        rw [e, nI_1]
        exact ih (h + 1) _ (by omega) (by omega) (by rw [mx_up_off (by omega)]; exact h1) (by rw [mx_up_off (by omega)]; exact h2) he _
      · rw [h2, nI_ltI (by omega) (by decide)] at q3
        rw [if_pos (by omega)] at he
        exact mx_ret_v mo_Sy_addIfSameHoles rfl 0 rfl trivial rfl ⟨rfl, he⟩
  refine mx_bd (n0 := 2) hl (by decide +kernel) rfl rfl rfl ?_
  exact mx_go mo_Sy_addIfSameHoles 2 (pc' := 2) (ls' := [.ref 11, .ref 1, .int (nI 0), .null]) (st' := []) (M' := M) rfl trivial (loop n 0 M (by omega) (by omega) hh hs rfl _)
/-- the image of a position by the row g of holes -/
def sy_im (g : Nat → Int32) (p : Int32) : Nat → Int32
  | 0 => 0
  | h + 1 => if pg_has p (nI h) = 0 then sy_im g p h else sy_im g p h ||| (1 <<< (g h &&& 31))
theorem ct_Sy_imageOf (hl : l.stackTraces = false) {k n : Nat} (hn : n ≤ 20) (hk : k < 12) (hh : M 11 3 = nI n) (p : Int32) : mx_Ct l (pg_L sc) mY_Sy_imageOf (d + 1) 0 [.ref 11, .int (nI k), .int p] M (mx_rI (sy_im (M (13 + k)) p n) M) := by
  have ek : (nI k).toNatClampNeg = k := nI_clamp (by omega)
  have loop : ∀ (m h : Nat), n - h = m → h ≤ n → mx_E l (pg_L sc) mY_Sy_imageOf (d + 1) 0 (mx_rI (sy_im (M (13 + k)) p n) M) 5 [.ref 11, .int (nI k), .int p, .int (sy_im (M (13 + k)) p h), .int (nI h)] [] M := by
    intro m
    induction m with
    | zero =>
      intro h hm hle
      have e : h = n := by omega
      subst e
      refine mx_if mo_Sy_imageOf 3 (t := 43) (f := 14) rfl trivial (fun (q : M 11 3 ≤ nI h) => ?_) (fun (q : ¬ M 11 3 ≤ nI h) => ?_)
      · exact mx_ret_i mo_Sy_imageOf rfl 1 rfl trivial rfl ⟨rfl, rfl⟩
      · rw [hh] at q; exact absurd (nI_le (Nat.le_refl h) (by omega)) q
    | succ m ih =>
      intro h hm hle
      have e : (nI h).toNatClampNeg = h := nI_clamp (by omega)
      have hv : vp_in (nI h) 20 := vp_in_nI (by omega) (by decide)
      refine mx_if mo_Sy_imageOf 3 (t := 43) (f := 14) rfl trivial (fun (q : M 11 3 ≤ nI h) => ?_) (fun q => ?_)
      · rw [hh] at q; exact absurd q (nI_ge (by omega) (by omega))
      refine mx_cNi mo_Sy_imageOf 2 (As := [.int p, .int (nI h)]) rfl (ct_Pe_contains hl p (nI h)) rfl trivial rfl kn_Sy_84 kd_Pe_contains rfl rfl rfl ?_
      have hI := ih (h + 1) (by omega) (by omega)
      rw [sy_im] at hI
      refine mx_if mo_Sy_imageOf 0 (t := 37) (f := 23) rfl trivial (fun q2 => ?_) (fun q2 => ?_)
      · rw [if_pos q2] at hI
        refine mx_go mo_Sy_imageOf 2 (pc' := 5) (ls' := [.ref 11, .int (nI k), .int p, .int (sy_im (M (13 + k)) p h), .int (nI h + 1)]) (st' := []) (M' := M) rfl trivial ?_
        rw [nI_1]; exact hI
      · rw [if_neg q2] at hI
        refine mx_aal mo_Sy_imageOf 5 (a := 12) (i := nI k) (b := 13 + k) rfl trivial rfl rfl (vp_in_nI hk (by decide)) (by rw [ek]; exact sy_tr k hk) ?_
        refine mx_ial mo_Sy_imageOf 1 (a := 13 + k) (i := nI h) rfl trivial rfl (sy_tk k hk) hv ?_
        rw [e]
        refine mx_go mo_Sy_imageOf 5 (pc' := 5) (ls' := [.ref 11, .int (nI k), .int p, .int (sy_im (M (13 + k)) p h ||| (1 <<< (M (13 + k) h &&& 31))), .int (nI h + 1)]) (st' := []) (M' := M) rfl trivial ?_
        rw [nI_1]; exact hI
  refine mx_bd (n0 := 3) hl (by decide +kernel) rfl rfl rfl ?_
  exact mx_go mo_Sy_imageOf 4 (pc' := 5) (ls' := [.ref 11, .int (nI k), .int p, .int 0, .int (nI 0)]) (st' := []) (M' := M) rfl trivial (loop n 0 (by omega) (by omega))
/-- the least among a position and its first k images -/
def sy_lo (M : mx_M) (p : Int32) (n : Nat) : Nat → Int32
  | 0 => p
  | k + 1 => if sy_im (M (13 + k)) p n < sy_lo M p n k then sy_im (M (13 + k)) p n else sy_lo M p n k
theorem ct_Sy_leastOf (hl : l.stackTraces = false) {s n : Nat} (hn : n ≤ 20) (hs : s ≤ 12) (hh : M 11 3 = nI n) (hss : M 11 4 = nI s) (p : Int32) : mx_Ct l (pg_L sc) mY_Sy_leastOf (d + 2) 0 [.ref 11, .int p] M (mx_rI (sy_lo M p n s) M) := by
  have loop : ∀ (m k : Nat), s - k = m → k ≤ s → mx_E l (pg_L sc) mY_Sy_leastOf (d + 2) 0 (mx_rI (sy_lo M p n s) M) 4 [.ref 11, .int p, .int (sy_lo M p n k), .int (nI k)] [] M := by
    intro m
    induction m with
    | zero =>
      intro k hm hle
      have e : k = s := by omega
      subst e
      refine mx_if mo_Sy_leastOf 3 (t := 29) (f := 12) rfl trivial (fun (q : M 11 4 ≤ nI k) => ?_) (fun (q : ¬ M 11 4 ≤ nI k) => ?_)
      · exact mx_ret_i mo_Sy_leastOf rfl 1 rfl trivial rfl ⟨rfl, rfl⟩
      · rw [hss] at q; exact absurd (nI_le (Nat.le_refl k) (by omega)) q
    | succ m ih =>
      intro k hm hle
      refine mx_if mo_Sy_leastOf 3 (t := 29) (f := 12) rfl trivial (fun (q : M 11 4 ≤ nI k) => ?_) (fun q => ?_)
      · rw [hss] at q; exact absurd q (nI_ge (by omega) (by omega))
      refine mx_cVi mo_Sy_leastOf 4 (As := [.int (nI k), .int p]) (rest := [.int (sy_lo M p n k)]) rfl (ct_Sy_imageOf hl hn (by omega) hh p) rfl trivial rfl rfl rfl kv_Sy_76 kd_Sy_imageOf rfl rfl rfl ?_
      refine mx_cSi mo_Sy_leastOf 0 (As := [.int (sy_lo M p n k), .int (sy_im (M (13 + k)) p n)]) rfl (ct_Ma_min hl _ _) rfl trivial rfl ks_Sy_79 kd_Ma_min rfl rfl rfl ?_
      refine mx_go mo_Sy_leastOf 3 (pc' := 4) (ls' := [.ref 11, .int p, .int (sy_lo M p n (k + 1)), .int (nI k + 1)]) (st' := []) (M' := M) rfl trivial ?_
      rw [nI_1]
      exact ih (k + 1) (by omega) (by omega)
  refine mx_bd (n0 := 2) hl (by decide +kernel) rfl rfl rfl ?_
  exact mx_go mo_Sy_leastOf 4 (pc' := 4) (ls' := [.ref 11, .int p, .int p, .int (nI 0)]) (st' := []) (M' := M) rfl trivial (loop s 0 (by omega) (by omega))
end SY
end
section
/-! PegBoards$Symmetries.list. -/
section SL
variable {l : Launch} {sc : Nat × (Nat → Int32)} {d : Nat} {M : mx_M}
def sy_hs (M : mx_M) (t k : Nat) : Nat → mx_M
  | 0 => M
  | h + 1 => if k < t then sy_tn (sy_hs M t k h) h (k % t) else sy_mi (sy_tn (sy_hs M t k h) h (k % t)) h
def sy_b (A : mx_M) (N : Nat) : mx_M := sy_mv A 25 (N + 1) (pg_mn (A 3) N - pg_mn (A 25) N)
def sy_c (B : mx_M) (N : Nat) : mx_M := sy_mv B 26 (N + 1) (pg_mn (B 4) N - pg_mn (B 26) N)
def sy_k1 (M : mx_M) (t k N : Nat) : mx_M := sy_ad (M 11 4).toNatClampNeg (N + 1) 0 (sy_c (sy_b (sy_hs M t k (N + 1)) N) N)
def sy_it (t N : Nat) (M : mx_M) : Nat → mx_M
  | 0 => M
  | k + 1 => sy_k1 (sy_it t N M k) t k N
theorem sy_tn_off {h m c : Nat} (h1 : c ≠ 25) (h2 : c ≠ 26) : sy_tn M h m c = M c := by
  rw [sy_tn, mx_up_off h2, mx_up_off h1]
theorem sy_mi_off {h c : Nat} (h1 : c ≠ 25) (h2 : c ≠ 26) : sy_mi M h c = M c := by
  rw [sy_mi, mx_up_off h2, mx_up_off h1]
theorem sy_hs_off {t k c : Nat} (h1 : c ≠ 25) (h2 : c ≠ 26) : ∀ h, sy_hs M t k h c = M c := by
  intro h
  induction h with
  | zero => rfl
  | succ h ih =>
    rw [sy_hs]
    split
    · rw [sy_tn_off h1 h2, ih]
    · rw [sy_mi_off h1 h2, sy_tn_off h1 h2, ih]
theorem sy_mv_off {k n c : Nat} {s : Int32} (h : c ≠ k) : sy_mv M k n s c = M c := if_neg h
theorem sy_ad_off {k c : Nat} (hc : c < 11 ∨ c = 12 ∨ 24 < c) (hk : k ≤ 12) : ∀ (m h : Nat) (M : mx_M), sy_ad k m h M c = M c := by
  intro m
  induction m with
  | zero => intro h M; rw [sy_ad, mx_up_off (by omega)]
  | succ m ih =>
    intro h M
    rw [sy_ad]
    split
    · rfl
    split
    · rfl
    · rw [ih, mx_up_off (by omega)]
theorem sy_ad_11 {k : Nat} : ∀ (m h : Nat) (M : mx_M), sy_ad k m h M 11 3 = M 11 3 := by
  intro m
  induction m with
  | zero => intro h M; simp [sy_ad, mx_up]
  | succ m ih =>
    intro h M
    rw [sy_ad]
    split
    · rfl
    split
    · rfl
    · rw [ih, mx_up_off (by omega)]
theorem sy_ad_n {k : Nat} (hk : k ≤ 12) : ∀ (m h : Nat) (M : mx_M), M 11 4 = nI k → 1 ≤ m → ∃ s, s ≤ 12 ∧ sy_ad k m h M 11 4 = nI s := by
  intro m
  induction m with
  | zero => intro h M _ h1; omega
  | succ m ih =>
    intro h M hs _
    rw [sy_ad]
    split
    · exact ⟨k, hk, hs⟩
    split
    · exact ⟨k, hk, hs⟩
    next h2 =>
      cases m with
      | zero => exact ⟨k + 1, by omega, by simp [sy_ad, mx_up]⟩
      | succ m => exact ih (h + 1) _ (by rw [mx_up_off (by omega)]; exact hs) (by omega)
theorem sy_k1_off {t k N c s : Nat} (hs : M 11 4 = nI s) (hs2 : s ≤ 12) (hc : c < 11 ∨ 26 < c) : sy_k1 M t k N c = M c := by
  rw [sy_k1, hs, nI_clamp (by omega), sy_ad_off (by omega) hs2, sy_c, sy_mv_off (by omega), sy_b, sy_mv_off (by omega), sy_hs_off (by omega) (by omega)]
theorem sy_k1_11 {t k N : Nat} : sy_k1 M t k N 11 3 = M 11 3 := by
  rw [sy_k1, sy_ad_11, sy_c, sy_mv_off (by decide), sy_b, sy_mv_off (by decide), sy_hs_off (by decide) (by decide)]
theorem sy_c_11 {t k N : Nat} : sy_c (sy_b (sy_hs M t k (N + 1)) N) N 11 = M 11 := by
  rw [sy_c, sy_mv_off (by decide), sy_b, sy_mv_off (by decide), sy_hs_off (by decide) (by decide)]
theorem sy_k1_n {t k N s : Nat} (hs : M 11 4 = nI s) (hs2 : s ≤ 12) : ∃ s', s' ≤ 12 ∧ sy_k1 M t k N 11 4 = nI s' := by
  rw [sy_k1, hs, nI_clamp (by omega)]
  exact sy_ad_n hs2 (N + 1) 0 _ (by rw [sy_c_11]; exact hs) (by omega)
theorem sy_it_inv {t N s : Nat} (hs : M 11 4 = nI s) (hs2 : s ≤ 12) : ∀ k, (∀ c, c < 11 ∨ 26 < c → sy_it t N M k c = M c) ∧ sy_it t N M k 11 3 = M 11 3 ∧ ∃ s', s' ≤ 12 ∧ sy_it t N M k 11 4 = nI s' := by
  intro k
  induction k with
  | zero => exact ⟨fun _ _ => rfl, rfl, s, hs2, hs⟩
  | succ k ih =>
    obtain ⟨h1, h2, s', h3, h4⟩ := ih
    refine ⟨fun c hc => ?_, ?_, ?_⟩
    · rw [sy_it, sy_k1_off h4 h3 hc, h1 c hc]
    · rw [sy_it, sy_k1_11, h2]
    · rw [sy_it]; exact sy_k1_n h4 h3
/-- one image: from the loop's head to its head -/
theorem sy_listK (hl : l.stackTraces = false) {Q : mx_R → mx_M → Prop} {t k N s : Nat} (ht0 : 4 ≤ t) (ht6 : t ≤ 6) (hk : k < 2 * t) (hN : N < 20) (hf : ¬ M 1 4 = 0) (hh : M 1 5 = nI (N + 1)) (h3 : M 11 3 = nI (N + 1)) (hs : M 11 4 = nI s) (hs2 : s ≤ 12) (htr : M 1 3 = 0 ∨ M 1 3 = 1)
    (kk : ∀ v : Value, mx_E l (pg_L sc) mY_Sy_list (d + 3) 0 Q 24 [.ref 11, .ref 1, .int (nI t), .int (nI (k + 1)), v] [] (sy_k1 M t k N)) : ∀ v : Value, mx_E l (pg_L sc) mY_Sy_list (d + 3) 0 Q 24 [.ref 11, .ref 1, .int (nI t), .int (nI k), v] [] M := by
  intro v0
  have e2t : 2 * nI t = nI (2 * t) := by rw [show (2 : Int32) = nI 2 from rfl, pk_mul]
  refine mx_if mo_Sy_list 4 (t := 129) (f := 31) rfl trivial (fun (q : 2 * nI t ≤ nI k) => ?_) (fun q => ?_)
  · rw [e2t] at q; exact absurd q (nI_ge hk (by omega))
  have rest : mx_E l (pg_L sc) mY_Sy_list (d + 3) 0 Q 70 [.ref 11, .ref 1, .int (nI t), .int (nI k), .int (nI (N + 1))] [] (sy_hs M t k (N + 1)) := by
    have a1 : ∀ c, c ≠ 25 → c ≠ 26 → sy_hs M t k (N + 1) c = M c := fun c h1 h2 => sy_hs_off h1 h2 _
    have hk1 : sy_k1 M t k N = sy_ad s (N + 1) 0 (sy_c (sy_b (sy_hs M t k (N + 1)) N) N) := by rw [sy_k1, hs, nI_clamp (by omega)]
    rw [hk1] at kk
    generalize sy_hs M t k (N + 1) = A at a1 kk ⊢
    have b1 : A 1 = M 1 := a1 1 (by decide) (by decide)
    have b11 : A 11 = M 11 := a1 11 (by decide) (by decide)
    refine mx_cVi mo_Sy_list 2 (rest := [.ref 11]) rfl (ct_Bo_leastRow (M := A) hl hN (by rw [b1]; exact hf) (by rw [b1]; exact hh)) rfl trivial rfl rfl rfl kv_Sy_47 kd_Bo_leastRow rfl rfl rfl ?_
    refine mx_go mo_Sy_list 4 (pc' := 83) (ls' := [.ref 11, .ref 1, .int (nI t), .int (nI k), .int (nI (N + 1))]) (st' := [.int (A 11 3), .ref 25, .int (pg_mn (A 3) N), .ref 11]) (M' := A) rfl trivial ?_
    rw [b11, h3]
    refine mx_cNi mo_Sy_list 0 (As := [.ref 25, .int (nI (N + 1))]) (rest := [.int (pg_mn (A 3) N), .ref 11]) rfl (ct_leastIn_25 hl hN) rfl trivial rfl kn_Sy_50 kd_Pe_leastIn rfl rfl rfl ?_
    refine mx_cVv mo_Sy_list 3 (As := [.int (pg_mn (A 3) N - pg_mn (A 25) N), .ref 25]) (rest := []) rfl (ct_Sy_moveBy25 (M := A) (n := N + 1) hl (by omega) (by rw [b11]; exact h3) _) rfl trivial rfl rfl rfl kv_Sy_54 kd_Sy_moveBy rfl rfl rfl ?_
    have a2 : ∀ c, c ≠ 25 → sy_b A N c = A c := fun c h1 => sy_mv_off h1
    show mx_E l (pg_L sc) mY_Sy_list (d + 3) 0 Q 94 [.ref 11, .ref 1, .int (nI t), .int (nI k), .int (nI (N + 1))] [] (sy_b A N)
    generalize sy_b A N = B at a2 kk ⊢
    have c1 : B 1 = M 1 := (a2 1 (by decide)).trans b1
    have c11 : B 11 = M 11 := (a2 11 (by decide)).trans b11
    refine mx_cVi mo_Sy_list 2 (rest := [.ref 11]) rfl (ct_Bo_leastColumn (M := B) hl hN (by rw [c1]; exact hf) (by rw [c1]; exact hh)) rfl trivial rfl rfl rfl kv_Sy_58 kd_Bo_leastColumn rfl rfl rfl ?_
    refine mx_go mo_Sy_list 4 (pc' := 107) (ls' := [.ref 11, .ref 1, .int (nI t), .int (nI k), .int (nI (N + 1))]) (st' := [.int (B 11 3), .ref 26, .int (pg_mn (B 4) N), .ref 11]) (M' := B) rfl trivial ?_
    rw [c11, h3]
    refine mx_cNi mo_Sy_list 0 (As := [.ref 26, .int (nI (N + 1))]) (rest := [.int (pg_mn (B 4) N), .ref 11]) rfl (ct_leastIn_26 hl hN) rfl trivial rfl kn_Sy_50 kd_Pe_leastIn rfl rfl rfl ?_
    refine mx_cVv mo_Sy_list 3 (As := [.int (pg_mn (B 4) N - pg_mn (B 26) N), .ref 26]) (rest := []) rfl (ct_Sy_moveBy26 (M := B) (n := N + 1) hl (by omega) (by rw [c11]; exact h3) _) rfl trivial rfl rfl rfl kv_Sy_54 kd_Sy_moveBy rfl rfl rfl ?_
    have a3 : ∀ c, c ≠ 26 → sy_c B N c = B c := fun c h1 => sy_mv_off h1
    show mx_E l (pg_L sc) mY_Sy_list (d + 3) 0 Q 118 [.ref 11, .ref 1, .int (nI t), .int (nI k), .int (nI (N + 1))] [] (sy_c B N)
    generalize sy_c B N = C at a3 kk ⊢
    have d11 : C 11 = M 11 := (a3 11 (by decide)).trans c11
    refine mx_cVv mo_Sy_list 2 (As := [.ref 1]) (rest := []) rfl (ct_Sy_addIfSameHoles (M := C) (k := s) (n := N + 1) hl (by omega) (by omega) hs2 (by rw [d11]; exact h3) (by rw [d11]; exact hs)) rfl trivial rfl rfl rfl kv_Sy_61 kd_Sy_addIfSameHoles rfl rfl rfl ?_
    refine mx_go mo_Sy_list 2 (pc' := 24) (ls' := [.ref 11, .ref 1, .int (nI t), .int (nI k + 1), .int (nI (N + 1))]) (st' := []) rfl trivial ?_
    rw [nI_1]
    exact kk _
  have inner : ∀ (m h : Nat), N + 1 - h = m → h ≤ N + 1 → mx_E l (pg_L sc) mY_Sy_list (d + 3) 0 Q 34 [.ref 11, .ref 1, .int (nI t), .int (nI k), .int (nI h)] [] (sy_hs M t k h) := by
    intro m
    induction m with
    | zero =>
      intro h hm hle
      have e : h = N + 1 := by omega
      subst e
      refine mx_if mo_Sy_list 3 (t := 70) (f := 43) rfl trivial (fun q1 => ?_) (fun (q1 : ¬ sy_hs M t k (N + 1) 11 3 ≤ nI (N + 1)) => ?_)
      · exact rest
      · rw [sy_hs_off (by decide) (by decide), h3] at q1; exact absurd (nI_le (Nat.le_refl _) (by omega)) q1
    | succ m ih =>
      intro h hm hle
      refine mx_if mo_Sy_list 3 (t := 70) (f := 43) rfl trivial (fun (q1 : sy_hs M t k h 11 3 ≤ nI h) => ?_) (fun q1 => ?_)
      · rw [sy_hs_off (by decide) (by decide), h3] at q1; exact absurd q1 (nI_ge (by omega) (by omega))
      refine mx_go mo_Sy_list 6 (pc' := 50) (ls' := [.ref 11, .ref 1, .int (nI t), .int (nI k), .int (nI h)]) (st' := [.int (nI k - nI k / nI t * nI t), .int (nI h), .ref 1, .ref 11]) (M' := sy_hs M t k h) rfl ⟨nI_ne0 (by omega) (by omega), trivial⟩ ?_
      rw [pk_rem (by omega) (by omega) (by omega)]
      have hI := ih (h + 1) (by omega) (by omega)
      rw [sy_hs] at hI
      have htr2 : sy_hs M t k h 1 3 = 0 ∨ sy_hs M t k h 1 3 = 1 := by rw [sy_hs_off (by decide) (by decide)]; exact htr
      refine mx_cVv mo_Sy_list 0 (As := [.ref 1, .int (nI h), .int (nI (k % t))]) (rest := []) rfl (ct_Sy_turn (M := sy_hs M t k h) hl (by omega) (by have := Nat.mod_lt k (show t > 0 by omega); omega) htr2) rfl trivial rfl rfl rfl kv_Sy_39 kd_Sy_turn rfl rfl rfl ?_
      refine mx_if mo_Sy_list 2 (t := 64) (f := 58) rfl trivial (fun (q2 : nI k < nI t) => ?_) (fun (q2 : ¬ nI k < nI t) => ?_)
      · rw [nI_ltI (by omega) (by omega)] at q2
        rw [if_pos q2] at hI
        refine mx_go mo_Sy_list 2 (pc' := 34) (ls' := [.ref 11, .ref 1, .int (nI t), .int (nI k), .int (nI h + 1)]) (st' := []) rfl trivial ?_
        rw [nI_1]; exact hI
      · rw [nI_ltI (by omega) (by omega)] at q2
        rw [if_neg q2] at hI
        refine mx_cVv mo_Sy_list 2 (As := [.int (nI h)]) (rest := []) rfl (ct_Sy_mirror hl (by omega)) rfl trivial rfl rfl rfl kv_Sy_43 kd_Sy_mirror rfl rfl rfl ?_
        refine mx_go mo_Sy_list 2 (pc' := 34) (ls' := [.ref 11, .ref 1, .int (nI t), .int (nI k), .int (nI h + 1)]) (st' := []) rfl trivial ?_
        rw [nI_1]; exact hI
  exact mx_go mo_Sy_list 2 (pc' := 34) (ls' := [.ref 11, .ref 1, .int (nI t), .int (nI k), .int (nI 0)]) (st' := []) (M' := M) rfl trivial (inner (N + 1) 0 (by omega) (by omega))
theorem ct_Sy_list (hl : l.stackTraces = false) {N : Nat} (hN : N < 20) (hf : ¬ M 1 4 = 0) (hh : M 1 5 = nI (N + 1)) (hs : M 11 4 = 0) (htr : M 1 3 = 0 ∨ M 1 3 = 1) :
    mx_Ct l (pg_L sc) mY_Sy_list (d + 3) 0 [.ref 11, .ref 1] M (mx_rV (sy_it (if M 1 3 = 0 then 4 else 6) N (mx_up M 11 3 (nI (N + 1))) (2 * (if M 1 3 = 0 then 4 else 6)))) := by
  have key : ∀ (t : Nat), 4 ≤ t → t ≤ 6 → ∀ v : Value, mx_E l (pg_L sc) mY_Sy_list (d + 3) 0 (mx_rV (sy_it t N (mx_up M 11 3 (nI (N + 1))) (2 * t))) 24 [.ref 11, .ref 1, .int (nI t), .int (nI 0), v] [] (mx_up M 11 3 (nI (N + 1))) := by
    intro t ht0 ht6
    have hs' : mx_up M 11 3 (nI (N + 1)) 11 4 = nI 0 := by simp [mx_up]; exact hs
    have loop : ∀ (m k : Nat), 2 * t - k = m → k ≤ 2 * t → ∀ v : Value, mx_E l (pg_L sc) mY_Sy_list (d + 3) 0 (mx_rV (sy_it t N (mx_up M 11 3 (nI (N + 1))) (2 * t))) 24 [.ref 11, .ref 1, .int (nI t), .int (nI k), v] [] (sy_it t N (mx_up M 11 3 (nI (N + 1))) k) := by
      intro m
      induction m with
      | zero =>
        intro k hm hle v
        have e : k = 2 * t := by omega
        subst e
        have e2t : 2 * nI t = nI (2 * t) := by rw [show (2 : Int32) = nI 2 from rfl, pk_mul]
        refine mx_if mo_Sy_list 4 (t := 129) (f := 31) rfl trivial (fun q => ?_) (fun (q : ¬ 2 * nI t ≤ nI (2 * t)) => ?_)
        · exact mx_ret_v mo_Sy_list rfl 0 rfl trivial rfl ⟨rfl, rfl⟩
        · rw [e2t] at q; exact absurd (nI_le (Nat.le_refl _) (by omega)) q
      | succ m ih =>
        intro k hm hle v
        obtain ⟨q1, q2, s', q3, q4⟩ := sy_it_inv (t := t) (N := N) hs' (by decide) k
        have r1 : sy_it t N (mx_up M 11 3 (nI (N + 1))) k 1 = M 1 := by rw [q1 1 (by omega), mx_up_off (by decide)]
        exact sy_listK hl ht0 ht6 (by omega) hN (by rw [r1]; exact hf) (by rw [r1]; exact hh) (by rw [q2]; simp [mx_up]) q4 q3 (by rw [r1]; exact htr) (ih (k + 1) (by omega) (by omega)) v
    exact loop (2 * t) 0 (by omega) (by omega)
  refine mx_bd (n0 := 2) hl (by decide +kernel) rfl rfl rfl ?_
  refine mx_cVi mo_Sy_list 1 rfl (ct_Bo_isTriangular hl htr) rfl trivial rfl rfl rfl kv_Sy_27 kd_Bo_isTriangular rfl rfl rfl ?_
  refine mx_if mo_Sy_list 0 (t := 12) (f := 7) rfl trivial (fun h => ?_) (fun h => ?_)
  · rw [if_pos h]
    refine mx_cVi mo_Sy_list 4 (rest := [.ref 11]) rfl (ct_Bo_holes hl) rfl trivial rfl rfl rfl kv_Sy_33 kd_Bo_holes rfl rfl rfl ?_
    rw [if_neg hf, hh]
    exact mx_go mo_Sy_list 3 (pc' := 24) (ls' := [.ref 11, .ref 1, .int (nI 4), .int (nI 0), .null]) (st' := []) (M' := mx_up M 11 3 (nI (N + 1))) rfl trivial (key 4 (by decide) (by decide) _)
  · rw [if_neg h]
    refine mx_cVi mo_Sy_list 5 (rest := [.ref 11]) rfl (ct_Bo_holes hl) rfl trivial rfl rfl rfl kv_Sy_33 kd_Bo_holes rfl rfl rfl ?_
    rw [if_neg hf, hh]
    exact mx_go mo_Sy_list 3 (pc' := 24) (ls' := [.ref 11, .ref 1, .int (nI 6), .int (nI 0), .null]) (st' := []) (M' := mx_up M 11 3 (nI (N + 1))) rfl trivial (key 6 (by decide) (by decide) _)
end SL
end
section
/-! PegBoards$Weights, but its search. -/
section WE
variable {l : Launch} {sc : Nat × (Nat → Int32)} {d : Nat} {M : mx_M}
/-- the class's jumps: n of them, between holes below H -/
def ju_ok (M : mx_M) (n : Nat) (fr ov tt : Nat → Nat) (H : Nat) : Prop := M 5 5 = nI n ∧ n ≤ 120 ∧ ∀ k, k < n → M 6 k = nI (fr k) ∧ M 7 k = nI (ov k) ∧ M 8 k = nI (tt k) ∧ fr k < H ∧ ov k < H ∧ tt k < H
theorem ct_We_forget (hl : l.stackTraces = false) : mx_Ct l (pg_L sc) mY_We_forget (d + 1) 0 [.ref 38] M (mx_rV (pg_fill M 39 20 0)) := by
  refine mx_bd (n0 := 1) hl (by decide +kernel) rfl rfl rfl ?_
  refine mx_cSv mo_We_forget 3 (As := [.ref 39, .int 0]) rfl (ct_fill_39 hl 0) rfl trivial rfl ks_We_18 kd_Ar_fill rfl rfl rfl ?_
  exact mx_ret_v mo_We_forget rfl 0 rfl trivial rfl ⟨rfl, rfl⟩
/-- the sum of the weights of the holes below h that are in the position -/
def we_sum (f : Nat → Int32) (p : Int32) : Nat → Int32
  | 0 => 0
  | h + 1 => if pg_has p (nI h) = 0 then we_sum f p h else we_sum f p h + f h
theorem ct_We_sumOf (hl : l.stackTraces = false) (p : Int32) : mx_Ct l (pg_L sc) mY_We_sumOf (d + 1) 0 [.ref 38, .int p] M (mx_rI (we_sum (M 39) p 20) M) := by
  have loop : ∀ (m h : Nat), 20 - h = m → h ≤ 20 → mx_E l (pg_L sc) mY_We_sumOf (d + 1) 0 (mx_rI (we_sum (M 39) p 20) M) 4 [.ref 38, .int p, .int (we_sum (M 39) p h), .int (nI h)] [] M := by
    intro m
    induction m with
    | zero =>
      intro h hm hle
      have e : h = 20 := by omega
      subst e
      refine mx_if mo_We_sumOf 4 (t := 36) (f := 13) rfl trivial (fun q => ?_) (fun (q : ¬ nI 20 ≤ nI 20) => ?_)
      · exact mx_ret_i mo_We_sumOf rfl 1 rfl trivial rfl ⟨rfl, rfl⟩
      · exact absurd (nI_le (Nat.le_refl 20) (by decide)) q
    | succ m ih =>
      intro h hm hle
      have e : (nI h).toNatClampNeg = h := nI_clamp (by omega)
      have hv : vp_in (nI h) 20 := vp_in_nI (by omega) (by decide)
      refine mx_if mo_We_sumOf 4 (t := 36) (f := 13) rfl trivial (fun (q : nI 20 ≤ nI h) => ?_) (fun q => ?_)
      · exact absurd q (nI_ge (by omega) (by decide))
      refine mx_cNi mo_We_sumOf 2 (As := [.int p, .int (nI h)]) rfl (ct_Pe_contains hl p (nI h)) rfl trivial rfl kn_We_24 kd_Pe_contains rfl rfl rfl ?_
      have hI := ih (h + 1) (by omega) (by omega)
      rw [show we_sum (M 39) p (h + 1) = (if pg_has p (nI h) = 0 then we_sum (M 39) p h else we_sum (M 39) p h + M 39 h) from rfl] at hI
      refine mx_if mo_We_sumOf 0 (t := 30) (f := 21) rfl trivial (fun q2 => ?_) (fun q2 => ?_)
      · rw [if_pos q2] at hI
        refine mx_go mo_We_sumOf 2 (pc' := 4) (ls' := [.ref 38, .int p, .int (we_sum (M 39) p h), .int (nI h + 1)]) (st' := []) (M' := M) rfl trivial ?_
        rw [nI_1]; exact hI
      · rw [if_neg q2] at hI
        refine mx_go mo_We_sumOf 9 (pc' := 4) (ls' := [.ref 38, .int p, .int (we_sum (M 39) p h + M 39 (nI h).toNatClampNeg), .int (nI h + 1)]) (st' := []) (M' := M) rfl ⟨hv, trivial⟩ ?_
        rw [nI_1, e]; exact hI
  refine mx_bd (n0 := 2) hl (by decide +kernel) rfl rfl rfl ?_
  exact mx_go mo_We_sumOf 4 (pc' := 4) (ls' := [.ref 38, .int p, .int 0, .int (nI 0)]) (st' := []) (M' := M) rfl trivial (loop 20 0 (by omega) (by omega))
/-- do the weights f hold at the jumps from k on (m are left) -/
def we_hold (f : Nat → Int32) (fr ov tt : Nat → Nat) : Nat → Nat → Int32
  | 0, _ => 1
  | m + 1, k => if f (tt k) ≤ f (fr k) + f (ov k) then we_hold f fr ov tt m (k + 1) else 0
theorem ct_We_hold (hl : l.stackTraces = false) {n : Nat} {fr ov tt : Nat → Nat} (hj : ju_ok M n fr ov tt 20) : mx_Ct l (pg_L sc) mY_We_hold (d + 1) 0 [.ref 38, .ref 5] M (mx_rI (we_hold (M 39) fr ov tt n 0) M) := by
  obtain ⟨hs, hn, hj⟩ := hj
  have loop : ∀ (m k : Nat), n - k = m → k ≤ n → we_hold (M 39) fr ov tt m k = we_hold (M 39) fr ov tt n 0 → mx_E l (pg_L sc) mY_We_hold (d + 1) 0 (mx_rI (we_hold (M 39) fr ov tt n 0) M) 2 [.ref 38, .ref 5, .int (nI k)] [] M := by
    intro m
    induction m with
    | zero =>
      intro k hm hle he
      have e : k = n := by omega
      subst e
      refine mx_cVi mo_We_hold 2 (rest := [.int (nI k)]) rfl (ct_Ju_size hl) rfl trivial rfl rfl rfl kv_We_28 kd_Ju_size rfl rfl rfl ?_
      rw [hs]
      refine mx_if mo_We_hold 0 (t := 52) (f := 10) rfl trivial (fun q => ?_) (fun q => ?_)
      · exact mx_ret_z mo_We_hold rfl 1 rfl trivial rfl (Or.inr rfl) ⟨by rw [← he]; rfl, rfl⟩
      · exact absurd (nI_le (Nat.le_refl k) (by omega)) q
    | succ m ih =>
      intro k hm hle he
      obtain ⟨j1, j2, j3, j4, j5, j6⟩ := hj k (by omega)
      refine mx_cVi mo_We_hold 2 (rest := [.int (nI k)]) rfl (ct_Ju_size hl) rfl trivial rfl rfl rfl kv_We_28 kd_Ju_size rfl rfl rfl ?_
      rw [hs]
      refine mx_if mo_We_hold 0 (t := 52) (f := 10) rfl trivial (fun q => ?_) (fun q => ?_)
      · exact absurd q (nI_ge (by omega) (by omega))
      refine mx_cVi mo_We_hold 4 (As := [.int (nI k)]) (rest := [.ref 39]) rfl (ct_Ju_to hl (by omega)) rfl trivial rfl rfl rfl kv_We_34 kd_Ju_to rfl rfl rfl ?_
      rw [j3]
      refine mx_go mo_We_hold 5 (pc' := 26) (ls' := [.ref 38, .ref 5, .int (nI k)]) (st' := [.int (nI k), .ref 5, .ref 39, .int (M 39 (nI (tt k)).toNatClampNeg)]) (M' := M) rfl ⟨vp_in_nI j6 (by decide), trivial⟩ ?_
      rw [nI_clamp (n := tt k) (by omega)]
      refine mx_cVi mo_We_hold 0 (As := [.int (nI k)]) (rest := [.ref 39, .int (M 39 (tt k))]) rfl (ct_Ju_from hl (by omega)) rfl trivial rfl rfl rfl kv_We_38 kd_Ju_from rfl rfl rfl ?_
      rw [j1]
      refine mx_go mo_We_hold 5 (pc' := 36) (ls' := [.ref 38, .ref 5, .int (nI k)]) (st' := [.int (nI k), .ref 5, .ref 39, .int (M 39 (nI (fr k)).toNatClampNeg), .int (M 39 (tt k))]) (M' := M) rfl ⟨vp_in_nI j4 (by decide), trivial⟩ ?_
      rw [nI_clamp (n := fr k) (by omega)]
      refine mx_cVi mo_We_hold 0 (As := [.int (nI k)]) (rest := [.ref 39, .int (M 39 (fr k)), .int (M 39 (tt k))]) rfl (ct_Ju_over hl (by omega)) rfl trivial rfl rfl rfl kv_We_41 kd_Ju_over rfl rfl rfl ?_
      rw [j2]
      rw [we_hold] at he
      refine mx_if mo_We_hold 2 (t := 46) (f := 44) rfl ⟨vp_in_nI j5 (by decide), trivial⟩ (fun (q : M 39 (tt k) ≤ M 39 (fr k) + M 39 (nI (ov k)).toNatClampNeg) => ?_) (fun (q : ¬ M 39 (tt k) ≤ M 39 (fr k) + M 39 (nI (ov k)).toNatClampNeg) => ?_)
      · rw [nI_clamp (n := ov k) (by omega)] at q
        rw [if_pos q] at he
        refine mx_go mo_We_hold 2 (pc' := 2) (ls' := [.ref 38, .ref 5, .int (nI k + 1)]) (st' := []) (M' := M) rfl trivial ?_
        rw [nI_1]
        exact ih (k + 1) (by omega) (by omega) he
      · rw [nI_clamp (n := ov k) (by omega)] at q
        rw [if_neg q] at he
        exact mx_ret_z mo_We_hold rfl 1 rfl trivial rfl (Or.inl rfl) ⟨by rw [← he]; rfl, rfl⟩
  refine mx_bd (n0 := 2) hl (by decide +kernel) rfl rfl rfl ?_
  exact mx_go mo_We_hold 2 (pc' := 2) (ls' := [.ref 38, .ref 5, .int (nI 0)]) (st' := []) (M' := M) rfl trivial (loop n 0 (by omega) (by omega) rfl)
def we_mx (a b : Nat) : Nat := if a < b then b else a
theorem we_mx_lt {a b c : Nat} (ha : a < c) (hb : b < c) : we_mx a b < c := by
  unfold we_mx
  split <;> omega
theorem we_mx_I {a b : Nat} (ha : a < 100) (hb : b < 100) : (if nI a < nI b then nI b else nI a) = nI (we_mx a b) := by
  rw [we_mx]
  by_cases h : a < b
  · rw [if_pos (nI_lt h (by omega)), if_pos h]
  · rw [if_neg (by rw [nI_ltI (by omega) (by omega)]; exact h), if_neg h]
/-- do the tried weights hold at the jumps whose last hole is h, from k on (m are left) -/
def we_try (f : Nat → Int32) (fr ov tt : Nat → Nat) (h : Nat) : Nat → Nat → Int32
  | 0, _ => 1
  | m + 1, k => if we_mx (fr k) (we_mx (ov k) (tt k)) = h ∧ ¬ f (tt k) ≤ f (fr k) + f (ov k) then 0 else we_try f fr ov tt h m (k + 1)
theorem ct_We_triedHold (hl : l.stackTraces = false) {n h : Nat} {fr ov tt : Nat → Nat} (hh : h < 8) (hj : ju_ok M n fr ov tt 8) : mx_Ct l (pg_L sc) mY_We_triedHold (d + 1) 0 [.ref 38, .int (nI h), .ref 5] M (mx_rI (we_try (M 40) fr ov tt h n 0) M) := by
  obtain ⟨hs, hn, hj⟩ := hj
  have loop : ∀ (m k : Nat), n - k = m → k ≤ n → we_try (M 40) fr ov tt h m k = we_try (M 40) fr ov tt h n 0 → ∀ x y z : Value, mx_E l (pg_L sc) mY_We_triedHold (d + 1) 0 (mx_rI (we_try (M 40) fr ov tt h n 0) M) 2 [.ref 38, .int (nI h), .ref 5, .int (nI k), x, y, z] [] M := by
    intro m
    induction m with
    | zero =>
      intro k hm hle he x y z
      have e : k = n := by omega
      subst e
      refine mx_cVi mo_We_triedHold 2 (rest := [.int (nI k)]) rfl (ct_Ju_size hl) rfl trivial rfl rfl rfl kv_We_28 kd_Ju_size rfl rfl rfl ?_
      rw [hs]
      refine mx_if mo_We_triedHold 0 (t := 80) (f := 10) rfl trivial (fun q => ?_) (fun q => ?_)
      · exact mx_ret_z mo_We_triedHold rfl 1 rfl trivial rfl (Or.inr rfl) ⟨by rw [← he]; rfl, rfl⟩
      · exact absurd (nI_le (Nat.le_refl k) (by omega)) q
    | succ m ih =>
      intro k hm hle he x y z
      obtain ⟨j1, j2, j3, j4, j5, j6⟩ := hj k (by omega)
      refine mx_cVi mo_We_triedHold 2 (rest := [.int (nI k)]) rfl (ct_Ju_size hl) rfl trivial rfl rfl rfl kv_We_28 kd_Ju_size rfl rfl rfl ?_
      rw [hs]
      refine mx_if mo_We_triedHold 0 (t := 80) (f := 10) rfl trivial (fun q => ?_) (fun q => ?_)
      · exact absurd q (nI_ge (by omega) (by omega))
      refine mx_cVi mo_We_triedHold 2 (As := [.int (nI k)]) (rest := []) rfl (ct_Ju_from hl (by omega)) rfl trivial rfl rfl rfl kv_We_38 kd_Ju_from rfl rfl rfl ?_
      rw [j1]
      refine mx_cVi mo_We_triedHold 3 (As := [.int (nI k)]) (rest := []) rfl (ct_Ju_over hl (by omega)) rfl trivial rfl rfl rfl kv_We_41 kd_Ju_over rfl rfl rfl ?_
      rw [j2]
      refine mx_cVi mo_We_triedHold 3 (As := [.int (nI k)]) (rest := []) rfl (ct_Ju_to hl (by omega)) rfl trivial rfl rfl rfl kv_We_34 kd_Ju_to rfl rfl rfl ?_
      rw [j3]
      refine mx_go mo_We_triedHold 4 (pc' := 37) (ls' := [.ref 38, .int (nI h), .ref 5, .int (nI k), .int (nI (fr k)), .int (nI (ov k)), .int (nI (tt k))]) (st' := [.int (nI (tt k)), .int (nI (ov k)), .int (nI (fr k))]) (M' := M) rfl trivial ?_
      have w1 : we_mx (ov k) (tt k) < 100 := we_mx_lt (by omega) (by omega)
      have w2 : we_mx (fr k) (we_mx (ov k) (tt k)) < 100 := we_mx_lt (by omega) w1
      refine mx_cSi mo_We_triedHold 0 (As := [.int (nI (ov k)), .int (nI (tt k))]) (rest := [.int (nI (fr k))]) rfl (ct_Ma_max hl _ _) rfl trivial rfl ks_We_63 kd_Ma_max rfl rfl rfl ?_
      rw [we_mx_I (by omega) (by omega)]
      refine mx_cSi mo_We_triedHold 0 (As := [.int (nI (fr k)), .int (nI (we_mx (ov k) (tt k)))]) (rest := []) rfl (ct_Ma_max hl _ _) rfl trivial rfl ks_We_63 kd_Ma_max rfl rfl rfl ?_
      rw [we_mx_I (by omega) (by omega)]
      rw [we_try] at he
      have next : we_try (M 40) fr ov tt h m (k + 1) = we_try (M 40) fr ov tt h n 0 → mx_E l (pg_L sc) mY_We_triedHold (d + 1) 0 (mx_rI (we_try (M 40) fr ov tt h n 0) M) 74 [.ref 38, .int (nI h), .ref 5, .int (nI k), .int (nI (fr k)), .int (nI (ov k)), .int (nI (tt k))] [] M := by
        intro he2
        refine mx_go mo_We_triedHold 2 (pc' := 2) (ls' := [.ref 38, .int (nI h), .ref 5, .int (nI k + 1), .int (nI (fr k)), .int (nI (ov k)), .int (nI (tt k))]) (st' := []) (M' := M) rfl trivial ?_
        rw [nI_1]
        exact ih (k + 1) (by omega) (by omega) he2 _ _ _
      refine mx_if mo_We_triedHold 1 (t := 74) (f := 47) rfl trivial (fun q1 => ?_) (fun q1 => ?_)
      · have q2 := fun e => q1 (congrArg nI e)
        rw [if_neg (fun q3 => q2 q3.1)] at he
        exact next he
      · have q2 := (nI_eq (by omega) (by omega)).mp q1
        refine mx_if mo_We_triedHold 13 (t := 74) (f := 72) rfl ⟨vp_in_nI j6 (by decide), vp_in_nI j4 (by decide), vp_in_nI j5 (by decide), trivial⟩ (fun (q3 : M 40 (nI (tt k)).toNatClampNeg ≤ M 40 (nI (fr k)).toNatClampNeg + M 40 (nI (ov k)).toNatClampNeg) => ?_) (fun (q3 : ¬ M 40 (nI (tt k)).toNatClampNeg ≤ M 40 (nI (fr k)).toNatClampNeg + M 40 (nI (ov k)).toNatClampNeg) => ?_)
        · rw [nI_clamp (n := ov k) (by omega), nI_clamp (n := fr k) (by omega), nI_clamp (n := tt k) (by omega)] at q3
          rw [if_neg (fun q4 => q4.2 q3)] at he
          exact next he
        · rw [nI_clamp (n := ov k) (by omega), nI_clamp (n := fr k) (by omega), nI_clamp (n := tt k) (by omega)] at q3
          rw [if_pos ⟨q2, q3⟩] at he
          exact mx_ret_z mo_We_triedHold rfl 1 rfl trivial rfl (Or.inl rfl) ⟨by rw [← he]; rfl, rfl⟩
  refine mx_bd (n0 := 3) hl (by decide +kernel) rfl rfl rfl ?_
  exact mx_go mo_We_triedHold 2 (pc' := 2) (ls' := [.ref 38, .int (nI h), .ref 5, .int (nI 0), .null, .null, .null]) (st' := []) (M' := M) rfl trivial (loop n 0 (by omega) (by omega) rfl _ _ _)
end WE
end
section
/-! how many bits of a number are set, and the way that the JDK counts them -/
section PP
def pp_n : Nat → Nat → Nat
  | 0, _ => 0
  | k + 1, n => n % 2 + pp_n k (n / 2)
theorem pp_and {a m b M : Nat} (ha : a < 256) (hm : m < 256) : (a + 256 * b) &&& (m + 256 * M) = (a &&& m) + 256 * (b &&& M) := by
  have h1 := Nat.and_mod_two_pow (a := a + 256 * b) (b := m + 256 * M) (n := 8)
  have h2 := Nat.and_div_two_pow (a := a + 256 * b) (b := m + 256 * M) (n := 8)
  have e1 : (a + 256 * b) % 2 ^ 8 = a := by omega
  have e2 : (m + 256 * M) % 2 ^ 8 = m := by omega
  have e3 : (a + 256 * b) / 2 ^ 8 = b := by omega
  have e4 : (m + 256 * M) / 2 ^ 8 = M := by omega
  rw [e1, e2] at h1
  rw [e3, e4] at h2
  generalize (a + 256 * b) &&& (m + 256 * M) = X at h1 h2 ⊢
  generalize a &&& m = u at h1 ⊢
  generalize b &&& M = v at h2 ⊢
  omega
def pp_1 (b : Nat) : Nat := b - ((b / 2) &&& 85)
def pp_2 (x : Nat) : Nat := (x &&& 51) + ((x / 4) &&& 51)
theorem pp_t1 : ∀ b, b < 256 → ∀ c, c < 2 → ((b / 2 + 128 * c) &&& 85) = ((b / 2) &&& 85) ∧ ((b / 2) &&& 21845) = ((b / 2) &&& 85) ∧ ((b / 2) &&& 85) ≤ b ∧ pp_1 b < 256 := by decide +kernel
theorem pp_t2 : ∀ x, x < 256 → ∀ c, c < 4 → ((x / 4 + 64 * c) &&& 51) = ((x / 4) &&& 51) ∧ ((x / 4) &&& 13107) = ((x / 4) &&& 51) ∧ (x &&& 13107) = (x &&& 51) := by decide +kernel
theorem pp_t3 : ∀ b, b < 256 → pp_2 (pp_1 b) ≤ 68 ∧ pp_2 (pp_1 b) % 16 ≤ 4 ∧ (pp_2 (pp_1 b) + pp_2 (pp_1 b) / 16) % 16 = pp_n 8 b ∧ pp_n 8 b ≤ 8 := by decide +kernel
theorem pp_t4 : ∀ y, y < 73 → ∀ c, c < 5 → ((y + 16 * c) &&& 15) = y % 16 ∧ ((y + 16 * c) &&& 3855) = ((y + 16 * c) &&& 15) := by decide +kernel
theorem pp_s1 {b0 b1 b2 : Nat} (h0 : b0 < 256) (h1 : b1 < 256) (h2 : b2 < 256) : (b0 + 256 * (b1 + 256 * b2)) - (((b0 + 256 * (b1 + 256 * b2)) / 2) &&& 1431655765) = pp_1 b0 + 256 * (pp_1 b1 + 256 * pp_1 b2) := by
  have e : (b0 + 256 * (b1 + 256 * b2)) / 2 = (b0 / 2 + 128 * (b1 % 2)) + 256 * ((b1 / 2 + 128 * (b2 % 2)) + 256 * (b2 / 2)) := by omega
  have em : 1431655765 = 85 + 256 * (85 + 256 * 21845) := by decide
  rw [e, em, pp_and (by omega) (by decide), pp_and (by omega) (by decide)]
  obtain ⟨q1, -, q3, -⟩ := pp_t1 b0 h0 (b1 % 2) (by omega)
  obtain ⟨r1, -, r3, -⟩ := pp_t1 b1 h1 (b2 % 2) (by omega)
  obtain ⟨-, s2, s3, -⟩ := pp_t1 b2 h2 0 (by omega)
  rw [q1, r1, s2]
  unfold pp_1
  omega
theorem pp_s2 {x0 x1 x2 : Nat} (h0 : x0 < 256) (h1 : x1 < 256) (h2 : x2 < 256) : ((x0 + 256 * (x1 + 256 * x2)) &&& 858993459) + (((x0 + 256 * (x1 + 256 * x2)) / 4) &&& 858993459) = pp_2 x0 + 256 * (pp_2 x1 + 256 * pp_2 x2) := by
  have e : (x0 + 256 * (x1 + 256 * x2)) / 4 = (x0 / 4 + 64 * (x1 % 4)) + 256 * ((x1 / 4 + 64 * (x2 % 4)) + 256 * (x2 / 4)) := by omega
  have em : 858993459 = 51 + 256 * (51 + 256 * 13107) := by decide
  rw [e, em, pp_and (by omega) (by decide), pp_and (by omega) (by decide), pp_and (by omega) (by decide), pp_and (by omega) (by decide)]
  obtain ⟨q1, -, -⟩ := pp_t2 x0 h0 (x1 % 4) (by omega)
  obtain ⟨r1, -, -⟩ := pp_t2 x1 h1 (x2 % 4) (by omega)
  obtain ⟨-, s2, s3⟩ := pp_t2 x2 h2 0 (by omega)
  rw [q1, r1, s2, s3]
  unfold pp_2
  omega
theorem pp_add : ∀ (j k n : Nat), pp_n (j + k) n = pp_n j n + pp_n k (n / 2 ^ j) := by
  intro j
  induction j with
  | zero => intro k n; simp [pp_n]
  | succ j ih =>
    intro k n
    rw [show j + 1 + k = (j + k) + 1 by omega, pp_n, pp_n, ih, Nat.div_div_eq_div_mul, show 2 * 2 ^ j = 2 ^ (j + 1) by rw [Nat.pow_succ]; omega]
    omega
theorem pp_mod : ∀ (j n m : Nat), pp_n j (n + 2 ^ j * m) = pp_n j n := by
  intro j
  induction j with
  | zero => intro n m; rfl
  | succ j ih =>
    intro n m
    have e : 2 ^ (j + 1) * m = 2 * (2 ^ j * m) := by rw [Nat.pow_succ, Nat.mul_comm (2 ^ j) 2, Nat.mul_assoc]
    rw [pp_n, pp_n, e, show (n + 2 * (2 ^ j * m)) / 2 = n / 2 + 2 ^ j * m by omega, ih]
    omega
/-- the JDK's way, at numbers below 2^24 -/
theorem pp_ok {n s1 s2 s3 s4 s5 : Nat} (h : n < 16777216) (e1 : s1 = n - ((n / 2) &&& 1431655765)) (e2 : s2 = (s1 &&& 858993459) + ((s1 / 4) &&& 858993459)) (e3 : s3 = (s2 + s2 / 16) &&& 252645135) (e4 : s4 = s3 + s3 / 256) (e5 : s5 = s4 + s4 / 65536) :
    s1 ≤ n ∧ s2 < 16777216 ∧ s3 < 16777216 ∧ s5 < 33554432 ∧ s5 &&& 63 = pp_n 24 n := by
  obtain ⟨b0, b1, b2, h0, h1, h2, rfl⟩ : ∃ b0 b1 b2, b0 < 256 ∧ b1 < 256 ∧ b2 < 256 ∧ n = b0 + 256 * (b1 + 256 * b2) := ⟨n % 256, n / 256 % 256, n / 65536, by omega, by omega, by omega, by omega⟩
  rw [pp_s1 h0 h1 h2] at e1
  obtain ⟨-, -, -, q0⟩ := pp_t1 b0 h0 0 (by omega)
  obtain ⟨-, -, -, q1⟩ := pp_t1 b1 h1 0 (by omega)
  obtain ⟨-, -, -, q2⟩ := pp_t1 b2 h2 0 (by omega)
  have hs1 : s1 ≤ b0 + 256 * (b1 + 256 * b2) := by rw [e1]; unfold pp_1; omega
  rw [e1, pp_s2 q0 q1 q2] at e2
  obtain ⟨u0, v0, w0, z0⟩ := pp_t3 b0 h0
  obtain ⟨u1, v1, w1, z1⟩ := pp_t3 b1 h1
  obtain ⟨u2, v2, w2, z2⟩ := pp_t3 b2 h2
  have hs2 : s2 < 16777216 := by rw [e2]; omega
  have e6 : pp_n 24 (b0 + 256 * (b1 + 256 * b2)) = pp_n 8 b0 + (pp_n 8 b1 + pp_n 8 b2) := by
    rw [show (24 : Nat) = 8 + (8 + 8) by rfl, pp_add, pp_add]
    have a1 : pp_n 8 (b0 + 256 * (b1 + 256 * b2)) = pp_n 8 b0 := pp_mod 8 b0 (b1 + 256 * b2)
    have a2 : (b0 + 256 * (b1 + 256 * b2)) / 2 ^ 8 = b1 + 256 * b2 := by omega
    have a3 : pp_n 8 (b1 + 256 * b2) = pp_n 8 b1 := pp_mod 8 b1 b2
    have a4 : (b1 + 256 * b2) / 2 ^ 8 = b2 := by omega
    rw [a1, a2, a3, a4]
  rw [e6]
  generalize pp_2 (pp_1 b0) = y0 at *
  generalize pp_2 (pp_1 b1) = y1 at *
  generalize pp_2 (pp_1 b2) = y2 at *
  have e7 : s2 + s2 / 16 = (y0 + y0 / 16 + 16 * (y1 % 16)) + 256 * ((y1 + y1 / 16 + 16 * (y2 % 16)) + 256 * (y2 + y2 / 16)) := by rw [e2]; omega
  have em : 252645135 = 15 + 256 * (15 + 256 * 3855) := by decide
  rw [e7, em, pp_and (by omega) (by decide), pp_and (by omega) (by decide)] at e3
  obtain ⟨x0, -⟩ := pp_t4 (y0 + y0 / 16) (by omega) (y1 % 16) (by omega)
  obtain ⟨x1, -⟩ := pp_t4 (y1 + y1 / 16) (by omega) (y2 % 16) (by omega)
  obtain ⟨x2, x3⟩ := pp_t4 (y2 + y2 / 16) (by omega) 0 (by omega)
  rw [show y2 + y2 / 16 = y2 + y2 / 16 + 16 * 0 by omega, x0, x1, x3, x2, w0, w1, w2] at e3
  generalize pp_n 8 b0 = c0 at *
  generalize pp_n 8 b1 = c1 at *
  generalize pp_n 8 b2 = c2 at *
  have hs3 : s3 < 16777216 := by rw [e3]; omega
  have hs5 : s5 < 33554432 := by omega
  refine ⟨hs1, hs2, hs3, hs5, ?_⟩
  have e8 : s5 &&& 63 = s5 % 64 := Nat.and_two_pow_sub_one_eq_mod s5 6
  rw [e8]
  clear e8 e7 em x0 x1 x2 x3 hs1 e1 q0 q1 q2 e2 hs2 h0 h1 h2 h e6 u0 v0 w0 u1 v1 w1 u2 v2 w2 hs3 hs5
  have f1 : s3 / 256 = c1 + 256 * c2 := by omega
  have f2 : s4 = (c0 + c1) + 256 * (c1 + c2) + 65536 * c2 := by omega
  have f3 : s4 / 65536 = c2 := by omega
  have f4 : s5 = (c0 + c1 + c2) + 64 * (4 * (c1 + c2) + 1024 * c2) := by omega
  omega
end PP
section PQ
variable {l : Launch} {sc : Nat × (Nat → Int32)} {d : Nat} {M : mx_M}
theorem wk_265 : Cond.constant "java/lang/Integer" 265 1431655765 ∈ mx_WS := by decide +kernel
theorem wk_266 : Cond.constant "java/lang/Integer" 266 858993459 ∈ mx_WS := by decide +kernel
theorem wk_267 : Cond.constant "java/lang/Integer" 267 252645135 ∈ mx_WS := by decide +kernel
def pq_u (x s : Int32) : Int32 := (x.toUInt32 >>> (s.toUInt32 &&& Int32.toUInt32 31)).toInt32
def pq_bc (x : Int32) : Int32 :=
  let s1 := x - (pq_u x 1 &&& 1431655765)
  let s2 := (s1 &&& 858993459) + (pq_u s1 2 &&& 858993459)
  let s3 := (s2 + pq_u s2 4) &&& 252645135
  let s4 := s3 + pq_u s3 8
  let s5 := s4 + pq_u s4 16
  s5 &&& 63
theorem ct_In_bitCount (hl : l.stackTraces = false) {LK : mx_L} (x : Int32) : mx_Ct l LK mY_In_bitCount d 0 [.int x] M (mx_rI (pq_bc x) M) := by
  refine mx_bd (n0 := 1) hl (by decide +kernel) rfl rfl rfl ?_
  refine mx_ldw mo_In_bitCount 4 rfl trivial rfl wk_265 ?_
  obtain ⟨s1, h1⟩ : ∃ z, z = x - (pq_u x 1 &&& 1431655765) := ⟨_, rfl⟩
  refine mx_go mo_In_bitCount 4 (pc' := 11) (ls' := [.int (x - (pq_u x 1 &&& 1431655765))]) (st' := [.int (x - (pq_u x 1 &&& 1431655765))]) (M' := M) rfl trivial ?_
  rw [← h1]
  refine mx_ldw mo_In_bitCount 0 rfl trivial rfl wk_266 ?_
  refine mx_ldw mo_In_bitCount 4 rfl trivial rfl wk_266 ?_
  obtain ⟨s2, h2⟩ : ∃ z, z = (s1 &&& 858993459) + (pq_u s1 2 &&& 858993459) := ⟨_, rfl⟩
  refine mx_go mo_In_bitCount 8 (pc' := 29) (ls' := [.int ((s1 &&& 858993459) + (pq_u s1 2 &&& 858993459))]) (st' := [.int (((s1 &&& 858993459) + (pq_u s1 2 &&& 858993459)) + pq_u ((s1 &&& 858993459) + (pq_u s1 2 &&& 858993459)) 4)]) (M' := M) rfl trivial ?_
  rw [← h2]
  refine mx_ldw mo_In_bitCount 0 rfl trivial rfl wk_267 ?_
  obtain ⟨s3, h3⟩ : ∃ z, z = (s2 + pq_u s2 4) &&& 252645135 := ⟨_, rfl⟩
  refine mx_go mo_In_bitCount 2 (pc' := 34) (ls' := [.int ((s2 + pq_u s2 4) &&& 252645135)]) (st' := []) (M' := M) rfl trivial ?_
  rw [← h3]
  obtain ⟨s4, h4⟩ : ∃ z, z = s3 + pq_u s3 8 := ⟨_, rfl⟩
  refine mx_go mo_In_bitCount 6 (pc' := 41) (ls' := [.int (s3 + pq_u s3 8)]) (st' := []) (M' := M) rfl trivial ?_
  rw [← h4]
  refine mx_ret_i mo_In_bitCount rfl 9 (v := (s4 + pq_u s4 16) &&& 63) rfl trivial rfl ⟨?_, rfl⟩
  subst h1; subst h2; subst h3; subst h4
  rfl
theorem pq_and (a b : Nat) : nI a &&& nI b = nI (a &&& b) := by
  apply Int32.toBitVec_inj.mp
  rw [Int32.toBitVec_and]
  show BitVec.ofNat 32 a &&& BitVec.ofNat 32 b = BitVec.ofNat 32 (a &&& b)
  rw [BitVec.ofNat_and]
theorem pq_ok {n : Nat} (h : n < 16777216) : pq_bc (nI n) = nI (pp_n 24 n) := by
  obtain ⟨s1, e1⟩ : ∃ z, z = n - ((n / 2) &&& 1431655765) := ⟨_, rfl⟩
  obtain ⟨s2, e2⟩ : ∃ z, z = (s1 &&& 858993459) + ((s1 / 4) &&& 858993459) := ⟨_, rfl⟩
  obtain ⟨s3, e3⟩ : ∃ z, z = (s2 + s2 / 16) &&& 252645135 := ⟨_, rfl⟩
  obtain ⟨s4, e4⟩ : ∃ z, z = s3 + s3 / 256 := ⟨_, rfl⟩
  obtain ⟨s5, e5⟩ : ∃ z, z = s4 + s4 / 65536 := ⟨_, rfl⟩
  obtain ⟨q1, q2, q3, q5, q6⟩ := pp_ok h e1 e2 e3 e4 e5
  have u1 : pq_u (nI n) 1 = nI (n / 2) := pk_ushrN (by omega) 1 1 (by decide)
  have a1 : nI n - (pq_u (nI n) 1 &&& 1431655765) = nI s1 := by
    rw [u1, show (1431655765 : Int32) = nI 1431655765 from rfl, pq_and, pk_sub (by
      have : (n / 2) &&& 1431655765 ≤ n / 2 := Nat.and_le_left
      omega), e1]
  have u2 : pq_u (nI s1) 2 = nI (s1 / 4) := pk_ushrN (by omega) 2 2 (by decide)
  have a2 : (nI s1 &&& 858993459) + (pq_u (nI s1) 2 &&& 858993459) = nI s2 := by
    rw [u2, show (858993459 : Int32) = nI 858993459 from rfl, pq_and, pq_and, nI_add, e2]
  have u3 : pq_u (nI s2) 4 = nI (s2 / 16) := pk_ushrN (by omega) 4 4 (by decide)
  have a3 : (nI s2 + pq_u (nI s2) 4) &&& 252645135 = nI s3 := by
    rw [u3, show (252645135 : Int32) = nI 252645135 from rfl, nI_add, pq_and, e3]
  have u4 : pq_u (nI s3) 8 = nI (s3 / 256) := pk_ushrN (by omega) 8 8 (by decide)
  have a4 : nI s3 + pq_u (nI s3) 8 = nI s4 := by rw [u4, nI_add, e4]
  have u5 : pq_u (nI s4) 16 = nI (s4 / 65536) := pk_ushrN (by omega) 16 16 (by decide)
  have a5 : nI s4 + pq_u (nI s4) 16 = nI s5 := by rw [u5, nI_add, e5]
  unfold pq_bc
  simp only [a1, a2, a3, a4, a5]
  rw [show (63 : Int32) = nI 63 from rfl, pq_and, q6]
end PQ
end
section
/-! PegBoards$Reaching: the small methods, and going on from one position. -/
section RE
variable {l : Launch} {sc : Nat × (Nat → Int32)} {d : Nat} {M : mx_M}
theorem ct_Re_size (hl : l.stackTraces = false) : mx_Ct l (pg_L sc) mY_Re_size (d + 1) 0 [.ref 27] M (mx_rI (M 28 2) M) := by
  refine mx_bd (n0 := 1) hl (by decide +kernel) rfl rfl rfl ?_
  refine mx_cVi mo_Re_size 2 rfl (ct_Fo0_size hl) rfl trivial rfl rfl rfl kv_Re_45 kd_Fo_size rfl rfl rfl ?_
  exact mx_ret_i mo_Re_size rfl 0 rfl trivial rfl ⟨rfl, rfl⟩
def re_no (M : mx_M) (p : Int32) : Int32 := M 30 (hs_f (M 30) (M 29) p 1024 (fo_h p)) - 1
theorem ct_Re_has (hl : l.stackTraces = false) (hS : fo_ok (M 30)) (p : Int32) : mx_Ct l (pg_L sc) mY_Re_has (d + 3) 0 [.ref 27, .int p] M (mx_rI (if re_no M p = -1 then 0 else 1) M) := by
  refine mx_bd (n0 := 2) hl (by decide +kernel) rfl rfl rfl ?_
  refine mx_cVi mo_Re_has 3 (As := [.int p]) rfl (ct_Fo0_numberOf hl hS p) rfl trivial rfl rfl rfl kv_Re_81 kd_Fo_numberOf rfl rfl rfl ?_
  refine mx_if mo_Re_has 1 (t := 16) (f := 12) rfl trivial (fun (h : re_no M p = -1) => ?_) (fun (h : ¬ re_no M p = -1) => ?_)
  · exact mx_ret_z mo_Re_has rfl 1 rfl trivial rfl (Or.inl rfl) ⟨by rw [if_pos h]; rfl, rfl⟩
  · exact mx_ret_z mo_Re_has rfl 2 rfl trivial rfl (Or.inr rfl) ⟨by rw [if_neg h]; rfl, rfl⟩
theorem ct_Re_fewestMoves (hl : l.stackTraces = false) (hS : fo_ok (M 30)) (p : Int32) (hn : re_no M p = -1 ∨ ∃ i, i < 500 ∧ re_no M p = nI i) : mx_Ct l (pg_L sc) mY_Re_fewestMoves (d + 3) 0 [.ref 27, .int p] M (mx_rI (if re_no M p = -1 then -1 else M 36 (re_no M p).toNatClampNeg) M) := by
  refine mx_bd (n0 := 2) hl (by decide +kernel) rfl rfl rfl ?_
  refine mx_cVi mo_Re_fewestMoves 3 (As := [.int p]) rfl (ct_Fo0_numberOf hl hS p) rfl trivial rfl rfl rfl kv_Re_81 kd_Fo_numberOf rfl rfl rfl ?_
  change mx_E l (pg_L sc) mY_Re_fewestMoves (d + 3) 0 _ 8 [.ref 27, .int p, .null] [.int (re_no M p)] M
  refine mx_if mo_Re_fewestMoves 3 (t := 18) (f := 14) rfl trivial (fun (h : ¬ re_no M p = -1) => ?_) (fun (h : re_no M p = -1) => ?_)
  · obtain ⟨i, hi, ei⟩ := hn.resolve_left h
    refine mx_ret_i mo_Re_fewestMoves rfl 4 (v := M 36 (re_no M p).toNatClampNeg) rfl ⟨by rw [ei]; exact vp_in_nI hi (by decide), trivial⟩ rfl ⟨by rw [if_neg h], rfl⟩
  · exact mx_ret_i mo_Re_fewestMoves rfl 2 rfl trivial rfl ⟨by rw [if_pos h]; rfl, rfl⟩
def re_en (M : mx_M) (t i k : Nat) : mx_M := mx_up (mx_up (mx_up M 34 t (nI i)) 35 t (nI k)) 36 t 20
theorem ct_Re_enter (hl : l.stackTraces = false) {t i k : Nat} (ht : t < 500) : mx_Ct l (pg_L sc) mY_Re_enter d 0 [.ref 27, .int (nI t), .int (nI i), .int (nI k)] M (mx_rV (re_en M t i k)) := by
  have hv : vp_in (nI t) 500 := vp_in_nI ht (by decide)
  have e : (nI t).toNatClampNeg = t := nI_clamp (by omega)
  refine mx_bd (n0 := 4) hl (by decide +kernel) rfl rfl rfl ?_
  refine mx_ret_v mo_Re_enter rfl 15 (M' := mx_up (mx_up (mx_up M 34 (nI t).toNatClampNeg (nI i)) 35 (nI t).toNatClampNeg (nI k)) 36 (nI t).toNatClampNeg 20) rfl ⟨hv, hv, hv, trivial⟩ rfl ⟨rfl, ?_⟩
  rw [e]
  rfl
def re_th (M : mx_M) (a : Nat) (f : Int32) : Int32 := M 36 a + (if pg_has (M 37 a) f = 0 then 1 else 0)
def re_m1 (M : mx_M) (b : Nat) (x : Int32) : mx_M := if M 36 b ≤ x then M else mx_up (mx_up M 36 b x) 37 b 0
def re_m2 (M : mx_M) (b : Nat) (x g : Int32) : mx_M := if x = M 36 b then mx_up M 37 b (M 37 b ||| (1 <<< (g &&& 31))) else M
/-- Reaching.addMoves -/
def re_am (M : mx_M) (a b : Nat) (f g : Int32) : mx_M := re_m2 (re_m1 M b (re_th M a f)) b (re_th M a f) g
theorem ct_Re_addMoves (hl : l.stackTraces = false) {a b : Nat} (ha : a < 500) (hb : b < 500) (f g : Int32) : mx_Ct l (pg_L sc) mY_Re_addMoves (d + 1) 0 [.ref 27, .int (nI a), .int (nI b), .int f, .int g] M (mx_rV (re_am M a b f g)) := by
  have hva : vp_in (nI a) 500 := vp_in_nI ha (by decide)
  have hvb : vp_in (nI b) 500 := vp_in_nI hb (by decide)
  have ea : (nI a).toNatClampNeg = a := nI_clamp (by omega)
  have eb : (nI b).toNatClampNeg = b := nI_clamp (by omega)
  have tail2 : ∀ (x : Int32) (M1 : mx_M), re_m2 M1 b x g = re_am M a b f g → mx_E l (pg_L sc) mY_Re_addMoves (d + 1) 0 (mx_rV (re_am M a b f g)) 53 [.ref 27, .int (nI a), .int (nI b), .int f, .int g, .int x] [] M1 := by
    intro x M1 he
    unfold re_m2 at he
    refine mx_if mo_Re_addMoves 5 (t := 77) (f := 64) rfl ⟨hvb, trivial⟩ (fun (q : ¬ x = M1 36 (nI b).toNatClampNeg) => ?_) (fun (q : x = M1 36 (nI b).toNatClampNeg) => ?_)
    · rw [eb] at q
      rw [if_neg q] at he
      exact mx_ret_v mo_Re_addMoves rfl 0 rfl trivial rfl ⟨rfl, he⟩
    · rw [eb] at q
      rw [if_pos q] at he
      refine mx_ret_v mo_Re_addMoves rfl 10 (M' := mx_up M1 37 (nI b).toNatClampNeg (M1 37 (nI b).toNatClampNeg ||| (1 <<< (g &&& 31)))) rfl ⟨hvb, hvb, trivial⟩ rfl ⟨rfl, ?_⟩
      rw [eb]; exact he
  have tail1 : ∀ x : Int32, x = re_th M a f → mx_E l (pg_L sc) mY_Re_addMoves (d + 1) 0 (mx_rV (re_am M a b f g)) 27 [.ref 27, .int (nI a), .int (nI b), .int f, .int g, .int x] [] M := by
    intro x hx
    refine mx_if mo_Re_addMoves 5 (t := 53) (f := 38) rfl ⟨hvb, trivial⟩ (fun (q : M 36 (nI b).toNatClampNeg ≤ x) => ?_) (fun (q : ¬ M 36 (nI b).toNatClampNeg ≤ x) => ?_)
    · rw [eb] at q
      exact tail2 x M (by rw [re_am, ← hx, re_m1, if_pos q])
    · rw [eb] at q
      refine mx_go mo_Re_addMoves 10 (pc' := 53) (ls' := [.ref 27, .int (nI a), .int (nI b), .int f, .int g, .int x]) (st' := []) (M' := mx_up (mx_up M 36 (nI b).toNatClampNeg x) 37 (nI b).toNatClampNeg 0) rfl ⟨hvb, hvb, trivial⟩ ?_
      rw [eb]
      exact tail2 x _ (by rw [re_am, ← hx, re_m1, if_neg q])
  refine mx_bd (n0 := 5) hl (by decide +kernel) rfl rfl rfl ?_
  refine mx_go mo_Re_addMoves 9 (pc' := 13) (ls' := [.ref 27, .int (nI a), .int (nI b), .int f, .int g, .null]) (st' := [.int f, .int (M 37 (nI a).toNatClampNeg), .int (M 36 (nI a).toNatClampNeg)]) (M' := M) rfl ⟨hva, hva, trivial⟩ ?_
  rw [ea]
  refine mx_cNi mo_Re_addMoves 0 (As := [.int (M 37 a), .int f]) (rest := [.int (M 36 a)]) rfl (ct_Pe_contains hl _ _) rfl trivial rfl kn_Re_77 kd_Pe_contains rfl rfl rfl ?_
  refine mx_if mo_Re_addMoves 0 (t := 23) (f := 19) rfl trivial (fun q => ?_) (fun q => ?_)
  · refine mx_go mo_Re_addMoves 3 (pc' := 27) (ls' := [.ref 27, .int (nI a), .int (nI b), .int f, .int g, .int (M 36 a + 1)]) (st' := []) (M' := M) rfl trivial ?_
    exact tail1 _ (by rw [re_th, if_pos q])
  · refine mx_go mo_Re_addMoves 4 (pc' := 27) (ls' := [.ref 27, .int (nI a), .int (nI b), .int f, .int g, .int (M 36 a + 0)]) (st' := []) (M' := M) rfl trivial ?_
    exact tail1 _ (by rw [re_th, if_neg q])
theorem re_am_off {a b c : Nat} {f g : Int32} (h1 : c ≠ 36) (h2 : c ≠ 37) : re_am M a b f g c = M c := by
  have q1 : ∀ x, re_m1 M b x c = M c := fun x => by
    unfold re_m1
    split
    · rfl
    · rw [mx_up_off h2, mx_up_off h1]
  unfold re_am re_m2
  split
  · rw [mx_up_off h2, q1]
  · rw [q1]
/-- jump k tried from position i, at most L positions -/
def re_k (L i k : Nat) (M : mx_M) : mx_M :=
  if pg_mk (M 29 i) (M 10 k) (M 9 k) = -1 then M else
  if M 30 (hs_f (M 30) (M 29) (pg_mk (M 29 i) (M 10 k) (M 9 k)) 1024 (fo_h (pg_mk (M 29 i) (M 10 k) (M 9 k)))) = 0 then
    (if L ≤ (M 28 2).toNatClampNeg then mx_up M 27 6 1 else
      re_am (re_en (fo0_in M (M 28 2).toNatClampNeg (hs_f (M 30) (M 29) (pg_mk (M 29 i) (M 10 k) (M 9 k)) 1024 (fo_h (pg_mk (M 29 i) (M 10 k) (M 9 k)))) (pg_mk (M 29 i) (M 10 k) (M 9 k))) (M 28 2).toNatClampNeg i k) i (M 28 2).toNatClampNeg (M 6 k) (M 8 k))
  else re_am M i (re_no M (pg_mk (M 29 i) (M 10 k) (M 9 k))).toNatClampNeg (M 6 k) (M 8 k)
/-- the table is right, and has room -/
def re_ok (M : mx_M) (L : Nat) : Prop := L ≤ 500 ∧ (M 27 6 = 0 ∨ M 27 6 = 1) ∧ ∃ n, n ≤ L ∧ M 28 2 = nI n ∧ hs_ok fo_h (M 30) (M 29) n
theorem re_ok_fo {L : Nat} (h : re_ok M L) : fo_ok (M 30) := by
  obtain ⟨h1, -, n, h2, -, h3⟩ := h
  intro t ht
  rcases h3.2.2.1 t ht with q | ⟨i, hi, q⟩
  · exact Or.inl q
  · exact Or.inr ⟨i, by omega, q⟩
theorem re_no_in {L : Nat} (h : re_ok M L) (p : Int32) : (M 30 (hs_f (M 30) (M 29) p 1024 (fo_h p)) = 0 ∧ re_no M p = -1) ∨ ∃ i, i < (M 28 2).toNatClampNeg ∧ M 29 i = p ∧ re_no M p = nI i := by
  obtain ⟨h1, -, n, h2, h3, h4⟩ := h
  obtain ⟨k, -, k2, -, k4⟩ := hs_find h4 p
  have hn : n ≤ 500 := h4.1
  rcases k4 with ⟨q1, -⟩ | ⟨i, hi, q1, q2⟩
  · refine Or.inl ⟨by rw [k2]; exact q1, ?_⟩
    rw [re_no, k2, q1]; decide
  · refine Or.inr ⟨i, by rw [h3, nI_clamp (by omega)]; exact hi, q1, ?_⟩
    rw [re_no, k2, q2, nI_pred]
end RE
end
section
/-! PegBoards$Reaching: run. -/
section RU
variable {l : Launch} {sc : Nat × (Nat → Int32)} {d : Nat} {M : mx_M}
theorem re_en_off {t i k c : Nat} (h1 : c ≠ 34) (h2 : c ≠ 35) (h3 : c ≠ 36) : re_en M t i k c = M c := by
  rw [re_en, mx_up_off h3, mx_up_off h2, mx_up_off h1]
theorem fo0_in_off {n t c : Nat} {p : Int32} (h1 : c ≠ 28) (h2 : c ≠ 29) (h3 : c ≠ 30) : fo0_in M n t p c = M c := by
  rw [fo0_in, mx_up_off h3, mx_up_off h1, mx_up_off h2]
theorem re_k_off {L i k c : Nat} (hc : c < 27 ∨ 37 < c ∨ c = 31 ∨ c = 32 ∨ c = 33) : re_k L i k M c = M c := by
  unfold re_k
  split
  · rfl
  split
  · split
    · rw [mx_up_off (by omega)]
    · rw [re_am_off (by omega) (by omega), re_en_off (by omega) (by omega) (by omega), fo0_in_off (by omega) (by omega) (by omega)]
  · rw [re_am_off (by omega) (by omega)]
/-- what a try leaves right: the table, its old places -/
theorem re_k_ok {L i k : Nat} (h : re_ok M L) : re_ok (re_k L i k M) L ∧ (M 28 2).toNatClampNeg ≤ (re_k L i k M 28 2).toNatClampNeg ∧ ∀ j, j < (M 28 2).toNatClampNeg → re_k L i k M 29 j = M 29 j := by
  have h0 := h
  obtain ⟨h1, h2, n, h3, h4, h5⟩ := h
  have hn : (M 28 2).toNatClampNeg = n := by rw [h4]; exact nI_clamp (by omega)
  unfold re_k
  split
  · exact ⟨h0, Nat.le_refl _, fun _ _ => rfl⟩
  split
  next hq hz =>
    split
    · refine ⟨⟨h1, Or.inr (by simp [mx_up]), n, h3, by rw [mx_up_off (by decide)]; exact h4, by rw [mx_up_off (by decide), mx_up_off (by decide)]; exact h5⟩, by rw [mx_up_off (by decide)]; exact Nat.le_refl _, fun j _ => by rw [mx_up_off (by decide)]⟩
    next hL =>
      rw [hn] at hL ⊢
      generalize pg_mk (M 29 i) (M 10 k) (M 9 k) = q at hq hz ⊢
      have hnew : ∀ j, j < n → ¬ M 29 j = q := by
        intro j hj e
        obtain ⟨k0, -, k2, -, k4⟩ := hs_find h5 q
        rw [k2] at hz
        rcases k4 with ⟨-, q1⟩ | ⟨i0, hi0, -, q2⟩
        · exact q1 j hj e
        · rw [q2] at hz; exact nI_ne0 (n := i0 + 1) (by omega) (by omega) hz
      have hadd := hs_add h5 (by omega) hnew
      have e29 : ∀ t, fo0_in M n t q 29 = upd (M 29) n q := fun t => by
        rw [fo0_in, mx_up_off (by decide), mx_up_off (by decide), mx_up_row]
      have e30 : ∀ t, fo0_in M n t q 30 = upd (M 30) t (nI (n + 1)) := fun t => by
        rw [fo0_in, mx_up_row, mx_up_off (by decide), mx_up_off (by decide)]
      have e28 : ∀ t, fo0_in M n t q 28 2 = nI (n + 1) := fun t => by
        rw [fo0_in, mx_up_off (by decide), mx_up_row]; simp [upd]
      refine ⟨⟨h1, ?_, n + 1, by omega, ?_, ?_⟩, ?_, fun j hj => ?_⟩
      · rw [re_am_off (by decide) (by decide), re_en_off (by decide) (by decide) (by decide), fo0_in_off (by decide) (by decide) (by decide)]; exact h2
      · rw [re_am_off (by decide) (by decide), re_en_off (by decide) (by decide) (by decide), e28]
      · rw [re_am_off (by decide) (by decide), re_en_off (by decide) (by decide) (by decide), re_am_off (by decide) (by decide), re_en_off (by decide) (by decide) (by decide), e29, e30]
        exact hadd
      · rw [re_am_off (by decide) (by decide), re_en_off (by decide) (by decide) (by decide), e28, nI_clamp (by omega)]; omega
      · rw [re_am_off (by decide) (by decide), re_en_off (by decide) (by decide) (by decide), e29]
        simp [upd, show j ≠ n by omega]
  · refine ⟨⟨h1, by rw [re_am_off (by decide) (by decide)]; exact h2, n, h3, by rw [re_am_off (by decide) (by decide)]; exact h4, by rw [re_am_off (by decide) (by decide), re_am_off (by decide) (by decide)]; exact h5⟩, by rw [re_am_off (by decide) (by decide)]; exact Nat.le_refl _, fun j _ => by rw [re_am_off (by decide) (by decide)]⟩
/-- the jumps from k on (m are left), from position i -/
def re_row (L i : Nat) : Nat → Nat → mx_M → mx_M
  | 0, _, M => M
  | m + 1, k, M => if M 27 6 = 0 then re_row L i m (k + 1) (re_k L i k M) else M
theorem ct_Re_goOnFrom (hl : l.stackTraces = false) {L i J : Nat} (hJ : J ≤ 120) (hs : M 5 5 = nI J) (hok : re_ok M L) (hi : i < (M 28 2).toNatClampNeg) : mx_Ct l (pg_L sc) mY_Re_goOnFrom (d + 3) 0 [.ref 27, .int (nI i), .ref 5, .int (nI L)] M (mx_rV (re_row L i J 0 M)) := by
  have hL5 : L ≤ 500 := hok.1
  have hi5 : i < 500 := by
    obtain ⟨-, -, n, h3, h4, -⟩ := hok
    rw [h4, nI_clamp (by omega)] at hi
    omega
  have loop : ∀ (m k : Nat) (M1 : mx_M), J - k = m → k ≤ J → re_ok M1 L → i < (M1 28 2).toNatClampNeg → M1 29 i = M 29 i → M1 5 5 = nI J → re_row L i m k M1 = re_row L i J 0 M → ∀ x y z : Value,
      mx_E l (pg_L sc) mY_Re_goOnFrom (d + 3) 0 (mx_rV (re_row L i J 0 M)) 13 [.ref 27, .int (nI i), .ref 5, .int (nI L), .int (M 29 i), .int (nI k), x, y, z] [] M1 := by
    intro m
    induction m with
    | zero =>
      intro k M1 hm hle hk1 hk2 hk3 hk4 he x y z
      have e : k = J := by omega
      subst e
      refine mx_cVi mo_Re_goOnFrom 2 (rest := [.int (nI k)]) rfl (ct_Ju_size hl) rfl trivial rfl rfl rfl kv_Re_57 kd_Ju_size rfl rfl rfl ?_
      rw [hk4]
      refine mx_if mo_Re_goOnFrom 0 (t := 121) (f := 22) rfl trivial (fun q => ?_) (fun q => ?_)
      · exact mx_ret_v mo_Re_goOnFrom rfl 0 rfl trivial rfl ⟨rfl, he⟩
      · exact absurd (nI_le (Nat.le_refl k) (by omega)) q
    | succ m ih =>
      intro k M1 hm hle hk1 hk2 hk3 hk4 he x y z
      refine mx_cVi mo_Re_goOnFrom 2 (rest := [.int (nI k)]) rfl (ct_Ju_size hl) rfl trivial rfl rfl rfl kv_Re_57 kd_Ju_size rfl rfl rfl ?_
      rw [hk4]
      refine mx_if mo_Re_goOnFrom 0 (t := 121) (f := 22) rfl trivial (fun q => ?_) (fun q => ?_)
      · exact absurd q (nI_ge (by omega) (by omega))
      rw [re_row] at he
      refine mx_if mo_Re_goOnFrom 2 (t := 121) (f := 29) rfl trivial (fun (q1 : ¬ M1 27 6 = 0) => ?_) (fun (q1 : M1 27 6 = 0) => ?_)
      · rw [if_neg q1] at he
        exact mx_ret_v mo_Re_goOnFrom rfl 0 rfl trivial rfl ⟨rfl, he⟩
      rw [if_pos q1] at he
      obtain ⟨r1, r2, r3⟩ := re_k_ok (i := i) (k := k) hk1
      have next : ∀ x y z : Value, mx_E l (pg_L sc) mY_Re_goOnFrom (d + 3) 0 (mx_rV (re_row L i J 0 M)) 115 [.ref 27, .int (nI i), .ref 5, .int (nI L), .int (M 29 i), .int (nI k), x, y, z] [] (re_k L i k M1) := by
        intro x y z
        refine mx_go mo_Re_goOnFrom 2 (pc' := 13) (ls' := [.ref 27, .int (nI i), .ref 5, .int (nI L), .int (M 29 i), .int (nI k + 1), x, y, z]) (st' := []) rfl trivial ?_
        rw [nI_1]
        exact ih (k + 1) _ (by omega) (by omega) r1 (by omega) (by rw [r3 i hk2]; exact hk3) (by rw [re_k_off (by omega)]; exact hk4) he _ _ _
      refine mx_cVi mo_Re_goOnFrom 3 (As := [.int (M 29 i), .int (nI k)]) (rest := []) rfl (ct_Ju_make hl _ (by omega)) rfl trivial rfl rfl rfl kv_Re_60 kd_Ju_make rfl rfl rfl ?_
      have hkeq : re_k L i k M1 = re_k L i k M1 := rfl
      unfold re_k at hkeq next
      rw [hk3] at next
      generalize pg_mk (M 29 i) (M1 10 k) (M1 9 k) = q at next ⊢
      refine mx_if mo_Re_goOnFrom 3 (t := 115) (f := 45) rfl trivial (fun (q2 : q = -1) => ?_) (fun (q2 : ¬ q = -1) => ?_)
      · rw [if_pos q2] at next
        exact next _ _ _
      rw [if_neg q2] at next
      refine mx_cVi mo_Re_goOnFrom 2 (rest := []) rfl (ct_Fo0_size hl) rfl trivial rfl rfl rfl kv_Re_45 kd_Fo_size rfl rfl rfl ?_
      have hfo := re_ok_fo hk1
      have hno := re_no_in hk1 q
      obtain ⟨-, -, n, h3, h4, h5⟩ := hk1
      have hn : (M1 28 2).toNatClampNeg = n := by rw [h4]; exact nI_clamp (by omega)
      rw [hn] at next hno
      rw [h4]
      refine mx_go mo_Re_goOnFrom 5 (pc' := 61) (ls' := [.ref 27, .int (nI i), .ref 5, .int (nI L), .int (M 29 i), .int (nI k), .int q, .int (nI n), z]) (st' := [.int q, .int (nI L), .ref 28]) (M' := M1) rfl trivial ?_
      have last : ∀ (M2 : mx_M) (j : Nat), j < 500 → M2 6 k = M1 6 k → M2 8 k = M1 8 k → (∀ x y z : Value, mx_E l (pg_L sc) mY_Re_goOnFrom (d + 3) 0 (mx_rV (re_row L i J 0 M)) 115 [.ref 27, .int (nI i), .ref 5, .int (nI L), .int (M 29 i), .int (nI k), x, y, z] [] (re_am M2 i j (M1 6 k) (M1 8 k))) →
          mx_E l (pg_L sc) mY_Re_goOnFrom (d + 3) 0 (mx_rV (re_row L i J 0 M)) 96 [.ref 27, .int (nI i), .ref 5, .int (nI L), .int (M 29 i), .int (nI k), .int q, .int (nI n), .int (nI j)] [] M2 := by
        intro M2 j hj e6 e8 nx
        refine mx_cVi mo_Re_goOnFrom 5 (As := [.int (nI k)]) (rest := [.int (nI j), .int (nI i), .ref 27]) rfl (ct_Ju_from hl (by omega)) rfl trivial rfl rfl rfl kv_Re_67 kd_Ju_from rfl rfl rfl ?_
        refine mx_cVi mo_Re_goOnFrom 2 (As := [.int (nI k)]) (rest := [.int (M2 6 k), .int (nI j), .int (nI i), .ref 27]) rfl (ct_Ju_to hl (by omega)) rfl trivial rfl rfl rfl kv_Re_70 kd_Ju_to rfl rfl rfl ?_
        refine mx_cVv mo_Re_goOnFrom 0 (As := [.int (nI i), .int (nI j), .int (M2 6 k), .int (M2 8 k)]) (rest := []) rfl (ct_Re_addMoves hl hi5 hj _ _) rfl trivial rfl rfl rfl kv_Re_73 kd_Re_addMoves rfl rfl rfl ?_
        rw [e6, e8]
        exact nx _ _ _
      rcases hno with ⟨hz, hm1⟩ | ⟨j, hj, hpj, hnj⟩
      · rw [if_pos hz] at next
        by_cases hfull : L ≤ n
        · rw [if_pos hfull] at next
          refine mx_cVi mo_Re_goOnFrom 0 (As := [.int (nI L), .int q]) (rest := []) rfl (ct_Fo0_nwFull hl hfo q h4 (by omega) hfull hz) rfl trivial rfl rfl rfl kv_Re_41 kd_Fo_numberWithin rfl rfl rfl ?_
          refine mx_if mo_Re_goOnFrom 3 (t := 80) (f := 72) rfl trivial (fun (q3 : ¬ (-1 : Int32) = -1) => absurd rfl q3) (fun q3 => ?_)
          exact mx_go mo_Re_goOnFrom 4 (pc' := 115) (ls' := [.ref 27, .int (nI i), .ref 5, .int (nI L), .int (M 29 i), .int (nI k), .int q, .int (nI n), .int (-1)]) (st' := []) (M' := mx_up M1 27 6 1) rfl ⟨Or.inr rfl, trivial⟩ (next _ _ _)
        · rw [if_neg hfull] at next
          refine mx_cVi mo_Re_goOnFrom 0 (As := [.int (nI L), .int q]) (rest := []) rfl (ct_Fo0_nwNew hl hfo q h4 (by omega) (by omega) (by omega) hz) rfl trivial rfl rfl rfl kv_Re_41 kd_Fo_numberWithin rfl rfl rfl ?_
          refine mx_if mo_Re_goOnFrom 3 (t := 80) (f := 72) rfl trivial (fun q3 => ?_) (fun (q3 : nI n = -1) => ?_)
          · refine mx_if mo_Re_goOnFrom 2 (t := 96) (f := 87) rfl trivial (fun q4 => absurd rfl q4) (fun q4 => ?_)
            refine mx_cVv mo_Re_goOnFrom 4 (As := [.int (nI n), .int (nI i), .int (nI k)]) (rest := []) rfl (ct_Re_enter hl (by omega)) rfl trivial rfl rfl rfl kv_Re_63 kd_Re_enter rfl rfl rfl ?_
            refine last _ n (by omega) ?_ ?_ next
            · rw [re_en_off (by decide) (by decide) (by decide), fo0_in_off (by decide) (by decide) (by decide)]
            · rw [re_en_off (by decide) (by decide) (by decide), fo0_in_off (by decide) (by decide) (by decide)]
          · have := nI_pos (n := n) (by omega)
            rw [q3] at this
            exact absurd (by decide) this
      · have hz : ¬ M1 30 (hs_f (M1 30) (M1 29) q 1024 (fo_h q)) = 0 := by
          intro hz
          rw [re_no, hz] at hnj
          have := nI_pos (n := j) (by omega)
          rw [← hnj] at this
          exact this (by decide)
        rw [if_neg hz, hnj, nI_clamp (by omega)] at next
        have hc := ct_Fo0_nwOld (sc := sc) (d := d) hl hfo (nI L) q hz
        rw [show M1 30 (hs_f (M1 30) (M1 29) q 1024 (fo_h q)) - 1 = nI j from hnj] at hc
        refine mx_cVi mo_Re_goOnFrom 0 (As := [.int (nI L), .int q]) (rest := []) rfl hc rfl trivial rfl rfl rfl kv_Re_41 kd_Fo_numberWithin rfl rfl rfl ?_
        refine mx_if mo_Re_goOnFrom 3 (t := 80) (f := 72) rfl trivial (fun q3 => ?_) (fun (q3 : nI j = -1) => ?_)
        · refine mx_if mo_Re_goOnFrom 2 (t := 96) (f := 87) rfl trivial (fun q4 => ?_) (fun (q4 : nI j = nI n) => ?_)
          · exact last M1 j (by omega) rfl rfl next
          · have := (nI_eq (by omega) (by omega)).mp q4
            omega
        · have := nI_pos (n := j) (by omega)
          rw [q3] at this
          exact absurd (by decide) this
  refine mx_bd (n0 := 4) hl (by decide +kernel) rfl rfl rfl ?_
  refine mx_cVi mo_Re_goOnFrom 3 (As := [.int (nI i)]) (rest := []) rfl (ct_Fo0_positionOf hl hi5) rfl trivial rfl rfl rfl kv_Re_53 kd_Fo_positionOf rfl rfl rfl ?_
  exact mx_go mo_Re_goOnFrom 3 (pc' := 13) (ls' := [.ref 27, .int (nI i), .ref 5, .int (nI L), .int (M 29 i), .int (nI 0), .null, .null, .null]) (st' := []) (M' := M) rfl trivial (loop J 0 M (by omega) (by omega) hok hi rfl hs rfl _ _ _)
end RU
end
section
/-! PegBoards$Reaching: run, the whole walk. -/
section RW
variable {l : Launch} {sc : Nat × (Nat → Int32)} {d : Nat} {M : mx_M}
theorem re_row_off {L i c : Nat} (hc : c < 27 ∨ 37 < c ∨ c = 31 ∨ c = 32 ∨ c = 33) : ∀ (m k : Nat) (M : mx_M), re_row L i m k M c = M c := by
  intro m
  induction m with
  | zero => intro k M; rfl
  | succ m ih =>
    intro k M
    rw [re_row]
    split
    · rw [ih, re_k_off hc]
    · rfl
theorem re_row_ok {L i : Nat} : ∀ (m k : Nat) (M : mx_M), re_ok M L → re_ok (re_row L i m k M) L ∧ (M 28 2).toNatClampNeg ≤ (re_row L i m k M 28 2).toNatClampNeg ∧ ∀ j, j < (M 28 2).toNatClampNeg → re_row L i m k M 29 j = M 29 j := by
  intro m
  induction m with
  | zero => intro k M h; exact ⟨h, Nat.le_refl _, fun _ _ => rfl⟩
  | succ m ih =>
    intro k M h
    rw [re_row]
    split
    · obtain ⟨a1, a2, a3⟩ := re_k_ok (i := i) (k := k) h
      obtain ⟨b1, b2, b3⟩ := ih (k + 1) _ a1
      exact ⟨b1, Nat.le_trans a2 b2, fun j hj => by rw [b3 j (by omega), a3 j hj]⟩
    · exact ⟨h, Nat.le_refl _, fun _ _ => rfl⟩
/-- the table emptied, and the start entered -/
def re_e0 (M : mx_M) : mx_M := mx_up (mx_up (pg_fill M 30 1024 0) 28 2 0) 27 6 0
def re_s0 (M : mx_M) (p : Int32) : mx_M := mx_up (mx_up (fo0_in (re_e0 M) 0 (hs_f (re_e0 M 30) (re_e0 M 29) p 1024 (fo_h p)) p) 36 0 0) 37 0 0
/-- the positions from i on (at most m of them) gone through -/
def re_all (L J : Nat) : Nat → Nat → mx_M → mx_M
  | 0, _, M => M
  | m + 1, i, M => if i < (M 28 2).toNatClampNeg then (if M 27 6 = 0 then re_all L J m (i + 1) (re_row L i J 0 M) else M) else M
theorem re_all_off {L J c : Nat} (hc : c < 27 ∨ 37 < c ∨ c = 31 ∨ c = 32 ∨ c = 33) : ∀ (m i : Nat) (M : mx_M), re_all L J m i M c = M c := by
  intro m
  induction m with
  | zero => intro i M; rfl
  | succ m ih =>
    intro i M
    rw [re_all]
    split
    · split
      · rw [ih, re_row_off hc]
      · rfl
    · rfl
theorem re_all_ok {L J : Nat} : ∀ (m i : Nat) (M : mx_M), re_ok M L → re_ok (re_all L J m i M) L ∧ (M 28 2).toNatClampNeg ≤ (re_all L J m i M 28 2).toNatClampNeg ∧ ∀ j, j < (M 28 2).toNatClampNeg → re_all L J m i M 29 j = M 29 j := by
  intro m
  induction m with
  | zero => intro i M h; exact ⟨h, Nat.le_refl _, fun _ _ => rfl⟩
  | succ m ih =>
    intro i M h
    rw [re_all]
    split
    · split
      · obtain ⟨a1, a2, a3⟩ := re_row_ok (i := i) J 0 M h
        obtain ⟨b1, b2, b3⟩ := ih (i + 1) _ a1
        exact ⟨b1, Nat.le_trans a2 b2, fun j hj => by rw [b3 j (by omega), a3 j hj]⟩
      · exact ⟨h, Nat.le_refl _, fun _ _ => rfl⟩
    · exact ⟨h, Nat.le_refl _, fun _ _ => rfl⟩
theorem re_e0_30 {t : Nat} (ht : t < 1024) : re_e0 M 30 t = 0 := by
  rw [re_e0, mx_up_off (by decide), mx_up_off (by decide)]
  simp [pg_fill, mx_row, ht]
theorem re_e0_28 : re_e0 M 28 2 = 0 := by
  rw [re_e0, mx_up_off (by decide), mx_up_row]
  simp [upd]
theorem re_e0_fo : fo_ok (re_e0 M 30) := fun t ht => Or.inl (re_e0_30 ht)
theorem re_s0_off {p : Int32} {c : Nat} (hc : c < 27 ∨ 37 < c ∨ c = 31 ∨ c = 32 ∨ c = 33 ∨ c = 34 ∨ c = 35) : re_s0 M p c = M c := by
  rw [re_s0, mx_up_off (by omega), mx_up_off (by omega), fo0_in_off (by omega) (by omega) (by omega), re_e0, mx_up_off (by omega), mx_up_off (by omega)]
  funext j
  simp [pg_fill, mx_row, show c ≠ 30 by omega]
theorem re_s0_ok {p : Int32} {L : Nat} (h1 : 1 ≤ L) (h5 : L ≤ 500) : re_ok (re_s0 M p) L ∧ re_s0 M p 28 2 = nI 1 ∧ re_s0 M p 29 0 = p ∧ re_s0 M p 27 6 = 0 ∧ re_s0 M p 36 0 = 0 ∧ re_s0 M p 37 0 = 0 := by
  have e28 : re_s0 M p 28 2 = nI 1 := by
    rw [re_s0, mx_up_off (by decide), mx_up_off (by decide), fo0_in, mx_up_off (by decide), mx_up_row]; simp [upd]
  have e29 : re_s0 M p 29 = upd (re_e0 M 29) 0 p := by
    rw [re_s0, mx_up_off (by decide), mx_up_off (by decide), fo0_in, mx_up_off (by decide), mx_up_off (by decide), mx_up_row]
  have e30 : re_s0 M p 30 = upd (re_e0 M 30) (hs_f (re_e0 M 30) (re_e0 M 29) p 1024 (fo_h p)) (nI (0 + 1)) := by
    rw [re_s0, mx_up_off (by decide), mx_up_off (by decide), fo0_in, mx_up_row, mx_up_off (by decide), mx_up_off (by decide)]
  have e27 : re_s0 M p 27 6 = 0 := by
    rw [re_s0, mx_up_off (by decide), mx_up_off (by decide), fo0_in_off (by decide) (by decide) (by decide), re_e0, mx_up_row]; simp [upd]
  refine ⟨⟨h5, Or.inl e27, 1, h1, e28, ?_⟩, e28, by rw [e29]; simp [upd], e27, ?_, ?_⟩
  · rw [e29, e30]
    exact hs_add (hs_nil (fun p => (fo_hx p).2) (fun t ht => re_e0_30 ht)) (by decide) (fun i hi => absurd hi (Nat.not_lt_zero i))
  · rw [re_s0, mx_up_off (by decide), mx_up_row]; simp [upd]
  · rw [re_s0, mx_up_row]; simp [upd]
theorem ct_Re_run (hl : l.stackTraces = false) {L J : Nat} (p : Int32) (h1 : 1 ≤ L) (h5 : L ≤ 500) (hJ : J ≤ 120) (hs : M 5 5 = nI J) : mx_Ct l (pg_L sc) mY_Re_run (d + 4) 0 [.ref 27, .ref 5, .int p, .int (nI L)] M (mx_rV (re_all L J L 0 (re_s0 M p))) := by
  have loop : ∀ (m i : Nat) (M1 : mx_M), L - i = m → i ≤ L → re_ok M1 L → M1 5 5 = nI J → re_all L J m i M1 = re_all L J L 0 (re_s0 M p) →
      mx_E l (pg_L sc) mY_Re_run (d + 4) 0 (mx_rV (re_all L J L 0 (re_s0 M p))) 39 [.ref 27, .ref 5, .int p, .int (nI L), .int (nI i)] [] M1 := by
    intro m
    induction m with
    | zero =>
      intro i M1 hm hle hk1 hk4 he
      have e : i = L := by omega
      subst e
      refine mx_if mo_Re_run 2 (t := 78) (f := 45) rfl trivial (fun q => ?_) (fun q => ?_)
      · exact mx_ret_v mo_Re_run rfl 0 rfl trivial rfl ⟨rfl, he⟩
      · exact absurd (nI_le (Nat.le_refl i) (by omega)) q
    | succ m ih =>
      intro i M1 hm hle hk1 hk4 he
      have hk0 := hk1
      obtain ⟨-, -, n, h3, h4, h5'⟩ := hk1
      have hn : (M1 28 2).toNatClampNeg = n := by rw [h4]; exact nI_clamp (by omega)
      rw [re_all, hn] at he
      refine mx_if mo_Re_run 2 (t := 78) (f := 45) rfl trivial (fun q => ?_) (fun q => ?_)
      · exact absurd q (nI_ge (by omega) (by omega))
      refine mx_cVi mo_Re_run 3 (rest := [.int (nI i)]) rfl (ct_Fo0_size hl) rfl trivial rfl rfl rfl kv_Re_45 kd_Fo_size rfl rfl rfl ?_
      rw [h4]
      refine mx_if mo_Re_run 0 (t := 78) (f := 57) rfl trivial (fun (q : nI n ≤ nI i) => ?_) (fun (q : ¬ nI n ≤ nI i) => ?_)
      · have hni : n ≤ i := by
          by_cases hc : n ≤ i
          · exact hc
          · exact absurd q (nI_ge (by omega) (by omega))
        rw [if_neg (by omega)] at he
        exact mx_ret_v mo_Re_run rfl 0 rfl trivial rfl ⟨rfl, he⟩
      have hin : i < n := by
        by_cases hc : i < n
        · exact hc
        · exact absurd (nI_le (by omega) (by omega)) q
      rw [if_pos hin] at he
      refine mx_if mo_Re_run 2 (t := 78) (f := 64) rfl trivial (fun (q1 : ¬ M1 27 6 = 0) => ?_) (fun (q1 : M1 27 6 = 0) => ?_)
      · rw [if_neg q1] at he
        exact mx_ret_v mo_Re_run rfl 0 rfl trivial rfl ⟨rfl, he⟩
      rw [if_pos q1] at he
      refine mx_cVv mo_Re_run 4 (As := [.int (nI i), .ref 5, .int (nI L)]) (rest := []) rfl (ct_Re_goOnFrom hl hJ hk4 hk0 (by omega)) rfl trivial rfl rfl rfl kv_Re_49 kd_Re_goOnFrom rfl rfl rfl ?_
      refine mx_go mo_Re_run 2 (pc' := 39) (ls' := [.ref 27, .ref 5, .int p, .int (nI L), .int (nI i + 1)]) (st' := []) rfl trivial ?_
      rw [nI_1]
      obtain ⟨a1, a2, a3⟩ := re_row_ok (i := i) J 0 M1 hk0
      exact ih (i + 1) _ (by omega) (by omega) a1 (by rw [re_row_off (by omega)]; exact hk4) he
  refine mx_bd (n0 := 4) hl (by decide +kernel) rfl rfl rfl ?_
  refine mx_cVv mo_Re_run 2 (As := []) (rest := []) rfl (ct_Fo0_forget hl) rfl trivial rfl rfl rfl kv_Re_34 kd_Fo_forget rfl rfl rfl ?_
  refine mx_go mo_Re_run 7 (pc' := 18) (ls' := [.ref 27, .ref 5, .int p, .int (nI L), .null]) (st' := [.int p, .int (nI L), .ref 28]) (M' := re_e0 M) rfl ⟨Or.inl rfl, trivial⟩ ?_
  have hz : re_e0 M 30 (hs_f (re_e0 M 30) (re_e0 M 29) p 1024 (fo_h p)) = 0 := re_e0_30 (hs_lt _ _ (fo_hx p).2)
  refine mx_cVi mo_Re_run 0 (As := [.int (nI L), .int p]) (rest := []) rfl (ct_Fo0_nwNew (n := 0) hl re_e0_fo p (by rw [re_e0_28]; rfl) (by omega) (by omega) (by omega) hz) rfl trivial rfl rfl rfl kv_Re_41 kd_Fo_numberWithin rfl rfl rfl ?_
  refine mx_go mo_Re_run 13 (pc' := 39) (ls' := [.ref 27, .ref 5, .int p, .int (nI L), .int (nI 0)]) (st' := []) (M' := re_s0 M p) rfl ⟨vp_in_nI (n := 0) (N := 500) (by decide) (by decide), vp_in_nI (n := 0) (N := 500) (by decide) (by decide), trivial⟩ ?_
  obtain ⟨a1, -⟩ := re_s0_ok (M := M) (p := p) h1 h5
  exact loop L 0 _ (by omega) (by omega) a1 (by rw [re_s0_off (by omega)]; exact hs) rfl
end RW
end
section
/-! PegBoards$Reaching: a jump on the way, and the different leasts. -/
section WY
variable {l : Launch} {sc : Nat × (Nat → Int32)} {d : Nat} {M : mx_M}
theorem re_jw0 (hl : l.stackTraces = false) (hS : fo_ok (M 30)) (s g i : Int32) (h : re_no M g = -1 ∨ i < 0 ∨ pq_bc s - pq_bc g ≤ i) : mx_Ct l (pg_L sc) mY_Re_jumpOnWay (d + 3) 0 [.ref 27, .int s, .int g, .int i] M (mx_rI (-1) M) := by
  refine mx_bd (n0 := 4) hl (by decide +kernel) rfl rfl rfl ?_
  refine mx_cVi mo_Re_jumpOnWay 3 (As := [.int g]) (rest := []) rfl (ct_Fo0_numberOf hl hS g) rfl trivial rfl rfl rfl kv_Re_81 kd_Fo_numberOf rfl rfl rfl ?_
  change mx_E l (pg_L sc) mY_Re_jumpOnWay (d + 3) 0 _ 8 [.ref 27, .int s, .int g, .int i, .null, .null, .null] [.int (re_no M g)] M
  refine mx_cSi mo_Re_jumpOnWay 2 (As := [.int s]) (rest := []) rfl (ct_In_bitCount hl s) rfl trivial rfl ks_Re_84 kd_In_bitCount rfl rfl rfl ?_
  refine mx_cSi mo_Re_jumpOnWay 1 (As := [.int g]) (rest := [.int (pq_bc s)]) rfl (ct_In_bitCount hl g) rfl trivial rfl ks_Re_84 kd_In_bitCount rfl rfl rfl ?_
  generalize hn : pq_bc s - pq_bc g = n at h
  refine mx_go mo_Re_jumpOnWay 2 (pc' := 21) (ls' := [.ref 27, .int s, .int g, .int i, .int (re_no M g), .int n, .null]) (st' := []) (M' := M) (by rw [← hn]; rfl) trivial ?_
  have fin : mx_E l (pg_L sc) mY_Re_jumpOnWay (d + 3) 0 (mx_rI (-1) M) 37 [.ref 27, .int s, .int g, .int i, .int (re_no M g), .int n, .null] [] M :=
    mx_ret_i mo_Re_jumpOnWay rfl 1 rfl trivial rfl ⟨rfl, rfl⟩
  refine mx_if mo_Re_jumpOnWay 2 (t := 37) (f := 27) rfl trivial (fun _ => fin) (fun (q : ¬ re_no M g = -1) => ?_)
  refine mx_if mo_Re_jumpOnWay 1 (t := 37) (f := 31) rfl trivial (fun _ => fin) (fun (q1 : ¬ i < 0) => ?_)
  refine mx_if mo_Re_jumpOnWay 2 (t := 39) (f := 37) rfl trivial (fun (q2 : i < n) => ?_) (fun _ => fin)
  rcases h with h | h | h
  · exact absurd h q
  · exact absurd h q1
  · exact absurd h (Int32.not_le.mpr q2)
/-- w: the numbers on the way back from the goal -/
theorem re_jw1 (hl : l.stackTraces = false) (hS : fo_ok (M 30)) (s g : Int32) {j n : Nat} {w : Nat → Nat} (hg : re_no M g = nI (w 0)) (hn : pq_bc s - pq_bc g = nI n) (hj : j < n) (hn2 : n < 500) (hw : ∀ m, m ≤ n - 1 - j → w m < 500) (hc : ∀ m, m < n - 1 - j → M 34 (w m) = nI (w (m + 1))) : mx_Ct l (pg_L sc) mY_Re_jumpOnWay (d + 3) 0 [.ref 27, .int s, .int g, .int (nI j)] M (mx_rI (M 35 (w (n - 1 - j))) M) := by
  have loop : ∀ (r m : Nat), n - 1 - j - m = r → m ≤ n - 1 - j → mx_E l (pg_L sc) mY_Re_jumpOnWay (d + 3) 0 (mx_rI (M 35 (w (n - 1 - j))) M) 45 [.ref 27, .int s, .int g, .int (nI j), .int (nI (w m)), .int (nI n), .int (nI (n - 1 - m))] [] M := by
    intro r
    induction r with
    | zero =>
      intro m hm hle
      have e : m = n - 1 - j := by omega
      have hv : vp_in (nI (w m)) 500 := vp_in_nI (hw m hle) (by decide)
      have ev : (nI (w m)).toNatClampNeg = w m := nI_clamp (by have := hw m hle; omega)
      refine mx_if mo_Re_jumpOnWay 2 (t := 66) (f := 51) rfl trivial (fun _ => ?_) (fun (q : ¬ nI (n - 1 - m) ≤ nI j) => ?_)
      · refine mx_ret_i mo_Re_jumpOnWay rfl 4 (v := M 35 (nI (w m)).toNatClampNeg) rfl ⟨hv, trivial⟩ rfl ⟨by rw [ev, e], rfl⟩
      · exact absurd (nI_le (by omega) (by omega)) q
    | succ r ih =>
      intro m hm hle
      have hv : vp_in (nI (w m)) 500 := vp_in_nI (hw m hle) (by decide)
      have ev : (nI (w m)).toNatClampNeg = w m := nI_clamp (by have := hw m hle; omega)
      refine mx_if mo_Re_jumpOnWay 2 (t := 66) (f := 51) rfl trivial (fun (q : nI (n - 1 - m) ≤ nI j) => ?_) (fun _ => ?_)
      · exact absurd q (nI_ge (by omega) (by omega))
      · refine mx_go mo_Re_jumpOnWay 7 (pc' := 45) (ls' := [.ref 27, .int s, .int g, .int (nI j), .int (M 34 (nI (w m)).toNatClampNeg), .int (nI n), .int (nI (n - 1 - m) + (-1))]) (st' := []) (M' := M) rfl ⟨hv, trivial⟩ ?_
        rw [ev, hc m (by omega)]
        have e1 : nI (n - 1 - m) + (-1) = nI (n - 1 - (m + 1)) := by
          rw [show n - 1 - m = (n - 1 - (m + 1)) + 1 by omega, show ∀ x : Int32, x + (-1) = x - 1 from fun x => by rw [Int32.sub_eq_add_neg], nI_pred]
        rw [e1]
        exact ih (m + 1) (by omega) (by omega)
  refine mx_bd (n0 := 4) hl (by decide +kernel) rfl rfl rfl ?_
  refine mx_cVi mo_Re_jumpOnWay 3 (As := [.int g]) (rest := []) rfl (ct_Fo0_numberOf hl hS g) rfl trivial rfl rfl rfl kv_Re_81 kd_Fo_numberOf rfl rfl rfl ?_
  change mx_E l (pg_L sc) mY_Re_jumpOnWay (d + 3) 0 _ 8 [.ref 27, .int s, .int g, .int (nI j), .null, .null, .null] [.int (re_no M g)] M
  rw [hg]
  refine mx_cSi mo_Re_jumpOnWay 2 (As := [.int s]) (rest := []) rfl (ct_In_bitCount hl s) rfl trivial rfl ks_Re_84 kd_In_bitCount rfl rfl rfl ?_
  refine mx_cSi mo_Re_jumpOnWay 1 (As := [.int g]) (rest := [.int (pq_bc s)]) rfl (ct_In_bitCount hl g) rfl trivial rfl ks_Re_84 kd_In_bitCount rfl rfl rfl ?_
  refine mx_go mo_Re_jumpOnWay 2 (pc' := 21) (ls' := [.ref 27, .int s, .int g, .int (nI j), .int (nI (w 0)), .int (nI n), .null]) (st' := []) (M' := M) (by rw [← hn]; rfl) trivial ?_
  have h0 : w 0 < 500 := hw 0 (by omega)
  refine mx_if mo_Re_jumpOnWay 2 (t := 37) (f := 27) rfl trivial (fun (q : nI (w 0) = -1) => ?_) (fun _ => ?_)
  · have := nI_pos (n := w 0) (by omega)
    rw [q] at this
    exact absurd (by decide) this
  refine mx_if mo_Re_jumpOnWay 1 (t := 37) (f := 31) rfl trivial (fun (q1 : nI j < 0) => absurd q1 (nI_pos (by omega))) (fun _ => ?_)
  refine mx_if mo_Re_jumpOnWay 2 (t := 39) (f := 37) rfl trivial (fun _ => ?_) (fun (q2 : ¬ nI j < nI n) => ?_)
  · refine mx_go mo_Re_jumpOnWay 4 (pc' := 45) (ls' := [.ref 27, .int s, .int g, .int (nI j), .int (nI (w 0)), .int (nI n), .int (nI n - 1)]) (st' := []) (M' := M) rfl trivial ?_
    have e1 : nI n - 1 = nI (n - 1 - 0) := by
      rw [show n = (n - 1 - 0) + 1 by omega, nI_pred]; rfl
    rw [e1]
    exact loop (n - 1 - j) 0 (by omega) (by omega)
  · exact absurd (Int32.not_le.mp (nI_ge hj (by omega))) q2
/-- how many different numbers g has before n -/
def le_c (g : Nat → Int32) : Nat → Nat
  | 0 => 0
  | n + 1 => le_c g n + (if ∃ i, i < n ∧ g i = g n then 0 else 1)
def re_l0 (M : mx_M) : mx_M := mx_up (pg_fill M 33 1024 0) 31 2 0
def re_l1 (A : mx_M) (p : Int32) : mx_M := if A 33 (hs_f (A 33) (A 32) p 1024 (fo_h p)) = 0 then fo1_in A (A 31 2).toNatClampNeg (hs_f (A 33) (A 32) p 1024 (fo_h p)) p else A
def re_ls (M : mx_M) (g : Nat → Int32) : Nat → mx_M
  | 0 => re_l0 M
  | n + 1 => re_l1 (re_ls M g n) (g n)
theorem fo1_in_off {n t c : Nat} {p : Int32} (h1 : c ≠ 31) (h2 : c ≠ 32) (h3 : c ≠ 33) : fo1_in M n t p c = M c := by
  rw [fo1_in, mx_up_off h3, mx_up_off h1, mx_up_off h2]
theorem re_ls_off {g : Nat → Int32} {c : Nat} (h1 : c ≠ 31) (h2 : c ≠ 32) (h3 : c ≠ 33) : ∀ n, re_ls M g n c = M c := by
  intro n
  induction n with
  | zero =>
    rw [re_ls, re_l0, mx_up_off h1]
    funext j
    simp [pg_fill, mx_row, h3]
  | succ n ih =>
    rw [re_ls, re_l1]
    split
    · rw [fo1_in_off h1 h2 h3, ih]
    · exact ih
theorem re_ls_ok {g : Nat → Int32} : ∀ n, n ≤ 500 → le_c g n ≤ n ∧ re_ls M g n 31 2 = nI (le_c g n) ∧ hs_ok fo_h (re_ls M g n 33) (re_ls M g n 32) (le_c g n) ∧ ∀ p, (∃ i, i < le_c g n ∧ re_ls M g n 32 i = p) ↔ ∃ i, i < n ∧ g i = p := by
  intro n
  induction n with
  | zero =>
    intro _
    refine ⟨Nat.le_refl _, ?_, ?_, fun p => ?_⟩
    · rw [re_ls, re_l0, mx_up_row]; simp [upd, le_c]; rfl
    · refine hs_nil (fun p => (fo_hx p).2) (fun t ht => ?_)
      rw [re_ls, re_l0, mx_up_off (by decide)]; simp [pg_fill, mx_row, ht]
    · constructor
      · rintro ⟨i, hi, -⟩; exact absurd hi (Nat.not_lt_zero i)
      · rintro ⟨i, hi, -⟩; exact absurd hi (Nat.not_lt_zero i)
  | succ n ih =>
    intro hn
    obtain ⟨a1, a2, a3, a4⟩ := ih (by omega)
    have e28 : (re_ls M g n 31 2).toNatClampNeg = le_c g n := by rw [a2]; exact nI_clamp (by omega)
    obtain ⟨k, -, k2, -, k4⟩ := hs_find a3 (g n)
    rw [le_c, re_ls, re_l1, e28]
    rcases k4 with ⟨q1, q2⟩ | ⟨i, hi, q1, q2⟩
    · have hno : ¬ ∃ i, i < n ∧ g i = g n := fun h => by
        obtain ⟨i, hi, e⟩ := (a4 (g n)).mpr h
        exact q2 i hi e
      rw [if_neg hno, if_pos (by rw [k2]; exact q1)]
      have e32 : ∀ t, fo1_in (re_ls M g n) (le_c g n) t (g n) 32 = upd (re_ls M g n 32) (le_c g n) (g n) := fun t => by
        rw [fo1_in, mx_up_off (by decide), mx_up_off (by decide), mx_up_row]
      have e33 : ∀ t, fo1_in (re_ls M g n) (le_c g n) t (g n) 33 = upd (re_ls M g n 33) t (nI (le_c g n + 1)) := fun t => by
        rw [fo1_in, mx_up_row, mx_up_off (by decide), mx_up_off (by decide)]
      have e31 : ∀ t, fo1_in (re_ls M g n) (le_c g n) t (g n) 31 2 = nI (le_c g n + 1) := fun t => by
        rw [fo1_in, mx_up_off (by decide), mx_up_row]; simp [upd]
      refine ⟨by omega, e31 _, ?_, fun p => ?_⟩
      · rw [e32, e33]
        exact hs_add a3 (by omega) q2
      · rw [e32]
        constructor
        · rintro ⟨i, hi, e⟩
          by_cases hin : i = le_c g n
          · subst hin
            simp [upd] at e
            exact ⟨n, by omega, e⟩
          · simp [upd, hin] at e
            obtain ⟨i', hi', e'⟩ := (a4 p).mp ⟨i, by omega, e⟩
            exact ⟨i', by omega, e'⟩
        · rintro ⟨i, hi, e⟩
          by_cases hin : i = n
          · subst hin
            exact ⟨le_c g i, by omega, by simp [upd, e]⟩
          · obtain ⟨i', hi', e'⟩ := (a4 p).mpr ⟨i, by omega, e⟩
            exact ⟨i', by omega, by simp [upd, show i' ≠ le_c g n by omega, e']⟩
    · have hyes : ∃ i, i < n ∧ g i = g n := (a4 (g n)).mp ⟨i, hi, q1⟩
      rw [if_pos hyes, if_neg (by rw [k2, q2]; exact nI_ne0 (by omega) (by omega))]
      refine ⟨by omega, a2, a3, fun p => ?_⟩
      rw [Nat.add_zero, a4 p]
      constructor
      · rintro ⟨i, hi, e⟩; exact ⟨i, by omega, e⟩
      · rintro ⟨i, hi, e⟩
        by_cases hin : i = n
        · subst hin
          obtain ⟨j, hj, ej⟩ := hyes
          exact ⟨j, hj, by rw [ej, e]⟩
        · exact ⟨i, by omega, e⟩
theorem ct_Re_differentLeasts (hl : l.stackTraces = false) {s n N : Nat} (hn : n ≤ 20) (hs : s ≤ 12) (hh : M 11 3 = nI n) (hss : M 11 4 = nI s) (hN : N ≤ 500) (hf : M 28 2 = nI N) : mx_Ct l (pg_L sc) mY_Re_differentLeasts (d + 3) 0 [.ref 27, .ref 11] M (mx_rI (nI (le_c (fun i => sy_lo M (M 29 i) n s) N)) (re_ls M (fun i => sy_lo M (M 29 i) n s) N)) := by
  generalize hg : (fun i => sy_lo M (M 29 i) n s) = g
  have hgi : ∀ i, sy_lo M (M 29 i) n s = g i := fun i => by rw [← hg]
  have hlo : ∀ (A : mx_M), (∀ c, c < 31 → A c = M c) → ∀ p k, k ≤ 12 → sy_lo A p n k = sy_lo M p n k := by
    intro A hA p k
    induction k with
    | zero => intro _; rfl
    | succ k ih =>
      intro hk
      rw [sy_lo, sy_lo, ih (by omega), hA (13 + k) (by omega)]
  have loop : ∀ (m i : Nat), N - i = m → i ≤ N → mx_E l (pg_L sc) mY_Re_differentLeasts (d + 3) 0 (mx_rI (nI (le_c g N)) (re_ls M g N)) 9 [.ref 27, .ref 11, .int (nI i)] [] (re_ls M g i) := by
    intro m
    induction m with
    | zero =>
      intro i hm hle
      have e : i = N := by omega
      subst e
      obtain ⟨-, a2, -, -⟩ := re_ls_ok (M := M) (g := g) i hN
      refine mx_cVi mo_Re_differentLeasts 3 (rest := [.int (nI i)]) rfl (ct_Fo0_size hl) rfl trivial rfl rfl rfl kv_Re_45 kd_Fo_size rfl rfl rfl ?_
      rw [re_ls_off (by decide) (by decide) (by decide), hf]
      refine mx_if mo_Re_differentLeasts 0 (t := 49) (f := 20) rfl trivial (fun q => ?_) (fun q => ?_)
      · refine mx_cVi mo_Re_differentLeasts 2 (rest := []) rfl (ct_Fo1_size hl) rfl trivial rfl rfl rfl kv_Re_45 kd_Fo_size rfl rfl rfl ?_
        exact mx_ret_i mo_Re_differentLeasts rfl 0 rfl trivial rfl ⟨by rw [a2], rfl⟩
      · exact absurd (nI_le (Nat.le_refl i) (by omega)) q
    | succ m ih =>
      intro i hm hle
      obtain ⟨a1, a2, a3, -⟩ := re_ls_ok (M := M) (g := g) i (by omega)
      have hoff : ∀ c, c < 31 → re_ls M g i c = M c := fun c hc => re_ls_off (by omega) (by omega) (by omega) i
      refine mx_cVi mo_Re_differentLeasts 3 (rest := [.int (nI i)]) rfl (ct_Fo0_size hl) rfl trivial rfl rfl rfl kv_Re_45 kd_Fo_size rfl rfl rfl ?_
      rw [hoff 28 (by decide), hf]
      refine mx_if mo_Re_differentLeasts 0 (t := 49) (f := 20) rfl trivial (fun q => ?_) (fun q => ?_)
      · exact absurd q (nI_ge (by omega) (by omega))
      refine mx_cVi mo_Re_differentLeasts 7 (As := [.int (nI i)]) (rest := [.ref 11, .int (nI 500), .ref 31]) rfl (ct_Fo0_positionOf hl (by omega)) rfl trivial rfl rfl rfl kv_Re_53 kd_Fo_positionOf rfl rfl rfl ?_
      rw [hoff 29 (by decide)]
      refine mx_cVi mo_Re_differentLeasts 0 (As := [.int (M 29 i)]) (rest := [.int (nI 500), .ref 31]) rfl (ct_Sy_leastOf hl hn hs (by rw [hoff 11 (by decide)]; exact hh) (by rw [hoff 11 (by decide)]; exact hss) (M 29 i)) rfl trivial rfl rfl rfl kv_Re_89 kd_Sy_leastOf rfl rfl rfl ?_
      rw [hlo _ hoff _ s hs, hgi i]
      have next : ∀ v : Int32, mx_E l (pg_L sc) mY_Re_differentLeasts (d + 3) 0 (mx_rI (nI (le_c g N)) (re_ls M g N)) 42 [.ref 27, .ref 11, .int (nI i)] [.int v] (re_ls M g (i + 1)) := by
        intro v
        refine mx_go mo_Re_differentLeasts 3 (pc' := 9) (ls' := [.ref 27, .ref 11, .int (nI i + 1)]) (st' := []) rfl trivial ?_
        rw [nI_1]
        exact ih (i + 1) (by omega) (by omega)
      have hfo : fo_ok (re_ls M g i 33) := by
        intro t ht
        rcases a3.2.2.1 t ht with q | ⟨j, hj, q⟩
        · exact Or.inl q
        · exact Or.inr ⟨j, by omega, q⟩
      rw [re_ls, re_l1] at next
      by_cases hz : re_ls M g i 33 (hs_f (re_ls M g i 33) (re_ls M g i 32) (g i) 1024 (fo_h (g i))) = 0
      · rw [if_pos hz, a2, nI_clamp (by omega)] at next
        refine mx_cVi mo_Re_differentLeasts 0 (As := [.int (nI 500), .int (g i)]) (rest := []) rfl (ct_Fo1_nwNew hl hfo (g i) a2 (by omega) (by omega) (by omega) hz) rfl trivial rfl rfl rfl kv_Re_41 kd_Fo_numberWithin rfl rfl rfl ?_
        exact next _
      · rw [if_neg hz] at next
        refine mx_cVi mo_Re_differentLeasts 0 (As := [.int (nI 500), .int (g i)]) (rest := []) rfl (ct_Fo1_nwOld hl hfo (nI 500) (g i) hz) rfl trivial rfl rfl rfl kv_Re_41 kd_Fo_numberWithin rfl rfl rfl ?_
        exact next _
  refine mx_bd (n0 := 2) hl (by decide +kernel) rfl rfl rfl ?_
  refine mx_cVv mo_Re_differentLeasts 2 (As := []) (rest := []) rfl (ct_Fo1_forget hl) rfl trivial rfl rfl rfl kv_Re_34 kd_Fo_forget rfl rfl rfl ?_
  exact mx_go mo_Re_differentLeasts 2 (pc' := 9) (ls' := [.ref 27, .ref 11, .int (nI 0)]) (st' := []) (M' := re_ls M g 0) rfl trivial (loop N 0 (by omega) (by omega))
end WY
end
section
/-! PegBoards$Weights: the search. -/
section WS
variable {l : Launch} {sc : Nat × (Nat → Int32)} {d : Nat} {M : mx_M}
def we_w (rec : Int32 → mx_M → Int32 × mx_M) (T : (Nat → Int32) → Int32) (h : Nat) (ld gn : Int32) : Nat → Nat → mx_M → Int32 × mx_M
  | 0, _, M => (0, M)
  | m + 1, w, M => if T (mx_up M 40 h (nI w) 40) = 0 then we_w rec T h ld gn m (w + 1) (mx_up M 40 h (nI w)) else
    if (rec (ld + nI w * gn) (mx_up M 40 h (nI w))).1 = 0 then we_w rec T h ld gn m (w + 1) (rec (ld + nI w * gn) (mx_up M 40 h (nI w))).2 else (1, (rec (ld + nI w * gn) (mx_up M 40 h (nI w))).2)
/-- Weights.tryFrom: J jumps, H holes -/
def we_tf (fr ov tt : Nat → Nat) (J H : Nat) (s g : Int32) : Nat → Nat → Int32 → mx_M → Int32 × mx_M
  | 0, _, _, M => (0, M)
  | k + 1, h, ld, M => if 0 < ld + 2 * pq_bc ((g &&& (s ^^^ (-1))) >>> (nI h &&& 31)) then (if H ≤ h then (1, M) else
    we_w (we_tf fr ov tt J H s g k (h + 1)) (fun f => we_try f fr ov tt h J 0) h ld (pg_has g (nI h) - pg_has s (nI h)) 3 0 M) else (0, M)
theorem we_w_off {rec : Int32 → mx_M → Int32 × mx_M} {T : (Nat → Int32) → Int32} {h : Nat} {ld gn : Int32} {c : Nat} (hc : c ≠ 40) (hr : ∀ x A, (rec x A).2 c = A c) : ∀ (m w : Nat) (M : mx_M), (we_w rec T h ld gn m w M).2 c = M c := by
  intro m
  induction m with
  | zero => intro w M; rfl
  | succ m ih =>
    intro w M
    rw [we_w]
    split
    · rw [ih, mx_up_off hc]
    · split
      · rw [ih, hr, mx_up_off hc]
      · show (rec _ _).2 c = _
        rw [hr, mx_up_off hc]
theorem we_tf_off {fr ov tt : Nat → Nat} {J H : Nat} {s g : Int32} {c : Nat} (hc : c ≠ 40) : ∀ (k h : Nat) (ld : Int32) (M : mx_M), (we_tf fr ov tt J H s g k h ld M).2 c = M c := by
  intro k
  induction k with
  | zero => intro h ld M; rfl
  | succ k ih =>
    intro h ld M
    rw [we_tf]
    split
    · split
      · rfl
      · exact we_w_off hc (fun x A => ih (h + 1) x A) 3 0 M
    · rfl
theorem we_has01 (p h : Int32) : pg_has p h = 0 ∨ pg_has p h = 1 := by
  unfold pg_has
  split
  · exact Or.inr rfl
  · exact Or.inl rfl
theorem ju_ok_off {A : mx_M} {n : Nat} {fr ov tt : Nat → Nat} {H : Nat} (hj : ju_ok M n fr ov tt H) (h5 : A 5 = M 5) (h6 : A 6 = M 6) (h7 : A 7 = M 7) (h8 : A 8 = M 8) : ju_ok A n fr ov tt H := by
  unfold ju_ok at hj ⊢
  rw [h5, h6, h7, h8]
  exact hj
theorem ct_We_tryFrom (hl : l.stackTraces = false) {J H : Nat} {fr ov tt : Nat → Nat} (hH : H ≤ 8) (s g : Int32) : ∀ (k h : Nat) (ld : Int32) (M : mx_M), H ≤ h + k → h ≤ H → ju_ok M J fr ov tt 8 → mx_Ct l (pg_L sc) mY_We_tryFrom (d + k + 2) 0 [.ref 38, .int (nI h), .int ld, .ref 5, .int (nI H), .int s, .int g] M (mx_rI (we_tf fr ov tt J H s g (k + 1) h ld M).1 (we_tf fr ov tt J H s g (k + 1) h ld M).2) := by
  intro k
  induction k with
  | zero =>
    intro h ld M hk hle hj
    have e : h = H := by omega
    subst e
    refine mx_bd (n0 := 7) hl (by decide +kernel) rfl rfl rfl ?_
    rw [we_tf]
    generalize hx : (g &&& (s ^^^ (-1))) >>> (nI h &&& 31) = x
    refine mx_go mo_We_tryFrom 8 (pc' := 11) (ls' := [.ref 38, .int (nI h), .int ld, .ref 5, .int (nI h), .int s, .int g, .int x, .null, .null]) (st' := []) (M' := M) (by rw [← hx]; rfl) trivial ?_
    refine mx_cSi mo_We_tryFrom 3 (As := [.int x]) (rest := [.int 2, .int ld]) rfl (ct_In_bitCount hl _) rfl trivial rfl ks_We_54 kd_In_bitCount rfl rfl rfl ?_
    refine mx_if mo_We_tryFrom 2 (t := 25) (f := 23) rfl trivial (fun (q : 0 < ld + 2 * pq_bc x) => ?_) (fun (q : ¬ 0 < ld + 2 * pq_bc x) => ?_)
    · rw [if_pos q, if_pos (Nat.le_refl h)]
      refine mx_if mo_We_tryFrom 2 (t := 37) (f := 31) rfl trivial (fun _ => ?_) (fun q => absurd (nI_le (Nat.le_refl h) (by omega)) q)
      exact mx_ret_z mo_We_tryFrom rfl 1 rfl trivial rfl (Or.inr rfl) ⟨rfl, rfl⟩
    · rw [if_neg q]
      exact mx_ret_z mo_We_tryFrom rfl 1 rfl trivial rfl (Or.inl rfl) ⟨rfl, rfl⟩
  | succ k ih =>
    intro h ld M hk hle hj
    refine mx_bd (n0 := 7) hl (by decide +kernel) rfl rfl rfl ?_
    rw [we_tf]
    generalize hx : (g &&& (s ^^^ (-1))) >>> (nI h &&& 31) = x
    refine mx_go mo_We_tryFrom 8 (pc' := 11) (ls' := [.ref 38, .int (nI h), .int ld, .ref 5, .int (nI H), .int s, .int g, .int x, .null, .null]) (st' := []) (M' := M) (by rw [← hx]; rfl) trivial ?_
    refine mx_cSi mo_We_tryFrom 3 (As := [.int x]) (rest := [.int 2, .int ld]) rfl (ct_In_bitCount hl _) rfl trivial rfl ks_We_54 kd_In_bitCount rfl rfl rfl ?_
    refine mx_if mo_We_tryFrom 2 (t := 25) (f := 23) rfl trivial (fun (q : 0 < ld + 2 * pq_bc x) => ?_) (fun (q : ¬ 0 < ld + 2 * pq_bc x) => ?_)
    · rw [if_pos q]
      by_cases hc : H ≤ h
      · rw [if_pos hc]
        refine mx_if mo_We_tryFrom 2 (t := 37) (f := 31) rfl trivial (fun _ => ?_) (fun q => absurd (nI_le hc (by omega)) q)
        exact mx_ret_z mo_We_tryFrom rfl 1 rfl trivial rfl (Or.inr rfl) ⟨rfl, rfl⟩
      rw [if_neg hc]
      refine mx_if mo_We_tryFrom 2 (t := 37) (f := 31) rfl trivial (fun q => absurd q (nI_ge (by omega) (by omega))) (fun _ => ?_)
      refine mx_if mo_We_tryFrom 2 (t := 39) (f := 37) rfl trivial (fun _ => ?_) (fun (q : ¬ nI h < nI 8) => absurd (Int32.not_le.mp (nI_ge (by omega) (by decide))) q)
      have hv : vp_in (nI h) 8 := vp_in_nI (by omega) (by decide)
      have ev : (nI h).toNatClampNeg = h := nI_clamp (by omega)
      generalize hres : we_w (we_tf fr ov tt J H s g (k + 1) (h + 1)) (fun f => we_try f fr ov tt h J 0) h ld (pg_has g (nI h) - pg_has s (nI h)) 3 0 M = res
      generalize hgn : pg_has g (nI h) - pg_has s (nI h) = gn at hres
      have loop : ∀ (m w : Nat) (M1 : mx_M), 3 - w = m → w ≤ 3 → ju_ok M1 J fr ov tt 8 → we_w (we_tf fr ov tt J H s g (k + 1) (h + 1)) (fun f => we_try f fr ov tt h J 0) h ld gn m w M1 = res →
          mx_E l (pg_L sc) mY_We_tryFrom (d + (k + 1) + 2) 0 (mx_rI res.1 res.2) 73 [.ref 38, .int (nI h), .int ld, .ref 5, .int (nI H), .int s, .int g, .int x, .int gn, .int (nI w)] [] M1 := by
        intro m
        induction m with
        | zero =>
          intro w M1 hm hw hj1 he
          have e : w = 3 := by omega
          subst e
          refine mx_if mo_We_tryFrom 2 (t := 128) (f := 79) rfl trivial (fun _ => ?_) (fun (q : ¬ (2 : Int32) < nI 3) => absurd (by decide) q)
          rw [← he]
          exact mx_ret_z mo_We_tryFrom rfl 1 rfl trivial rfl (Or.inl rfl) ⟨rfl, rfl⟩
        | succ m ihm =>
          intro w M1 hm hw hj1 he
          refine mx_if mo_We_tryFrom 2 (t := 128) (f := 79) rfl trivial (fun (q : nI 2 < nI w) => absurd (nI_le (by omega) (by decide)) (Int32.not_le.mpr q)) (fun _ => ?_)
          refine mx_go mo_We_tryFrom 8 (pc' := 90) (ls' := [.ref 38, .int (nI h), .int ld, .ref 5, .int (nI H), .int s, .int g, .int x, .int gn, .int (nI w)]) (st' := [.ref 5, .int (nI h), .ref 38]) (M' := mx_up M1 40 (nI h).toNatClampNeg (nI w)) rfl ⟨hv, trivial⟩ ?_
          rw [ev]
          have hj2 : ju_ok (mx_up M1 40 h (nI w)) J fr ov tt 8 := ju_ok_off hj1 (by rw [mx_up_off (by decide)]) (by rw [mx_up_off (by decide)]) (by rw [mx_up_off (by decide)]) (by rw [mx_up_off (by decide)])
          have next : ∀ A : mx_M, ju_ok A J fr ov tt 8 → we_w (we_tf fr ov tt J H s g (k + 1) (h + 1)) (fun f => we_try f fr ov tt h J 0) h ld gn m (w + 1) A = res → mx_E l (pg_L sc) mY_We_tryFrom (d + (k + 1) + 2) 0 (mx_rI res.1 res.2) 122 [.ref 38, .int (nI h), .int ld, .ref 5, .int (nI H), .int s, .int g, .int x, .int gn, .int (nI w)] [] A := by
            intro A hA heA
            refine mx_go mo_We_tryFrom 2 (pc' := 73) (ls' := [.ref 38, .int (nI h), .int ld, .ref 5, .int (nI H), .int s, .int g, .int x, .int gn, .int (nI w + 1)]) (st' := []) (M' := A) rfl trivial ?_
            rw [nI_1]
            exact ihm (w + 1) A (by omega) (by omega) hA heA
          rw [we_w] at he
          generalize mx_up M1 40 h (nI w) = A at hj2 he ⊢
          refine mx_cVi mo_We_tryFrom 0 (As := [.int (nI h), .ref 5]) (rest := []) rfl (ct_We_triedHold (d := d + k + 1) hl (by omega) hj2) rfl trivial rfl rfl rfl kv_We_59 kd_We_triedHold rfl rfl rfl ?_
          refine mx_if mo_We_tryFrom 0 (t := 122) (f := 96) rfl trivial (fun q => ?_) (fun q => ?_)
          · rw [if_pos q] at he
            exact next A hj2 he
          rw [if_neg q] at he
          refine mx_go mo_We_tryFrom 13 (pc' := 114) (ls' := [.ref 38, .int (nI h), .int ld, .ref 5, .int (nI H), .int s, .int g, .int x, .int gn, .int (nI w)]) (st' := [.int g, .int s, .int (nI H), .ref 5, .int (ld + nI w * gn), .int (nI h + 1), .ref 38]) (M' := A) rfl trivial ?_
          rw [nI_1]
          refine mx_cVi mo_We_tryFrom 0 (As := [.int (nI (h + 1)), .int (ld + nI w * gn), .ref 5, .int (nI H), .int s, .int g]) (rest := []) rfl (ih (h + 1) (ld + nI w * gn) A (by omega) (by omega) hj2) rfl trivial rfl rfl rfl kv_We_44 kd_We_tryFrom rfl rfl rfl ?_
          have hj3 : ju_ok (we_tf fr ov tt J H s g (k + 1) (h + 1) (ld + nI w * gn) A).2 J fr ov tt 8 := ju_ok_off hj2 (we_tf_off (by decide) _ _ _ _) (we_tf_off (by decide) _ _ _ _) (we_tf_off (by decide) _ _ _ _) (we_tf_off (by decide) _ _ _ _)
          generalize we_tf fr ov tt J H s g (k + 1) (h + 1) (ld + nI w * gn) A = r at hj3 he ⊢
          refine mx_if mo_We_tryFrom 0 (t := 122) (f := 120) rfl trivial (fun q1 => ?_) (fun q1 => ?_)
          · rw [if_pos q1] at he
            exact next _ hj3 he
          · rw [if_neg q1] at he
            rw [← he]
            exact mx_ret_z mo_We_tryFrom rfl 1 rfl trivial rfl (Or.inr rfl) ⟨rfl, rfl⟩
      refine mx_cNi mo_We_tryFrom 2 (As := [.int g, .int (nI h)]) (rest := []) rfl (ct_Pe_contains hl _ _) rfl trivial rfl kn_We_24 kd_Pe_contains rfl rfl rfl ?_
      have mid : ∀ a : Int32, a = pg_has g (nI h) → mx_E l (pg_L sc) mY_We_tryFrom (d + (k + 1) + 2) 0 (mx_rI res.1 res.2) 53 [.ref 38, .int (nI h), .int ld, .ref 5, .int (nI H), .int s, .int g, .int x, .null, .null] [.int a] M := by
        intro a ha
        refine mx_cNi mo_We_tryFrom 2 (As := [.int s, .int (nI h)]) (rest := [.int a]) rfl (ct_Pe_contains hl _ _) rfl trivial rfl kn_We_24 kd_Pe_contains rfl rfl rfl ?_
        refine mx_if mo_We_tryFrom 0 (t := 66) (f := 62) rfl trivial (fun q => ?_) (fun q => ?_)
        · refine mx_go mo_We_tryFrom 5 (pc' := 73) (ls' := [.ref 38, .int (nI h), .int ld, .ref 5, .int (nI H), .int s, .int g, .int x, .int (a - 0), .int (nI 0)]) (st' := []) (M' := M) rfl trivial ?_
          rw [ha, show (0 : Int32) = pg_has s (nI h) from q.symm, hgn]
          exact loop 3 0 M (by omega) (by omega) hj hres
        · refine mx_go mo_We_tryFrom 6 (pc' := 73) (ls' := [.ref 38, .int (nI h), .int ld, .ref 5, .int (nI H), .int s, .int g, .int x, .int (a - 1), .int (nI 0)]) (st' := []) (M' := M) rfl trivial ?_
          rw [ha, show (1 : Int32) = pg_has s (nI h) from ((we_has01 s (nI h)).resolve_left q).symm, hgn]
          exact loop 3 0 M (by omega) (by omega) hj hres
      refine mx_if mo_We_tryFrom 0 (t := 52) (f := 48) rfl trivial (fun q => ?_) (fun q => ?_)
      · exact mx_go mo_We_tryFrom 1 (pc' := 53) (ls' := [.ref 38, .int (nI h), .int ld, .ref 5, .int (nI H), .int s, .int g, .int x, .null, .null]) (st' := [.int 0]) (M' := M) rfl trivial (mid 0 q.symm)
      · exact mx_go mo_We_tryFrom 2 (pc' := 53) (ls' := [.ref 38, .int (nI h), .int ld, .ref 5, .int (nI H), .int s, .int g, .int x, .null, .null]) (st' := [.int 1]) (M' := M) rfl trivial (mid 1 ((we_has01 g (nI h)).resolve_left q).symm)
    · rw [if_neg q]
      exact mx_ret_z mo_We_tryFrom rfl 1 rfl trivial rfl (Or.inl rfl) ⟨rfl, rfl⟩
theorem wc_We_48 : Cond.methodLink "PegBoards$Weights" 48 arraycopyName ∈ mx_WS ∧ Cond.native arraycopyName ∈ mx_WS ∧ Cond.static arraycopyName ∈ mx_WS ∧ Cond.initialized "java/lang/System" ∈ mx_WS := by decide +kernel
/-- Weights.search -/
def we_sr (r : Int32 × mx_M) (H : Nat) : mx_M := if r.1 = 0 then r.2 else mx_row r.2 39 (va_cpy (r.2 40) (r.2 39) 0 0 H)
theorem ct_We_search (hl : l.stackTraces = false) {J H : Nat} {fr ov tt : Nat → Nat} (hH : H ≤ 8) (s g : Int32) (hj : ju_ok M J fr ov tt 8) : mx_Ct l (pg_L sc) mY_We_search (d + 11) 0 [.ref 38, .ref 5, .int (nI H), .int s, .int g] M (mx_rI (if (we_tf fr ov tt J H s g 9 0 0 M).1 = 0 then 0 else 1) (we_sr (we_tf fr ov tt J H s g 9 0 0 M) H)) := by
  refine mx_bd (n0 := 5) hl (by decide +kernel) rfl rfl rfl ?_
  refine mx_cVi mo_We_search 7 (As := [.int (nI 0), .int 0, .ref 5, .int (nI H), .int s, .int g]) (rest := []) rfl (ct_We_tryFrom hl hH s g 8 0 0 M (by omega) (by omega) hj) rfl trivial rfl rfl rfl kv_We_44 kd_We_tryFrom rfl rfl rfl ?_
  show mx_E l (pg_L sc) mY_We_search (d + 11) 0 _ _ _ [.int (we_tf fr ov tt J H s g 9 0 0 M).1] (we_tf fr ov tt J H s g 9 0 0 M).2
  generalize we_tf fr ov tt J H s g 9 0 0 M = r
  refine mx_if mo_We_search 0 (t := 16) (f := 14) rfl trivial (fun (q : ¬ r.1 = 0) => ?_) (fun (q : r.1 = 0) => ?_)
  · refine mx_cpy mo_We_search 7 (idx := 48) (a0 := 40) (a1 := 39) (sp := 0) (dp := 0) (cn := nI H) (rest := []) rfl trivial rfl wc_We_48 rfl rfl rfl (by decide) (by decide) (nI_pos (by omega)) ?_ ?_ ?_
    · rw [nI_clamp (by omega)]; show 0 + H ≤ 8; omega
    · rw [nI_clamp (by omega)]; show 0 + H ≤ 20; omega
    · rw [nI_clamp (by omega)]
      exact mx_ret_z mo_We_search rfl 1 rfl trivial rfl (Or.inr rfl) ⟨by rw [if_neg q]; rfl, by rw [we_sr, if_neg q]; rfl⟩
  · exact mx_ret_z mo_We_search rfl 1 rfl trivial rfl (Or.inl rfl) ⟨by rw [if_pos q]; rfl, by rw [we_sr, if_pos q]⟩
end WS
end
section
/-! PegBoards: refusals, and the small methods of its face. -/
section FA
variable {l : Launch} {sc : Nat × (Nat → Int32)} {d n n' : Nat} {M : mx_M}
def mx_rA (r : mx_R) (M' : mx_M) : mx_R → mx_M → Prop := fun r2 M2 => r2 = r ∧ M2 = M'
abbrev xIA : String := "java/lang/IllegalArgumentException"
abbrev xIS : String := "java/lang/IllegalStateException"
abbrev xIO : String := "java/lang/IndexOutOfBoundsException"
theorem tw_IA : mx_tw "PegBoards" 68 xIA = true := by decide +kernel
theorem tw_IS : mx_tw "PegBoards" 78 xIS = true := by decide +kernel
theorem tw_IO : mx_tw "PegBoards" 122 xIO = true := by decide +kernel
section
variable {LK : mx_L} {Y Y' : mx_Y} {Q : mx_R → mx_M → Prop} {fl : mx_F} {tab : mx_B} {pc : Nat} {ls st : List Value}
/-- a call that may be refused, of a method without an answer -/
theorem mx_cVr (hok : mx_ok Y fl tab) (k : Nat) {P C : Prop} [Decidable C] {E : String} {pc' b ci idx n0 : Nat} {ls' As rest : List Value} {M' M3 : mx_M} {fs : List (Option Nat)} {T0 : u_T} {N : Nat} (hh : mx_hh Y = []) (hM : mx_Ct l LK Y' d n' (.ref b :: As) M' (mx_rA (if C then .inl none else .inr E) M3))
    (h : mx_run fl LK tab k pc ls st M = some (P, pc', ls', As.reverse ++ .ref b :: rest, M')) (hP : P) (hd : tab.lookup pc' = some (.invokevirtual idx, 3)) (hb : LK.1[b]? = some (.inr (.inl (ci, fs)))) (hcl : vwCl[ci]? = some ((mx_nm Y').cls, T0, N))
    (hc : mx_cvb (mx_ow Y) idx Y' = true) (hc2 : mx_cdb Y' n0 = true) (hw : mx_ws Y' = Cond.code (mx_nm Y') (mx_bs Y') (mx_ml Y') (mx_rt Y') :: mx_WS) (hn : As.length = n0) (hr : Nat.ble (mx_w rest) 8 = true)
    (kr : C → mx_E l LK Y (d + 1) n Q (pc' + 3) ls' rest M3) (kx : ¬ C → Q (.inr E) M3) : mx_E l LK Y (d + 1) (n + n') Q pc ls st M := by
  refine mx_cV hok k hh hM h hP hd hb hcl hc hc2 hw hn hr (fun v2 M2 q => ?_) (fun E2 M2 q => ?_)
  · obtain ⟨q1, rfl⟩ := q
    by_cases c : C
    · rw [if_pos c] at q1
      cases q1
      exact kr c
    · rw [if_neg c] at q1
      cases q1
  · obtain ⟨q1, rfl⟩ := q
    by_cases c : C
    · rw [if_pos c] at q1
      cases q1
    · rw [if_neg c] at q1
      cases q1
      exact kx c
end
theorem ct_Pe_requireFrozen (hl : l.stackTraces = false) (h : M 1 4 = 0 ∨ M 1 4 = 1) : mx_Ct l (pg_L sc) mY_Pe_requireFrozen (d + 1) 1 [.ref 0] M (mx_rA (if ¬ M 1 4 = 0 then .inl none else .inr xIS) M) := by
  refine mx_bd (n0 := 1) hl (by decide +kernel) rfl rfl rfl ?_
  refine mx_cVi mo_Pe_requireFrozen 2 (rest := []) rfl (ct_Bo_isFrozen hl h) rfl trivial rfl rfl rfl kv_Pe_205 kd_Bo_isFrozen rfl rfl rfl ?_
  refine mx_if mo_Pe_requireFrozen 0 (t := 20) (f := 10) rfl trivial (fun q => ?_) (fun q => ?_)
  · exact mx_ret_v mo_Pe_requireFrozen rfl 0 rfl trivial rfl ⟨by rw [if_pos q], rfl⟩
  · exact mx_thr (n := 0) mo_Pe_requireFrozen 0 (cls := xIS) (text := "the board is not frozen") rfl rfl trivial rfl rfl rfl rfl rfl tw_IS (by decide +kernel) ⟨by rw [if_neg (fun c => c q)], rfl⟩
def pe_all (M : mx_M) : Int32 := (1 <<< ((if M 1 4 = 0 then 0 else M 1 5) &&& 31)) - 1
theorem ct_Pe_requirePosition (hl : l.stackTraces = false) (p : Int32) : mx_Ct l (pg_L sc) mY_Pe_requirePosition (d + 2) 1 [.ref 0, .int p] M (mx_rA (if p &&& (pe_all M ^^^ (-1)) = 0 then .inl none else .inr xIA) M) := by
  refine mx_bd (n0 := 2) hl (by decide +kernel) rfl rfl rfl ?_
  refine mx_cVi mo_Pe_requirePosition 3 (rest := [.int p]) rfl (ct_Bo_allHoles hl) rfl trivial rfl rfl rfl kv_Pe_210 kd_Bo_allHoles rfl rfl rfl ?_
  change mx_E l (pg_L sc) mY_Pe_requirePosition (d + 2) 1 _ 8 [.ref 0, .int p] [.int (pe_all M), .int p] M
  refine mx_if mo_Pe_requirePosition 3 (t := 24) (f := 14) rfl trivial (fun (q : p &&& (pe_all M ^^^ (-1)) = 0) => ?_) (fun (q : ¬ p &&& (pe_all M ^^^ (-1)) = 0) => ?_)
  · exact mx_ret_v mo_Pe_requirePosition rfl 0 rfl trivial rfl ⟨by rw [if_pos q], rfl⟩
  · exact mx_thr (n := 0) mo_Pe_requirePosition 0 (cls := xIA) (text := "the position has a hole that there is none") rfl rfl trivial rfl rfl rfl rfl rfl tw_IA (by decide +kernel) ⟨by rw [if_neg q], rfl⟩
theorem ct_Pe_requireJump (hl : l.stackTraces = false) (k : Int32) : mx_Ct l (pg_L sc) mY_Pe_requireJump (d + 1) 1 [.ref 0, .int k] M (mx_rA (if ¬ k < 0 ∧ k < M 5 5 then .inl none else .inr xIO) M) := by
  refine mx_bd (n0 := 2) hl (by decide +kernel) rfl rfl rfl ?_
  have fin : ¬ (¬ k < 0 ∧ k < M 5 5) → mx_E l (pg_L sc) mY_Pe_requireJump (d + 1) 1 (mx_rA (if ¬ k < 0 ∧ k < M 5 5 then .inl none else .inr xIO) M) 15 [.ref 0, .int k] [] M :=
    fun q => mx_thr (n := 0) mo_Pe_requireJump 0 (cls := xIO) (text := "no such jump") rfl rfl trivial rfl rfl rfl rfl rfl tw_IO (by decide +kernel) ⟨by rw [if_neg q], rfl⟩
  refine mx_if mo_Pe_requireJump 1 (t := 15) (f := 4) rfl trivial (fun q => fin (fun c => c.1 q)) (fun q => ?_)
  refine mx_cVi mo_Pe_requireJump 3 (rest := [.int k]) rfl (ct_Ju_size hl) rfl trivial rfl rfl rfl kv_Pe_97 kd_Ju_size rfl rfl rfl ?_
  refine mx_if mo_Pe_requireJump 0 (t := 25) (f := 15) rfl trivial (fun q2 => ?_) (fun q2 => fin (fun c => q2 c.2))
  exact mx_ret_v mo_Pe_requireJump rfl 0 rfl trivial rfl ⟨by rw [if_pos ⟨q, q2⟩], rfl⟩
theorem ct_Pe_requireHole (hl : l.stackTraces = false) (k : Int32) : mx_Ct l (pg_L sc) mY_Pe_requireHole (d + 1) 1 [.ref 0, .int k] M (mx_rA (if ¬ k < 0 ∧ k < (if M 1 4 = 0 then 0 else M 1 5) then .inl none else .inr xIO) M) := by
  refine mx_bd (n0 := 2) hl (by decide +kernel) rfl rfl rfl ?_
  have hh := ct_Bo_holes (l := l) (sc := sc) (d := d) (M := M) hl
  generalize (if M 1 4 = 0 then 0 else M 1 5) = H at hh ⊢
  have fin : ¬ (¬ k < 0 ∧ k < H) → mx_E l (pg_L sc) mY_Pe_requireHole (d + 1) 1 (mx_rA (if ¬ k < 0 ∧ k < H then .inl none else .inr xIO) M) 15 [.ref 0, .int k] [] M :=
    fun q => mx_thr (n := 0) mo_Pe_requireHole 0 (cls := xIO) (text := "no such hole") rfl rfl trivial rfl rfl rfl rfl rfl tw_IO (by decide +kernel) ⟨by rw [if_neg q], rfl⟩
  refine mx_if mo_Pe_requireHole 1 (t := 15) (f := 4) rfl trivial (fun q => fin (fun c => c.1 q)) (fun q => ?_)
  refine mx_cVi mo_Pe_requireHole 3 (rest := [.int k]) rfl hh rfl trivial rfl rfl rfl kv_Pe_190 kd_Bo_holes rfl rfl rfl ?_
  refine mx_if mo_Pe_requireHole 0 (t := 25) (f := 15) rfl trivial (fun q2 => ?_) (fun q2 => fin (fun c => q2 c.2))
  exact mx_ret_v mo_Pe_requireHole rfl 0 rfl trivial rfl ⟨by rw [if_pos ⟨q, q2⟩], rfl⟩
def pe_clear (M : mx_M) (t : Int32) : mx_M := mx_up (mx_up (pg_fill (mx_up (mx_up (pg_wipe M t) 5 5 0) 11 4 0) 39 20 0) 0 5 0) 0 6 0
theorem ct_Pe_clear (hl : l.stackTraces = false) {t : Int32} (ht : t = 0 ∨ t = 1) : mx_Ct l (pg_L sc) mY_Pe_clear (d + 2) 0 [.ref 0, .int t] M (mx_rV (pe_clear M t)) := by
  refine mx_bd (n0 := 2) hl (by decide +kernel) rfl rfl rfl ?_
  refine mx_cVv mo_Pe_clear 3 (As := [.int t]) (rest := []) rfl (ct_Bo_wipe hl ht) rfl trivial rfl rfl rfl kv_Pe_44 kd_Bo_wipe rfl rfl rfl ?_
  refine mx_cVv mo_Pe_clear 2 (As := []) (rest := []) rfl (ct_Ju_forget hl) rfl trivial rfl rfl rfl kv_Pe_48 kd_Ju_forget rfl rfl rfl ?_
  refine mx_cVv mo_Pe_clear 2 (As := []) (rest := []) rfl (ct_Sy_forget hl) rfl trivial rfl rfl rfl kv_Pe_51 kd_Sy_forget rfl rfl rfl ?_
  refine mx_cVv mo_Pe_clear 2 (As := []) (rest := []) rfl (ct_We_forget hl) rfl trivial rfl rfl rfl kv_Pe_52 kd_We_forget rfl rfl rfl ?_
  exact mx_ret_v mo_Pe_clear rfl 6 (M' := pe_clear M t) rfl trivial rfl ⟨rfl, rfl⟩
def pe_hole (M : mx_M) (r c : Int32) : mx_R × mx_M := if pg_in r c = 0 then (.inr xIA, M) else if pg_cd M (r * 8 + c).toNatClampNeg = 0 then (.inr xIS, M) else (.inl (some (.int (M 1 5 + 1))), mx_up (mx_up M 2 (r * 8 + c).toNatClampNeg 0) 1 5 (M 1 5 + 1))
theorem ct_Pe_hole (hl : l.stackTraces = false) (r c : Int32) : mx_Ct l (pg_L sc) mY_Pe_hole (d + 1) 1 [.ref 0, .int r, .int c] M (mx_rA (pe_hole M r c).1 (pe_hole M r c).2) := by
  refine mx_bd (n0 := 3) hl (by decide +kernel) rfl rfl rfl ?_
  refine mx_cSi mo_Pe_hole 2 (As := [.int r, .int c]) (rest := []) rfl (ct_Pe_isPlace hl r c) rfl trivial rfl ks_Pe_60 kd_Pe_isPlace rfl rfl rfl ?_
  rw [pe_hole]
  refine mx_if mo_Pe_hole 0 (t := 18) (f := 8) rfl trivial (fun q => ?_) (fun q => ?_)
  · rw [if_neg q]
    obtain ⟨i, j, hi, hj, rfl, rfl⟩ := pg_in_s q
    have e : (nI i * 8 + nI j).toNatClampNeg = i * 8 + j := by rw [pg_ix]; exact nI_clamp (by omega)
    rw [e]
    refine mx_cVi mo_Pe_hole 4 (As := [.int (nI i), .int (nI j)]) (rest := []) rfl (ct_Bo_canDraw hl hi hj) rfl trivial rfl rfl rfl kv_Pe_71 kd_Bo_canDraw rfl rfl rfl ?_
    refine mx_if mo_Pe_hole 0 (t := 40) (f := 30) rfl trivial (fun q1 => ?_) (fun q1 => ?_)
    · rw [if_neg q1]
      refine mx_cVi mo_Pe_hole 4 (As := [.int (nI i), .int (nI j)]) (rest := []) rfl (ct_Bo_draw hl hi hj) rfl trivial rfl rfl rfl kv_Pe_79 kd_Bo_draw rfl rfl rfl ?_
      exact mx_ret_i mo_Pe_hole rfl 0 rfl trivial rfl ⟨rfl, rfl⟩
    · rw [if_pos q1]
      exact mx_thr (n := 0) mo_Pe_hole 0 (cls := xIS) (text := "no hole can be drawn there now") rfl rfl trivial rfl rfl rfl rfl rfl tw_IS (by decide +kernel) ⟨rfl, rfl⟩
  · rw [if_pos q]
    exact mx_thr (n := 0) mo_Pe_hole 0 (cls := xIA) (text := "no such place") rfl rfl trivial rfl rfl rfl rfl rfl tw_IA (by decide +kernel) ⟨rfl, rfl⟩
theorem ct_Pe_at (hl : l.stackTraces = false) (r c : Int32) : mx_Ct l (pg_L sc) mY_Pe_at (d + 2) 0 [.ref 0, .int r, .int c] M (mx_rI (pg_at M r c) M) := by
  refine mx_bd (n0 := 3) hl (by decide +kernel) rfl rfl rfl ?_
  refine mx_cVi mo_Pe_at 4 (As := [.int r, .int c]) (rest := []) rfl (ct_Bo_numberAt hl r c) rfl trivial rfl rfl rfl kv_Pe_101 kd_Bo_numberAt rfl rfl rfl ?_
  exact mx_ret_i mo_Pe_at rfl 0 rfl trivial rfl ⟨rfl, rfl⟩
theorem ct_Pe_symmetries (hl : l.stackTraces = false) : mx_Ct l (pg_L sc) mY_Pe_symmetries (d + 1) 0 [.ref 0] M (mx_rI (M 11 4) M) := by
  refine mx_bd (n0 := 1) hl (by decide +kernel) rfl rfl rfl ?_
  refine mx_cVi mo_Pe_symmetries 2 (As := []) (rest := []) rfl (ct_Sy_size hl) rfl trivial rfl rfl rfl kv_Pe_151 kd_Sy_size rfl rfl rfl ?_
  exact mx_ret_i mo_Pe_symmetries rfl 0 rfl trivial rfl ⟨rfl, rfl⟩
end FA
end
section
/-! PegBoards: its face, but freezing. -/
section FB
variable {l : Launch} {sc : Nat × (Nat → Int32)} {d n n' : Nat} {M : mx_M}
theorem nI_inJ {k : Int32} {J : Nat} (hJ : J < 2 ^ 31) (h : ¬ k < 0 ∧ k < nI J) : ∃ j, j < J ∧ k = nI j := by
  obtain ⟨j, hj, rfl⟩ := nI_of h.1
  exact ⟨j, (nI_ltI hj hJ).mp h.2, rfl⟩
theorem i3_of {x : Int32} (h1 : ¬ x.toInt < 0) (h2 : ¬ 2 < x.toInt) : x = 0 ∨ x = 1 ∨ x = 2 := by
  rcases (show x.toInt = 0 ∨ x.toInt = 1 ∨ x.toInt = 2 by omega) with h | h | h
  · exact Or.inl (Int32.toInt_inj.mp (by rw [h]; rfl))
  · exact Or.inr (Or.inl (Int32.toInt_inj.mp (by rw [h]; rfl)))
  · exact Or.inr (Or.inr (Int32.toInt_inj.mp (by rw [h]; rfl)))
theorem i3_no {x : Int32} (h : x.toInt < 0 ∨ 2 < x.toInt) : ¬ x = 0 ∧ ¬ x = 1 ∧ ¬ x = 2 := by
  refine ⟨fun e => ?_, fun e => ?_, fun e => ?_⟩
  · rw [e, show (0 : Int32).toInt = 0 from rfl] at h; omega
  · rw [e, show (1 : Int32).toInt = 1 from rfl] at h; omega
  · rw [e, show (2 : Int32).toInt = 2 from rfl] at h; omega
def pe_jump (M : mx_M) (k w : Int32) : mx_R := if ¬ k < 0 ∧ k < M 5 5 then (if w = 0 then .inl (some (.int (M 6 k.toNatClampNeg))) else if w = 1 then .inl (some (.int (M 7 k.toNatClampNeg))) else if w = 2 then .inl (some (.int (M 8 k.toNatClampNeg))) else .inr xIO) else .inr xIO
theorem ct_Pe_jump (hl : l.stackTraces = false) {J : Nat} (hJ : J ≤ 120) (hs : M 5 5 = nI J) (k w : Int32) : mx_Ct l (pg_L sc) mY_Pe_jump (d + 2) 2 [.ref 0, .int k, .int w] M (mx_rA (pe_jump M k w) M) := by
  refine mx_bd (n0 := 3) hl (by decide +kernel) rfl rfl rfl ?_
  refine mx_cVr (n := 1) (n' := 1) mo_Pe_jump 2 (As := [.int k]) (rest := []) rfl (ct_Pe_requireJump hl k) rfl trivial rfl rfl rfl kv_Pe_104 kd_Pe_requireJump rfl rfl rfl (fun q => ?_) (fun q => ⟨by rw [pe_jump, if_neg q], rfl⟩)
  rw [pe_jump, if_pos q]
  rw [hs] at q
  obtain ⟨j, hj, rfl⟩ := nI_inJ (by omega) q
  rw [nI_clamp (by omega)]
  refine mx_ts mo_Pe_jump 1 (x := w) rfl trivial rfl (fun h1 h2 => ?_) (fun h => ?_)
  · rcases i3_of h1 h2 with rfl | rfl | rfl
    · refine ⟨26, 32, rfl, rfl, ?_⟩
      rw [if_pos rfl]
      refine mx_cVi mo_Pe_jump 3 (As := [.int (nI j)]) (rest := []) rfl (ct_Ju_from hl (by omega)) rfl trivial rfl rfl rfl kv_Pe_108 kd_Ju_from rfl rfl rfl ?_
      exact mx_ret_i mo_Pe_jump rfl 0 rfl trivial rfl ⟨rfl, rfl⟩
    · refine ⟨35, 41, rfl, rfl, ?_⟩
      rw [if_neg (by decide), if_pos rfl]
      refine mx_cVi mo_Pe_jump 3 (As := [.int (nI j)]) (rest := []) rfl (ct_Ju_over hl (by omega)) rfl trivial rfl rfl rfl kv_Pe_112 kd_Ju_over rfl rfl rfl ?_
      exact mx_ret_i mo_Pe_jump rfl 0 rfl trivial rfl ⟨rfl, rfl⟩
    · refine ⟨44, 50, rfl, rfl, ?_⟩
      rw [if_neg (by decide), if_neg (by decide), if_pos rfl]
      refine mx_cVi mo_Pe_jump 3 (As := [.int (nI j)]) (rest := []) rfl (ct_Ju_to hl (by omega)) rfl trivial rfl rfl rfl kv_Pe_115 kd_Ju_to rfl rfl rfl ?_
      exact mx_ret_i mo_Pe_jump rfl 0 rfl trivial rfl ⟨rfl, rfl⟩
  · obtain ⟨h1, h2, h3⟩ := i3_no h
    refine ⟨59, rfl, ?_⟩
    rw [if_neg h1, if_neg h2, if_neg h3]
    exact mx_thr (n := 0) mo_Pe_jump 0 (cls := xIO) (text := "no such part of a jump") rfl rfl trivial rfl rfl rfl rfl rfl tw_IO (by decide +kernel) ⟨rfl, rfl⟩
def pe_place (M : mx_M) (b p : Int32) : mx_R × mx_M := if p &&& (pe_all M ^^^ (-1)) = 0 then (.inl none, if b = 0 then mx_up M 0 5 p else mx_up M 0 6 p) else (.inr xIA, M)
theorem ct_Pe_place (hl : l.stackTraces = false) (b p : Int32) : mx_Ct l (pg_L sc) mY_Pe_place (d + 3) 1 [.ref 0, .int b, .int p] M (mx_rA (pe_place M b p).1 (pe_place M b p).2) := by
  refine mx_bd (n0 := 3) hl (by decide +kernel) rfl rfl rfl ?_
  rw [pe_place]
  refine mx_cVr (n := 0) (n' := 1) mo_Pe_place 2 (As := [.int p]) (rest := []) rfl (ct_Pe_requirePosition hl p) rfl trivial rfl rfl rfl kv_Pe_123 kd_Pe_requirePosition rfl rfl rfl (fun q => ?_) (fun q => ⟨by rw [if_neg q], by rw [if_neg q]⟩)
  rw [if_pos q]
  refine mx_if mo_Pe_place 1 (t := 17) (f := 9) rfl trivial (fun q1 => ?_) (fun q1 => ?_)
  · exact mx_ret_v mo_Pe_place rfl 3 (M' := mx_up M 0 5 p) rfl trivial rfl ⟨rfl, by rw [if_pos q1]⟩
  · exact mx_ret_v mo_Pe_place rfl 4 (M' := mx_up M 0 6 p) rfl trivial rfl ⟨rfl, by rw [if_neg q1]⟩
def pe_after (M : mx_M) (p k : Int32) : mx_R := if ¬ k < 0 ∧ k < M 5 5 then (if p &&& (pe_all M ^^^ (-1)) = 0 then .inl (some (.int (pg_mk p (M 10 k.toNatClampNeg) (M 9 k.toNatClampNeg)))) else .inr xIA) else .inr xIO
theorem ct_Pe_after (hl : l.stackTraces = false) {J : Nat} (hJ : J ≤ 120) (hs : M 5 5 = nI J) (p k : Int32) : mx_Ct l (pg_L sc) mY_Pe_after (d + 3) 2 [.ref 0, .int p, .int k] M (mx_rA (pe_after M p k) M) := by
  refine mx_bd (n0 := 3) hl (by decide +kernel) rfl rfl rfl ?_
  refine mx_cVr (n := 1) (n' := 1) mo_Pe_after 2 (As := [.int k]) (rest := []) rfl (ct_Pe_requireJump hl k) rfl trivial rfl rfl rfl kv_Pe_104 kd_Pe_requireJump rfl rfl rfl (fun q => ?_) (fun q => ⟨by rw [pe_after, if_neg q], rfl⟩)
  rw [pe_after, if_pos q]
  rw [hs] at q
  obtain ⟨j, hj, rfl⟩ := nI_inJ (by omega) q
  rw [nI_clamp (by omega)]
  refine mx_cVr (n := 0) (n' := 1) mo_Pe_after 2 (As := [.int p]) (rest := []) rfl (ct_Pe_requirePosition hl p) rfl trivial rfl rfl rfl kv_Pe_123 kd_Pe_requirePosition rfl rfl rfl (fun q => ?_) (fun q => ⟨by rw [if_neg q], rfl⟩)
  rw [if_pos q]
  refine mx_cVi mo_Pe_after 4 (As := [.int p, .int (nI j)]) (rest := []) rfl (ct_Ju_make hl p (by omega)) rfl trivial rfl rfl rfl kv_Pe_126 kd_Ju_make rfl rfl rfl ?_
  exact mx_ret_i mo_Pe_after rfl 0 rfl trivial rfl ⟨rfl, rfl⟩
/-- the walk of a limit -/
def pe_go (M : mx_M) (L J : Nat) : mx_M := re_all L J L 0 (re_s0 M (M 0 5))
def pe_rw (M : mx_M) (lim : Int32) (Z : mx_R × mx_M) : mx_R × mx_M := if M 1 4 = 0 then (.inr xIS, M) else if lim < 1 ∨ ¬ lim ≤ 500 then (.inr xIA, M) else Z
theorem pe_lim {lim : Int32} (h : ¬ (lim < 1 ∨ ¬ lim ≤ 500)) : ∃ L, 1 ≤ L ∧ L ≤ 500 ∧ lim = nI L := by
  have h1 : ¬ lim < 1 := fun q => h (Or.inl q)
  have h2 : lim ≤ 500 := Classical.byContradiction fun q => h (Or.inr q)
  have h0 : ¬ lim < 0 := fun q => h1 (Int32.lt_trans q (by decide))
  obtain ⟨L, hL, rfl⟩ := nI_of h0
  rw [show (1 : Int32) = nI 1 from rfl, nI_ltI hL (by decide)] at h1
  rw [show (500 : Int32) = nI 500 from rfl, nI_leI hL (by decide)] at h2
  exact ⟨L, by omega, h2, rfl⟩
theorem ct_Pe_reachWithin (hl : l.stackTraces = false) {J : Nat} (hJ : J ≤ 120) (hs : M 5 5 = nI J) (hf : M 1 4 = 0 ∨ M 1 4 = 1) (lim : Int32) : mx_Ct l (pg_L sc) mY_Pe_reachWithin (d + 5) 2 [.ref 0, .int lim] M (mx_rA (pe_rw M lim (.inl none, pe_go M lim.toNatClampNeg J)).1 (pe_rw M lim (.inl none, pe_go M lim.toNatClampNeg J)).2) := by
  refine mx_bd (n0 := 2) hl (by decide +kernel) rfl rfl rfl ?_
  refine mx_cVr (n := 1) (n' := 1) mo_Pe_reachWithin 1 (As := []) (rest := []) rfl (ct_Pe_requireFrozen (d := d + 3) hl hf) rfl trivial rfl rfl rfl kv_Pe_160 kd_Pe_requireFrozen rfl rfl rfl (fun q => ?_) (fun q => ?_)
  · rw [pe_rw, if_neg q]
    have fin : (lim < 1 ∨ ¬ lim ≤ 500) → mx_E l (pg_L sc) mY_Pe_reachWithin (d + 4 + 1) 1 (mx_rA (if lim < 1 ∨ ¬ lim ≤ 500 then ((.inr xIA, M) : mx_R × mx_M) else (.inl none, pe_go M lim.toNatClampNeg J)).1 (if lim < 1 ∨ ¬ lim ≤ 500 then ((.inr xIA, M) : mx_R × mx_M) else (.inl none, pe_go M lim.toNatClampNeg J)).2) 16 [.ref 0, .int lim] [] M := by
      intro q2
      rw [if_pos q2]
      exact mx_thr (n := 0) mo_Pe_reachWithin 0 (cls := xIA) (text := "no such limit") rfl rfl trivial rfl rfl rfl rfl rfl tw_IA (by decide +kernel) ⟨rfl, rfl⟩
    refine mx_if mo_Pe_reachWithin 2 (t := 16) (f := 9) rfl trivial (fun q1 => fin (Or.inl q1)) (fun (q1 : ¬ lim < 1) => ?_)
    refine mx_if mo_Pe_reachWithin 2 (t := 26) (f := 16) rfl trivial (fun (q2 : lim ≤ 500) => ?_) (fun (q2 : ¬ lim ≤ 500) => fin (Or.inr q2))
    have q3 : ¬ (lim < 1 ∨ ¬ lim ≤ 500) := fun c => c.elim q1 (fun c => c q2)
    obtain ⟨L, h1, h5, rfl⟩ := pe_lim q3
    rw [if_neg q3, nI_clamp (by omega)]
    refine mx_cVv mo_Pe_reachWithin 7 (As := [.ref 5, .int (M 0 5), .int (nI L)]) (rest := []) rfl (ct_Re_run hl (M 0 5) h1 h5 hJ hs) rfl trivial rfl rfl rfl kv_Pe_201 kd_Re_run rfl rfl rfl ?_
    exact mx_ret_v mo_Pe_reachWithin rfl 0 rfl trivial rfl ⟨rfl, rfl⟩
  · rw [pe_rw, if_pos (Classical.byContradiction q)]
    exact ⟨rfl, rfl⟩
section
variable {Y : mx_Y} {fl : mx_F} {tab : mx_B}
/-- a method that first reaches -/
theorem mx_rw (hl : l.stackTraces = false) (hok : mx_ok Y fl tab) {Z : mx_R × mx_M} {J : Nat} {ls : List Value} (hJ : J ≤ 120) (hs : M 5 5 = nI J) (hf : M 1 4 = 0 ∨ M 1 4 = 1) (lim : Int32) (hh : mx_hh Y = []) (ho : mx_ow Y = "PegBoards")
    (h : mx_run fl (pg_L sc) tab 2 0 ls [] M = some (True, 2, ls, [.int lim, .ref 0], M)) (hd : tab.lookup 2 = some (.invokevirtual 129, 3))
    (kr : ¬ M 1 4 = 0 → ∀ L, 1 ≤ L → L ≤ 500 → lim = nI L → mx_E l (pg_L sc) Y (d + 6) 0 (mx_rA Z.1 Z.2) 5 ls [] (pe_go M L J)) : mx_E l (pg_L sc) Y (d + 6) 2 (mx_rA (pe_rw M lim Z).1 (pe_rw M lim Z).2) 0 ls [] M := by
  refine mx_cV (n := 0) (n' := 2) hok 2 (As := [.int lim]) (rest := []) hh (ct_Pe_reachWithin (d := d) hl hJ hs hf lim) h trivial hd rfl rfl (by rw [ho]; exact kv_Pe_129) kd_Pe_reachWithin rfl rfl rfl (fun v M2 q => ?_) (fun E M2 q => ?_)
  · obtain ⟨q1, q2⟩ := q
    unfold pe_rw at q1 q2 ⊢
    by_cases c1 : M 1 4 = 0
    · rw [if_pos c1] at q1; cases q1
    rw [if_neg c1] at q1 q2 ⊢
    by_cases c2 : lim < 1 ∨ ¬ lim ≤ 500
    · rw [if_pos c2] at q1; cases q1
    rw [if_neg c2] at q1 q2 ⊢
    cases q1
    obtain ⟨L, h1, h5, rfl⟩ := pe_lim c2
    rw [nI_clamp (by omega)] at q2
    subst q2
    exact kr c1 L h1 h5 rfl
  · obtain ⟨q1, q2⟩ := q
    unfold pe_rw at q1 q2 ⊢
    by_cases c1 : M 1 4 = 0
    · rw [if_pos c1] at q1 q2 ⊢; exact ⟨q1, q2⟩
    rw [if_neg c1] at q1 q2 ⊢
    by_cases c2 : lim < 1 ∨ ¬ lim ≤ 500
    · rw [if_pos c2] at q1 q2 ⊢; exact ⟨q1, q2⟩
    rw [if_neg c2] at q1; cases q1
end
theorem pe_go_off {L J c : Nat} (hc : c < 27 ∨ 37 < c ∨ c = 31 ∨ c = 32 ∨ c = 33) : pe_go M L J c = M c := by
  rw [pe_go, re_all_off hc, re_s0_off (by omega)]
theorem pe_go_ok {L J : Nat} (h1 : 1 ≤ L) (h5 : L ≤ 500) : re_ok (pe_go M L J) L := (re_all_ok L 0 _ (re_s0_ok h1 h5).1).1
def pe_count (A : mx_M) : mx_R × mx_M := (.inl (some (.int (if A 27 6 = 0 then A 28 2 else -2))), A)
theorem ct_Pe_count (hl : l.stackTraces = false) {J : Nat} (hJ : J ≤ 120) (hs : M 5 5 = nI J) (hf : M 1 4 = 0 ∨ M 1 4 = 1) (lim : Int32) : mx_Ct l (pg_L sc) mY_Pe_count (d + 6) 2 [.ref 0, .int lim] M (mx_rA (pe_rw M lim (pe_count (pe_go M lim.toNatClampNeg J))).1 (pe_rw M lim (pe_count (pe_go M lim.toNatClampNeg J))).2) := by
  refine mx_bd (n0 := 2) hl (by decide +kernel) rfl rfl rfl ?_
  refine mx_rw hl mo_Pe_count hJ hs hf lim rfl rfl rfl rfl (fun _ L h1 h5 e => ?_)
  subst e
  rw [nI_clamp (by omega)]
  have hk := pe_go_ok (M := M) (J := J) h1 h5
  generalize pe_go M L J = A at hk ⊢
  refine mx_cVi mo_Pe_count 2 (As := []) (rest := []) rfl (ct_Re_limitMet hl hk.2.1) rfl trivial rfl rfl rfl kv_Pe_132 kd_Re_limitMet rfl rfl rfl ?_
  refine mx_if mo_Pe_count 0 (t := 20) (f := 15) rfl trivial (fun q => ?_) (fun q => ?_)
  · refine mx_cVi mo_Pe_count 2 (As := []) (rest := []) rfl (ct_Re_size hl) rfl trivial rfl rfl rfl kv_Pe_135 kd_Re_size rfl rfl rfl ?_
    exact mx_ret_i mo_Pe_count rfl 0 rfl trivial rfl ⟨by rw [pe_count, if_pos q], rfl⟩
  · exact mx_ret_i mo_Pe_count rfl 2 (v := -2) rfl trivial rfl ⟨by rw [pe_count, if_neg q], rfl⟩
def pe_solve (A : mx_M) : mx_R × mx_M := (.inl (some (.int (if re_no A (A 0 6) = -1 then (if A 27 6 = 0 then 0 else -2) else 1))), A)
theorem ct_Pe_solve (hl : l.stackTraces = false) {J : Nat} (hJ : J ≤ 120) (hs : M 5 5 = nI J) (hf : M 1 4 = 0 ∨ M 1 4 = 1) (lim : Int32) : mx_Ct l (pg_L sc) mY_Pe_solve (d + 6) 2 [.ref 0, .int lim] M (mx_rA (pe_rw M lim (pe_solve (pe_go M lim.toNatClampNeg J))).1 (pe_rw M lim (pe_solve (pe_go M lim.toNatClampNeg J))).2) := by
  refine mx_bd (n0 := 2) hl (by decide +kernel) rfl rfl rfl ?_
  refine mx_rw hl mo_Pe_solve hJ hs hf lim rfl rfl rfl rfl (fun _ L h1 h5 e => ?_)
  subst e
  rw [nI_clamp (by omega)]
  have hk := pe_go_ok (M := M) (J := J) h1 h5
  generalize pe_go M L J = A at hk ⊢
  rw [pe_solve]
  refine mx_cVi mo_Pe_solve 4 (As := [.int (A 0 6)]) (rest := []) rfl (ct_Re_has hl (re_ok_fo hk) (A 0 6)) rfl trivial rfl rfl rfl kv_Pe_136 kd_Re_has rfl rfl rfl ?_
  by_cases c : re_no A (A 0 6) = -1
  · rw [if_pos c, if_pos c]
    refine mx_if mo_Pe_solve 0 (t := 21) (f := 19) rfl trivial (fun _ => ?_) (fun q => absurd rfl q)
    refine mx_cVi mo_Pe_solve 2 (As := []) (rest := []) rfl (ct_Re_limitMet hl hk.2.1) rfl trivial rfl rfl rfl kv_Pe_132 kd_Re_limitMet rfl rfl rfl ?_
    refine mx_if mo_Pe_solve 0 (t := 36) (f := 31) rfl trivial (fun q => ?_) (fun q => ?_)
    · exact mx_ret_i mo_Pe_solve rfl 1 (v := 0) rfl trivial rfl ⟨by rw [if_pos q], rfl⟩
    · exact mx_ret_i mo_Pe_solve rfl 2 (v := -2) rfl trivial rfl ⟨by rw [if_neg q], rfl⟩
  · rw [if_neg c, if_neg c]
    refine mx_if mo_Pe_solve 0 (t := 21) (f := 19) rfl trivial (fun (q : (1 : Int32) = 0) => absurd q (by decide)) (fun _ => ?_)
    exact mx_ret_i mo_Pe_solve rfl 1 (v := 1) rfl trivial rfl ⟨rfl, rfl⟩
theorem ct_Pe_way (hl : l.stackTraces = false) {J : Nat} (hJ : J ≤ 120) (hs : M 5 5 = nI J) (hf : M 1 4 = 0 ∨ M 1 4 = 1) (lim i v : Int32)
    (hw : ¬ M 1 4 = 0 → ∀ L, 1 ≤ L → L ≤ 500 → lim = nI L → mx_Ct l (pg_L sc) mY_Re_jumpOnWay (d + 5) 0 [.ref 27, .int (M 0 5), .int (M 0 6), .int i] (pe_go M L J) (mx_rI v (pe_go M L J))) :
    mx_Ct l (pg_L sc) mY_Pe_way (d + 6) 2 [.ref 0, .int lim, .int i] M (mx_rA (pe_rw M lim (.inl (some (.int v)), pe_go M lim.toNatClampNeg J)).1 (pe_rw M lim (.inl (some (.int v)), pe_go M lim.toNatClampNeg J)).2) := by
  refine mx_bd (n0 := 3) hl (by decide +kernel) rfl rfl rfl ?_
  refine mx_rw hl mo_Pe_way hJ hs hf lim rfl rfl rfl rfl (fun c L h1 h5 e => ?_)
  have hww := hw c L h1 h5 e
  have e0 : pe_go M L J 0 = M 0 := pe_go_off (by omega)
  subst e
  rw [nI_clamp (by omega)]
  rw [← e0] at hww
  generalize pe_go M L J = A at hww ⊢
  refine mx_cVi mo_Pe_way 7 (As := [.int (A 0 5), .int (A 0 6), .int i]) (rest := []) rfl hww rfl trivial rfl rfl rfl kv_Pe_140 kd_Re_jumpOnWay rfl rfl rfl ?_
  exact mx_ret_i mo_Pe_way rfl 0 rfl trivial rfl ⟨rfl, rfl⟩
def pe_moves (A : mx_M) : mx_R × mx_M := (.inl (some (.int (if A 27 6 = 0 then (if re_no A (A 0 6) = -1 then -1 else A 36 (re_no A (A 0 6)).toNatClampNeg) else -2))), A)
theorem ct_Pe_moves (hl : l.stackTraces = false) {J : Nat} (hJ : J ≤ 120) (hs : M 5 5 = nI J) (hf : M 1 4 = 0 ∨ M 1 4 = 1) (lim : Int32) : mx_Ct l (pg_L sc) mY_Pe_moves (d + 6) 2 [.ref 0, .int lim] M (mx_rA (pe_rw M lim (pe_moves (pe_go M lim.toNatClampNeg J))).1 (pe_rw M lim (pe_moves (pe_go M lim.toNatClampNeg J))).2) := by
  refine mx_bd (n0 := 2) hl (by decide +kernel) rfl rfl rfl ?_
  refine mx_rw hl mo_Pe_moves hJ hs hf lim rfl rfl rfl rfl (fun _ L h1 h5 e => ?_)
  subst e
  rw [nI_clamp (by omega)]
  have hk := pe_go_ok (M := M) (J := J) h1 h5
  generalize pe_go M L J = A at hk ⊢
  rw [pe_moves]
  refine mx_cVi mo_Pe_moves 2 (As := []) (rest := []) rfl (ct_Re_limitMet hl hk.2.1) rfl trivial rfl rfl rfl kv_Pe_132 kd_Re_limitMet rfl rfl rfl ?_
  refine mx_if mo_Pe_moves 0 (t := 20) (f := 15) rfl trivial (fun q => ?_) (fun q => ?_)
  · have hn : re_no A (A 0 6) = -1 ∨ ∃ i, i < 500 ∧ re_no A (A 0 6) = nI i := by
      rcases re_no_in hk (A 0 6) with ⟨-, q⟩ | ⟨i, hi, -, q⟩
      · exact Or.inl q
      · obtain ⟨-, -, m, h3, h4, -⟩ := hk
        rw [h4, nI_clamp (by omega)] at hi
        exact Or.inr ⟨i, by omega, q⟩
    refine mx_cVi mo_Pe_moves 4 (As := [.int (A 0 6)]) (rest := []) rfl (ct_Re_fewestMoves hl (re_ok_fo hk) (A 0 6) hn) rfl trivial rfl rfl rfl kv_Pe_144 kd_Re_fewestMoves rfl rfl rfl ?_
    rw [if_pos q]
    exact mx_ret_i mo_Pe_moves rfl 0 rfl trivial rfl ⟨rfl, rfl⟩
  · exact mx_ret_i mo_Pe_moves rfl 2 (v := -2) rfl trivial rfl ⟨by rw [if_neg q], rfl⟩
def pe_classes (A : mx_M) (n s : Nat) : mx_R × mx_M := if A 27 6 = 0 then (.inl (some (.int (nI (le_c (fun i => sy_lo A (A 29 i) n s) (A 28 2).toNatClampNeg)))), re_ls A (fun i => sy_lo A (A 29 i) n s) (A 28 2).toNatClampNeg) else (.inl (some (.int (-2))), A)
theorem ct_Pe_classes (hl : l.stackTraces = false) {J s n : Nat} (hJ : J ≤ 120) (hs : M 5 5 = nI J) (hf : M 1 4 = 0 ∨ M 1 4 = 1) (lim : Int32) (hy : ¬ M 1 4 = 0 → n ≤ 20 ∧ s ≤ 12 ∧ M 11 3 = nI n ∧ M 11 4 = nI s) : mx_Ct l (pg_L sc) mY_Pe_classes (d + 6) 2 [.ref 0, .int lim] M (mx_rA (pe_rw M lim (pe_classes (pe_go M lim.toNatClampNeg J) n s)).1 (pe_rw M lim (pe_classes (pe_go M lim.toNatClampNeg J) n s)).2) := by
  refine mx_bd (n0 := 2) hl (by decide +kernel) rfl rfl rfl ?_
  refine mx_rw hl mo_Pe_classes hJ hs hf lim rfl rfl rfl rfl (fun c L h1 h5 e => ?_)
  obtain ⟨y1, y2, y3, y4⟩ := hy c
  subst e
  rw [nI_clamp (by omega)]
  have hk := pe_go_ok (M := M) (J := J) h1 h5
  have e0 : pe_go M L J 11 = M 11 := pe_go_off (by omega)
  rw [← e0] at y3 y4
  generalize pe_go M L J = A at hk y3 y4 ⊢
  rw [pe_classes]
  refine mx_cVi mo_Pe_classes 2 (As := []) (rest := []) rfl (ct_Re_limitMet hl hk.2.1) rfl trivial rfl rfl rfl kv_Pe_132 kd_Re_limitMet rfl rfl rfl ?_
  refine mx_if mo_Pe_classes 0 (t := 20) (f := 15) rfl trivial (fun q => ?_) (fun q => ?_)
  · rw [if_pos q]
    obtain ⟨-, -, m, h3, h4, -⟩ := hk
    rw [h4, nI_clamp (by omega)]
    refine mx_cVi mo_Pe_classes 4 (As := [.ref 11]) (rest := []) rfl (ct_Re_differentLeasts hl y1 y2 y3 y4 (by omega) h4) rfl trivial rfl rfl rfl kv_Pe_147 kd_Re_differentLeasts rfl rfl rfl ?_
    exact mx_ret_i mo_Pe_classes rfl 0 rfl trivial rfl ⟨rfl, rfl⟩
  · rw [if_neg q]
    exact mx_ret_i mo_Pe_classes rfl 2 (v := -2) rfl trivial rfl ⟨rfl, rfl⟩
end FB
end
section
/-! PegBoards: the rest of its face. -/
section FC
variable {l : Launch} {sc : Nat × (Nat → Int32)} {d n n' : Nat} {M : mx_M}
def pe_H (M : mx_M) : Int32 := if M 1 4 = 0 then 0 else M 1 5
def pe_image (M : mx_M) (k h : Int32) : mx_R := if ¬ k < 0 ∧ k < M 11 4 then (if ¬ h < 0 ∧ h < pe_H M then .inl (some (.int (M (13 + k.toNatClampNeg) h.toNatClampNeg))) else .inr xIO) else .inr xIO
theorem ct_Pe_image (hl : l.stackTraces = false) {s N : Nat} (hs : s ≤ 12) (hss : M 11 4 = nI s) (hN : N ≤ 20) (hH : pe_H M = nI N) (k h : Int32) : mx_Ct l (pg_L sc) mY_Pe_image (d + 2) 2 [.ref 0, .int k, .int h] M (mx_rA (pe_image M k h) M) := by
  refine mx_bd (n0 := 3) hl (by decide +kernel) rfl rfl rfl ?_
  rw [pe_image, hss, hH]
  have fin : ¬ (¬ k < 0 ∧ k < nI s) → mx_E l (pg_L sc) mY_Pe_image (d + 2) 2 (mx_rA (if ¬ k < 0 ∧ k < nI s then (if ¬ h < 0 ∧ h < nI N then .inl (some (.int (M (13 + k.toNatClampNeg) h.toNatClampNeg))) else .inr xIO) else .inr xIO) M) 15 [.ref 0, .int k, .int h] [] M :=
    fun q => mx_thr (n := 1) mo_Pe_image 0 (cls := xIO) (text := "no such symmetry") rfl rfl trivial rfl rfl rfl rfl rfl tw_IO (by decide +kernel) ⟨by rw [if_neg q], rfl⟩
  refine mx_if mo_Pe_image 1 (t := 15) (f := 4) rfl trivial (fun q => fin (fun c => c.1 q)) (fun (q : ¬ k < 0) => ?_)
  refine mx_cVi mo_Pe_image 3 (As := []) (rest := [.int k]) rfl (ct_Sy_size hl) rfl trivial rfl rfl rfl kv_Pe_151 kd_Sy_size rfl rfl rfl ?_
  rw [hss]
  refine mx_if mo_Pe_image 0 (t := 25) (f := 15) rfl trivial (fun (q2 : k < nI s) => ?_) (fun (q2 : ¬ k < nI s) => fin (fun c => q2 c.2))
  rw [if_pos ⟨q, q2⟩]
  obtain ⟨j, hj, rfl⟩ := nI_inJ (by omega) ⟨q, q2⟩
  have hrh := ct_Pe_requireHole (l := l) (sc := sc) (d := d) (M := M) hl h
  rw [show (if M 1 4 = 0 then 0 else M 1 5) = nI N from hH] at hrh
  refine mx_cVr (n := 1) (n' := 1) mo_Pe_image 2 (As := [.int h]) (rest := []) rfl hrh rfl trivial rfl rfl rfl kv_Pe_154 kd_Pe_requireHole rfl rfl rfl (fun q => ?_) (fun q => ⟨by rw [if_neg q], rfl⟩)
  rw [if_pos q]
  obtain ⟨i, hi, rfl⟩ := nI_inJ (by omega) q
  rw [nI_clamp (by omega), nI_clamp (by omega)]
  refine mx_cVi mo_Pe_image 4 (As := [.int (nI j), .int (nI i)]) (rest := []) rfl (ct_Sy_holeOf hl (by omega) (by omega)) rfl trivial rfl rfl rfl kv_Pe_157 kd_Sy_holeOf rfl rfl rfl ?_
  exact mx_ret_i mo_Pe_image rfl 0 rfl trivial rfl ⟨rfl, rfl⟩
def pe_least (M : mx_M) (p : Int32) (N s : Nat) : mx_R := if p &&& (pe_all M ^^^ (-1)) = 0 then (if ¬ M 1 4 = 0 then .inl (some (.int (sy_lo M p N s))) else .inr xIS) else .inr xIA
theorem ct_Pe_least (hl : l.stackTraces = false) {s N : Nat} (hf : M 1 4 = 0 ∨ M 1 4 = 1) (hy : ¬ M 1 4 = 0 → N ≤ 20 ∧ s ≤ 12 ∧ M 11 3 = nI N ∧ M 11 4 = nI s) (p : Int32) : mx_Ct l (pg_L sc) mY_Pe_least (d + 3) 2 [.ref 0, .int p] M (mx_rA (pe_least M p N s) M) := by
  refine mx_bd (n0 := 2) hl (by decide +kernel) rfl rfl rfl ?_
  rw [pe_least]
  refine mx_cVr (n := 1) (n' := 1) mo_Pe_least 2 (As := [.int p]) (rest := []) rfl (ct_Pe_requirePosition hl p) rfl trivial rfl rfl rfl kv_Pe_123 kd_Pe_requirePosition rfl rfl rfl (fun q => ?_) (fun q => ⟨by rw [if_neg q], rfl⟩)
  rw [if_pos q]
  refine mx_cVr (n := 0) (n' := 1) mo_Pe_least 1 (As := []) (rest := []) rfl (ct_Pe_requireFrozen (d := d + 1) hl hf) rfl trivial rfl rfl rfl kv_Pe_160 kd_Pe_requireFrozen rfl rfl rfl (fun q => ?_) (fun q => ⟨by rw [if_neg q], rfl⟩)
  rw [if_pos q]
  obtain ⟨y1, y2, y3, y4⟩ := hy q
  refine mx_cVi mo_Pe_least 3 (As := [.int p]) (rest := []) rfl (ct_Sy_leastOf hl y1 y2 y3 y4 p) rfl trivial rfl rfl rfl kv_Pe_163 kd_Sy_leastOf rfl rfl rfl ?_
  exact mx_ret_i mo_Pe_least rfl 0 rfl trivial rfl ⟨rfl, rfl⟩
def pe_parity (M : mx_M) (p : Int32) (N : Nat) : mx_R := if p &&& (pe_all M ^^^ (-1)) = 0 then .inl (some (.int (if M 1 3 = 0 then pg_cls (M 3) (M 4) p N else -1))) else .inr xIA
theorem ct_Pe_parity (hl : l.stackTraces = false) {N : Nat} (ht : M 1 3 = 0 ∨ M 1 3 = 1) (hN : N ≤ 20) (hH : pe_H M = nI N) (p : Int32) : mx_Ct l (pg_L sc) mY_Pe_parity (d + 3) 1 [.ref 0, .int p] M (mx_rA (pe_parity M p N) M) := by
  refine mx_bd (n0 := 2) hl (by decide +kernel) rfl rfl rfl ?_
  rw [pe_parity]
  refine mx_cVr (n := 0) (n' := 1) mo_Pe_parity 2 (As := [.int p]) (rest := []) rfl (ct_Pe_requirePosition hl p) rfl trivial rfl rfl rfl kv_Pe_123 kd_Pe_requirePosition rfl rfl rfl (fun q => ?_) (fun q => ⟨by rw [if_neg q], rfl⟩)
  rw [if_pos q]
  refine mx_cVi mo_Pe_parity 2 (As := []) (rest := []) rfl (ct_Bo_isTriangular hl ht) rfl trivial rfl rfl rfl kv_Pe_166 kd_Bo_isTriangular rfl rfl rfl ?_
  refine mx_if mo_Pe_parity 0 (t := 19) (f := 15) rfl trivial (fun q => ?_) (fun q => ?_)
  · rw [if_pos q]
    refine mx_cVi mo_Pe_parity 3 (As := [.int p]) (rest := []) rfl (ct_Bo_classOf hl p hN hH) rfl trivial rfl rfl rfl kv_Pe_169 kd_Bo_classOf rfl rfl rfl ?_
    exact mx_ret_i mo_Pe_parity rfl 0 rfl trivial rfl ⟨rfl, rfl⟩
  · exact mx_ret_i mo_Pe_parity rfl 2 (v := -1) rfl trivial rfl ⟨by rw [if_neg q], rfl⟩
def pe_weight (M : mx_M) (h w : Int32) : mx_R × mx_M := if ¬ h < 0 ∧ h < pe_H M then (if w < 0 ∨ ¬ w ≤ 60 then (.inr xIA, M) else (.inl none, mx_up M 39 h.toNatClampNeg w)) else (.inr xIO, M)
theorem ct_Pe_weight (hl : l.stackTraces = false) {N : Nat} (hN : N ≤ 20) (hH : pe_H M = nI N) (h w : Int32) : mx_Ct l (pg_L sc) mY_Pe_weight (d + 2) 2 [.ref 0, .int h, .int w] M (mx_rA (pe_weight M h w).1 (pe_weight M h w).2) := by
  refine mx_bd (n0 := 3) hl (by decide +kernel) rfl rfl rfl ?_
  rw [pe_weight, hH]
  have hrh := ct_Pe_requireHole (l := l) (sc := sc) (d := d) (M := M) hl h
  rw [show (if M 1 4 = 0 then 0 else M 1 5) = nI N from hH] at hrh
  refine mx_cVr (n := 1) (n' := 1) mo_Pe_weight 2 (As := [.int h]) (rest := []) rfl hrh rfl trivial rfl rfl rfl kv_Pe_154 kd_Pe_requireHole rfl rfl rfl (fun q => ?_) (fun q => ⟨by rw [if_neg q], by rw [if_neg q]⟩)
  rw [if_pos q]
  obtain ⟨i, hi, rfl⟩ := nI_inJ (by omega) q
  rw [nI_clamp (by omega)]
  have fin : (w < 0 ∨ ¬ w ≤ 60) → mx_E l (pg_L sc) mY_Pe_weight (d + 1 + 1) 1 (mx_rA (if w < 0 ∨ ¬ w ≤ 60 then ((.inr xIA, M) : mx_R × mx_M) else (.inl none, mx_up M 39 i w)).1 (if w < 0 ∨ ¬ w ≤ 60 then ((.inr xIA, M) : mx_R × mx_M) else (.inl none, mx_up M 39 i w)).2) 15 [.ref 0, .int (nI i), .int w] [] M := by
    intro q
    rw [if_pos q]
    exact mx_thr (n := 0) mo_Pe_weight 0 (cls := xIA) (text := "no such weight") rfl rfl trivial rfl rfl rfl rfl rfl tw_IA (by decide +kernel) ⟨rfl, rfl⟩
  refine mx_if mo_Pe_weight 1 (t := 15) (f := 9) rfl trivial (fun q1 => fin (Or.inl q1)) (fun (q1 : ¬ w < 0) => ?_)
  refine mx_if mo_Pe_weight 2 (t := 25) (f := 15) rfl trivial (fun (q2 : w ≤ 60) => ?_) (fun (q2 : ¬ w ≤ 60) => fin (Or.inr q2))
  rw [if_neg (fun c => c.elim q1 (fun c => c q2))]
  refine mx_cVv mo_Pe_weight 4 (As := [.int (nI i), .int w]) (rest := []) rfl (ct_We_put hl w (by omega)) rfl trivial rfl rfl rfl kv_Pe_174 kd_We_put rfl rfl rfl ?_
  exact mx_ret_v mo_Pe_weight rfl 0 rfl trivial rfl ⟨rfl, rfl⟩
def pe_weights (M : mx_M) (fr ov tt : Nat → Nat) (J : Nat) (w : Int32) : mx_R :=
  if w = 0 then .inl (some (.int (we_hold (M 39) fr ov tt J 0))) else if w = 1 then .inl (some (.int (we_sum (M 39) (M 0 5) 20))) else if w = 2 then .inl (some (.int (we_sum (M 39) (M 0 6) 20))) else
  if w < 0 then .inr xIO else if ¬ w - 3 < 0 ∧ w - 3 < pe_H M then .inl (some (.int (M 39 (w - 3).toNatClampNeg))) else .inr xIO
theorem we_hold01 {f : Nat → Int32} {fr ov tt : Nat → Nat} : ∀ m k, we_hold f fr ov tt m k = 0 ∨ we_hold f fr ov tt m k = 1 := by
  intro m
  induction m with
  | zero => intro k; exact Or.inr rfl
  | succ m ih =>
    intro k
    rw [we_hold]
    split
    · first | exact Or.inl rfl | exact ih _
    · first | exact ih _ | exact Or.inl rfl
theorem ct_Pe_weights (hl : l.stackTraces = false) {N J : Nat} {fr ov tt : Nat → Nat} (hN : N ≤ 20) (hH : pe_H M = nI N) (hj : ju_ok M J fr ov tt 20) (w : Int32) : mx_Ct l (pg_L sc) mY_Pe_weights (d + 2) 2 [.ref 0, .int w] M (mx_rA (pe_weights M fr ov tt J w) M) := by
  refine mx_bd (n0 := 2) hl (by decide +kernel) rfl rfl rfl ?_
  rw [pe_weights, hH]
  refine mx_ts mo_Pe_weights 1 (x := w) rfl trivial rfl (fun h1 h2 => ?_) (fun h => ?_)
  · rcases i3_of h1 h2 with rfl | rfl | rfl
    · refine ⟨27, 28, rfl, rfl, ?_⟩
      rw [if_pos rfl]
      refine mx_cVi mo_Pe_weights 4 (As := [.ref 5]) (rest := []) rfl (ct_We_hold hl hj) rfl trivial rfl rfl rfl kv_Pe_178 kd_We_hold rfl rfl rfl ?_
      have h01 := we_hold01 (f := M 39) (fr := fr) (ov := ov) (tt := tt) J 0
      refine mx_if mo_Pe_weights 0 (t := 46) (f := 42) rfl trivial (fun q => ?_) (fun q => ?_)
      · exact mx_ret_i mo_Pe_weights rfl 1 (v := 0) rfl trivial rfl ⟨by rw [show we_hold (M 39) fr ov tt J 0 = 0 from q], rfl⟩
      · exact mx_ret_i mo_Pe_weights rfl 2 (v := 1) rfl trivial rfl ⟨by rw [h01.resolve_left q], rfl⟩
    · refine ⟨47, 48, rfl, rfl, ?_⟩
      rw [if_neg (by decide), if_pos rfl]
      refine mx_cVi mo_Pe_weights 4 (As := [.int (M 0 5)]) (rest := []) rfl (ct_We_sumOf hl (M 0 5)) rfl trivial rfl rfl rfl kv_Pe_182 kd_We_sumOf rfl rfl rfl ?_
      exact mx_ret_i mo_Pe_weights rfl 0 rfl trivial rfl ⟨rfl, rfl⟩
    · refine ⟨59, 60, rfl, rfl, ?_⟩
      rw [if_neg (by decide), if_neg (by decide), if_pos rfl]
      refine mx_cVi mo_Pe_weights 4 (As := [.int (M 0 6)]) (rest := []) rfl (ct_We_sumOf hl (M 0 6)) rfl trivial rfl rfl rfl kv_Pe_182 kd_We_sumOf rfl rfl rfl ?_
      exact mx_ret_i mo_Pe_weights rfl 0 rfl trivial rfl ⟨rfl, rfl⟩
  · obtain ⟨h1, h2, h3⟩ := i3_no h
    refine ⟨72, rfl, ?_⟩
    rw [if_neg h1, if_neg h2, if_neg h3]
    refine mx_if mo_Pe_weights 1 (t := 86) (f := 76) rfl trivial (fun (q : (0 : Int32) ≤ w) => ?_) (fun (q : ¬ (0 : Int32) ≤ w) => ?_)
    · rw [if_neg (Int32.not_lt.mpr q)]
      have hrh := ct_Pe_requireHole (l := l) (sc := sc) (d := d) (M := M) hl (w - 3)
      rw [show (if M 1 4 = 0 then 0 else M 1 5) = nI N from hH] at hrh
      refine mx_cVr (n := 1) (n' := 1) mo_Pe_weights 4 (As := [.int (w - 3)]) (rest := []) rfl hrh rfl trivial rfl rfl rfl kv_Pe_154 kd_Pe_requireHole rfl rfl rfl (fun q => ?_) (fun q => ⟨by rw [if_neg q], rfl⟩)
      rw [if_pos q]
      obtain ⟨i, hi, ei⟩ := nI_inJ (by omega) q
      refine mx_go mo_Pe_weights 5 (pc' := 100) (ls' := [.ref 0, .int w]) (st' := [.int (w - 3), .ref 38]) (M' := M) rfl trivial ?_
      rw [ei, nI_clamp (by omega)]
      refine mx_cVi mo_Pe_weights 0 (As := [.int (nI i)]) (rest := []) rfl (ct_We_of hl (by omega)) rfl trivial rfl rfl rfl kv_Pe_187 kd_We_of rfl rfl rfl ?_
      exact mx_ret_i mo_Pe_weights rfl 0 rfl trivial rfl ⟨rfl, rfl⟩
    · rw [if_pos (Int32.not_le.mp q)]
      exact mx_thr (n := 1) mo_Pe_weights 0 (cls := xIO) (text := "less than 0") rfl rfl trivial rfl rfl rfl rfl rfl tw_IO (by decide +kernel) ⟨rfl, rfl⟩
def pe_find (M : mx_M) (fr ov tt : Nat → Nat) (J H : Nat) : mx_R × mx_M :=
  if ¬ M 1 4 = 0 then (if H ≤ 8 then (.inl (some (.int (if (we_tf fr ov tt J H (M 0 5) (M 0 6) 9 0 0 M).1 = 0 then 0 else 1))), we_sr (we_tf fr ov tt J H (M 0 5) (M 0 6) 9 0 0 M) H) else (.inr xIS, M)) else (.inr xIS, M)
theorem ct_Pe_find (hl : l.stackTraces = false) {H J : Nat} {fr ov tt : Nat → Nat} (hN : H ≤ 20) (hf : M 1 4 = 0 ∨ M 1 4 = 1) (hH : pe_H M = nI H) (hj : H ≤ 8 → ju_ok M J fr ov tt 8) : mx_Ct l (pg_L sc) mY_Pe_find (d + 12) 2 [.ref 0] M (mx_rA (pe_find M fr ov tt J H).1 (pe_find M fr ov tt J H).2) := by
  refine mx_bd (n0 := 1) hl (by decide +kernel) rfl rfl rfl ?_
  rw [pe_find]
  refine mx_cVr (n := 1) (n' := 1) mo_Pe_find 1 (As := []) (rest := []) rfl (ct_Pe_requireFrozen (d := d + 10) hl hf) rfl trivial rfl rfl rfl kv_Pe_160 kd_Pe_requireFrozen rfl rfl rfl (fun q => ?_) (fun q => ⟨by rw [if_neg q], by rw [if_neg q]⟩)
  rw [if_pos q]
  have hh : ∀ d, mx_Ct l (pg_L sc) mY_Bo_holes d 0 [.ref 1] M (mx_rI (nI H) M) := fun d => by
    have := ct_Bo_holes (l := l) (sc := sc) (d := d) (M := M) hl
    rw [show (if M 1 4 = 0 then 0 else M 1 5) = nI H from hH] at this
    exact this
  refine mx_cVi mo_Pe_find 2 (As := []) (rest := []) rfl (hh _) rfl trivial rfl rfl rfl kv_Pe_190 kd_Bo_holes rfl rfl rfl ?_
  refine mx_if mo_Pe_find 1 (t := 26) (f := 16) rfl trivial (fun (q1 : nI H ≤ nI 8) => ?_) (fun (q1 : ¬ nI H ≤ nI 8) => ?_)
  · rw [nI_leI (by omega) (by decide)] at q1
    rw [if_pos q1]
    refine mx_cVi mo_Pe_find 6 (As := []) (rest := [.ref 5, .ref 38]) rfl (hh _) rfl trivial rfl rfl rfl kv_Pe_190 kd_Bo_holes rfl rfl rfl ?_
    refine mx_cVi mo_Pe_find 4 (As := [.ref 5, .int (nI H), .int (M 0 5), .int (M 0 6)]) (rest := []) rfl (ct_We_search hl q1 (M 0 5) (M 0 6) (hj q1)) rfl trivial rfl rfl rfl kv_Pe_195 kd_We_search rfl rfl rfl ?_
    refine mx_ret_z mo_Pe_find rfl 0 rfl trivial rfl ?_ ⟨rfl, rfl⟩
    split
    · exact Or.inl rfl
    · exact Or.inr rfl
  · rw [nI_leI (by omega) (by decide)] at q1
    rw [if_neg q1]
    exact mx_thr (n := 0) mo_Pe_find 0 (cls := xIS) (text := "too many holes to try weights") rfl rfl trivial rfl rfl rfl rfl rfl tw_IS (by decide +kernel) ⟨rfl, rfl⟩
end FC
end
section
/-! PegBoards.freeze. -/
section FZ
variable {l : Launch} {sc : Nat × (Nat → Int32)} {d : Nat} {M : mx_M}
theorem pg_nh_off {D : Nat → Bool} {c : Nat} (h1 : c ≠ 2) (h2 : c ≠ 3) (h3 : c ≠ 4) : ∀ p, pg_nh D M p c = M c := by
  intro p
  induction p with
  | zero => rfl
  | succ p ih =>
    rw [pg_nh]
    split
    · rw [mx_up_off h3, mx_up_off h2, mx_up_off h1, ih]
    · exact ih
/-- numbered; the jumps listed; the symmetries listed -/
def pe_f1 (M : mx_M) (D : Nat → Bool) : mx_M := mx_up (pg_nh D M 64) 1 4 1
def pe_f2 (A : mx_M) (N : Nat) : mx_M := if A 1 3 = 0 then ju_all pg_s1 pg_s2 4 A (N + 1) else ju_all pg_s3 pg_s4 6 A (N + 1)
def pe_f3 (B : mx_M) (N : Nat) : mx_M := sy_it (if B 1 3 = 0 then 4 else 6) N (mx_up B 11 3 (nI (N + 1))) (2 * (if B 1 3 = 0 then 4 else 6))
def pe_fz (M : mx_M) (D : Nat → Bool) (N : Nat) : mx_M := pe_f3 (pe_f2 (pe_f1 M D) N) N
theorem pe_f1_off {D : Nat → Bool} {c : Nat} (hc : c = 0 ∨ 4 < c) : pe_f1 M D c = M c := by
  rw [pe_f1, mx_up_off (by omega), pg_nh_off (by omega) (by omega) (by omega)]
theorem pe_f1_1 {D : Nat → Bool} : pe_f1 M D 1 = upd (M 1) 4 1 := by
  rw [pe_f1, mx_up_row, pg_nh_off (by decide) (by decide) (by decide)]
theorem pe_f2_off {N c : Nat} (hc : c < 5 ∨ 10 < c) : pe_f2 M N c = M c := by
  rw [pe_f2]
  split
  · rw [ju_all_off hc]
  · rw [ju_all_off hc]
theorem ct_Pe_freeze0 (hl : l.stackTraces = false) (h : pg_cb M = 0) : mx_Ct l (pg_L sc) mY_Pe_freeze (d + 4) 1 [.ref 0] M (mx_rA (.inr xIS) M) := by
  refine mx_bd (n0 := 1) hl (by decide +kernel) rfl rfl rfl ?_
  refine mx_cVi mo_Pe_freeze 2 (As := []) (rest := []) rfl (ct_Bo_canBeNumbered hl) rfl trivial rfl rfl rfl kv_Pe_83 kd_Bo_canBeNumbered rfl rfl rfl ?_
  refine mx_if mo_Pe_freeze 0 (t := 20) (f := 10) rfl trivial (fun q => absurd h q) (fun _ => ?_)
  exact mx_thr (n := 0) mo_Pe_freeze 0 (cls := xIS) (text := "the board is frozen or has no hole") rfl rfl trivial rfl rfl rfl rfl rfl tw_IS (by decide +kernel) ⟨rfl, rfl⟩
theorem ct_Pe_freeze1 (hl : l.stackTraces = false) {D : Nat → Bool} {N : Nat} (h : ¬ pg_cb M = 0) (hD : ∀ p, p < 64 → (M 2 p = -1 ↔ D p = false)) (hc : pg_n D 64 ≤ 20) (hN : N < 20) (h5 : M 1 5 = nI (N + 1)) (hJ : M 5 5 = 0) (hS : M 11 4 = 0) (ht : M 1 3 = 0 ∨ M 1 3 = 1) : mx_Ct l (pg_L sc) mY_Pe_freeze (d + 4) 1 [.ref 0] M (mx_rA (.inl (some (.int (pe_fz M D N 5 5)))) (pe_fz M D N)) := by
  refine mx_bd (n0 := 1) hl (by decide +kernel) rfl rfl rfl ?_
  refine mx_cVi mo_Pe_freeze 2 (As := []) (rest := []) rfl (ct_Bo_canBeNumbered hl) rfl trivial rfl rfl rfl kv_Pe_83 kd_Bo_canBeNumbered rfl rfl rfl ?_
  refine mx_if mo_Pe_freeze 0 (t := 20) (f := 10) rfl trivial (fun _ => ?_) (fun q => absurd q h)
  refine mx_cVv mo_Pe_freeze 2 (As := []) (rest := []) rfl (ct_Bo_numberHoles hl hD hc) rfl trivial rfl rfl rfl kv_Pe_89 kd_Bo_numberHoles rfl rfl rfl ?_
  change mx_E l (pg_L sc) mY_Pe_freeze (d + 4) 1 _ 27 [.ref 0] [] (pe_f1 M D)
  have a4 : ¬ pe_f1 M D 1 4 = 0 := by rw [pe_f1_1]; simp [upd]
  have a5 : pe_f1 M D 1 5 = nI (N + 1) := by rw [pe_f1_1]; simp [upd, h5]
  have a3 : pe_f1 M D 1 3 = 0 ∨ pe_f1 M D 1 3 = 1 := by rw [pe_f1_1]; simp [upd]; exact ht
  have aJ : pe_f1 M D 5 5 = nI 0 := by rw [pe_f1_off (by omega), hJ]; rfl
  have aS : pe_f1 M D 11 4 = 0 := by rw [pe_f1_off (by omega), hS]
  rw [pe_fz]
  generalize pe_f1 M D = A at a4 a5 a3 aJ aS ⊢
  refine mx_cVv mo_Pe_freeze 4 (As := [.ref 1]) (rest := []) rfl (ct_Ju_list (N := N + 1) (n := 0) hl (by omega) a4 a5 (by omega) aJ a3) rfl trivial rfl rfl rfl kv_Pe_92 kd_Ju_list rfl rfl rfl ?_
  change mx_E l (pg_L sc) mY_Pe_freeze (d + 4) 1 _ 38 [.ref 0] [] (pe_f2 A N)
  have b1 : pe_f2 A N 1 = A 1 := pe_f2_off (by omega)
  have b11 : pe_f2 A N 11 = A 11 := pe_f2_off (by omega)
  rw [← b1] at a4 a5 a3
  rw [← b11] at aS
  generalize pe_f2 A N = B at a4 a5 a3 aS ⊢
  refine mx_cVv mo_Pe_freeze 4 (As := [.ref 1]) (rest := []) rfl (ct_Sy_list (N := N) hl hN a4 a5 aS a3) rfl trivial rfl rfl rfl kv_Pe_96 kd_Sy_list rfl rfl rfl ?_
  change mx_E l (pg_L sc) mY_Pe_freeze (d + 4) 1 _ 49 [.ref 0] [] (pe_f3 B N)
  refine mx_cVi mo_Pe_freeze 2 (As := []) (rest := []) rfl (ct_Ju_size hl) rfl trivial rfl rfl rfl kv_Pe_97 kd_Ju_size rfl rfl rfl ?_
  exact mx_ret_i mo_Pe_freeze rfl 0 rfl trivial rfl ⟨rfl, rfl⟩
end FZ
end
section
/-! PegBoardsModel: the small methods. -/
section MO
variable {l : Launch} {sc : Nat × (Nat → Int32)} {d : Nat} {M : mx_M}
theorem i7 (r : Int32) : 7 < r ↔ 8 ≤ r := by
  rw [Int32.lt_iff_toInt_lt, Int32.le_iff_toInt_le, show (7 : Int32).toInt = 7 from rfl, show (8 : Int32).toInt = 8 from rfl]
  omega
theorem ct_Mo_thrown (hl : l.stackTraces = false) : mx_Ct l (pg_L sc) mY_Mo_thrown d 0 [.ref 41] M (mx_rI (M 41 0) M) := by
  refine mx_bd (n0 := 1) hl (by decide +kernel) rfl rfl rfl ?_
  exact mx_ret_i mo_Mo_thrown rfl 2 rfl trivial rfl ⟨rfl, rfl⟩
theorem ct_Mo_off (hl : l.stackTraces = false) (r c : Int32) : mx_Ct l (pg_L sc) mY_Mo_off d 0 [.int r, .int c] M (mx_rI (if pg_in r c = 0 then 1 else 0) M) := by
  refine mx_bd (n0 := 2) hl (by decide +kernel) rfl rfl rfl ?_
  have fin : pg_in r c = 0 → mx_E l (pg_L sc) mY_Mo_off d 0 (mx_rI (if pg_in r c = 0 then 1 else 0) M) 20 [.int r, .int c] [] M := by
    intro h
    rw [if_pos h]
    exact mx_ret_z mo_Mo_off rfl 2 rfl trivial rfl (Or.inr rfl) ⟨rfl, rfl⟩
  refine mx_if mo_Mo_off 1 (t := 20) (f := 4) rfl trivial (fun (h : r < 0) => fin (by rw [pg_in, if_pos h])) (fun (h1 : ¬ r < 0) => ?_)
  refine mx_if mo_Mo_off 2 (t := 20) (f := 10) rfl trivial (fun (h : 7 < r) => fin (by rw [pg_in, if_neg h1, if_pos ((i7 r).mp h)])) (fun (h2 : ¬ 7 < r) => ?_)
  rw [i7] at h2
  refine mx_if mo_Mo_off 1 (t := 20) (f := 14) rfl trivial (fun (h : c < 0) => fin (by rw [pg_in, if_neg h1, if_neg h2, if_pos h])) (fun (h3 : ¬ c < 0) => ?_)
  refine mx_if mo_Mo_off 2 (t := 24) (f := 20) rfl trivial (fun (h : c ≤ 7) => ?_) (fun (h : ¬ c ≤ 7) => fin (by rw [pg_in, if_neg h1, if_neg h2, if_neg h3, if_pos ((i7 c).mp (Int32.not_le.mp h))]))
  have h4 : ¬ 8 ≤ c := fun q => absurd h (Int32.not_le.mpr ((i7 c).mpr q))
  have h5 : ¬ pg_in r c = 0 := by rw [pg_in, if_neg h1, if_neg h2, if_neg h3, if_neg h4]; decide
  rw [if_neg h5]
  exact mx_ret_z mo_Mo_off rfl 1 rfl trivial rfl (Or.inl rfl) ⟨rfl, rfl⟩
def mo_cl (M : mx_M) (t : Int32) : mx_M := mx_up (mx_up (mx_up (mx_up (mx_up (mx_up (mx_up (mx_up M 41 0 0) 41 1 t) 41 2 0) 41 3 0) 41 8 0) 41 12 0) 41 16 0) 41 17 0
def mo_clear (M : mx_M) (t : Int32) : mx_M := pg_fill (pg_fill (mo_cl M t) 42 64 0) 52 20 0
theorem ct_Mo_clear (hl : l.stackTraces = false) {t : Int32} (ht : t = 0 ∨ t = 1) : mx_Ct l (pg_L sc) mY_Mo_clear d 0 [.ref 41, .int t] M (mx_rV (mo_clear M t)) := by
  have loop2 : ∀ (m i : Nat) (B : mx_M), 20 - i = m → i ≤ 20 → mx_E l (pg_L sc) mY_Mo_clear d 0 (mx_rV (pg_fill B 52 20 0)) 63 [.ref 41, .int t, .int (nI i)] [] (pg_fill B 52 i 0) := by
    intro m
    induction m with
    | zero =>
      intro i B hm hi
      have e : i = 20 := by omega
      subst e
      refine mx_if mo_Mo_clear 2 (t := 82) (f := 69) rfl trivial (fun h => ?_) (fun h => absurd (nI_le (Nat.le_refl 20) (by decide)) h)
      exact mx_ret_v mo_Mo_clear rfl 0 rfl trivial rfl ⟨rfl, rfl⟩
    | succ m ih =>
      intro i B hm hi
      have e : (nI i).toNatClampNeg = i := nI_clamp (by omega)
      refine mx_if mo_Mo_clear 2 (t := 82) (f := 69) rfl trivial (fun (h : nI 20 ≤ nI i) => absurd h (nI_ge (by omega) (by decide))) (fun h => ?_)
      refine mx_go mo_Mo_clear 7 (pc' := 63) (ls' := [.ref 41, .int t, .int (nI i + 1)]) (st' := []) (M' := mx_up (pg_fill B 52 i 0) 52 (nI i).toNatClampNeg 0) rfl ⟨vp_in_nI (N := 20) (by omega) (by decide), trivial⟩ ?_
      rw [e, pg_fill_s, nI_1]
      exact ih (i + 1) B (by omega) (by omega)
  have loop1 : ∀ (m i : Nat), 64 - i = m → i ≤ 64 → mx_E l (pg_L sc) mY_Mo_clear d 0 (mx_rV (mo_clear M t)) 42 [.ref 41, .int t, .int (nI i)] [] (pg_fill (mo_cl M t) 42 i 0) := by
    intro m
    induction m with
    | zero =>
      intro i hm hi
      have e : i = 64 := by omega
      subst e
      refine mx_if mo_Mo_clear 2 (t := 61) (f := 48) rfl trivial (fun h => ?_) (fun h => absurd (nI_le (Nat.le_refl 64) (by decide)) h)
      refine mx_go mo_Mo_clear 2 (pc' := 63) (ls' := [.ref 41, .int t, .int (nI 0)]) (st' := []) (M' := pg_fill (mo_cl M t) 42 64 0) rfl trivial ?_
      have := loop2 20 0 (pg_fill (mo_cl M t) 42 64 0) (by omega) (by omega)
      rw [pg_fill_0] at this
      exact this
    | succ m ih =>
      intro i hm hi
      have e : (nI i).toNatClampNeg = i := nI_clamp (by omega)
      refine mx_if mo_Mo_clear 2 (t := 61) (f := 48) rfl trivial (fun (h : nI 64 ≤ nI i) => absurd h (nI_ge (by omega) (by decide))) (fun h => ?_)
      refine mx_go mo_Mo_clear 7 (pc' := 42) (ls' := [.ref 41, .int t, .int (nI i + 1)]) (st' := []) (M' := mx_up (pg_fill (mo_cl M t) 42 i 0) 42 (nI i).toNatClampNeg 0) rfl ⟨⟨vp_in_nI (N := 64) (by omega) (by decide), Or.inl rfl⟩, trivial⟩ ?_
      rw [e, pg_fill_s, nI_1]
      exact ih (i + 1) (by omega) (by omega)
  refine mx_bd (n0 := 2) hl (by decide +kernel) rfl rfl rfl ?_
  refine mx_go mo_Mo_clear 26 (pc' := 42) (ls' := [.ref 41, .int t, .int (nI 0)]) (st' := []) (M' := mo_cl M t) rfl ⟨ht, Or.inl rfl, trivial⟩ ?_
  have := loop1 64 0 (by omega) (by omega)
  rw [pg_fill_0] at this
  exact this
theorem pg_ix2 {i j : Nat} : 8 * nI i + nI j = nI (i * 8 + j) := by
  rw [show (8 : Int32) = nI 8 from rfl, pk_mul, nI_add, Nat.mul_comm]
def mo_at (M : mx_M) (r c : Int32) : Int32 := if pg_in r c = 0 then -1 else if M 42 (r * 8 + c).toNatClampNeg = 0 then -1 else M 43 (r * 8 + c).toNatClampNeg
theorem ct_Mo_numberAt (hl : l.stackTraces = false) (r c : Int32) : mx_Ct l (pg_L sc) mY_Mo_numberAt (d + 1) 0 [.ref 41, .int r, .int c] M (mx_rI (mo_at M r c) M) := by
  refine mx_bd (n0 := 3) hl (by decide +kernel) rfl rfl rfl ?_
  refine mx_cSi mo_Mo_numberAt 2 (As := [.int r, .int c]) (rest := []) rfl (ct_Mo_off hl r c) rfl trivial rfl ks_Mo_91 kd_Mo_off rfl rfl rfl ?_
  rw [mo_at]
  by_cases h : pg_in r c = 0
  · rw [if_pos h, if_pos h]
    refine mx_if mo_Mo_numberAt 0 (t := 22) (f := 8) rfl trivial (fun _ => ?_) (fun (q : (1 : Int32) = 0) => absurd q (by decide))
    exact mx_ret_i mo_Mo_numberAt rfl 2 rfl trivial rfl ⟨rfl, rfl⟩
  · rw [if_neg h, if_neg h]
    obtain ⟨i, j, hi, hj, rfl, rfl⟩ := pg_in_s h
    have hv : vp_in (8 * nI i + nI j) 64 := by rw [pg_ix2]; exact vp_in_nI (by omega) (by decide)
    have e : (8 * nI i + nI j).toNatClampNeg = (nI i * 8 + nI j).toNatClampNeg := by rw [pg_ix2, pg_ix]
    refine mx_if mo_Mo_numberAt 0 (t := 22) (f := 8) rfl trivial (fun (q : ¬ (0 : Int32) = 0) => absurd rfl q) (fun _ => ?_)
    refine mx_if mo_Mo_numberAt 8 (t := 26) (f := 22) rfl ⟨hv, trivial⟩ (fun (q : ¬ M 42 (8 * nI i + nI j).toNatClampNeg = 0) => ?_) (fun (q : M 42 (8 * nI i + nI j).toNatClampNeg = 0) => ?_)
    · rw [e] at q
      rw [if_neg q]
      exact mx_ret_i mo_Mo_numberAt rfl 8 (v := M 43 (8 * nI i + nI j).toNatClampNeg) rfl ⟨hv, trivial⟩ rfl ⟨by rw [e], rfl⟩
    · rw [e] at q
      rw [if_pos q]
      exact mx_ret_i mo_Mo_numberAt rfl 2 rfl trivial rfl ⟨rfl, rfl⟩
def mo_hole (M : mx_M) (r c : Int32) : Int32 × mx_M := if pg_in r c = 0 then (0, mx_up M 41 0 1) else if ¬ M 41 2 = 0 ∨ ¬ M 42 (r * 8 + c).toNatClampNeg = 0 ∨ M 41 3 = 20 then (0, mx_up (mx_up M 41 0 0) 41 0 2) else (M 41 3 + 1, mx_up (mx_up (mx_up M 41 0 0) 42 (r * 8 + c).toNatClampNeg 1) 41 3 (M 41 3 + 1))
theorem ct_Mo_hole (hl : l.stackTraces = false) (r c : Int32) : mx_Ct l (pg_L sc) mY_Mo_hole (d + 1) 0 [.ref 41, .int r, .int c] M (mx_rI (mo_hole M r c).1 (mo_hole M r c).2) := by
  refine mx_bd (n0 := 3) hl (by decide +kernel) rfl rfl rfl ?_
  refine mx_cSi mo_Mo_hole 3 (As := [.int r, .int c]) (rest := [.ref 41]) rfl (ct_Mo_off hl r c) rfl trivial rfl ks_Mo_91 kd_Mo_off rfl rfl rfl ?_
  rw [mo_hole]
  by_cases h : pg_in r c = 0
  · rw [if_pos h, if_pos h]
    refine mx_if mo_Mo_hole 0 (t := 13) (f := 9) rfl trivial (fun (q : (1 : Int32) = 0) => absurd q (by decide)) (fun _ => ?_)
    refine mx_go mo_Mo_hole 3 (pc' := 17) (ls' := [.ref 41, .int r, .int c]) (st' := []) (M' := mx_up M 41 0 1) rfl trivial ?_
    refine mx_if mo_Mo_hole 2 (t := 59) (f := 24) rfl trivial (fun _ => ?_) (fun (q : (1 : Int32) = 0) => absurd q (by decide))
    refine mx_if mo_Mo_hole 2 (t := 68) (f := 66) rfl trivial (fun (q : (1 : Int32) ≤ 0) => absurd q (by decide)) (fun _ => ?_)
    exact mx_ret_i mo_Mo_hole rfl 1 rfl trivial rfl ⟨rfl, rfl⟩
  · rw [if_neg h, if_neg h]
    obtain ⟨i, j, hi, hj, rfl, rfl⟩ := pg_in_s h
    have hv : vp_in (8 * nI i + nI j) 64 := by rw [pg_ix2]; exact vp_in_nI (by omega) (by decide)
    have e : (8 * nI i + nI j).toNatClampNeg = (nI i * 8 + nI j).toNatClampNeg := by rw [pg_ix2, pg_ix]
    refine mx_if mo_Mo_hole 0 (t := 13) (f := 9) rfl trivial (fun _ => ?_) (fun (q : ¬ (0 : Int32) = 0) => absurd rfl q)
    refine mx_go mo_Mo_hole 2 (pc' := 17) (ls' := [.ref 41, .int (nI i), .int (nI j)]) (st' := []) (M' := mx_up M 41 0 0) rfl trivial ?_
    refine mx_if mo_Mo_hole 2 (t := 59) (f := 24) rfl trivial (fun (q : ¬ (0 : Int32) = 0) => absurd rfl q) (fun _ => ?_)
    generalize hq : (nI i * 8 + nI j).toNatClampNeg = q0 at e ⊢
    have fin : (¬ M 41 2 = 0 ∨ ¬ M 42 q0 = 0 ∨ M 41 3 = 20) → mx_E l (pg_L sc) mY_Mo_hole (d + 1) 0 (mx_rI (if ¬ M 41 2 = 0 ∨ ¬ M 42 q0 = 0 ∨ M 41 3 = 20 then ((0, mx_up (mx_up M 41 0 0) 41 0 2) : Int32 × mx_M) else (M 41 3 + 1, mx_up (mx_up (mx_up M 41 0 0) 42 q0 1) 41 3 (M 41 3 + 1))).1 (if ¬ M 41 2 = 0 ∨ ¬ M 42 q0 = 0 ∨ M 41 3 = 20 then ((0, mx_up (mx_up M 41 0 0) 41 0 2) : Int32 × mx_M) else (M 41 3 + 1, mx_up (mx_up (mx_up M 41 0 0) 42 q0 1) 41 3 (M 41 3 + 1))).2) 54 [.ref 41, .int (nI i), .int (nI j)] [] (mx_up M 41 0 0) := by
      intro c
      rw [if_pos c]
      refine mx_if mo_Mo_hole 5 (t := 68) (f := 66) rfl trivial (fun (q : (2 : Int32) ≤ 0) => absurd q (by decide)) (fun _ => ?_)
      exact mx_ret_i mo_Mo_hole rfl 1 rfl trivial rfl ⟨rfl, rfl⟩
    refine mx_if mo_Mo_hole 2 (t := 54) (f := 31) rfl trivial (fun (q : ¬ M 41 2 = 0) => fin (Or.inl q)) (fun (q1 : M 41 2 = 0) => ?_)
    refine mx_if mo_Mo_hole 8 (t := 54) (f := 45) rfl ⟨hv, trivial⟩ (fun (q : ¬ M 42 (8 * nI i + nI j).toNatClampNeg = 0) => fin (Or.inr (Or.inl (by rw [e] at q; exact q)))) (fun (q2 : M 42 (8 * nI i + nI j).toNatClampNeg = 0) => ?_)
    rw [e] at q2
    refine mx_if mo_Mo_hole 3 (t := 59) (f := 54) rfl trivial (fun (q3 : ¬ M 41 3 = 20) => ?_) (fun (q3 : M 41 3 = 20) => fin (Or.inr (Or.inr q3)))
    rw [if_neg (fun c => c.elim (fun c => c q1) (fun c => c.elim (fun c => c q2) q3))]
    refine mx_if mo_Mo_hole 2 (t := 68) (f := 66) rfl trivial (fun _ => ?_) (fun (q : ¬ (0 : Int32) ≤ 0) => absurd (by decide) q)
    refine mx_ret_i mo_Mo_hole rfl 17 (M' := mx_up (mx_up (mx_up M 41 0 0) 42 (8 * nI i + nI j).toNatClampNeg 1) 41 3 (M 41 3 + 1)) (v := M 41 3 + 1) rfl ⟨⟨hv, Or.inr rfl⟩, trivial⟩ rfl ⟨rfl, by rw [e]⟩
def mo_dn (M : mx_M) (x : Int32) : Int32 := if M 41 1 = 0 then (if x = 1 then 1 else if x = 3 then -1 else 0) else (if x = 1 ∨ x = 2 then 1 else if x = 4 ∨ x = 5 then -1 else 0)
def mo_rt (M : mx_M) (x : Int32) : Int32 := if M 41 1 = 0 then (if x = 0 then 1 else if x = 2 then -1 else 0) else (if x = 0 ∨ x = 5 then 1 else if x = 2 ∨ x = 3 then -1 else 0)
theorem ct_Mo_down (hl : l.stackTraces = false) (x : Int32) : mx_Ct l (pg_L sc) mY_Mo_down d 0 [.ref 41, .int x] M (mx_rI (mo_dn M x) M) := by
  refine mx_bd (n0 := 2) hl (by decide +kernel) rfl rfl rfl ?_
  rw [mo_dn]
  refine mx_if mo_Mo_down 2 (t := 27) (f := 7) rfl trivial (fun (q : ¬ M 41 1 = 0) => ?_) (fun (q : M 41 1 = 0) => ?_)
  · rw [if_neg q]
    have f1 : (x = 1 ∨ x = 2) → mx_E l (pg_L sc) mY_Mo_down d 0 (mx_rI (if x = 1 ∨ x = 2 then 1 else if x = 4 ∨ x = 5 then -1 else 0) M) 37 [.ref 41, .int x] [] M := fun c => mx_ret_i mo_Mo_down rfl 2 (v := 1) rfl trivial rfl ⟨by rw [if_pos c], rfl⟩
    refine mx_if mo_Mo_down 2 (t := 37) (f := 32) rfl trivial (fun q1 => f1 (Or.inl q1)) (fun (q1 : ¬ x = 1) => ?_)
    refine mx_if mo_Mo_down 2 (t := 41) (f := 37) rfl trivial (fun (q2 : ¬ x = 2) => ?_) (fun q2 => f1 (Or.inr q2))
    rw [if_neg (fun c => c.elim q1 q2)]
    have f2 : (x = 4 ∨ x = 5) → mx_E l (pg_L sc) mY_Mo_down d 0 (mx_rI (if x = 4 ∨ x = 5 then -1 else 0) M) 51 [.ref 41, .int x] [] M := fun c => mx_ret_i mo_Mo_down rfl 2 (v := -1) rfl trivial rfl ⟨by rw [if_pos c], rfl⟩
    refine mx_if mo_Mo_down 2 (t := 51) (f := 46) rfl trivial (fun q1 => f2 (Or.inl q1)) (fun (q1 : ¬ x = 4) => ?_)
    refine mx_if mo_Mo_down 2 (t := 55) (f := 51) rfl trivial (fun (q2 : ¬ x = 5) => ?_) (fun q2 => f2 (Or.inr q2))
    exact mx_ret_i mo_Mo_down rfl 1 (v := 0) rfl trivial rfl ⟨by rw [if_neg (fun c => c.elim q1 q2)], rfl⟩
  · rw [if_pos q]
    refine mx_if mo_Mo_down 2 (t := 16) (f := 12) rfl trivial (fun (q1 : ¬ x = 1) => ?_) (fun (q1 : x = 1) => ?_)
    · rw [if_neg q1]
      refine mx_if mo_Mo_down 2 (t := 25) (f := 21) rfl trivial (fun (q1 : ¬ x = 3) => ?_) (fun (q1 : x = 3) => ?_)
      · exact mx_ret_i mo_Mo_down rfl 1 (v := 0) rfl trivial rfl ⟨by rw [if_neg q1], rfl⟩
      · exact mx_ret_i mo_Mo_down rfl 2 (v := -1) rfl trivial rfl ⟨by rw [if_pos q1], rfl⟩
    · exact mx_ret_i mo_Mo_down rfl 2 (v := 1) rfl trivial rfl ⟨by rw [if_pos q1], rfl⟩
theorem ct_Mo_right (hl : l.stackTraces = false) (x : Int32) : mx_Ct l (pg_L sc) mY_Mo_right d 0 [.ref 41, .int x] M (mx_rI (mo_rt M x) M) := by
  refine mx_bd (n0 := 2) hl (by decide +kernel) rfl rfl rfl ?_
  rw [mo_rt]
  refine mx_if mo_Mo_right 2 (t := 26) (f := 7) rfl trivial (fun (q : ¬ M 41 1 = 0) => ?_) (fun (q : M 41 1 = 0) => ?_)
  · rw [if_neg q]
    have f1 : (x = 0 ∨ x = 5) → mx_E l (pg_L sc) mY_Mo_right d 0 (mx_rI (if x = 0 ∨ x = 5 then 1 else if x = 2 ∨ x = 3 then -1 else 0) M) 35 [.ref 41, .int x] [] M := fun c => mx_ret_i mo_Mo_right rfl 2 (v := 1) rfl trivial rfl ⟨by rw [if_pos c], rfl⟩
    refine mx_if mo_Mo_right 1 (t := 35) (f := 30) rfl trivial (fun q1 => f1 (Or.inl q1)) (fun (q1 : ¬ x = 0) => ?_)
    refine mx_if mo_Mo_right 2 (t := 39) (f := 35) rfl trivial (fun (q2 : ¬ x = 5) => ?_) (fun q2 => f1 (Or.inr q2))
    rw [if_neg (fun c => c.elim q1 q2)]
    have f2 : (x = 2 ∨ x = 3) → mx_E l (pg_L sc) mY_Mo_right d 0 (mx_rI (if x = 2 ∨ x = 3 then -1 else 0) M) 49 [.ref 41, .int x] [] M := fun c => mx_ret_i mo_Mo_right rfl 2 (v := -1) rfl trivial rfl ⟨by rw [if_pos c], rfl⟩
    refine mx_if mo_Mo_right 2 (t := 49) (f := 44) rfl trivial (fun q1 => f2 (Or.inl q1)) (fun (q1 : ¬ x = 2) => ?_)
    refine mx_if mo_Mo_right 2 (t := 53) (f := 49) rfl trivial (fun (q2 : ¬ x = 3) => ?_) (fun q2 => f2 (Or.inr q2))
    exact mx_ret_i mo_Mo_right rfl 1 (v := 0) rfl trivial rfl ⟨by rw [if_neg (fun c => c.elim q1 q2)], rfl⟩
  · rw [if_pos q]
    refine mx_if mo_Mo_right 1 (t := 15) (f := 11) rfl trivial (fun (q1 : ¬ x = 0) => ?_) (fun (q1 : x = 0) => ?_)
    · rw [if_neg q1]
      refine mx_if mo_Mo_right 2 (t := 24) (f := 20) rfl trivial (fun (q1 : ¬ x = 2) => ?_) (fun (q1 : x = 2) => ?_)
      · exact mx_ret_i mo_Mo_right rfl 1 (v := 0) rfl trivial rfl ⟨by rw [if_neg q1], rfl⟩
      · exact mx_ret_i mo_Mo_right rfl 2 (v := -1) rfl trivial rfl ⟨by rw [if_pos q1], rfl⟩
    · exact mx_ret_i mo_Mo_right rfl 2 (v := 1) rfl trivial rfl ⟨by rw [if_pos q1], rfl⟩
theorem ct_Mo_turns (hl : l.stackTraces = false) : mx_Ct l (pg_L sc) mY_Mo_turns d 0 [.ref 41] M (mx_rI (if M 41 1 = 0 then 4 else 6) M) := by
  refine mx_bd (n0 := 1) hl (by decide +kernel) rfl rfl rfl ?_
  refine mx_if mo_Mo_turns 2 (t := 12) (f := 7) rfl trivial (fun (q : M 41 1 = 0) => ?_) (fun (q : ¬ M 41 1 = 0) => ?_)
  · exact mx_ret_i mo_Mo_turns rfl 1 (v := 4) rfl trivial rfl ⟨by rw [if_pos q], rfl⟩
  · exact mx_ret_i mo_Mo_turns rfl 2 (v := 6) rfl trivial rfl ⟨by rw [if_neg q], rfl⟩
theorem ct_Mo_at (hl : l.stackTraces = false) (r c : Int32) : mx_Ct l (pg_L sc) mY_Mo_at (d + 2) 0 [.ref 41, .int r, .int c] M (mx_rI (if M 41 2 = 0 then -1 else mo_at M r c) (mx_up M 41 0 0)) := by
  refine mx_bd (n0 := 3) hl (by decide +kernel) rfl rfl rfl ?_
  refine mx_if mo_Mo_at 5 (t := 21) (f := 12) rfl trivial (fun (q : M 41 2 = 0) => ?_) (fun (q : ¬ M 41 2 = 0) => ?_)
  · exact mx_ret_i mo_Mo_at rfl 1 (v := -1) rfl trivial rfl ⟨by rw [if_pos q], rfl⟩
  · rw [if_neg q]
    refine mx_cVi mo_Mo_at 3 (As := [.int r, .int c]) (rest := []) rfl (ct_Mo_numberAt hl r c) rfl trivial rfl rfl rfl kv_Mo_99 kd_Mo_numberAt rfl rfl rfl ?_
    exact mx_ret_i mo_Mo_at rfl 1 rfl trivial rfl ⟨rfl, rfl⟩
theorem ct_Mo_noJump (hl : l.stackTraces = false) (k : Int32) : mx_Ct l (pg_L sc) mY_Mo_noJump d 0 [.ref 41, .int k] M (mx_rI (if ¬ k < 0 ∧ k < M 41 8 then 0 else 1) M) := by
  refine mx_bd (n0 := 2) hl (by decide +kernel) rfl rfl rfl ?_
  have fin : ¬ (¬ k < 0 ∧ k < M 41 8) → mx_E l (pg_L sc) mY_Mo_noJump d 0 (mx_rI (if ¬ k < 0 ∧ k < M 41 8 then 0 else 1) M) 12 [.ref 41, .int k] [] M := fun c => mx_ret_z mo_Mo_noJump rfl 2 rfl trivial rfl (Or.inr rfl) ⟨by rw [if_neg c]; rfl, rfl⟩
  refine mx_if mo_Mo_noJump 1 (t := 12) (f := 4) rfl trivial (fun q => fin (fun c => c.1 q)) (fun q => ?_)
  refine mx_if mo_Mo_noJump 3 (t := 16) (f := 12) rfl trivial (fun q1 => ?_) (fun q1 => fin (fun c => q1 c.2))
  exact mx_ret_z mo_Mo_noJump rfl 1 rfl trivial rfl (Or.inl rfl) ⟨by rw [if_pos ⟨q, q1⟩]; rfl, rfl⟩
def mo_all (M : mx_M) : Int32 := if M 41 2 = 0 then 1 else 1 <<< (M 41 3 &&& 31)
theorem ct_Mo_noPosition (hl : l.stackTraces = false) (k : Int32) : mx_Ct l (pg_L sc) mY_Mo_noPosition d 0 [.ref 41, .int k] M (mx_rI (if ¬ k < 0 ∧ k < mo_all M then 0 else 1) M) := by
  refine mx_bd (n0 := 2) hl (by decide +kernel) rfl rfl rfl ?_
  have fin : ¬ (¬ k < 0 ∧ k < mo_all M) → mx_E l (pg_L sc) mY_Mo_noPosition d 0 (mx_rI (if ¬ k < 0 ∧ k < mo_all M then 0 else 1) M) 25 [.ref 41, .int k] [] M := fun c => mx_ret_z mo_Mo_noPosition rfl 2 rfl trivial rfl (Or.inr rfl) ⟨by rw [if_neg c]; rfl, rfl⟩
  refine mx_if mo_Mo_noPosition 1 (t := 25) (f := 4) rfl trivial (fun q => fin (fun c => c.1 q)) (fun (q : ¬ k < 0) => ?_)
  have mid : mx_E l (pg_L sc) mY_Mo_noPosition d 0 (mx_rI (if ¬ k < 0 ∧ k < mo_all M then 0 else 1) M) 22 [.ref 41, .int k] [.int (mo_all M), .int k] M := by
    refine mx_if mo_Mo_noPosition 0 (t := 29) (f := 25) rfl trivial (fun q1 => ?_) (fun q1 => fin (fun c => q1 c.2))
    exact mx_ret_z mo_Mo_noPosition rfl 1 rfl trivial rfl (Or.inl rfl) ⟨by rw [if_pos ⟨q, q1⟩]; rfl, rfl⟩
  refine mx_if mo_Mo_noPosition 3 (t := 21) (f := 12) rfl trivial (fun (q1 : M 41 2 = 0) => ?_) (fun (q1 : ¬ M 41 2 = 0) => ?_)
  · rw [show mo_all M = 1 by rw [mo_all, if_pos q1]] at mid ⊢
    exact mx_go mo_Mo_noPosition 1 (pc' := 22) (ls' := [.ref 41, .int k]) (st' := [.int 1, .int k]) (M' := M) rfl trivial mid
  · rw [show mo_all M = 1 <<< (M 41 3 &&& 31) by rw [mo_all, if_neg q1]] at mid ⊢
    exact mx_go mo_Mo_noPosition 5 (pc' := 22) (ls' := [.ref 41, .int k]) (st' := [.int (1 <<< (M 41 3 &&& 31)), .int k]) (M' := M) rfl trivial mid
end MO
end
section
/-! PegBoardsModel: jumps, positions, and its table. -/
section MP
variable {l : Launch} {sc : Nat × (Nat → Int32)} {d : Nat} {M : mx_M}
theorem ct_Mo_symmetries (hl : l.stackTraces = false) : mx_Ct l (pg_L sc) mY_Mo_symmetries d 0 [.ref 41] M (mx_rI (M 41 12) (mx_up M 41 0 0)) := by
  refine mx_bd (n0 := 1) hl (by decide +kernel) rfl rfl rfl ?_
  exact mx_ret_i mo_Mo_symmetries rfl 5 rfl trivial rfl ⟨rfl, rfl⟩
theorem ct_Mo_noHole (hl : l.stackTraces = false) (k : Int32) : mx_Ct l (pg_L sc) mY_Mo_noHole d 0 [.ref 41, .int k] M (mx_rI (if ¬ M 41 2 = 0 ∧ ¬ k < 0 ∧ k < M 41 3 then 0 else 1) M) := by
  refine mx_bd (n0 := 2) hl (by decide +kernel) rfl rfl rfl ?_
  have fin : ¬ (¬ M 41 2 = 0 ∧ ¬ k < 0 ∧ k < M 41 3) → mx_E l (pg_L sc) mY_Mo_noHole d 0 (mx_rI (if ¬ M 41 2 = 0 ∧ ¬ k < 0 ∧ k < M 41 3 then 0 else 1) M) 19 [.ref 41, .int k] [] M := fun c => mx_ret_z mo_Mo_noHole rfl 2 rfl trivial rfl (Or.inr rfl) ⟨by rw [if_neg c]; rfl, rfl⟩
  refine mx_if mo_Mo_noHole 2 (t := 19) (f := 7) rfl trivial (fun (q : M 41 2 = 0) => fin (fun c => c.1 q)) (fun (q0 : ¬ M 41 2 = 0) => ?_)
  refine mx_if mo_Mo_noHole 1 (t := 19) (f := 11) rfl trivial (fun q => fin (fun c => c.2.1 q)) (fun q => ?_)
  refine mx_if mo_Mo_noHole 3 (t := 23) (f := 19) rfl trivial (fun q1 => ?_) (fun q1 => fin (fun c => q1 c.2.2))
  exact mx_ret_z mo_Mo_noHole rfl 1 rfl trivial rfl (Or.inl rfl) ⟨by rw [if_pos ⟨q0, q, q1⟩]; rfl, rfl⟩
def mo_jump (M : mx_M) (k w : Int32) : Int32 × mx_M := if (¬ k < 0 ∧ k < M 41 8) ∧ ¬ w < 0 ∧ w ≤ 2 then ((if w = 0 then M 46 k.toNatClampNeg else if w = 1 then M 47 k.toNatClampNeg else M 48 k.toNatClampNeg), mx_up M 41 0 0) else (0, mx_up M 41 0 1)
theorem ct_Mo_jump (hl : l.stackTraces = false) {J : Nat} (hJ : J ≤ 120) (hs : M 41 8 = nI J) (k w : Int32) : mx_Ct l (pg_L sc) mY_Mo_jump (d + 1) 0 [.ref 41, .int k, .int w] M (mx_rI (mo_jump M k w).1 (mo_jump M k w).2) := by
  refine mx_bd (n0 := 3) hl (by decide +kernel) rfl rfl rfl ?_
  refine mx_cVi mo_Mo_jump 3 (As := [.int k]) (rest := [.ref 41]) rfl (ct_Mo_noJump hl k) rfl trivial rfl rfl rfl kv_Mo_114 kd_Mo_noJump rfl rfl rfl ?_
  rw [mo_jump]
  have fin : ¬ ((¬ k < 0 ∧ k < M 41 8) ∧ ¬ w < 0 ∧ w ≤ 2) → mx_E l (pg_L sc) mY_Mo_jump (d + 1) 0 (mx_rI (if (¬ k < 0 ∧ k < M 41 8) ∧ ¬ w < 0 ∧ w ≤ 2 then (((if w = 0 then M 46 k.toNatClampNeg else if w = 1 then M 47 k.toNatClampNeg else M 48 k.toNatClampNeg), mx_up M 41 0 0) : Int32 × mx_M) else (0, mx_up M 41 0 1)).1 (if (¬ k < 0 ∧ k < M 41 8) ∧ ¬ w < 0 ∧ w ≤ 2 then (((if w = 0 then M 46 k.toNatClampNeg else if w = 1 then M 47 k.toNatClampNeg else M 48 k.toNatClampNeg), mx_up M 41 0 0) : Int32 × mx_M) else (0, mx_up M 41 0 1)).2) 18 [.ref 41, .int k, .int w] [.ref 41] M := by
    intro c
    rw [if_neg c]
    refine mx_if mo_Mo_jump 5 (t := 37) (f := 33) rfl trivial (fun (q : (1 : Int32) ≤ 0) => absurd q (by decide)) (fun _ => ?_)
    exact mx_ret_i mo_Mo_jump rfl 2 rfl trivial rfl ⟨rfl, rfl⟩
  by_cases c : ¬ k < 0 ∧ k < M 41 8
  · rw [if_pos c]
    refine mx_if mo_Mo_jump 0 (t := 18) (f := 9) rfl trivial (fun q => absurd rfl q) (fun _ => ?_)
    refine mx_if mo_Mo_jump 1 (t := 18) (f := 13) rfl trivial (fun q => fin (fun c => c.2.1 q)) (fun (q1 : ¬ w < 0) => ?_)
    refine mx_if mo_Mo_jump 2 (t := 22) (f := 18) rfl trivial (fun (q2 : w ≤ 2) => ?_) (fun q2 => fin (fun c => q2 c.2.2))
    rw [if_pos ⟨c, q1, q2⟩]
    rw [hs] at c
    obtain ⟨j, hj, rfl⟩ := nI_inJ (by omega) c
    have hv : vp_in (nI j) 120 := vp_in_nI (by omega) (by decide)
    refine mx_if mo_Mo_jump 4 (t := 37) (f := 33) rfl trivial (fun _ => ?_) (fun (q : ¬ (0 : Int32) ≤ 0) => absurd (by decide) q)
    refine mx_if mo_Mo_jump 1 (t := 50) (f := 41) rfl trivial (fun (q3 : ¬ w = 0) => ?_) (fun (q3 : w = 0) => ?_)
    · rw [if_neg q3]
      refine mx_if mo_Mo_jump 2 (t := 64) (f := 55) rfl trivial (fun (q4 : ¬ w = 1) => ?_) (fun (q4 : w = 1) => ?_)
      · rw [if_neg q4]
        exact mx_ret_i mo_Mo_jump rfl 4 (v := M 48 (nI j).toNatClampNeg) rfl ⟨hv, trivial⟩ rfl ⟨rfl, rfl⟩
      · rw [if_pos q4]
        exact mx_ret_i mo_Mo_jump rfl 5 (v := M 47 (nI j).toNatClampNeg) rfl ⟨hv, trivial⟩ rfl ⟨rfl, rfl⟩
    · rw [if_pos q3]
      exact mx_ret_i mo_Mo_jump rfl 5 (v := M 46 (nI j).toNatClampNeg) rfl ⟨hv, trivial⟩ rfl ⟨rfl, rfl⟩
  · rw [if_neg c]
    exact mx_if mo_Mo_jump 0 (t := 18) (f := 9) rfl trivial (fun _ => fin (fun c2 => c c2.1)) (fun (q : (1 : Int32) = 0) => absurd q (by decide))
def mo_place (M : mx_M) (b p : Int32) : mx_M := if ¬ p < 0 ∧ p < mo_all M then (if b = 0 then mx_up (mx_up (mx_up M 41 0 0) 41 16 p) 41 17 (M 41 17) else mx_up (mx_up (mx_up M 41 0 0) 41 16 (M 41 16)) 41 17 p) else mx_up M 41 0 1
theorem ct_Mo_place (hl : l.stackTraces = false) (b p : Int32) : mx_Ct l (pg_L sc) mY_Mo_place (d + 1) 0 [.ref 41, .int b, .int p] M (mx_rV (mo_place M b p)) := by
  refine mx_bd (n0 := 3) hl (by decide +kernel) rfl rfl rfl ?_
  refine mx_cVi mo_Mo_place 3 (As := [.int p]) (rest := [.ref 41]) rfl (ct_Mo_noPosition hl p) rfl trivial rfl rfl rfl kv_Mo_117 kd_Mo_noPosition rfl rfl rfl ?_
  rw [mo_place]
  by_cases c : ¬ p < 0 ∧ p < mo_all M
  · rw [if_pos c, if_pos c]
    refine mx_if mo_Mo_place 0 (t := 13) (f := 9) rfl trivial (fun _ => ?_) (fun q => absurd rfl q)
    refine mx_if mo_Mo_place 4 (t := 25) (f := 24) rfl trivial (fun _ => ?_) (fun (q : ¬ (0 : Int32) ≤ 0) => absurd (by decide) q)
    refine mx_if mo_Mo_place 2 (t := 37) (f := 30) rfl trivial (fun (q : b = 0) => ?_) (fun (q : ¬ b = 0) => ?_)
    · rw [if_pos q]
      refine mx_if mo_Mo_place 4 (t := 50) (f := 46) rfl trivial (fun _ => ?_) (fun (q2 : ¬ b = 0) => absurd q q2)
      exact mx_ret_v mo_Mo_place rfl 3 (M' := mx_up (mx_up (mx_up M 41 0 0) 41 16 p) 41 17 (M 41 17)) rfl trivial rfl ⟨rfl, rfl⟩
    · rw [if_neg q]
      refine mx_if mo_Mo_place 6 (t := 50) (f := 46) rfl trivial (fun (q2 : b = 0) => absurd q2 q) (fun _ => ?_)
      exact mx_ret_v mo_Mo_place rfl 3 (M' := mx_up (mx_up (mx_up M 41 0 0) 41 16 (M 41 16)) 41 17 p) rfl trivial rfl ⟨rfl, rfl⟩
  · rw [if_neg c, if_neg c]
    refine mx_if mo_Mo_place 0 (t := 13) (f := 9) rfl trivial (fun (q : (1 : Int32) = 0) => absurd q (by decide)) (fun _ => ?_)
    refine mx_if mo_Mo_place 5 (t := 25) (f := 24) rfl trivial (fun (q : (1 : Int32) ≤ 0) => absurd q (by decide)) (fun _ => ?_)
    exact mx_ret_v mo_Mo_place rfl 0 rfl trivial rfl ⟨rfl, rfl⟩
def mo_bit (p h : Int32) : Int32 := (p >>> (h &&& 31)) &&& 1
theorem ct_Mo_bit (hl : l.stackTraces = false) (p h : Int32) : mx_Ct l (pg_L sc) mY_Mo_bit d 0 [.int p, .int h] M (mx_rI (mo_bit p h) M) := by
  refine mx_bd (n0 := 2) hl (by decide +kernel) rfl rfl rfl ?_
  exact mx_ret_i mo_Mo_bit rfl 5 rfl trivial rfl ⟨rfl, rfl⟩
def mo_mk (p f o t : Int32) : Int32 := if mo_bit p f + mo_bit p o < 2 then -1 else if mo_bit p t = 1 then -1 else p - (1 <<< (f &&& 31)) - (1 <<< (o &&& 31)) + (1 <<< (t &&& 31))
theorem ct_Mo_made (hl : l.stackTraces = false) (p : Int32) {k : Nat} (hk : k < 120) : mx_Ct l (pg_L sc) mY_Mo_made (d + 1) 0 [.ref 41, .int p, .int (nI k)] M (mx_rI (mo_mk p (M 46 k) (M 47 k) (M 48 k)) M) := by
  have hv : vp_in (nI k) 120 := vp_in_nI hk (by decide)
  have e : (nI k).toNatClampNeg = k := nI_clamp (by omega)
  refine mx_bd (n0 := 3) hl (by decide +kernel) rfl rfl rfl ?_
  refine mx_go mo_Mo_made 5 (pc' := 7) (ls' := [.ref 41, .int p, .int (nI k)]) (st' := [.int (M 46 (nI k).toNatClampNeg), .int p]) (M' := M) rfl ⟨hv, trivial⟩ ?_
  rw [e]
  refine mx_cSi mo_Mo_made 0 (As := [.int p, .int (M 46 k)]) (rest := []) rfl (ct_Mo_bit hl p _) rfl trivial rfl ks_Mo_120 kd_Mo_bit rfl rfl rfl ?_
  refine mx_go mo_Mo_made 5 (pc' := 17) (ls' := [.ref 41, .int p, .int (nI k)]) (st' := [.int (M 47 (nI k).toNatClampNeg), .int p, .int (mo_bit p (M 46 k))]) (M' := M) rfl ⟨hv, trivial⟩ ?_
  rw [e]
  refine mx_cSi mo_Mo_made 0 (As := [.int p, .int (M 47 k)]) (rest := [.int (mo_bit p (M 46 k))]) rfl (ct_Mo_bit hl p _) rfl trivial rfl ks_Mo_120 kd_Mo_bit rfl rfl rfl ?_
  rw [mo_mk]
  refine mx_if mo_Mo_made 2 (t := 39) (f := 25) rfl trivial (fun (q : mo_bit p (M 46 k) + mo_bit p (M 47 k) < 2) => ?_) (fun (q : ¬ mo_bit p (M 46 k) + mo_bit p (M 47 k) < 2) => ?_)
  · rw [if_pos q]
    exact mx_ret_i mo_Mo_made rfl 1 rfl trivial rfl ⟨rfl, rfl⟩
  rw [if_neg q]
  refine mx_go mo_Mo_made 5 (pc' := 32) (ls' := [.ref 41, .int p, .int (nI k)]) (st' := [.int (M 48 (nI k).toNatClampNeg), .int p]) (M' := M) rfl ⟨hv, trivial⟩ ?_
  rw [e]
  refine mx_cSi mo_Mo_made 0 (As := [.int p, .int (M 48 k)]) (rest := []) rfl (ct_Mo_bit hl p _) rfl trivial rfl ks_Mo_120 kd_Mo_bit rfl rfl rfl ?_
  refine mx_if mo_Mo_made 1 (t := 41) (f := 39) rfl trivial (fun (q : ¬ mo_bit p (M 48 k) = 1) => ?_) (fun (q : mo_bit p (M 48 k) = 1) => ?_)
  · rw [if_neg q]
    refine mx_ret_i mo_Mo_made rfl 22 (v := p - (1 <<< (M 46 (nI k).toNatClampNeg &&& 31)) - (1 <<< (M 47 (nI k).toNatClampNeg &&& 31)) + (1 <<< (M 48 (nI k).toNatClampNeg &&& 31))) rfl ⟨hv, hv, hv, trivial⟩ rfl ⟨by rw [e], rfl⟩
  · rw [if_pos q]
    exact mx_ret_i mo_Mo_made rfl 1 rfl trivial rfl ⟨rfl, rfl⟩
def mo_after (M : mx_M) (p k : Int32) : Int32 × mx_M := if ¬ k < 0 ∧ k < M 41 8 then (if ¬ p < 0 ∧ p < mo_all M then (mo_mk p (M 46 k.toNatClampNeg) (M 47 k.toNatClampNeg) (M 48 k.toNatClampNeg), mx_up M 41 0 0) else (0, mx_up M 41 0 2)) else (0, mx_up M 41 0 1)
theorem ct_Mo_after (hl : l.stackTraces = false) {J : Nat} (hJ : J ≤ 120) (hs : M 41 8 = nI J) (p k : Int32) : mx_Ct l (pg_L sc) mY_Mo_after (d + 2) 0 [.ref 41, .int p, .int k] M (mx_rI (mo_after M p k).1 (mo_after M p k).2) := by
  refine mx_bd (n0 := 3) hl (by decide +kernel) rfl rfl rfl ?_
  refine mx_cVi mo_Mo_after 3 (As := [.int k]) (rest := [.ref 41]) rfl (ct_Mo_noJump hl k) rfl trivial rfl rfl rfl kv_Mo_114 kd_Mo_noJump rfl rfl rfl ?_
  rw [mo_after]
  by_cases c : ¬ k < 0 ∧ k < M 41 8
  · rw [if_pos c, if_pos c]
    refine mx_if mo_Mo_after 0 (t := 13) (f := 9) rfl trivial (fun _ => ?_) (fun q => absurd rfl q)
    refine mx_cVi mo_Mo_after 2 (As := [.int p]) (rest := [.ref 41]) rfl (ct_Mo_noPosition hl p) rfl trivial rfl rfl rfl kv_Mo_117 kd_Mo_noPosition rfl rfl rfl ?_
    by_cases c2 : ¬ p < 0 ∧ p < mo_all M
    · rw [if_pos c2, if_pos c2]
      rw [hs] at c
      obtain ⟨j, hj, rfl⟩ := nI_inJ (by omega) c
      refine mx_if mo_Mo_after 0 (t := 25) (f := 21) rfl trivial (fun _ => ?_) (fun q => absurd rfl q)
      refine mx_if mo_Mo_after 4 (t := 40) (f := 36) rfl trivial (fun _ => ?_) (fun (q : ¬ (0 : Int32) ≤ 0) => absurd (by decide) q)
      refine mx_cVi mo_Mo_after 3 (As := [.int p, .int (nI j)]) (rest := []) rfl (ct_Mo_made hl p (by omega)) rfl trivial rfl rfl rfl kv_Mo_123 kd_Mo_made rfl rfl rfl ?_
      exact mx_ret_i mo_Mo_after rfl 0 rfl trivial rfl ⟨by rw [nI_clamp (by omega)]; rfl, rfl⟩
    · rw [if_neg c2, if_neg c2]
      refine mx_if mo_Mo_after 0 (t := 25) (f := 21) rfl trivial (fun (q : (1 : Int32) = 0) => absurd q (by decide)) (fun _ => ?_)
      refine mx_if mo_Mo_after 5 (t := 40) (f := 36) rfl trivial (fun (q : (2 : Int32) ≤ 0) => absurd q (by decide)) (fun _ => ?_)
      exact mx_ret_i mo_Mo_after rfl 2 rfl trivial rfl ⟨rfl, rfl⟩
  · rw [if_neg c, if_neg c]
    refine mx_if mo_Mo_after 0 (t := 13) (f := 9) rfl trivial (fun (q : (1 : Int32) = 0) => absurd q (by decide)) (fun _ => ?_)
    refine mx_if mo_Mo_after 5 (t := 40) (f := 36) rfl trivial (fun (q : (1 : Int32) ≤ 0) => absurd q (by decide)) (fun _ => ?_)
    exact mx_ret_i mo_Mo_after rfl 2 rfl trivial rfl ⟨rfl, rfl⟩
def mo_weight (M : mx_M) (h w : Int32) : mx_M := if ¬ M 41 2 = 0 ∧ ¬ h < 0 ∧ h < M 41 3 then (if w < 0 ∨ ¬ w ≤ 60 then mx_up M 41 0 2 else mx_up (mx_up M 41 0 0) 52 h.toNatClampNeg w) else mx_up M 41 0 1
theorem ct_Mo_weight (hl : l.stackTraces = false) {N : Nat} (hN : N ≤ 20) (hs : M 41 3 = nI N) (h w : Int32) : mx_Ct l (pg_L sc) mY_Mo_weight (d + 1) 0 [.ref 41, .int h, .int w] M (mx_rV (mo_weight M h w)) := by
  refine mx_bd (n0 := 3) hl (by decide +kernel) rfl rfl rfl ?_
  refine mx_cVi mo_Mo_weight 3 (As := [.int h]) (rest := [.ref 41]) rfl (ct_Mo_noHole hl h) rfl trivial rfl rfl rfl kv_Mo_161 kd_Mo_noHole rfl rfl rfl ?_
  rw [mo_weight]
  by_cases c : ¬ M 41 2 = 0 ∧ ¬ h < 0 ∧ h < M 41 3
  · rw [if_pos c, if_pos c]
    refine mx_if mo_Mo_weight 0 (t := 13) (f := 9) rfl trivial (fun _ => ?_) (fun q => absurd rfl q)
    have fin : (w < 0 ∨ ¬ w ≤ 60) → mx_E l (pg_L sc) mY_Mo_weight (d + 1) 0 (mx_rV (if w < 0 ∨ ¬ w ≤ 60 then mx_up M 41 0 2 else mx_up (mx_up M 41 0 0) 52 h.toNatClampNeg w)) 23 [.ref 41, .int h, .int w] [.ref 41] M := by
      intro q
      rw [if_pos q]
      refine mx_if mo_Mo_weight 5 (t := 45) (f := 38) rfl trivial (fun _ => ?_) (fun (q : (2 : Int32) = 0) => absurd q (by decide))
      exact mx_ret_v mo_Mo_weight rfl 0 rfl trivial rfl ⟨rfl, rfl⟩
    refine mx_if mo_Mo_weight 1 (t := 23) (f := 17) rfl trivial (fun q1 => fin (Or.inl q1)) (fun (q1 : ¬ w < 0) => ?_)
    refine mx_if mo_Mo_weight 2 (t := 27) (f := 23) rfl trivial (fun (q2 : w ≤ 60) => ?_) (fun (q2 : ¬ w ≤ 60) => fin (Or.inr q2))
    rw [if_neg (fun c => c.elim q1 (fun c => c q2))]
    have c2 := c.2
    rw [hs] at c2
    obtain ⟨j, hj, rfl⟩ := nI_inJ (by omega) c2
    refine mx_if mo_Mo_weight 4 (t := 45) (f := 38) rfl trivial (fun q => absurd rfl q) (fun _ => ?_)
    exact mx_ret_v mo_Mo_weight rfl 5 (M' := mx_up (mx_up M 41 0 0) 52 (nI j).toNatClampNeg w) rfl ⟨vp_in_nI (N := 20) (by omega) (by decide), trivial⟩ rfl ⟨rfl, rfl⟩
  · rw [if_neg c, if_neg c]
    refine mx_if mo_Mo_weight 0 (t := 13) (f := 9) rfl trivial (fun (q : (1 : Int32) = 0) => absurd q (by decide)) (fun _ => ?_)
    refine mx_if mo_Mo_weight 5 (t := 45) (f := 38) rfl trivial (fun _ => ?_) (fun (q : (1 : Int32) = 0) => absurd q (by decide))
    exact mx_ret_v mo_Mo_weight rfl 0 rfl trivial rfl ⟨rfl, rfl⟩
end MP
end
section
/-! PegBoardsModel: its table and the reaching. -/
section MR
variable {l : Launch} {sc : Nat × (Nat → Int32)} {d : Nat} {M : mx_M}
def mo_x (p : Int32) : Int32 := (p * 37 + (p >>> ((9 : Int32) &&& 31))) &&& 1023
def mo_h (p : Int32) : Nat := (mo_x p).toNatClampNeg
theorem mo_hx (p : Int32) : mo_x p = nI (mo_h p) ∧ mo_h p < 1024 := by
  obtain ⟨j, hj, e⟩ := pk_andE (p * 37 + (p >>> ((9 : Int32) &&& 31))) (m := 1023) 10 (by decide)
  have e2 : mo_x p = nI j := e
  have e3 : mo_h p = j := by rw [mo_h, e2]; exact nI_clamp (by omega)
  rw [e3]
  exact ⟨e2, hj⟩
/-- the slot of a position -/
def mo_s (M : mx_M) (p : Int32) : Nat := hs_f (M 57) (M 54) p 1024 (mo_h p)
theorem mo_s_lt (p : Int32) : mo_s M p < 1024 := hs_lt _ _ (mo_hx p).2
theorem mo_s_in {n : Nat} (h : hs_ok mo_h (M 57) (M 54) n) (p : Int32) : (M 57 (mo_s M p) = 0 ∧ ∀ i, i < n → ¬ M 54 i = p) ∨ ∃ i, i < n ∧ M 54 i = p ∧ M 57 (mo_s M p) = nI (i + 1) := by
  obtain ⟨k, -, k2, -, k4⟩ := hs_find h p
  rw [mo_s, k2]
  exact k4
theorem ct_Mo_lookAt (hl : l.stackTraces = false) {n : Nat} (h : hs_ok mo_h (M 57) (M 54) n) (p : Int32) : mx_Ct l (pg_L sc) mY_Mo_lookAt d 0 [.ref 41, .int p] M (mx_rI (nI (mo_s M p)) M) := by
  have hT := mo_s_in h p
  have hn : n ≤ 500 := h.1
  have loop : ∀ (m t : Nat), t < 1024 → hs_f (M 57) (M 54) p m t = mo_s M p → mx_E l (pg_L sc) mY_Mo_lookAt d 0 (mx_rI (nI (mo_s M p)) M) 14 [.ref 41, .int p, .int (nI t)] [] M := by
    have stop : ∀ t, t < 1024 → t = mo_s M p → mx_E l (pg_L sc) mY_Mo_lookAt d 0 (mx_rI (nI (mo_s M p)) M) 14 [.ref 41, .int p, .int (nI t)] [] M := by
      intro t ht et
      have e : (nI t).toNatClampNeg = t := nI_clamp (by omega)
      have hv : vp_in (nI t) 1024 := vp_in_nI ht (by decide)
      have fin : mx_E l (pg_L sc) mY_Mo_lookAt d 0 (mx_rI (nI (mo_s M p)) M) 51 [.ref 41, .int p, .int (nI t)] [] M := mx_ret_i mo_Mo_lookAt rfl 1 (v := nI t) rfl trivial rfl ⟨by rw [et], rfl⟩
      rw [← et] at hT
      refine mx_if mo_Mo_lookAt 4 (t := 51) (f := 23) rfl ⟨hv, trivial⟩ (fun _ => fin) (fun (q : ¬ M 57 (nI t).toNatClampNeg ≤ 0) => ?_)
      rw [e] at q
      rcases hT with ⟨h1, -⟩ | ⟨i, hi, h1, h2⟩
      · exact absurd (by rw [h1]; decide) q
      · have e2 : M 57 (nI t).toNatClampNeg - 1 = nI i := by rw [e, h2]; exact nI_pred i
        have e3 : (nI i).toNatClampNeg = i := nI_clamp (by omega)
        have hw : vp_in (M 57 (nI t).toNatClampNeg - 1) 500 := by rw [e2]; exact vp_in_nI (by omega) (by decide)
        refine mx_if mo_Mo_lookAt 10 (t := 51) (f := 40) rfl ⟨hv, hw, trivial⟩ (fun _ => fin) (fun (q2 : ¬ M 54 (M 57 (nI t).toNatClampNeg - 1).toNatClampNeg = p) => ?_)
        rw [e2, e3] at q2
        exact absurd h1 q2
    intro m
    induction m with
    | zero => intro t ht he; exact stop t ht he
    | succ m ih =>
      intro t ht he
      rw [hs_f] at he
      by_cases hs : M 57 t = 0 ∨ M 54 ((M 57 t).toNatClampNeg - 1) = p
      · rw [if_pos hs] at he
        exact stop t ht he
      rw [if_neg hs] at he
      have e : (nI t).toNatClampNeg = t := nI_clamp (by omega)
      have hv : vp_in (nI t) 1024 := vp_in_nI ht (by decide)
      obtain ⟨i, hi, h2⟩ := (h.2.2.1 t ht).resolve_left (fun c => hs (Or.inl c))
      have e2 : M 57 (nI t).toNatClampNeg - 1 = nI i := by rw [e, h2]; exact nI_pred i
      have e3 : (nI i).toNatClampNeg = i := nI_clamp (by omega)
      have hw : vp_in (M 57 (nI t).toNatClampNeg - 1) 500 := by rw [e2]; exact vp_in_nI (by omega) (by decide)
      have e4 : (M 57 t).toNatClampNeg - 1 = i := by rw [h2, nI_clamp (by omega)]; omega
      refine mx_if mo_Mo_lookAt 4 (t := 51) (f := 23) rfl ⟨hv, trivial⟩ (fun (q : M 57 (nI t).toNatClampNeg ≤ 0) => ?_) (fun _ => ?_)
      · rw [e, h2] at q
        exact absurd q (nI_nle (by omega) (by omega))
      refine mx_if mo_Mo_lookAt 10 (t := 51) (f := 40) rfl ⟨hv, hw, trivial⟩ (fun (q2 : M 54 (M 57 (nI t).toNatClampNeg - 1).toNatClampNeg = p) => ?_) (fun _ => ?_)
      · rw [e2, e3] at q2
        exact absurd (Or.inr (by rw [e4]; exact q2)) hs
      refine mx_go mo_Mo_lookAt 7 (pc' := 14) (ls' := [.ref 41, .int p, .int ((nI t + 1) &&& 1023)]) (st' := []) (M' := M) rfl trivial ?_
      rw [fo_nx ht]
      exact ih _ (Nat.mod_lt _ (by decide)) he
  refine mx_bd (n0 := 2) hl (by decide +kernel) rfl rfl rfl ?_
  refine mx_go mo_Mo_lookAt 10 (pc' := 14) (ls' := [.ref 41, .int p, .int (mo_x p)]) (st' := []) (M' := M) rfl trivial ?_
  rw [(mo_hx p).1]
  exact loop 1024 (mo_h p) (mo_hx p).2 rfl
theorem ct_Mo_numberOf (hl : l.stackTraces = false) {n : Nat} (h : hs_ok mo_h (M 57) (M 54) n) (p : Int32) : mx_Ct l (pg_L sc) mY_Mo_numberOf (d + 1) 0 [.ref 41, .int p] M (mx_rI (M 57 (mo_s M p) - 1) M) := by
  refine mx_bd (n0 := 2) hl (by decide +kernel) rfl rfl rfl ?_
  refine mx_cVi mo_Mo_numberOf 4 (As := [.int p]) (rest := [.ref 57]) rfl (ct_Mo_lookAt hl h p) rfl trivial rfl rfl rfl kv_Mo_126 kd_Mo_lookAt rfl rfl rfl ?_
  have ht := mo_s_lt (M := M) p
  exact mx_ret_i mo_Mo_numberOf rfl 3 (v := M 57 (nI (mo_s M p)).toNatClampNeg - 1) rfl ⟨vp_in_nI ht (by decide), trivial⟩ rfl ⟨by rw [nI_clamp (by omega)], rfl⟩
def mo_en (M : mx_M) (n t : Nat) (p w j : Int32) : mx_M := mx_up (mx_up (mx_up (mx_up (mx_up M 57 t (nI (n + 1))) 54 n p) 55 n w) 56 n j) 41 20 (nI (n + 1))
theorem ct_Mo_enter (hl : l.stackTraces = false) {n : Nat} (h : hs_ok mo_h (M 57) (M 54) n) (hn : n < 500) (hf : M 41 20 = nI n) (p w j : Int32) : mx_Ct l (pg_L sc) mY_Mo_enter (d + 1) 0 [.ref 41, .int p, .int w, .int j] M (mx_rV (mo_en M n (mo_s M p) p w j)) := by
  refine mx_bd (n0 := 4) hl (by decide +kernel) rfl rfl rfl ?_
  refine mx_cVi mo_Mo_enter 4 (As := [.int p]) (rest := [.ref 57]) rfl (ct_Mo_lookAt hl h p) rfl trivial rfl rfl rfl kv_Mo_126 kd_Mo_lookAt rfl rfl rfl ?_
  have ht := mo_s_lt (M := M) p
  generalize mo_s M p = t at ht ⊢
  have e : (nI t).toNatClampNeg = t := nI_clamp (by omega)
  have en : (nI n).toNatClampNeg = n := nI_clamp (by omega)
  have hv : vp_in (M 41 20) 500 := by rw [hf]; exact vp_in_nI hn (by decide)
  refine mx_ret_v mo_Mo_enter rfl 29 (M' := mx_up (mx_up (mx_up (mx_up (mx_up M 57 (nI t).toNatClampNeg (M 41 20 + 1)) 54 (M 41 20).toNatClampNeg p) 55 (M 41 20).toNatClampNeg w) 56 (M 41 20).toNatClampNeg j) 41 20 (M 41 20 + 1)) rfl ⟨vp_in_nI ht (by decide), hv, hv, hv, trivial⟩ rfl ⟨rfl, ?_⟩
  rw [hf, e, en, nI_1]
  rfl
/-- jump k tried from position s -/
def mo_q (M : mx_M) (s k : Nat) : Int32 := mo_mk (M 54 s) (M 46 k) (M 47 k) (M 48 k)
def mo_k (L s k : Nat) (M : mx_M) : Bool × mx_M :=
  if mo_q M s k < 0 then (true, M) else if M 57 (mo_s M (mo_q M s k)) = 0 then
    (if (M 41 20).toNatClampNeg = L then (false, M) else (true, mo_en M (M 41 20).toNatClampNeg (mo_s M (mo_q M s k)) (mo_q M s k) (nI s) (nI k)))
  else (true, M)
def mo_row (L s : Nat) : Nat → Nat → mx_M → Bool × mx_M
  | 0, _, M => (true, M)
  | m + 1, k, M => if (mo_k L s k M).1 then mo_row L s m (k + 1) (mo_k L s k M).2 else (false, M)
def mo_ra (L J : Nat) : Nat → Nat → mx_M → Bool × mx_M
  | 0, _, M => (true, M)
  | m + 1, s, M => if s < (M 41 20).toNatClampNeg then (if (mo_row L s J 0 M).1 then mo_ra L J m (s + 1) (mo_row L s J 0 M).2 else (false, (mo_row L s J 0 M).2)) else (true, M)
def mo_ok (M : mx_M) (L : Nat) : Prop := L ≤ 500 ∧ ∃ n, n ≤ L ∧ M 41 20 = nI n ∧ hs_ok mo_h (M 57) (M 54) n
theorem mo_en_off {n t c : Nat} {p w j : Int32} (hc : c < 41 ∨ 41 < c ∧ c < 54 ∨ 57 < c) : mo_en M n t p w j c = M c := by
  rw [mo_en, mx_up_off (by omega), mx_up_off (by omega), mx_up_off (by omega), mx_up_off (by omega), mx_up_off (by omega)]
theorem mo_en_41 {n t c : Nat} {p w j : Int32} (hc : c ≠ 20) : mo_en M n t p w j 41 c = M 41 c := by
  rw [mo_en, mx_up_row, mx_up_off (by decide), mx_up_off (by decide), mx_up_off (by decide), mx_up_off (by decide)]
  simp [upd, hc]
theorem mo_en_f {n t : Nat} {p w j : Int32} : mo_en M n t p w j 41 20 = nI (n + 1) := by
  rw [mo_en, mx_up_row]; simp [upd]
theorem mo_en_54 {n t : Nat} {p w j : Int32} : mo_en M n t p w j 54 = upd (M 54) n p := by
  rw [mo_en, mx_up_off (by decide), mx_up_off (by decide), mx_up_off (by decide), mx_up_row, mx_up_off (by decide)]
theorem mo_en_57 {n t : Nat} {p w j : Int32} : mo_en M n t p w j 57 = upd (M 57) t (nI (n + 1)) := by
  rw [mo_en, mx_up_off (by decide), mx_up_off (by decide), mx_up_off (by decide), mx_up_off (by decide), mx_up_row]
theorem mo_k_ok {L s k : Nat} (h : mo_ok M L) : mo_ok (mo_k L s k M).2 L ∧ (M 41 20).toNatClampNeg ≤ ((mo_k L s k M).2 41 20).toNatClampNeg ∧ (∀ j, j < (M 41 20).toNatClampNeg → (mo_k L s k M).2 54 j = M 54 j) ∧ (∀ c, c < 41 ∨ 41 < c ∧ c < 54 ∨ 57 < c → (mo_k L s k M).2 c = M c) ∧ ∀ c, c ≠ 20 → (mo_k L s k M).2 41 c = M 41 c := by
  have h0 := h
  obtain ⟨h1, n, h2, h3, h4⟩ := h
  have hn : (M 41 20).toNatClampNeg = n := by rw [h3]; exact nI_clamp (by omega)
  unfold mo_k
  split
  · exact ⟨h0, Nat.le_refl _, fun _ _ => rfl, fun _ _ => rfl, fun _ _ => rfl⟩
  split
  next hq hz =>
    split
    · exact ⟨h0, Nat.le_refl _, fun _ _ => rfl, fun _ _ => rfl, fun _ _ => rfl⟩
    next hL =>
      rw [hn] at hL ⊢
      generalize mo_q M s k = q at hq hz ⊢
      have hnew : ∀ i, i < n → ¬ M 54 i = q := by
        rcases mo_s_in h4 q with ⟨-, q2⟩ | ⟨i, hi, -, q2⟩
        · exact q2
        · rw [q2] at hz; exact absurd hz (nI_ne0 (by omega) (by omega))
      have hadd := hs_add h4 (by omega) hnew
      dsimp only
      refine ⟨⟨h1, n + 1, by omega, ?_, ?_⟩, ?_, fun j hj => ?_, fun c hc => mo_en_off hc, fun c hc => mo_en_41 hc⟩
      · rw [mo_en_f]
      · rw [mo_en_54, mo_en_57]; exact hadd
      · rw [mo_en_f, nI_clamp (by omega)]; omega
      · rw [mo_en_54]; simp [upd, show j ≠ n by omega]
  · exact ⟨h0, Nat.le_refl _, fun _ _ => rfl, fun _ _ => rfl, fun _ _ => rfl⟩
theorem mo_row_ok {L s : Nat} : ∀ (m k : Nat) (M : mx_M), mo_ok M L → mo_ok (mo_row L s m k M).2 L ∧ (M 41 20).toNatClampNeg ≤ ((mo_row L s m k M).2 41 20).toNatClampNeg ∧ (∀ j, j < (M 41 20).toNatClampNeg → (mo_row L s m k M).2 54 j = M 54 j) ∧ (∀ c, c < 41 ∨ 41 < c ∧ c < 54 ∨ 57 < c → (mo_row L s m k M).2 c = M c) ∧ ∀ c, c ≠ 20 → (mo_row L s m k M).2 41 c = M 41 c := by
  intro m
  induction m with
  | zero => intro k M h; exact ⟨h, Nat.le_refl _, fun _ _ => rfl, fun _ _ => rfl, fun _ _ => rfl⟩
  | succ m ih =>
    intro k M h
    rw [mo_row]
    split
    · obtain ⟨a1, a2, a3, a4, a5⟩ := mo_k_ok (s := s) (k := k) h
      obtain ⟨b1, b2, b3, b4, b5⟩ := ih (k + 1) _ a1
      exact ⟨b1, Nat.le_trans a2 b2, fun j hj => by rw [b3 j (by omega), a3 j hj], fun c hc => by rw [b4 c hc, a4 c hc], fun c hc => by rw [b5 c hc, a5 c hc]⟩
    · exact ⟨h, Nat.le_refl _, fun _ _ => rfl, fun _ _ => rfl, fun _ _ => rfl⟩
theorem mo_ra_ok {L J : Nat} : ∀ (m s : Nat) (M : mx_M), mo_ok M L → mo_ok (mo_ra L J m s M).2 L ∧ (M 41 20).toNatClampNeg ≤ ((mo_ra L J m s M).2 41 20).toNatClampNeg ∧ (∀ j, j < (M 41 20).toNatClampNeg → (mo_ra L J m s M).2 54 j = M 54 j) ∧ (∀ c, c < 41 ∨ 41 < c ∧ c < 54 ∨ 57 < c → (mo_ra L J m s M).2 c = M c) ∧ ∀ c, c ≠ 20 → (mo_ra L J m s M).2 41 c = M 41 c := by
  intro m
  induction m with
  | zero => intro s M h; exact ⟨h, Nat.le_refl _, fun _ _ => rfl, fun _ _ => rfl, fun _ _ => rfl⟩
  | succ m ih =>
    intro s M h
    rw [mo_ra]
    split
    · obtain ⟨a1, a2, a3, a4, a5⟩ := mo_row_ok (s := s) J 0 M h
      split
      · obtain ⟨b1, b2, b3, b4, b5⟩ := ih (s + 1) _ a1
        exact ⟨b1, Nat.le_trans a2 b2, fun j hj => by rw [b3 j (by omega), a3 j hj], fun c hc => by rw [b4 c hc, a4 c hc], fun c hc => by rw [b5 c hc, a5 c hc]⟩
      · exact ⟨a1, a2, a3, a4, a5⟩
    · exact ⟨h, Nat.le_refl _, fun _ _ => rfl, fun _ _ => rfl, fun _ _ => rfl⟩
end MR
end
section
/-! PegBoardsModel: reach, count, solve. -/
section MS
variable {l : Launch} {sc : Nat × (Nat → Int32)} {d : Nat} {M : mx_M}
def mo_e0 (M : mx_M) : mx_M := pg_fill (mx_up M 41 20 0) 57 1024 0
def mo_s0 (M : mx_M) : mx_M := mo_en (mo_e0 M) 0 (mo_s (mo_e0 M) (M 41 16)) (M 41 16) (-1) (-1)
theorem mo_e0_57 {t : Nat} (ht : t < 1024) : mo_e0 M 57 t = 0 := by
  simp [mo_e0, pg_fill, mx_row, ht]
theorem mo_e0_off {c : Nat} (h1 : c ≠ 41) (h2 : c ≠ 57) : mo_e0 M c = M c := by
  funext j
  simp [mo_e0, pg_fill, mx_row, h2, mx_up, h1]
theorem mo_e0_41 {j : Nat} (h : j ≠ 20) : mo_e0 M 41 j = M 41 j := by
  simp [mo_e0, pg_fill, mx_row, mx_up, h]
theorem mo_e0_f : mo_e0 M 41 20 = 0 := by
  simp [mo_e0, pg_fill, mx_row, mx_up]
theorem mo_e0_hs : hs_ok mo_h (mo_e0 M 57) (mo_e0 M 54) 0 := hs_nil (fun p => (mo_hx p).2) (fun _ ht => mo_e0_57 ht)
theorem mo_s0_ok {L : Nat} (h1 : 1 ≤ L) (h5 : L ≤ 500) : mo_ok (mo_s0 M) L ∧ mo_s0 M 41 20 = nI 1 ∧ mo_s0 M 54 0 = M 41 16 := by
  refine ⟨⟨h5, 1, h1, mo_en_f, ?_⟩, mo_en_f, ?_⟩
  · rw [mo_s0, mo_en_54, mo_en_57]
    exact hs_add mo_e0_hs (by decide) (fun i hi => absurd hi (Nat.not_lt_zero i))
  · rw [mo_s0, mo_en_54]; simp [upd]
theorem mo_s0_off {c : Nat} (hc : c < 41 ∨ 41 < c ∧ c < 54 ∨ 57 < c) : mo_s0 M c = M c := by
  rw [mo_s0, mo_en_off hc, mo_e0_off (by omega) (by omega)]
theorem mo_s0_41 {c : Nat} (hc : c ≠ 20) : mo_s0 M 41 c = M 41 c := by
  rw [mo_s0, mo_en_41 hc, mo_e0_41 hc]
def mo_go (M : mx_M) (L J : Nat) : Bool × mx_M := mo_ra L J L 0 (mo_s0 M)
theorem ct_Mo_reach (hl : l.stackTraces = false) {L J : Nat} (h1 : 1 ≤ L) (h5 : L ≤ 500) (hJ : J ≤ 120) (hs : M 41 8 = nI J) : mx_Ct l (pg_L sc) mY_Mo_reach (d + 2) 0 [.ref 41, .int (nI L)] M (mx_rI (if (mo_go M L J).1 then 1 else 0) (mo_go M L J).2) := by
  generalize hR : mo_go M L J = R
  have inner : ∀ (m k s : Nat) (M1 : mx_M) (z : Value), J - k = m → k ≤ J → s < (M1 41 20).toNatClampNeg → mo_ok M1 L → M1 41 8 = nI J →
      ((mo_row L s m k M1).1 = true → ∀ a b : Value, mx_E l (pg_L sc) mY_Mo_reach (d + 2) 0 (mx_rI (if R.1 then 1 else 0) R.2) 108 [.ref 41, .int (nI L), .int (nI s), a, b] [] (mo_row L s m k M1).2) → ((mo_row L s m k M1).1 = false → R = (false, (mo_row L s m k M1).2)) →
      mx_E l (pg_L sc) mY_Mo_reach (d + 2) 0 (mx_rI (if R.1 then 1 else 0) R.2) 49 [.ref 41, .int (nI L), .int (nI s), .int (nI k), z] [] M1 := by
    intro m
    induction m with
    | zero =>
      intro k s M1 z hm hk hsn hok h8 hnext _
      have e : k = J := by omega
      subst e
      refine mx_if mo_Mo_reach 3 (t := 108) (f := 57) rfl trivial (fun _ => hnext rfl _ _) (fun (q : ¬ M1 41 8 ≤ nI k) => ?_)
      rw [h8] at q
      exact absurd (nI_le (Nat.le_refl k) (by omega)) q
    | succ m ih =>
      intro k s M1 z hm hk hsn hok h8 hnext hstop
      obtain ⟨a1, a2, a3, a4, a5⟩ := mo_k_ok (s := s) (k := k) hok
      have hok0 := hok
      obtain ⟨-, n, g2, g3, g4⟩ := hok
      have hn : (M1 41 20).toNatClampNeg = n := by rw [g3]; exact nI_clamp (by omega)
      rw [hn] at hsn
      have es : (nI s).toNatClampNeg = s := nI_clamp (by omega)
      rw [mo_row] at hnext hstop
      have next : ∀ z : Value, (mo_k L s k M1).1 = true → mx_E l (pg_L sc) mY_Mo_reach (d + 2) 0 (mx_rI (if R.1 then 1 else 0) R.2) 102 [.ref 41, .int (nI L), .int (nI s), .int (nI k), z] [] (mo_k L s k M1).2 := by
        intro z hb
        rw [if_pos hb] at hnext hstop
        refine mx_go mo_Mo_reach 2 (pc' := 49) (ls' := [.ref 41, .int (nI L), .int (nI s), .int (nI k + 1), z]) (st' := []) rfl trivial ?_
        rw [nI_1]
        exact ih (k + 1) s _ z (by omega) (by omega) (by omega) a1 (by rw [a5 8 (by decide)]; exact h8) hnext hstop
      refine mx_if mo_Mo_reach 3 (t := 108) (f := 57) rfl trivial (fun (q : M1 41 8 ≤ nI k) => ?_) (fun _ => ?_)
      · rw [h8] at q
        exact absurd q (nI_ge (by omega) (by omega))
      refine mx_go mo_Mo_reach 6 (pc' := 65) (ls' := [.ref 41, .int (nI L), .int (nI s), .int (nI k), z]) (st' := [.int (nI k), .int (M1 54 (nI s).toNatClampNeg), .ref 41]) (M' := M1) rfl ⟨vp_in_nI (N := 500) (by omega) (by decide), trivial⟩ ?_
      rw [es]
      refine mx_cVi mo_Mo_reach 0 (As := [.int (M1 54 s), .int (nI k)]) (rest := []) rfl (ct_Mo_made hl (M1 54 s) (by omega)) rfl trivial rfl rfl rfl kv_Mo_123 kd_Mo_made rfl rfl rfl ?_
      change mx_E l (pg_L sc) mY_Mo_reach (d + 2) 0 _ 68 [.ref 41, .int (nI L), .int (nI s), .int (nI k), z] [.int (mo_q M1 s k)] M1
      unfold mo_k at next hnext hstop
      rw [hn] at next hnext hstop
      generalize mo_q M1 s k = q at next hnext hstop ⊢
      refine mx_if mo_Mo_reach 2 (t := 102) (f := 75) rfl trivial (fun (c1 : q < 0) => ?_) (fun (c1 : ¬ q < 0) => ?_)
      · rw [if_pos c1] at next
        exact next _ rfl
      rw [if_neg c1] at next hnext hstop
      refine mx_cVi mo_Mo_reach 2 (As := [.int q]) (rest := []) rfl (ct_Mo_numberOf hl g4 q) rfl trivial rfl rfl rfl kv_Mo_136 kd_Mo_numberOf rfl rfl rfl ?_
      rcases mo_s_in g4 q with ⟨c2, -⟩ | ⟨i, hi, -, c2⟩
      · rw [if_pos c2] at next hnext hstop
        rw [c2]
        refine mx_if mo_Mo_reach 0 (t := 102) (f := 84) rfl trivial (fun (c3 : (0 : Int32) ≤ 0 - 1) => absurd c3 (by decide)) (fun _ => ?_)
        refine mx_if mo_Mo_reach 3 (t := 94) (f := 92) rfl trivial (fun (c4 : ¬ M1 41 20 = nI L) => ?_) (fun (c4 : M1 41 20 = nI L) => ?_)
        · rw [g3, nI_eq (by omega) (by omega)] at c4
          rw [if_neg c4] at next
          refine mx_cVv mo_Mo_reach 4 (As := [.int q, .int (nI s), .int (nI k)]) (rest := []) rfl (ct_Mo_enter hl g4 (by omega) g3 q (nI s) (nI k)) rfl trivial rfl rfl rfl kv_Mo_132 kd_Mo_enter rfl rfl rfl ?_
          exact next _ rfl
        · rw [g3, nI_eq (by omega) (by omega)] at c4
          rw [if_pos c4, if_neg (show ¬ ((false, M1) : Bool × mx_M).1 = true from Bool.false_ne_true)] at hstop
          rw [hstop rfl]
          exact mx_ret_z mo_Mo_reach rfl 1 rfl trivial rfl (Or.inl rfl) ⟨rfl, rfl⟩
      · rw [if_neg (by rw [c2]; exact nI_ne0 (by omega) (by omega))] at next
        rw [c2, nI_pred]
        refine mx_if mo_Mo_reach 0 (t := 102) (f := 84) rfl trivial (fun _ => next _ rfl) (fun (c3 : ¬ (0 : Int32) ≤ nI i) => ?_)
        exact absurd (nI_pos' (by have := g4.1; omega)) c3
  have outer : ∀ (m s : Nat) (M1 : mx_M) (a b : Value), L - s = m → s ≤ L → mo_ok M1 L → M1 41 8 = nI J → mo_ra L J m s M1 = R →
      mx_E l (pg_L sc) mY_Mo_reach (d + 2) 0 (mx_rI (if R.1 then 1 else 0) R.2) 39 [.ref 41, .int (nI L), .int (nI s), a, b] [] M1 := by
    intro m
    induction m with
    | zero =>
      intro s M1 a b hm hsL hok h8 he
      obtain ⟨-, n, g2, g3, g4⟩ := hok
      rw [mo_ra] at he
      refine mx_if mo_Mo_reach 3 (t := 114) (f := 47) rfl trivial (fun _ => ?_) (fun (q : ¬ M1 41 20 ≤ nI s) => ?_)
      · rw [← he]
        exact mx_ret_z mo_Mo_reach rfl 1 rfl trivial rfl (Or.inr rfl) ⟨rfl, rfl⟩
      · rw [g3] at q
        exact absurd (nI_le (by omega) (by omega)) q
    | succ m ih =>
      intro s M1 a b hm hsL hok h8 he
      obtain ⟨a1, a2, a3, a4, a5⟩ := mo_row_ok (s := s) J 0 M1 hok
      have hok0 := hok
      obtain ⟨-, n, g2, g3, g4⟩ := hok
      have hn : (M1 41 20).toNatClampNeg = n := by rw [g3]; exact nI_clamp (by omega)
      rw [mo_ra] at he
      refine mx_if mo_Mo_reach 3 (t := 114) (f := 47) rfl trivial (fun (q : M1 41 20 ≤ nI s) => ?_) (fun (q : ¬ M1 41 20 ≤ nI s) => ?_)
      · rw [g3, nI_leI (by omega) (by omega)] at q
        rw [if_neg (by omega)] at he
        rw [← he]
        exact mx_ret_z mo_Mo_reach rfl 1 rfl trivial rfl (Or.inr rfl) ⟨rfl, rfl⟩
      · rw [g3, nI_leI (by omega) (by omega)] at q
        rw [if_pos (by omega)] at he
        refine mx_go mo_Mo_reach 2 (pc' := 49) (ls' := [.ref 41, .int (nI L), .int (nI s), .int (nI 0), b]) (st' := []) (M' := M1) rfl trivial ?_
        refine inner J 0 s M1 b (by omega) (by omega) (by omega) hok0 h8 (fun hb a b => ?_) (fun hb => ?_)
        · rw [if_pos hb] at he
          refine mx_go mo_Mo_reach 2 (pc' := 39) (ls' := [.ref 41, .int (nI L), .int (nI s + 1), a, b]) (st' := []) rfl trivial ?_
          rw [nI_1]
          exact ih (s + 1) _ a b (by omega) (by omega) a1 (by rw [a5 8 (by decide)]; exact h8) he
        · rw [hb] at he
          exact he.symm
  have fill : ∀ (m i : Nat) (a b : Value), 1024 - i = m → i ≤ 1024 → mx_E l (pg_L sc) mY_Mo_reach (d + 2) 0 (mx_rI (if R.1 then 1 else 0) R.2) 7 [.ref 41, .int (nI L), .int (nI i), a, b] [] (pg_fill (mx_up M 41 20 0) 57 i 0) := by
    intro m
    induction m with
    | zero =>
      intro i a b hm hi
      have e : i = 1024 := by omega
      subst e
      refine mx_if mo_Mo_reach 2 (t := 27) (f := 14) rfl trivial (fun _ => ?_) (fun h => absurd (nI_le (Nat.le_refl 1024) (by decide)) h)
      change mx_E l (pg_L sc) mY_Mo_reach (d + 2) 0 _ 27 _ _ (mo_e0 M)
      refine mx_go mo_Mo_reach 5 (pc' := 34) (ls' := [.ref 41, .int (nI L), .int (nI 1024), a, b]) (st' := [.int (-1), .int (-1), .int (mo_e0 M 41 16), .ref 41]) (M' := mo_e0 M) rfl trivial ?_
      rw [mo_e0_41 (by decide)]
      refine mx_cVv mo_Mo_reach 0 (As := [.int (M 41 16), .int (-1), .int (-1)]) (rest := []) rfl (ct_Mo_enter (n := 0) hl mo_e0_hs (by decide) (by rw [mo_e0_f]; rfl) (M 41 16) (-1) (-1)) rfl trivial rfl rfl rfl kv_Mo_132 kd_Mo_enter rfl rfl rfl ?_
      refine mx_go mo_Mo_reach 2 (pc' := 39) (ls' := [.ref 41, .int (nI L), .int (nI 0), a, b]) (st' := []) (M' := mo_s0 M) rfl trivial ?_
      exact outer L 0 _ a b (by omega) (by omega) (mo_s0_ok h1 h5).1 (by rw [mo_s0_41 (by decide)]; exact hs) hR
    | succ m ih =>
      intro i a b hm hi
      have e : (nI i).toNatClampNeg = i := nI_clamp (by omega)
      refine mx_if mo_Mo_reach 2 (t := 27) (f := 14) rfl trivial (fun (h : nI 1024 ≤ nI i) => absurd h (nI_ge (by omega) (by decide))) (fun h => ?_)
      refine mx_go mo_Mo_reach 7 (pc' := 7) (ls' := [.ref 41, .int (nI L), .int (nI i + 1), a, b]) (st' := []) (M' := mx_up (pg_fill (mx_up M 41 20 0) 57 i 0) 57 (nI i).toNatClampNeg 0) rfl ⟨vp_in_nI (N := 1024) (by omega) (by decide), trivial⟩ ?_
      rw [e, pg_fill_s, nI_1]
      exact ih (i + 1) a b (by omega) (by omega)
  refine mx_bd (n0 := 2) hl (by decide +kernel) rfl rfl rfl ?_
  refine mx_go mo_Mo_reach 5 (pc' := 7) (ls' := [.ref 41, .int (nI L), .int (nI 0), .null, .null]) (st' := []) (M' := mx_up M 41 20 0) rfl trivial ?_
  have := fill 1024 0 .null .null (by omega) (by omega)
  rw [pg_fill_0] at this
  exact this
end MS
end
section
/-! PegBoardsModel: what needs the reaching; images. -/
section MT
variable {l : Launch} {sc : Nat × (Nat → Int32)} {d : Nat} {M : mx_M}
def mo_cc (M : mx_M) (lim : Int32) : Int32 := if M 41 2 = 0 then 1 else if lim < 1 ∨ ¬ lim ≤ 500 then 2 else 0
theorem ct_Mo_cannot (hl : l.stackTraces = false) (lim : Int32) : mx_Ct l (pg_L sc) mY_Mo_cannot d 0 [.ref 41, .int lim] M (mx_rI (if mo_cc M lim = 0 then 0 else 1) (mx_up M 41 0 (mo_cc M lim))) := by
  refine mx_bd (n0 := 2) hl (by decide +kernel) rfl rfl rfl ?_
  have fin : ∀ c : Int32, mo_cc M lim = c → (c = 0 ∨ c = 1 ∨ c = 2) → mx_E l (pg_L sc) mY_Mo_cannot d 0 (mx_rI (if mo_cc M lim = 0 then 0 else 1) (mx_up M 41 0 (mo_cc M lim))) 29 [.ref 41, .int lim] [.int c, .ref 41] M := by
    intro c hc h
    rw [hc]
    refine mx_if mo_Mo_cannot 3 (t := 43) (f := 39) rfl trivial (fun (q : c ≤ 0) => ?_) (fun (q : ¬ c ≤ 0) => ?_)
    · rcases h with rfl | rfl | rfl
      · exact mx_ret_z mo_Mo_cannot rfl 1 rfl trivial rfl (Or.inl rfl) ⟨rfl, rfl⟩
      · exact absurd q (by decide)
      · exact absurd q (by decide)
    · rcases h with rfl | rfl | rfl
      · exact absurd (by decide) q
      · exact mx_ret_z mo_Mo_cannot rfl 2 rfl trivial rfl (Or.inr rfl) ⟨rfl, rfl⟩
      · exact mx_ret_z mo_Mo_cannot rfl 2 rfl trivial rfl (Or.inr rfl) ⟨rfl, rfl⟩
  refine mx_if mo_Mo_cannot 3 (t := 12) (f := 8) rfl trivial (fun (q : ¬ M 41 2 = 0) => ?_) (fun (q : M 41 2 = 0) => ?_)
  · have f2 : (lim < 1 ∨ ¬ lim ≤ 500) → mx_E l (pg_L sc) mY_Mo_cannot d 0 (mx_rI (if mo_cc M lim = 0 then 0 else 1) (mx_up M 41 0 (mo_cc M lim))) 24 [.ref 41, .int lim] [.ref 41] M := fun c =>
      mx_go mo_Mo_cannot 2 (pc' := 29) (ls' := [.ref 41, .int lim]) (st' := [.int 2, .ref 41]) (M' := M) rfl trivial (fin 2 (by rw [mo_cc, if_neg q, if_pos c]) (Or.inr (Or.inr rfl)))
    refine mx_if mo_Mo_cannot 2 (t := 24) (f := 17) rfl trivial (fun c => f2 (Or.inl c)) (fun (q1 : ¬ lim < 1) => ?_)
    refine mx_if mo_Mo_cannot 2 (t := 28) (f := 24) rfl trivial (fun (q2 : lim ≤ 500) => ?_) (fun c => f2 (Or.inr c))
    exact mx_go mo_Mo_cannot 1 (pc' := 29) (ls' := [.ref 41, .int lim]) (st' := [.int 0, .ref 41]) (M' := M) rfl trivial (fin 0 (by rw [mo_cc, if_neg q, if_neg (fun c => c.elim q1 (fun c => c q2))]) (Or.inl rfl))
  · exact mx_go mo_Mo_cannot 2 (pc' := 29) (ls' := [.ref 41, .int lim]) (st' := [.int 1, .ref 41]) (M' := M) rfl trivial (fin 1 (by rw [mo_cc, if_pos q]) (Or.inr (Or.inl rfl)))
def mo_rw (M : mx_M) (lim : Int32) (Z : Int32 × mx_M) : Int32 × mx_M := if mo_cc M lim = 0 then Z else (0, mx_up M 41 0 (mo_cc M lim))
theorem mo_cc0 {lim : Int32} (h : mo_cc M lim = 0) : ¬ M 41 2 = 0 ∧ ∃ L, 1 ≤ L ∧ L ≤ 500 ∧ lim = nI L := by
  unfold mo_cc at h
  by_cases c1 : M 41 2 = 0
  · rw [if_pos c1] at h; exact absurd h (by decide)
  rw [if_neg c1] at h
  by_cases c2 : lim < 1 ∨ ¬ lim ≤ 500
  · rw [if_pos c2] at h; exact absurd h (by decide)
  exact ⟨c1, pe_lim c2⟩
def mo_count (R : Bool × mx_M) : Int32 × mx_M := ((if R.1 then R.2 41 20 else -2), R.2)
theorem ct_Mo_count (hl : l.stackTraces = false) {J : Nat} (hJ : J ≤ 120) (hs : M 41 8 = nI J) (lim : Int32) : mx_Ct l (pg_L sc) mY_Mo_count (d + 3) 0 [.ref 41, .int lim] M (mx_rI (mo_rw M lim (mo_count (mo_go (mx_up M 41 0 0) lim.toNatClampNeg J))).1 (mo_rw M lim (mo_count (mo_go (mx_up M 41 0 0) lim.toNatClampNeg J))).2) := by
  refine mx_bd (n0 := 2) hl (by decide +kernel) rfl rfl rfl ?_
  refine mx_cVi mo_Mo_count 2 (As := [.int lim]) (rest := []) rfl (ct_Mo_cannot hl lim) rfl trivial rfl rfl rfl kv_Mo_139 kd_Mo_cannot rfl rfl rfl ?_
  rw [mo_rw]
  by_cases hc : mo_cc M lim = 0
  case neg =>
    rw [if_neg hc, if_neg hc]
    refine mx_if mo_Mo_count 0 (t := 10) (f := 8) rfl trivial (fun (q : (1 : Int32) = 0) => absurd q (by decide)) (fun _ => ?_)
    exact mx_ret_i mo_Mo_count rfl 1 rfl trivial rfl ⟨rfl, rfl⟩
  rw [if_pos hc, if_pos hc, hc]
  refine mx_if mo_Mo_count 0 (t := 10) (f := 8) rfl trivial (fun _ => ?_) (fun q => absurd rfl q)
  obtain ⟨hfz, L, h1, h5, rfl⟩ := mo_cc0 hc
  rw [nI_clamp (by omega)]
  have hs' : mx_up M 41 0 0 41 8 = nI J := hs
  refine mx_cVi mo_Mo_count 2 (As := [.int (nI L)]) (rest := []) rfl (ct_Mo_reach hl h1 h5 hJ hs') rfl trivial rfl rfl rfl kv_Mo_142 kd_Mo_reach rfl rfl rfl ?_
  have hk : mo_ok (mo_go (mx_up M 41 0 0) L J).2 L := (mo_ra_ok L 0 _ (mo_s0_ok h1 h5).1).1
  generalize mo_go (mx_up M 41 0 0) L J = R at hk ⊢
  rw [mo_count]
  by_cases hb : R.1 = true
  · rw [if_pos hb, if_pos hb]
    refine mx_if mo_Mo_count 0 (t := 25) (f := 18) rfl trivial (fun (q : (1 : Int32) = 0) => absurd q (by decide)) (fun _ => ?_)
    exact mx_ret_i mo_Mo_count rfl 3 rfl trivial rfl ⟨rfl, rfl⟩
  · rw [if_neg hb, if_neg hb]
    refine mx_if mo_Mo_count 0 (t := 25) (f := 18) rfl trivial (fun _ => ?_) (fun q => absurd rfl q)
    exact mx_ret_i mo_Mo_count rfl 1 rfl trivial rfl ⟨rfl, rfl⟩
def mo_solve (R : Bool × mx_M) : Int32 × mx_M := ((if R.2 57 (mo_s R.2 (R.2 41 17)) = 0 then (if R.1 then 0 else -2) else 1), R.2)
theorem ct_Mo_solve (hl : l.stackTraces = false) {J : Nat} (hJ : J ≤ 120) (hs : M 41 8 = nI J) (lim : Int32) : mx_Ct l (pg_L sc) mY_Mo_solve (d + 3) 0 [.ref 41, .int lim] M (mx_rI (mo_rw M lim (mo_solve (mo_go (mx_up M 41 0 0) lim.toNatClampNeg J))).1 (mo_rw M lim (mo_solve (mo_go (mx_up M 41 0 0) lim.toNatClampNeg J))).2) := by
  refine mx_bd (n0 := 2) hl (by decide +kernel) rfl rfl rfl ?_
  refine mx_cVi mo_Mo_solve 2 (As := [.int lim]) (rest := []) rfl (ct_Mo_cannot hl lim) rfl trivial rfl rfl rfl kv_Mo_139 kd_Mo_cannot rfl rfl rfl ?_
  rw [mo_rw]
  by_cases hc : mo_cc M lim = 0
  case neg =>
    rw [if_neg hc, if_neg hc]
    refine mx_if mo_Mo_solve 0 (t := 10) (f := 8) rfl trivial (fun (q : (1 : Int32) = 0) => absurd q (by decide)) (fun _ => ?_)
    exact mx_ret_i mo_Mo_solve rfl 1 rfl trivial rfl ⟨rfl, rfl⟩
  rw [if_pos hc, if_pos hc, hc]
  refine mx_if mo_Mo_solve 0 (t := 10) (f := 8) rfl trivial (fun _ => ?_) (fun q => absurd rfl q)
  obtain ⟨hfz, L, h1, h5, rfl⟩ := mo_cc0 hc
  rw [nI_clamp (by omega)]
  have hs' : mx_up M 41 0 0 41 8 = nI J := hs
  refine mx_cVi mo_Mo_solve 2 (As := [.int (nI L)]) (rest := []) rfl (ct_Mo_reach hl h1 h5 hJ hs') rfl trivial rfl rfl rfl kv_Mo_142 kd_Mo_reach rfl rfl rfl ?_
  have hk : mo_ok (mo_go (mx_up M 41 0 0) L J).2 L := (mo_ra_ok L 0 _ (mo_s0_ok h1 h5).1).1
  generalize mo_go (mx_up M 41 0 0) L J = R at hk ⊢
  rw [mo_solve]
  obtain ⟨-, n, g2, g3, g4⟩ := hk
  refine mx_cVi mo_Mo_solve 4 (As := [.int (R.2 41 17)]) (rest := []) rfl (ct_Mo_numberOf hl g4 (R.2 41 17)) rfl trivial rfl rfl rfl kv_Mo_136 kd_Mo_numberOf rfl rfl rfl ?_
  rcases mo_s_in g4 (R.2 41 17) with ⟨c2, -⟩ | ⟨i, hi, -, c2⟩
  · rw [if_pos c2, c2]
    refine mx_if mo_Mo_solve 0 (t := 31) (f := 27) rfl trivial (fun _ => ?_) (fun (q : ¬ (0 : Int32) - 1 < 0) => absurd (by decide) q)
    by_cases hb : R.1 = true
    · rw [if_pos hb, if_pos hb]
      refine mx_if mo_Mo_solve 1 (t := 39) (f := 35) rfl trivial (fun (q : (1 : Int32) = 0) => absurd q (by decide)) (fun _ => ?_)
      exact mx_ret_i mo_Mo_solve rfl 2 rfl trivial rfl ⟨rfl, rfl⟩
    · rw [if_neg hb, if_neg hb]
      refine mx_if mo_Mo_solve 1 (t := 39) (f := 35) rfl trivial (fun _ => ?_) (fun q => absurd rfl q)
      exact mx_ret_i mo_Mo_solve rfl 1 rfl trivial rfl ⟨rfl, rfl⟩
  · rw [if_neg (by rw [c2]; exact nI_ne0 (by omega) (by have := g4.1; omega)), c2, nI_pred]
    refine mx_if mo_Mo_solve 0 (t := 31) (f := 27) rfl trivial (fun (q : nI i < 0) => absurd q (nI_pos (by have := g4.1; omega))) (fun _ => ?_)
    exact mx_ret_i mo_Mo_solve rfl 2 (v := 1) rfl trivial rfl ⟨rfl, rfl⟩
/-- a position's image -/
def mo_im (g : Nat → Int32) (k : Nat) (p : Int32) : Nat → Int32
  | 0 => 0
  | h + 1 => mo_im g k p h + (mo_bit p (nI h) <<< (g (20 * k + h) &&& 31))
theorem ct_Mo_imaged (hl : l.stackTraces = false) {k N : Nat} (hk : k < 12) (hN : N ≤ 20) (hh : M 41 3 = nI N) (p : Int32) : mx_Ct l (pg_L sc) mY_Mo_imaged (d + 1) 0 [.ref 41, .int (nI k), .int p] M (mx_rI (mo_im (M 49) k p N) M) := by
  have loop : ∀ (m h : Nat), N - h = m → h ≤ N → mx_E l (pg_L sc) mY_Mo_imaged (d + 1) 0 (mx_rI (mo_im (M 49) k p N) M) 5 [.ref 41, .int (nI k), .int p, .int (mo_im (M 49) k p h), .int (nI h)] [] M := by
    intro m
    induction m with
    | zero =>
      intro h hm hle
      have e : h = N := by omega
      subst e
      refine mx_if mo_Mo_imaged 3 (t := 42) (f := 14) rfl trivial (fun _ => ?_) (fun (q : ¬ M 41 3 ≤ nI h) => ?_)
      · exact mx_ret_i mo_Mo_imaged rfl 1 rfl trivial rfl ⟨rfl, rfl⟩
      · rw [hh] at q; exact absurd (nI_le (Nat.le_refl h) (by omega)) q
    | succ m ih =>
      intro h hm hle
      refine mx_if mo_Mo_imaged 3 (t := 42) (f := 14) rfl trivial (fun (q : M 41 3 ≤ nI h) => ?_) (fun _ => ?_)
      · rw [hh] at q; exact absurd q (nI_ge (by omega) (by omega))
      refine mx_cSi mo_Mo_imaged 3 (As := [.int p, .int (nI h)]) (rest := [.int (mo_im (M 49) k p h)]) rfl (ct_Mo_bit hl p (nI h)) rfl trivial rfl ks_Mo_120 kd_Mo_bit rfl rfl rfl ?_
      have ei : 20 * nI k + nI h = nI (20 * k + h) := by rw [show (20 : Int32) = nI 20 from rfl, pk_mul, nI_add]
      have hv : vp_in (20 * nI k + nI h) 240 := by rw [ei]; exact vp_in_nI (by omega) (by decide)
      refine mx_go mo_Mo_imaged 13 (pc' := 5) (ls' := [.ref 41, .int (nI k), .int p, .int (mo_im (M 49) k p h + (mo_bit p (nI h) <<< (M 49 (20 * nI k + nI h).toNatClampNeg &&& 31))), .int (nI h + 1)]) (st' := []) (M' := M) rfl ⟨hv, trivial⟩ ?_
      rw [ei, nI_clamp (by omega), nI_1]
      exact ih (h + 1) (by omega) (by omega)
  refine mx_bd (n0 := 3) hl (by decide +kernel) rfl rfl rfl ?_
  exact mx_go mo_Mo_imaged 4 (pc' := 5) (ls' := [.ref 41, .int (nI k), .int p, .int 0, .int (nI 0)]) (st' := []) (M' := M) rfl trivial (loop N 0 (by omega) (by omega))
def mo_lo (g : Nat → Int32) (p : Int32) (N : Nat) : Nat → Int32
  | 0 => p
  | k + 1 => if mo_im g k p N < mo_lo g p N k then mo_im g k p N else mo_lo g p N k
theorem ct_Mo_leastOf (hl : l.stackTraces = false) {s N : Nat} (hs : s ≤ 12) (hN : N ≤ 20) (hss : M 41 12 = nI s) (hh : M 41 3 = nI N) (p : Int32) : mx_Ct l (pg_L sc) mY_Mo_leastOf (d + 2) 0 [.ref 41, .int p] M (mx_rI (mo_lo (M 49) p N s) M) := by
  have loop : ∀ (m k : Nat) (z : Value), s - k = m → k ≤ s → mx_E l (pg_L sc) mY_Mo_leastOf (d + 2) 0 (mx_rI (mo_lo (M 49) p N s) M) 4 [.ref 41, .int p, .int (mo_lo (M 49) p N k), .int (nI k), z] [] M := by
    intro m
    induction m with
    | zero =>
      intro k z hm hle
      have e : k = s := by omega
      subst e
      refine mx_if mo_Mo_leastOf 3 (t := 39) (f := 12) rfl trivial (fun _ => ?_) (fun (q : ¬ M 41 12 ≤ nI k) => ?_)
      · exact mx_ret_i mo_Mo_leastOf rfl 1 rfl trivial rfl ⟨rfl, rfl⟩
      · rw [hss] at q; exact absurd (nI_le (Nat.le_refl k) (by omega)) q
    | succ m ih =>
      intro k z hm hle
      refine mx_if mo_Mo_leastOf 3 (t := 39) (f := 12) rfl trivial (fun (q : M 41 12 ≤ nI k) => ?_) (fun _ => ?_)
      · rw [hss] at q; exact absurd q (nI_ge (by omega) (by omega))
      refine mx_cVi mo_Mo_leastOf 3 (As := [.int (nI k), .int p]) (rest := []) rfl (ct_Mo_imaged hl (by omega) hN hh p) rfl trivial rfl rfl rfl kv_Mo_152 kd_Mo_imaged rfl rfl rfl ?_
      have next : ∀ v : Int32, v = mo_lo (M 49) p N (k + 1) → mx_E l (pg_L sc) mY_Mo_leastOf (d + 2) 0 (mx_rI (mo_lo (M 49) p N s) M) 32 [.ref 41, .int p, .int (mo_lo (M 49) p N k), .int (nI k), .int (mo_im (M 49) k p N)] [.int v] M := by
        intro v hv
        refine mx_go mo_Mo_leastOf 3 (pc' := 4) (ls' := [.ref 41, .int p, .int v, .int (nI k + 1), .int (mo_im (M 49) k p N)]) (st' := []) (M' := M) rfl trivial ?_
        rw [hv, nI_1]
        exact ih (k + 1) _ (by omega) (by omega)
      rw [mo_lo] at next
      refine mx_if mo_Mo_leastOf 3 (t := 31) (f := 26) rfl trivial (fun (q : mo_lo (M 49) p N k ≤ mo_im (M 49) k p N) => ?_) (fun (q : ¬ mo_lo (M 49) p N k ≤ mo_im (M 49) k p N) => ?_)
      · exact mx_go mo_Mo_leastOf 1 (pc' := 32) (ls' := [.ref 41, .int p, .int (mo_lo (M 49) p N k), .int (nI k), .int (mo_im (M 49) k p N)]) (st' := [.int (mo_lo (M 49) p N k)]) (M' := M) rfl trivial (next _ (by rw [if_neg (Int32.not_lt.mpr q)]))
      · exact mx_go mo_Mo_leastOf 2 (pc' := 32) (ls' := [.ref 41, .int p, .int (mo_lo (M 49) p N k), .int (nI k), .int (mo_im (M 49) k p N)]) (st' := [.int (mo_im (M 49) k p N)]) (M' := M) rfl trivial (next _ (by rw [if_pos (Int32.not_le.mp q)]))
  refine mx_bd (n0 := 2) hl (by decide +kernel) rfl rfl rfl ?_
  exact mx_go mo_Mo_leastOf 4 (pc' := 4) (ls' := [.ref 41, .int p, .int p, .int (nI 0), .null]) (st' := []) (M' := M) rfl trivial (loop s 0 _ (by omega) (by omega))
def mo_least (M : mx_M) (p : Int32) (N s : Nat) : Int32 × mx_M := if ¬ p < 0 ∧ p < mo_all M then (if M 41 2 = 0 then (0, mx_up M 41 0 2) else (mo_lo (M 49) p N s, mx_up M 41 0 0)) else (0, mx_up M 41 0 1)
theorem ct_Mo_least (hl : l.stackTraces = false) {s N : Nat} (hy : ¬ M 41 2 = 0 → s ≤ 12 ∧ N ≤ 20 ∧ M 41 12 = nI s ∧ M 41 3 = nI N) (p : Int32) : mx_Ct l (pg_L sc) mY_Mo_least (d + 3) 0 [.ref 41, .int p] M (mx_rI (mo_least M p N s).1 (mo_least M p N s).2) := by
  refine mx_bd (n0 := 2) hl (by decide +kernel) rfl rfl rfl ?_
  refine mx_cVi mo_Mo_least 3 (As := [.int p]) (rest := [.ref 41]) rfl (ct_Mo_noPosition hl p) rfl trivial rfl rfl rfl kv_Mo_117 kd_Mo_noPosition rfl rfl rfl ?_
  rw [mo_least]
  by_cases c : ¬ p < 0 ∧ p < mo_all M
  · rw [if_pos c, if_pos c]
    refine mx_if mo_Mo_least 0 (t := 13) (f := 9) rfl trivial (fun _ => ?_) (fun q => absurd rfl q)
    refine mx_if mo_Mo_least 2 (t := 24) (f := 20) rfl trivial (fun (q : ¬ M 41 2 = 0) => ?_) (fun (q : M 41 2 = 0) => ?_)
    · rw [if_neg q]
      obtain ⟨y1, y2, y3, y4⟩ := hy q
      refine mx_if mo_Mo_least 4 (t := 39) (f := 35) rfl trivial (fun _ => ?_) (fun (q : ¬ (0 : Int32) ≤ 0) => absurd (by decide) q)
      refine mx_cVi mo_Mo_least 2 (As := [.int p]) (rest := []) rfl (ct_Mo_leastOf (M := mx_up M 41 0 0) hl y1 y2 y3 y4 p) rfl trivial rfl rfl rfl kv_Mo_158 kd_Mo_leastOf rfl rfl rfl ?_
      exact mx_ret_i mo_Mo_least rfl 0 rfl trivial rfl ⟨rfl, rfl⟩
    · rw [if_pos q]
      refine mx_if mo_Mo_least 5 (t := 39) (f := 35) rfl trivial (fun (q : (2 : Int32) ≤ 0) => absurd q (by decide)) (fun _ => ?_)
      exact mx_ret_i mo_Mo_least rfl 2 rfl trivial rfl ⟨rfl, rfl⟩
  · rw [if_neg c, if_neg c]
    refine mx_if mo_Mo_least 0 (t := 13) (f := 9) rfl trivial (fun (q : (1 : Int32) = 0) => absurd q (by decide)) (fun _ => ?_)
    refine mx_if mo_Mo_least 5 (t := 39) (f := 35) rfl trivial (fun (q : (1 : Int32) ≤ 0) => absurd q (by decide)) (fun _ => ?_)
    exact mx_ret_i mo_Mo_least rfl 2 rfl trivial rfl ⟨rfl, rfl⟩
def mo_image (M : mx_M) (k h : Int32) : Int32 × mx_M := if (¬ k < 0 ∧ k < M 41 12) ∧ ¬ M 41 2 = 0 ∧ ¬ h < 0 ∧ h < M 41 3 then (M 49 (20 * k + h).toNatClampNeg, mx_up M 41 0 0) else (0, mx_up M 41 0 1)
theorem ct_Mo_image (hl : l.stackTraces = false) {s N : Nat} (hs : s ≤ 12) (hN : N ≤ 20) (hss : M 41 12 = nI s) (hh : M 41 3 = nI N) (k h : Int32) : mx_Ct l (pg_L sc) mY_Mo_image (d + 1) 0 [.ref 41, .int k, .int h] M (mx_rI (mo_image M k h).1 (mo_image M k h).2) := by
  refine mx_bd (n0 := 3) hl (by decide +kernel) rfl rfl rfl ?_
  have fin : ¬ ((¬ k < 0 ∧ k < M 41 12) ∧ ¬ M 41 2 = 0 ∧ ¬ h < 0 ∧ h < M 41 3) → mx_E l (pg_L sc) mY_Mo_image (d + 1) 0 (mx_rI (mo_image M k h).1 (mo_image M k h).2) 21 [.ref 41, .int k, .int h] [.ref 41] M := by
    intro c
    rw [mo_image, if_neg c]
    refine mx_if mo_Mo_image 5 (t := 40) (f := 36) rfl trivial (fun (q : (1 : Int32) ≤ 0) => absurd q (by decide)) (fun _ => ?_)
    exact mx_ret_i mo_Mo_image rfl 2 rfl trivial rfl ⟨rfl, rfl⟩
  refine mx_if mo_Mo_image 2 (t := 21) (f := 5) rfl trivial (fun q => fin (fun c => c.1.1 q)) (fun (q1 : ¬ k < 0) => ?_)
  refine mx_if mo_Mo_image 3 (t := 21) (f := 13) rfl trivial (fun (q : M 41 12 ≤ k) => fin (fun c => Int32.not_le.mpr c.1.2 q)) (fun (q2 : ¬ M 41 12 ≤ k) => ?_)
  have q2 := Int32.not_le.mp q2
  refine mx_cVi mo_Mo_image 2 (As := [.int h]) (rest := [.ref 41]) rfl (ct_Mo_noHole hl h) rfl trivial rfl rfl rfl kv_Mo_161 kd_Mo_noHole rfl rfl rfl ?_
  by_cases c : ¬ M 41 2 = 0 ∧ ¬ h < 0 ∧ h < M 41 3
  · rw [if_pos c, mo_image, if_pos ⟨⟨q1, q2⟩, c⟩]
    refine mx_if mo_Mo_image 0 (t := 25) (f := 21) rfl trivial (fun _ => ?_) (fun q => absurd rfl q)
    refine mx_if mo_Mo_image 4 (t := 40) (f := 36) rfl trivial (fun _ => ?_) (fun (q : ¬ (0 : Int32) ≤ 0) => absurd (by decide) q)
    have c2 := c.2
    rw [hh] at c2
    rw [hss] at q2
    obtain ⟨i, hi, rfl⟩ := nI_inJ (by omega) c2
    obtain ⟨j, hj, rfl⟩ := nI_inJ (by omega) ⟨q1, q2⟩
    have hv : vp_in (20 * nI j + nI i) 240 := by rw [show (20 : Int32) = nI 20 from rfl, pk_mul, nI_add]; exact vp_in_nI (by omega) (by decide)
    exact mx_ret_i mo_Mo_image rfl 8 (v := M 49 (20 * nI j + nI i).toNatClampNeg) rfl ⟨hv, trivial⟩ rfl ⟨rfl, rfl⟩
  · rw [if_neg c]
    exact mx_if mo_Mo_image 0 (t := 25) (f := 21) rfl trivial (fun (q : (1 : Int32) = 0) => absurd q (by decide)) (fun _ => fin (fun c2 => c c2.2))
end MT
end
section
/-! PegBoardsModel: weights. -/
section MU
variable {l : Launch} {sc : Nat × (Nat → Int32)} {d : Nat} {M : mx_M}
def mo_sum (f : Nat → Int32) (p : Int32) : Nat → Int32
  | 0 => 0
  | h + 1 => mo_sum f p h + mo_bit p (nI h) * f h
theorem ct_Mo_sumOf (hl : l.stackTraces = false) (p : Int32) : mx_Ct l (pg_L sc) mY_Mo_sumOf (d + 1) 0 [.ref 41, .int p] M (mx_rI (mo_sum (M 52) p 20) M) := by
  have loop : ∀ (m h : Nat), 20 - h = m → h ≤ 20 → mx_E l (pg_L sc) mY_Mo_sumOf (d + 1) 0 (mx_rI (mo_sum (M 52) p 20) M) 4 [.ref 41, .int p, .int (mo_sum (M 52) p h), .int (nI h)] [] M := by
    intro m
    induction m with
    | zero =>
      intro h hm hle
      have e : h = 20 := by omega
      subst e
      refine mx_if mo_Mo_sumOf 2 (t := 31) (f := 10) rfl trivial (fun q => ?_) (fun (q : ¬ nI 20 ≤ nI 20) => absurd (nI_le (Nat.le_refl 20) (by decide)) q)
      exact mx_ret_i mo_Mo_sumOf rfl 1 rfl trivial rfl ⟨rfl, rfl⟩
    | succ m ih =>
      intro h hm hle
      have e : (nI h).toNatClampNeg = h := nI_clamp (by omega)
      have hv : vp_in (nI h) 20 := vp_in_nI (by omega) (by decide)
      refine mx_if mo_Mo_sumOf 2 (t := 31) (f := 10) rfl trivial (fun (q : nI 20 ≤ nI h) => absurd q (nI_ge (by omega) (by decide))) (fun q => ?_)
      refine mx_cSi mo_Mo_sumOf 3 (As := [.int p, .int (nI h)]) (rest := [.int (mo_sum (M 52) p h)]) rfl (ct_Mo_bit hl p (nI h)) rfl trivial rfl ks_Mo_120 kd_Mo_bit rfl rfl rfl ?_
      refine mx_go mo_Mo_sumOf 9 (pc' := 4) (ls' := [.ref 41, .int p, .int (mo_sum (M 52) p h + mo_bit p (nI h) * M 52 (nI h).toNatClampNeg), .int (nI h + 1)]) (st' := []) (M' := M) rfl ⟨hv, trivial⟩ ?_
      rw [e, nI_1]
      exact ih (h + 1) (by omega) (by omega)
  refine mx_bd (n0 := 2) hl (by decide +kernel) rfl rfl rfl ?_
  exact mx_go mo_Mo_sumOf 4 (pc' := 4) (ls' := [.ref 41, .int p, .int 0, .int (nI 0)]) (st' := []) (M' := M) rfl trivial (loop 20 0 (by omega) (by omega))
/-- the model's jumps -/
def mj_ok (M : mx_M) (n : Nat) (fr ov tt : Nat → Nat) (H : Nat) : Prop := M 41 8 = nI n ∧ n ≤ 120 ∧ ∀ k, k < n → M 46 k = nI (fr k) ∧ M 47 k = nI (ov k) ∧ M 48 k = nI (tt k) ∧ fr k < H ∧ ov k < H ∧ tt k < H
def mo_hd (f : Nat → Int32) (fr ov tt : Nat → Nat) : Nat → Int32
  | 0 => 1
  | k + 1 => if mo_hd f fr ov tt k = 0 then 0 else if f (tt k) ≤ f (fr k) + f (ov k) then 1 else 0
theorem mo_hd01 {f : Nat → Int32} {fr ov tt : Nat → Nat} : ∀ k, mo_hd f fr ov tt k = 0 ∨ mo_hd f fr ov tt k = 1 := by
  intro k
  cases k with
  | zero => exact Or.inr rfl
  | succ k =>
    rw [mo_hd]
    split
    · exact Or.inl rfl
    · split
      · exact Or.inr rfl
      · exact Or.inl rfl
theorem ct_Mo_holding (hl : l.stackTraces = false) {J : Nat} {fr ov tt : Nat → Nat} (hj : mj_ok M J fr ov tt 20) : mx_Ct l (pg_L sc) mY_Mo_holding d 0 [.ref 41] M (mx_rI (mo_hd (M 52) fr ov tt J) M) := by
  obtain ⟨hs, hn, hj⟩ := hj
  have loop : ∀ (m k : Nat), J - k = m → k ≤ J → mx_E l (pg_L sc) mY_Mo_holding d 0 (mx_rI (mo_hd (M 52) fr ov tt J) M) 4 [.ref 41, .int (mo_hd (M 52) fr ov tt k), .int (nI k)] [] M := by
    intro m
    induction m with
    | zero =>
      intro k hm hle
      have e : k = J := by omega
      subst e
      refine mx_if mo_Mo_holding 3 (t := 65) (f := 12) rfl trivial (fun _ => ?_) (fun (q : ¬ M 41 8 ≤ nI k) => ?_)
      · exact mx_ret_z mo_Mo_holding rfl 1 rfl trivial rfl (mo_hd01 k) ⟨rfl, rfl⟩
      · rw [hs] at q; exact absurd (nI_le (Nat.le_refl k) (by omega)) q
    | succ m ih =>
      intro k hm hle
      obtain ⟨j1, j2, j3, j4, j5, j6⟩ := hj k (by omega)
      have ek : (nI k).toNatClampNeg = k := nI_clamp (by omega)
      have hv : vp_in (nI k) 120 := vp_in_nI (by omega) (by decide)
      refine mx_if mo_Mo_holding 3 (t := 65) (f := 12) rfl trivial (fun (q : M 41 8 ≤ nI k) => ?_) (fun _ => ?_)
      · rw [hs] at q; exact absurd q (nI_ge (by omega) (by omega))
      have next : ∀ v : Int32, v = mo_hd (M 52) fr ov tt (k + 1) → mx_E l (pg_L sc) mY_Mo_holding d 0 (mx_rI (mo_hd (M 52) fr ov tt J) M) 58 [.ref 41, .int (mo_hd (M 52) fr ov tt k), .int (nI k)] [.int v] M := by
        intro v hv
        refine mx_go mo_Mo_holding 3 (pc' := 4) (ls' := [.ref 41, .int v, .int (nI k + 1)]) (st' := []) (M' := M) rfl trivial ?_
        rw [hv, nI_1]
        exact ih (k + 1) (by omega) (by omega)
      rw [mo_hd] at next
      have bad : (0 : Int32) = (if mo_hd (M 52) fr ov tt k = 0 then 0 else if M 52 (tt k) ≤ M 52 (fr k) + M 52 (ov k) then 1 else 0) → mx_E l (pg_L sc) mY_Mo_holding d 0 (mx_rI (mo_hd (M 52) fr ov tt J) M) 57 [.ref 41, .int (mo_hd (M 52) fr ov tt k), .int (nI k)] [] M := fun h =>
        mx_go mo_Mo_holding 1 (pc' := 58) (ls' := [.ref 41, .int (mo_hd (M 52) fr ov tt k), .int (nI k)]) (st' := [.int 0]) (M' := M) rfl trivial (next 0 h)
      refine mx_if mo_Mo_holding 1 (t := 57) (f := 16) rfl trivial (fun (q : mo_hd (M 52) fr ov tt k = 0) => bad (by rw [if_pos q])) (fun (q : ¬ mo_hd (M 52) fr ov tt k = 0) => ?_)
      rw [if_neg q] at next bad
      have e1 : M 48 (nI k).toNatClampNeg = nI (tt k) := by rw [ek, j3]
      have e2 : M 46 (nI k).toNatClampNeg = nI (fr k) := by rw [ek, j1]
      have e3 : M 47 (nI k).toNatClampNeg = nI (ov k) := by rw [ek, j2]
      have w1 : vp_in (M 48 (nI k).toNatClampNeg) 20 := by rw [e1]; exact vp_in_nI j6 (by decide)
      have w2 : vp_in (M 46 (nI k).toNatClampNeg) 20 := by rw [e2]; exact vp_in_nI j4 (by decide)
      have w3 : vp_in (M 47 (nI k).toNatClampNeg) 20 := by rw [e3]; exact vp_in_nI j5 (by decide)
      have c1 : (nI (tt k)).toNatClampNeg = tt k := nI_clamp (by omega)
      have c2 : (nI (fr k)).toNatClampNeg = fr k := nI_clamp (by omega)
      have c3 : (nI (ov k)).toNatClampNeg = ov k := nI_clamp (by omega)
      refine mx_if mo_Mo_holding 22 (t := 57) (f := 53) rfl ⟨hv, w1, hv, w2, hv, w3, trivial⟩ (fun (q1 : M 52 (M 46 (nI k).toNatClampNeg).toNatClampNeg + M 52 (M 47 (nI k).toNatClampNeg).toNatClampNeg < M 52 (M 48 (nI k).toNatClampNeg).toNatClampNeg) => ?_) (fun (q1 : ¬ M 52 (M 46 (nI k).toNatClampNeg).toNatClampNeg + M 52 (M 47 (nI k).toNatClampNeg).toNatClampNeg < M 52 (M 48 (nI k).toNatClampNeg).toNatClampNeg) => ?_)
      · rw [e1, e2, e3, c1, c2, c3] at q1
        exact bad (by rw [if_neg (Int32.not_le.mpr q1)])
      · rw [e1, e2, e3, c1, c2, c3] at q1
        exact mx_go mo_Mo_holding 2 (pc' := 58) (ls' := [.ref 41, .int (mo_hd (M 52) fr ov tt k), .int (nI k)]) (st' := [.int 1]) (M' := M) rfl trivial (next 1 (by rw [if_pos (Int32.not_lt.mp q1)]))
  refine mx_bd (n0 := 1) hl (by decide +kernel) rfl rfl rfl ?_
  exact mx_go mo_Mo_holding 4 (pc' := 4) (ls' := [.ref 41, .int 1, .int (nI 0)]) (st' := []) (M' := M) rfl trivial (loop J 0 (by omega) (by omega))
def mo_weights (M : mx_M) (fr ov tt : Nat → Nat) (J : Nat) (w : Int32) : Int32 × mx_M :=
  if w < 0 then (0, mx_up M 41 0 1) else if w ≤ 2 then ((if w = 0 then mo_hd (M 52) fr ov tt J else if w = 1 then mo_sum (M 52) (M 41 16) 20 else mo_sum (M 52) (M 41 17) 20), mx_up M 41 0 0) else
  if ¬ M 41 2 = 0 ∧ ¬ w - 3 < 0 ∧ w - 3 < M 41 3 then (M 52 (w - 3).toNatClampNeg, mx_up M 41 0 0) else (0, mx_up M 41 0 1)
theorem w3_of {w : Int32} (h0 : ¬ w < 0) (h2 : w ≤ 2) : w = 0 ∨ w = 1 ∨ w = 2 := by
  rw [Int32.lt_iff_toInt_lt, show (0 : Int32).toInt = 0 from rfl] at h0
  rw [Int32.le_iff_toInt_le, show (2 : Int32).toInt = 2 from rfl] at h2
  exact i3_of h0 (by omega)
theorem w3_no {w : Int32} (h2 : ¬ w ≤ 2) : ¬ w = 0 ∧ ¬ w = 1 ∧ ¬ w = 2 := ⟨fun e => h2 (by rw [e]; decide), fun e => h2 (by rw [e]; decide), fun e => h2 (by rw [e]; decide)⟩
theorem ct_Mo_weights (hl : l.stackTraces = false) {J N : Nat} {fr ov tt : Nat → Nat} (hj : mj_ok M J fr ov tt 20) (hN : N ≤ 20) (hh : M 41 3 = nI N) (w : Int32) : mx_Ct l (pg_L sc) mY_Mo_weights (d + 2) 0 [.ref 41, .int w] M (mx_rI (mo_weights M fr ov tt J w).1 (mo_weights M fr ov tt J w).2) := by
  refine mx_bd (n0 := 2) hl (by decide +kernel) rfl rfl rfl ?_
  have fin : mo_weights M fr ov tt J w = (0, mx_up M 41 0 1) → mx_E l (pg_L sc) mY_Mo_weights (d + 2) 0 (mx_rI (mo_weights M fr ov tt J w).1 (mo_weights M fr ov tt J w).2) 20 [.ref 41, .int w] [.ref 41] M := by
    intro c
    rw [c]
    refine mx_if mo_Mo_weights 5 (t := 37) (f := 35) rfl trivial (fun (q : (1 : Int32) ≤ 0) => absurd q (by decide)) (fun _ => ?_)
    exact mx_ret_i mo_Mo_weights rfl 1 rfl trivial rfl ⟨rfl, rfl⟩
  refine mx_if mo_Mo_weights 2 (t := 20) (f := 5) rfl trivial (fun (q : w < 0) => fin (by rw [mo_weights, if_pos q])) (fun (q1 : ¬ w < 0) => ?_)
  have good : ∀ R : Int32 × mx_M, mx_E l (pg_L sc) mY_Mo_weights (d + 2) 0 (mx_rI R.1 R.2) 37 [.ref 41, .int w] [] (mx_up M 41 0 0) → mx_E l (pg_L sc) mY_Mo_weights (d + 2) 0 (mx_rI R.1 R.2) 24 [.ref 41, .int w] [.ref 41] M := fun R h =>
    mx_if mo_Mo_weights 4 (t := 37) (f := 35) rfl trivial (fun _ => h) (fun (q : ¬ (0 : Int32) ≤ 0) => absurd (by decide) q)
  refine mx_if mo_Mo_weights 2 (t := 24) (f := 10) rfl trivial (fun (q2 : w ≤ 2) => ?_) (fun (q2 : ¬ w ≤ 2) => ?_)
  · rw [mo_weights, if_neg q1, if_pos q2]
    refine good _ ?_
    rcases w3_of q1 q2 with rfl | rfl | rfl
    · rw [if_pos rfl]
      refine mx_if mo_Mo_weights 1 (t := 56) (f := 41) rfl trivial (fun q => absurd rfl q) (fun _ => ?_)
      refine mx_cVi mo_Mo_weights 1 (As := []) (rest := []) rfl (ct_Mo_holding (M := mx_up M 41 0 0) hl hj) rfl trivial rfl rfl rfl kv_Mo_164 kd_Mo_holding rfl rfl rfl ?_
      have h01 := mo_hd01 (f := M 52) (fr := fr) (ov := ov) (tt := tt) J
      refine mx_if mo_Mo_weights 0 (t := 52) (f := 48) rfl trivial (fun (q : mo_hd (M 52) fr ov tt J = 0) => ?_) (fun (q : ¬ mo_hd (M 52) fr ov tt J = 0) => ?_)
      · exact mx_ret_i mo_Mo_weights rfl 2 (v := 0) rfl trivial rfl ⟨by rw [q], rfl⟩
      · exact mx_ret_i mo_Mo_weights rfl 2 (v := 1) rfl trivial rfl ⟨by rw [h01.resolve_left q], rfl⟩
    · rw [if_neg (by decide), if_pos rfl]
      refine mx_if mo_Mo_weights 1 (t := 56) (f := 41) rfl trivial (fun _ => ?_) (fun (q : (1 : Int32) = 0) => absurd q (by decide))
      refine mx_if mo_Mo_weights 2 (t := 72) (f := 61) rfl trivial (fun q => absurd rfl q) (fun _ => ?_)
      refine mx_cVi mo_Mo_weights 3 (As := [.int (M 41 16)]) (rest := []) rfl (ct_Mo_sumOf (M := mx_up M 41 0 0) hl (M 41 16)) rfl trivial rfl rfl rfl kv_Mo_168 kd_Mo_sumOf rfl rfl rfl ?_
      exact mx_ret_i mo_Mo_weights rfl 1 rfl trivial rfl ⟨rfl, rfl⟩
    · rw [if_neg (by decide), if_neg (by decide)]
      refine mx_if mo_Mo_weights 1 (t := 56) (f := 41) rfl trivial (fun _ => ?_) (fun (q : (2 : Int32) = 0) => absurd q (by decide))
      refine mx_if mo_Mo_weights 2 (t := 72) (f := 61) rfl trivial (fun _ => ?_) (fun (q : (2 : Int32) = 1) => absurd q (by decide))
      refine mx_if mo_Mo_weights 2 (t := 88) (f := 77) rfl trivial (fun q => absurd rfl q) (fun _ => ?_)
      refine mx_cVi mo_Mo_weights 3 (As := [.int (M 41 17)]) (rest := []) rfl (ct_Mo_sumOf (M := mx_up M 41 0 0) hl (M 41 17)) rfl trivial rfl rfl rfl kv_Mo_168 kd_Mo_sumOf rfl rfl rfl ?_
      exact mx_ret_i mo_Mo_weights rfl 1 rfl trivial rfl ⟨rfl, rfl⟩
  · refine mx_cVi mo_Mo_weights 4 (As := [.int (w - 3)]) (rest := [.ref 41]) rfl (ct_Mo_noHole hl (w - 3)) rfl trivial rfl rfl rfl kv_Mo_161 kd_Mo_noHole rfl rfl rfl ?_
    by_cases c : ¬ M 41 2 = 0 ∧ ¬ w - 3 < 0 ∧ w - 3 < M 41 3
    · rw [if_pos c, mo_weights, if_neg q1, if_neg q2, if_pos c]
      refine mx_if mo_Mo_weights 0 (t := 24) (f := 20) rfl trivial (fun _ => good _ ?_) (fun q => absurd rfl q)
      obtain ⟨n0, n1, n2⟩ := w3_no q2
      have c2 := c.2
      rw [hh] at c2
      obtain ⟨i, hi, ei⟩ := nI_inJ (by omega) c2
      have hv : vp_in (w - 3) 20 := by rw [ei]; exact vp_in_nI (by omega) (by decide)
      refine mx_if mo_Mo_weights 1 (t := 56) (f := 41) rfl trivial (fun _ => ?_) (fun q => absurd q n0)
      refine mx_if mo_Mo_weights 2 (t := 72) (f := 61) rfl trivial (fun _ => ?_) (fun q => absurd q n1)
      refine mx_if mo_Mo_weights 2 (t := 88) (f := 77) rfl trivial (fun _ => ?_) (fun q => absurd q n2)
      exact mx_ret_i mo_Mo_weights rfl 6 (v := M 52 (w - 3).toNatClampNeg) rfl ⟨hv, trivial⟩ rfl ⟨rfl, rfl⟩
    · rw [if_neg c]
      exact mx_if mo_Mo_weights 0 (t := 24) (f := 20) rfl trivial (fun (q : (1 : Int32) = 0) => absurd q (by decide)) (fun _ => fin (by rw [mo_weights, if_neg q1, if_neg q2, if_neg c]))
end MU
end
section
/-! PegBoardsModel: find. -/
section MV
variable {l : Launch} {sc : Nat × (Nat → Int32)} {d : Nat} {M : mx_M}
def mo_mr (f : Nat → Int32) (s g : Int32) : Nat → Int32
  | 0 => 0
  | h + 1 => mo_mr f s g h + f h * (mo_bit g (nI h) - mo_bit s (nI h))
def mo_ft (f : Nat → Int32) (fr ov tt : Nat → Nat) (J H : Nat) (s g : Int32) : Int32 := if mo_hd f fr ov tt J = 0 then 0 else if mo_mr f s g H ≤ 0 then 0 else 1
theorem ct_Mo_fits (hl : l.stackTraces = false) {J H : Nat} {fr ov tt : Nat → Nat} (hj : mj_ok M J fr ov tt 8) (hH : H ≤ 8) (hh : M 41 3 = nI H) : mx_Ct l (pg_L sc) mY_Mo_fits (d + 1) 0 [.ref 41] M (mx_rI (mo_ft (M 53) fr ov tt J H (M 41 16) (M 41 17)) M) := by
  obtain ⟨hs, hn, hj⟩ := hj
  generalize hmr : mo_mr (M 53) (M 41 16) (M 41 17) H = mr
  have loop2 : ∀ (m k : Nat), J - k = m → k ≤ J → mx_E l (pg_L sc) mY_Mo_fits (d + 1) 0 (mx_rI (mo_ft (M 53) fr ov tt J H (M 41 16) (M 41 17)) M) 49 [.ref 41, .int mr, .int (mo_hd (M 53) fr ov tt k), .int (nI k)] [] M := by
    intro m
    induction m with
    | zero =>
      intro k hm hle
      have e : k = J := by omega
      subst e
      refine mx_if mo_Mo_fits 3 (t := 110) (f := 57) rfl trivial (fun _ => ?_) (fun (q : ¬ M 41 8 ≤ nI k) => ?_)
      · rw [mo_ft, hmr]
        refine mx_if mo_Mo_fits 1 (t := 122) (f := 114) rfl trivial (fun (q : mo_hd (M 53) fr ov tt k = 0) => ?_) (fun (q : ¬ mo_hd (M 53) fr ov tt k = 0) => ?_)
        · rw [if_pos q]
          exact mx_ret_z mo_Mo_fits rfl 1 rfl trivial rfl (Or.inl rfl) ⟨rfl, rfl⟩
        · rw [if_neg q]
          refine mx_if mo_Mo_fits 1 (t := 122) (f := 118) rfl trivial (fun (q : mr ≤ 0) => ?_) (fun (q : ¬ mr ≤ 0) => ?_)
          · rw [if_pos q]
            exact mx_ret_z mo_Mo_fits rfl 1 rfl trivial rfl (Or.inl rfl) ⟨rfl, rfl⟩
          · rw [if_neg q]
            exact mx_ret_z mo_Mo_fits rfl 2 rfl trivial rfl (Or.inr rfl) ⟨rfl, rfl⟩
      · rw [hs] at q; exact absurd (nI_le (Nat.le_refl k) (by omega)) q
    | succ m ih =>
      intro k hm hle
      obtain ⟨j1, j2, j3, j4, j5, j6⟩ := hj k (by omega)
      have ek : (nI k).toNatClampNeg = k := nI_clamp (by omega)
      have hv : vp_in (nI k) 120 := vp_in_nI (by omega) (by decide)
      refine mx_if mo_Mo_fits 3 (t := 110) (f := 57) rfl trivial (fun (q : M 41 8 ≤ nI k) => ?_) (fun _ => ?_)
      · rw [hs] at q; exact absurd q (nI_ge (by omega) (by omega))
      have next : ∀ v : Int32, v = mo_hd (M 53) fr ov tt (k + 1) → mx_E l (pg_L sc) mY_Mo_fits (d + 1) 0 (mx_rI (mo_ft (M 53) fr ov tt J H (M 41 16) (M 41 17)) M) 103 [.ref 41, .int mr, .int (mo_hd (M 53) fr ov tt k), .int (nI k)] [.int v] M := by
        intro v hv
        refine mx_go mo_Mo_fits 3 (pc' := 49) (ls' := [.ref 41, .int mr, .int v, .int (nI k + 1)]) (st' := []) (M' := M) rfl trivial ?_
        rw [hv, nI_1]
        exact ih (k + 1) (by omega) (by omega)
      rw [mo_hd] at next
      have bad : (0 : Int32) = (if mo_hd (M 53) fr ov tt k = 0 then 0 else if M 53 (tt k) ≤ M 53 (fr k) + M 53 (ov k) then 1 else 0) → mx_E l (pg_L sc) mY_Mo_fits (d + 1) 0 (mx_rI (mo_ft (M 53) fr ov tt J H (M 41 16) (M 41 17)) M) 102 [.ref 41, .int mr, .int (mo_hd (M 53) fr ov tt k), .int (nI k)] [] M := fun h =>
        mx_go mo_Mo_fits 1 (pc' := 103) (ls' := [.ref 41, .int mr, .int (mo_hd (M 53) fr ov tt k), .int (nI k)]) (st' := [.int 0]) (M' := M) rfl trivial (next 0 h)
      refine mx_if mo_Mo_fits 1 (t := 102) (f := 61) rfl trivial (fun (q : mo_hd (M 53) fr ov tt k = 0) => bad (by rw [if_pos q])) (fun (q : ¬ mo_hd (M 53) fr ov tt k = 0) => ?_)
      rw [if_neg q] at next bad
      have e1 : M 48 (nI k).toNatClampNeg = nI (tt k) := by rw [ek, j3]
      have e2 : M 46 (nI k).toNatClampNeg = nI (fr k) := by rw [ek, j1]
      have e3 : M 47 (nI k).toNatClampNeg = nI (ov k) := by rw [ek, j2]
      have w1 : vp_in (M 48 (nI k).toNatClampNeg) 8 := by rw [e1]; exact vp_in_nI j6 (by decide)
      have w2 : vp_in (M 46 (nI k).toNatClampNeg) 8 := by rw [e2]; exact vp_in_nI j4 (by decide)
      have w3 : vp_in (M 47 (nI k).toNatClampNeg) 8 := by rw [e3]; exact vp_in_nI j5 (by decide)
      have c1 : (nI (tt k)).toNatClampNeg = tt k := nI_clamp (by omega)
      have c2 : (nI (fr k)).toNatClampNeg = fr k := nI_clamp (by omega)
      have c3 : (nI (ov k)).toNatClampNeg = ov k := nI_clamp (by omega)
      refine mx_if mo_Mo_fits 22 (t := 102) (f := 98) rfl ⟨hv, w1, hv, w2, hv, w3, trivial⟩ (fun (q1 : M 53 (M 46 (nI k).toNatClampNeg).toNatClampNeg + M 53 (M 47 (nI k).toNatClampNeg).toNatClampNeg < M 53 (M 48 (nI k).toNatClampNeg).toNatClampNeg) => ?_) (fun (q1 : ¬ M 53 (M 46 (nI k).toNatClampNeg).toNatClampNeg + M 53 (M 47 (nI k).toNatClampNeg).toNatClampNeg < M 53 (M 48 (nI k).toNatClampNeg).toNatClampNeg) => ?_)
      · rw [e1, e2, e3, c1, c2, c3] at q1
        exact bad (by rw [if_neg (Int32.not_le.mpr q1)])
      · rw [e1, e2, e3, c1, c2, c3] at q1
        exact mx_go mo_Mo_fits 2 (pc' := 103) (ls' := [.ref 41, .int mr, .int (mo_hd (M 53) fr ov tt k), .int (nI k)]) (st' := [.int 1]) (M' := M) rfl trivial (next 1 (by rw [if_pos (Int32.not_lt.mp q1)]))
  have loop1 : ∀ (m h : Nat), H - h = m → h ≤ H → mx_E l (pg_L sc) mY_Mo_fits (d + 1) 0 (mx_rI (mo_ft (M 53) fr ov tt J H (M 41 16) (M 41 17)) M) 6 [.ref 41, .int (mo_mr (M 53) (M 41 16) (M 41 17) h), .int 1, .int (nI h)] [] M := by
    intro m
    induction m with
    | zero =>
      intro h hm hle
      have e : h = H := by omega
      subst e
      refine mx_if mo_Mo_fits 3 (t := 47) (f := 14) rfl trivial (fun _ => ?_) (fun (q : ¬ M 41 3 ≤ nI h) => ?_)
      · rw [hmr]
        exact mx_go mo_Mo_fits 2 (pc' := 49) (ls' := [.ref 41, .int mr, .int 1, .int (nI 0)]) (st' := []) (M' := M) rfl trivial (loop2 J 0 (by omega) (by omega))
      · rw [hh] at q; exact absurd (nI_le (Nat.le_refl h) (by omega)) q
    | succ m ih =>
      intro h hm hle
      have e : (nI h).toNatClampNeg = h := nI_clamp (by omega)
      have hv : vp_in (nI h) 8 := vp_in_nI (by omega) (by decide)
      refine mx_if mo_Mo_fits 3 (t := 47) (f := 14) rfl trivial (fun (q : M 41 3 ≤ nI h) => ?_) (fun _ => ?_)
      · rw [hh] at q; exact absurd q (nI_ge (by omega) (by omega))
      generalize ha : mo_mr (M 53) (M 41 16) (M 41 17) h = a
      refine mx_go mo_Mo_fits 8 (pc' := 26) (ls' := [.ref 41, .int a, .int 1, .int (nI h)]) (st' := [.int (nI h), .int (M 41 17), .int (M 53 (nI h).toNatClampNeg), .int a]) (M' := M) rfl ⟨hv, trivial⟩ ?_
      rw [e]
      refine mx_cSi mo_Mo_fits 0 (As := [.int (M 41 17), .int (nI h)]) (rest := [.int (M 53 h), .int a]) rfl (ct_Mo_bit hl _ _) rfl trivial rfl ks_Mo_120 kd_Mo_bit rfl rfl rfl ?_
      refine mx_cSi mo_Mo_fits 3 (As := [.int (M 41 16), .int (nI h)]) (rest := [.int (mo_bit (M 41 17) (nI h)), .int (M 53 h), .int a]) rfl (ct_Mo_bit hl _ _) rfl trivial rfl ks_Mo_120 kd_Mo_bit rfl rfl rfl ?_
      refine mx_go mo_Mo_fits 6 (pc' := 6) (ls' := [.ref 41, .int (a + M 53 h * (mo_bit (M 41 17) (nI h) - mo_bit (M 41 16) (nI h))), .int 1, .int (nI h + 1)]) (st' := []) (M' := M) rfl trivial ?_
      rw [nI_1, ← ha]
      exact ih (h + 1) (by omega) (by omega)
  refine mx_bd (n0 := 1) hl (by decide +kernel) rfl rfl rfl ?_
  exact mx_go mo_Mo_fits 6 (pc' := 6) (ls' := [.ref 41, .int 0, .int 1, .int (nI 0)]) (st' := []) (M' := M) rfl trivial (loop1 H 0 (by omega) (by omega))
/-- a trial of weights: the digits of x to base 3 -/
def mo_fl : Nat → Nat → mx_M → mx_M
  | 0, _, M => M
  | h + 1, x, M => mo_fl h (x / 3) (mx_up M 53 h (nI (x % 3)))
def mo_cp (A : mx_M) (H : Nat) : mx_M := mx_row A 52 (fun j => if j < H then A 53 j else A 52 j)
def mo_fd (fr ov tt : Nat → Nat) (J H : Nat) (s g : Int32) : Nat → Nat → mx_M → Int32 × mx_M
  | 0, _, M => (0, M)
  | m + 1, v, M => if mo_ft (mo_fl H v M 53) fr ov tt J H s g = 0 then mo_fd fr ov tt J H s g m (v + 1) (mo_fl H v M) else (1, mo_cp (mo_fl H v M) H)
theorem mo_fl_off {c : Nat} (hc : c ≠ 53) : ∀ (h x : Nat) (M : mx_M), mo_fl h x M c = M c := by
  intro h
  induction h with
  | zero => intro x M; rfl
  | succ h ih => intro x M; rw [mo_fl, ih, mx_up_off hc]
theorem mj_ok_off {A : mx_M} {n : Nat} {fr ov tt : Nat → Nat} {H : Nat} (hj : mj_ok M n fr ov tt H) (h5 : A 41 8 = M 41 8) (h6 : A 46 = M 46) (h7 : A 47 = M 47) (h8 : A 48 = M 48) : mj_ok A n fr ov tt H := by
  unfold mj_ok at hj ⊢
  rw [h5, h6, h7, h8]
  exact hj
def mo_find (M : mx_M) (fr ov tt : Nat → Nat) (J H : Nat) : Int32 × mx_M := if ¬ M 41 2 = 0 ∧ H ≤ 8 then mo_fd fr ov tt J H (M 41 16) (M 41 17) (3 ^ H) 0 (mx_up M 41 0 0) else (0, mx_up M 41 0 1)
theorem ct_Mo_find (hl : l.stackTraces = false) {J H : Nat} {fr ov tt : Nat → Nat} (hH : H ≤ 20) (hh : M 41 3 = nI H) (hj : H ≤ 8 → mj_ok M J fr ov tt 8) : mx_Ct l (pg_L sc) mY_Mo_find (d + 2) 0 [.ref 41] M (mx_rI (mo_find M fr ov tt J H).1 (mo_find M fr ov tt J H).2) := by
  refine mx_bd (n0 := 1) hl (by decide +kernel) rfl rfl rfl ?_
  rw [mo_find]
  have bad : ¬ (¬ M 41 2 = 0 ∧ H ≤ 8) → mx_E l (pg_L sc) mY_Mo_find (d + 2) 0 (mx_rI (if ¬ M 41 2 = 0 ∧ H ≤ 8 then mo_fd fr ov tt J H (M 41 16) (M 41 17) (3 ^ H) 0 (mx_up M 41 0 0) else (0, mx_up M 41 0 1)).1 (if ¬ M 41 2 = 0 ∧ H ≤ 8 then mo_fd fr ov tt J H (M 41 16) (M 41 17) (3 ^ H) 0 (mx_up M 41 0 0) else (0, mx_up M 41 0 1)).2) 17 [.ref 41, .null, .null, .null, .null] [.ref 41] M := by
    intro c
    rw [if_neg c]
    refine mx_if mo_Mo_find 5 (t := 34) (f := 32) rfl trivial (fun (q : (1 : Int32) ≤ 0) => absurd q (by decide)) (fun _ => ?_)
    exact mx_ret_z mo_Mo_find rfl 1 rfl trivial rfl (Or.inl rfl) ⟨rfl, rfl⟩
  refine mx_if mo_Mo_find 3 (t := 17) (f := 8) rfl trivial (fun (q : M 41 2 = 0) => bad (fun c => c.1 q)) (fun (q1 : ¬ M 41 2 = 0) => ?_)
  refine mx_if mo_Mo_find 3 (t := 21) (f := 17) rfl trivial (fun (q2 : M 41 3 ≤ nI 8) => ?_) (fun (q2 : ¬ M 41 3 ≤ nI 8) => bad (fun c => q2 (by rw [hh]; exact nI_le c.2 (by decide))))
  rw [hh, nI_leI (by omega) (by decide)] at q2
  rw [if_pos ⟨q1, q2⟩]
  have hj := hj q2
  refine mx_if mo_Mo_find 4 (t := 34) (f := 32) rfl trivial (fun _ => ?_) (fun (q : ¬ (0 : Int32) ≤ 0) => absurd (by decide) q)
  generalize hA0 : mx_up M 41 0 0 = A0
  have a3 : A0 41 3 = nI H := by rw [← hA0]; exact hh
  have aj : mj_ok A0 J fr ov tt 8 := by rw [← hA0]; exact mj_ok_off hj rfl rfl rfl rfl
  have a16 : A0 41 16 = M 41 16 := by rw [← hA0]; rfl
  have a17 : A0 41 17 = M 41 17 := by rw [← hA0]; rfl
  generalize M 41 16 = sb at a16 ⊢
  generalize M 41 17 = ge at a17 ⊢
  generalize hR : mo_fd fr ov tt J H sb ge (3 ^ H) 0 A0 = R
  have h3 : 3 ^ H ≤ 6561 := Nat.le_trans (Nat.pow_le_pow_right (by decide) q2) (by decide)
  have digits : ∀ (h x v : Nat) (B : mx_M) (k : Value → Prop), True → h ≤ H → x < 2 ^ 31 → (∀ y z : Value, mx_E l (pg_L sc) mY_Mo_find (d + 2) 0 (mx_rI R.1 R.2) 98 [.ref 41, .int (nI (3 ^ H)), .int (nI v), y, z] [] (mo_fl h x B)) →
      ∀ z : Int32, z + 1 = nI h → mx_E l (pg_L sc) mY_Mo_find (d + 2) 0 (mx_rI R.1 R.2) 73 [.ref 41, .int (nI (3 ^ H)), .int (nI v), .int (nI x), .int z] [] B := by
    intro h
    induction h with
    | zero =>
      intro x v B _ _ hh0 hx nx z hz
      have ez : z = -1 := by
        have : z = z + 1 - 1 := by rw [Int32.add_sub_cancel]
        rw [this, hz]; rfl
      subst ez
      exact mx_if mo_Mo_find 1 (t := 98) (f := 78) rfl trivial (fun _ => nx _ _) (fun (q : ¬ (-1 : Int32) < 0) => absurd (by decide) q)
    | succ h ih =>
      intro x v B kk _ hh0 hx nx z hz
      have ez : z = nI h := by
        have : z = z + 1 - 1 := by rw [Int32.add_sub_cancel]
        rw [this, hz, nI_pred]
      subst ez
      have e : (nI h).toNatClampNeg = h := nI_clamp (by omega)
      refine mx_if mo_Mo_find 1 (t := 98) (f := 78) rfl trivial (fun (q : nI h < 0) => absurd q (nI_pos (by omega))) (fun _ => ?_)
      refine mx_go mo_Mo_find 13 (pc' := 73) (ls' := [.ref 41, .int (nI (3 ^ H)), .int (nI v), .int (nI x / nI 3), .int (nI h + (-1))]) (st' := []) (M' := mx_up B 53 (nI h).toNatClampNeg (nI x - nI x / nI 3 * nI 3)) rfl ⟨by decide, vp_in_nI (N := 8) (by omega) (by decide), by decide, trivial⟩ ?_
      rw [e, pk_rem (by omega) (by decide) (by decide), pk_div (by omega) (by decide) (by decide)]
      exact ih (x / 3) v _ kk trivial (by omega) (Nat.lt_of_le_of_lt (Nat.div_le_self x 3) hx) nx _ (by rw [Int32.add_assoc, show (-1 : Int32) + 1 = 0 by decide, Int32.add_zero])
  have copy : ∀ (m h : Nat) (A : mx_M) (x y : Value), H - h = m → h ≤ H → A 41 3 = nI H → R = (1, mo_cp A H) → mx_E l (pg_L sc) mY_Mo_find (d + 2) 0 (mx_rI R.1 R.2) 108 [.ref 41, .int (nI (3 ^ H)), x, y, .int (nI h)] [] (mo_cp A h) := by
    intro m
    induction m with
    | zero =>
      intro h A x y hm hle ha he
      have e : h = H := by omega
      subst e
      refine mx_if mo_Mo_find 3 (t := 137) (f := 117) rfl trivial (fun _ => ?_) (fun (q : ¬ A 41 3 ≤ nI h) => ?_)
      · rw [he]
        exact mx_ret_z mo_Mo_find rfl 1 rfl trivial rfl (Or.inr rfl) ⟨rfl, rfl⟩
      · rw [ha] at q; exact absurd (nI_le (Nat.le_refl h) (by omega)) q
    | succ m ihm =>
      intro h A x y hm hle ha he
      have e : (nI h).toNatClampNeg = h := nI_clamp (by omega)
      refine mx_if mo_Mo_find 3 (t := 137) (f := 117) rfl trivial (fun (q : A 41 3 ≤ nI h) => ?_) (fun _ => ?_)
      · rw [ha] at q; exact absurd q (nI_ge (by omega) (by omega))
      refine mx_go mo_Mo_find 10 (pc' := 108) (ls' := [.ref 41, .int (nI (3 ^ H)), x, y, .int (nI h + 1)]) (st' := []) (M' := mx_up (mo_cp A h) 52 (nI h).toNatClampNeg (A 53 (nI h).toNatClampNeg)) rfl ⟨vp_in_nI (N := 8) (by omega) (by decide), vp_in_nI (N := 20) (by omega) (by decide), trivial⟩ ?_
      rw [e, nI_1, show mx_up (mo_cp A h) 52 h (A 53 h) = mo_cp A (h + 1) from ?_]
      · exact ihm (h + 1) A x y (by omega) (by omega) ha he
      · funext a j
        by_cases h52 : a = 52
        · subst h52
          by_cases hjh : j = h
          · subst hjh; simp [mo_cp, mx_up, mx_row]
          · by_cases hlt : j < h
            · simp [mo_cp, mx_up, mx_row, hjh, hlt, Nat.lt_succ_of_lt hlt]
            · simp [mo_cp, mx_up, mx_row, hjh, hlt, show ¬ j < h + 1 by omega]
        · simp [mo_cp, mx_up, mx_row, h52]
  have main : ∀ (m v : Nat) (A : mx_M) (x y : Value), 3 ^ H - v = m → v ≤ 3 ^ H → A 41 = A0 41 → mj_ok A J fr ov tt 8 → mo_fd fr ov tt J H sb ge m v A = R → mx_E l (pg_L sc) mY_Mo_find (d + 2) 0 (mx_rI R.1 R.2) 58 [.ref 41, .int (nI (3 ^ H)), .int (nI v), x, y] [] A := by
    intro m
    induction m with
    | zero =>
      intro v A x y hm hle hA hjA he
      have e : v = 3 ^ H := by omega
      refine mx_if mo_Mo_find 2 (t := 145) (f := 63) rfl trivial (fun _ => ?_) (fun (q : ¬ nI (3 ^ H) ≤ nI v) => ?_)
      · rw [← he]
        exact mx_ret_z mo_Mo_find rfl 1 rfl trivial rfl (Or.inl rfl) ⟨rfl, rfl⟩
      · rw [e] at q; exact absurd (nI_le (Nat.le_refl _) (by omega)) q
    | succ m ihm =>
      intro v A x y hm hle hA hjA he
      refine mx_if mo_Mo_find 2 (t := 145) (f := 63) rfl trivial (fun (q : nI (3 ^ H) ≤ nI v) => absurd q (nI_ge (by omega) (by omega))) (fun _ => ?_)
      refine mx_go mo_Mo_find 7 (pc' := 73) (ls' := [.ref 41, .int (nI (3 ^ H)), .int (nI v), .int (nI v), .int (A 41 3 - 1)]) (st' := []) (M' := A) rfl trivial ?_
      rw [hA, a3]
      refine digits H v v A (fun _ => True) trivial (Nat.le_refl H) (by omega) (fun y z => ?_) _ (Int32.sub_add_cancel _ _)
      rw [mo_fd] at he
      have hB : mo_fl H v A 41 = A0 41 := by rw [mo_fl_off (by decide), hA]
      have hjB : mj_ok (mo_fl H v A) J fr ov tt 8 := mj_ok_off hjA (by rw [mo_fl_off (by decide)]) (mo_fl_off (by decide) _ _ _) (mo_fl_off (by decide) _ _ _) (mo_fl_off (by decide) _ _ _)
      generalize mo_fl H v A = B at hB hjB he ⊢
      have hf := ct_Mo_fits (l := l) (sc := sc) (d := d) (M := B) hl hjB q2 (by rw [hB]; exact a3)
      rw [hB, a16, a17] at hf
      refine mx_cVi mo_Mo_find 1 (As := []) (rest := []) rfl hf rfl trivial rfl rfl rfl kv_Mo_171 kd_Mo_fits rfl rfl rfl ?_
      refine mx_if mo_Mo_find 0 (t := 139) (f := 105) rfl trivial (fun q => ?_) (fun q => ?_)
      · rw [if_pos q] at he
        refine mx_go mo_Mo_find 2 (pc' := 58) (ls' := [.ref 41, .int (nI (3 ^ H)), .int (nI v + 1), y, z]) (st' := []) (M' := B) rfl trivial ?_
        rw [nI_1]
        exact ihm (v + 1) B _ _ (by omega) (by omega) hB hjB he
      · rw [if_neg q] at he
        refine mx_go mo_Mo_find 2 (pc' := 108) (ls' := [.ref 41, .int (nI (3 ^ H)), .int (nI v), y, .int (nI 0)]) (st' := []) (M' := B) rfl trivial ?_
        have := copy H 0 B (.int (nI v)) y (by omega) (by omega) (by rw [hB]; exact a3) he.symm
        rw [show mo_cp B 0 = B from by funext a j; by_cases h52 : a = 52 <;> simp [mo_cp, mx_row, h52]] at this
        exact this
  have many : ∀ (m h : Nat), H - h = m → h ≤ H → mx_E l (pg_L sc) mY_Mo_find (d + 2) 0 (mx_rI R.1 R.2) 38 [.ref 41, .int (nI (3 ^ h)), .int (nI h), .null, .null] [] A0 := by
    intro m
    induction m with
    | zero =>
      intro h hm hle
      have e : h = H := by omega
      subst e
      refine mx_if mo_Mo_find 3 (t := 56) (f := 46) rfl trivial (fun _ => ?_) (fun (q : ¬ A0 41 3 ≤ nI h) => ?_)
      · exact mx_go mo_Mo_find 2 (pc' := 58) (ls' := [.ref 41, .int (nI (3 ^ h)), .int (nI 0), .null, .null]) (st' := []) (M' := A0) rfl trivial (main (3 ^ h) 0 A0 _ _ (Nat.sub_zero _) (Nat.zero_le _) rfl aj hR)
      · rw [a3] at q; exact absurd (nI_le (Nat.le_refl h) (by omega)) q
    | succ m ihm =>
      intro h hm hle
      refine mx_if mo_Mo_find 3 (t := 56) (f := 46) rfl trivial (fun (q : A0 41 3 ≤ nI h) => ?_) (fun _ => ?_)
      · rw [a3] at q; exact absurd q (nI_ge (by omega) (by omega))
      refine mx_go mo_Mo_find 6 (pc' := 38) (ls' := [.ref 41, .int (nI 3 * nI (3 ^ h)), .int (nI h + 1), .null, .null]) (st' := []) (M' := A0) rfl trivial ?_
      rw [pk_mul, nI_1, show 3 * 3 ^ h = 3 ^ (h + 1) by rw [Nat.pow_succ, Nat.mul_comm]]
      exact ihm (h + 1) (by omega) (by omega)
  exact mx_go mo_Mo_find 4 (pc' := 38) (ls' := [.ref 41, .int (nI (3 ^ 0)), .int (nI 0), .null, .null]) (st' := []) (M' := A0) (by rw [← hA0]; rfl) trivial (many H 0 (by omega) (by omega))
end MV
end
section
/-! PegBoardsModel: pegs, spread. -/
section MW
variable {l : Launch} {sc : Nat × (Nat → Int32)} {d : Nat} {M : mx_M}
def mo_pg (p : Int32) : Nat → Int32
  | 0 => 0
  | h + 1 => mo_pg p h + mo_bit p (nI h)
theorem ct_Mo_pegs (hl : l.stackTraces = false) {N : Nat} (hN : N ≤ 20) (hh : M 41 3 = nI N) (p : Int32) : mx_Ct l (pg_L sc) mY_Mo_pegs (d + 1) 0 [.ref 41, .int p] M (mx_rI (mo_pg p N) M) := by
  have loop : ∀ (m h : Nat), N - h = m → h ≤ N → mx_E l (pg_L sc) mY_Mo_pegs (d + 1) 0 (mx_rI (mo_pg p N) M) 4 [.ref 41, .int p, .int (mo_pg p h), .int (nI h)] [] M := by
    intro m
    induction m with
    | zero =>
      intro h hm hle
      have e : h = N := by omega
      subst e
      refine mx_if mo_Mo_pegs 3 (t := 26) (f := 12) rfl trivial (fun _ => ?_) (fun (q : ¬ M 41 3 ≤ nI h) => ?_)
      · exact mx_ret_i mo_Mo_pegs rfl 1 rfl trivial rfl ⟨rfl, rfl⟩
      · rw [hh] at q; exact absurd (nI_le (Nat.le_refl h) (by omega)) q
    | succ m ih =>
      intro h hm hle
      refine mx_if mo_Mo_pegs 3 (t := 26) (f := 12) rfl trivial (fun (q : M 41 3 ≤ nI h) => ?_) (fun _ => ?_)
      · rw [hh] at q; exact absurd q (nI_ge (by omega) (by omega))
      refine mx_cSi mo_Mo_pegs 3 (As := [.int p, .int (nI h)]) (rest := [.int (mo_pg p h)]) rfl (ct_Mo_bit hl p (nI h)) rfl trivial rfl ks_Mo_120 kd_Mo_bit rfl rfl rfl ?_
      refine mx_go mo_Mo_pegs 4 (pc' := 4) (ls' := [.ref 41, .int p, .int (mo_pg p h + mo_bit p (nI h)), .int (nI h + 1)]) (st' := []) (M' := M) rfl trivial ?_
      rw [nI_1]
      exact ih (h + 1) (by omega) (by omega)
  refine mx_bd (n0 := 2) hl (by decide +kernel) rfl rfl rfl ?_
  exact mx_go mo_Mo_pegs 4 (pc' := 4) (ls' := [.ref 41, .int p, .int 0, .int (nI 0)]) (st' := []) (M' := M) rfl trivial (loop N 0 (by omega) (by omega))
/-- one of the 21 ways to come to position s, gone on by a jump of the peg in hole f to place a of the table -/
def mo_i1 (s a : Nat) (f : Int32) (h : Nat) (B : mx_M) : mx_M := mx_up B 58 a (if B 58 a ≤ B 58 (21 * s + h) + (if nI h = f then 0 else 1) then B 58 a else B 58 (21 * s + h) + (if nI h = f then 0 else 1))
def mo_i (s a : Nat) (f : Int32) (M : mx_M) : Nat → mx_M
  | 0 => M
  | h + 1 => mo_i1 s a f h (mo_i s a f M h)
theorem mo_i_off {s a : Nat} {f : Int32} {c : Nat} (hc : c ≠ 58) : ∀ h, mo_i s a f M h c = M c := by
  intro h
  induction h with
  | zero => rfl
  | succ h ih => rw [mo_i, mo_i1, mx_up_off hc, ih]
/-- the number of a position that was found -/
def mo_no (M : mx_M) (p : Int32) : Nat := (M 57 (mo_s M p) - 1).toNatClampNeg
def mo_sk (s k : Nat) (B : mx_M) : mx_M := if mo_q B s k < 0 then B else mo_i s (21 * mo_no B (mo_q B s k) + (B 48 k).toNatClampNeg) (B 46 k) B 21
def mo_sp (s : Nat) (M : mx_M) : Nat → mx_M
  | 0 => M
  | k + 1 => mo_sk s k (mo_sp s M k)
theorem mo_sk_off {s k c : Nat} (hc : c ≠ 58) : mo_sk s k M c = M c := by
  unfold mo_sk
  split
  · rfl
  · exact mo_i_off hc 21
theorem mo_sp_off {s c : Nat} (hc : c ≠ 58) : ∀ k, mo_sp s M k c = M c := by
  intro k
  induction k with
  | zero => rfl
  | succ k ih => rw [mo_sp, mo_sk_off hc, ih]
theorem ct_Mo_spread (hl : l.stackTraces = false) {J s n : Nat} {fr ov tt : Nat → Nat} (hj : mj_ok M J fr ov tt 20) (hn : hs_ok mo_h (M 57) (M 54) n) (hsn : s < n) (hcl : ∀ k, k < J → ¬ mo_q M s k < 0 → ¬ M 57 (mo_s M (mo_q M s k)) = 0) : mx_Ct l (pg_L sc) mY_Mo_spread (d + 2) 0 [.ref 41, .int (nI s)] M (mx_rV (mo_sp s M J)) := by
  obtain ⟨hs, hJ, hj⟩ := hj
  have hn5 : n ≤ 500 := hn.1
  have loop : ∀ (m k : Nat), J - k = m → k ≤ J → ∀ x y z w : Value, mx_E l (pg_L sc) mY_Mo_spread (d + 2) 0 (mx_rV (mo_sp s M J)) 2 [.ref 41, .int (nI s), .int (nI k), x, y, z, w] [] (mo_sp s M k) := by
    intro m
    induction m with
    | zero =>
      intro k hm hle x y z w
      have e : k = J := by omega
      subst e
      refine mx_if mo_Mo_spread 3 (t := 127) (f := 10) rfl trivial (fun _ => ?_) (fun (q : ¬ mo_sp s M k 41 8 ≤ nI k) => ?_)
      · exact mx_ret_v mo_Mo_spread rfl 0 rfl trivial rfl ⟨rfl, rfl⟩
      · rw [mo_sp_off (by decide), hs] at q; exact absurd (nI_le (Nat.le_refl k) (by omega)) q
    | succ m ih =>
      intro k hm hle x y z w
      obtain ⟨j1, j2, j3, j4, j5, j6⟩ := hj k (by omega)
      have hB : ∀ c, c ≠ 58 → mo_sp s M k c = M c := fun c hc => mo_sp_off hc k
      have next : ∀ x y z w : Value, mx_E l (pg_L sc) mY_Mo_spread (d + 2) 0 (mx_rV (mo_sp s M J)) 121 [.ref 41, .int (nI s), .int (nI k), x, y, z, w] [] (mo_sk s k (mo_sp s M k)) := by
        intro x y z w
        refine mx_go mo_Mo_spread 2 (pc' := 2) (ls' := [.ref 41, .int (nI s), .int (nI k + 1), x, y, z, w]) (st' := []) rfl trivial ?_
        rw [nI_1]
        exact ih (k + 1) (by omega) (by omega) x y z w
      have hcl := hcl k (by omega)
      have hnB : hs_ok mo_h (mo_sp s M k 57) (mo_sp s M k 54) n := by rw [hB 57 (by decide), hB 54 (by decide)]; exact hn
      have eq : mo_q M s k = mo_q (mo_sp s M k) s k := by unfold mo_q; rw [hB 54 (by decide), hB 46 (by decide), hB 47 (by decide), hB 48 (by decide)]
      have es : ∀ p, mo_s M p = mo_s (mo_sp s M k) p := fun p => by unfold mo_s; rw [hB 54 (by decide), hB 57 (by decide)]
      have b8 : mo_sp s M k 41 8 = nI J := by rw [hB 41 (by decide)]; exact hs
      have b46 : mo_sp s M k 46 k = nI (fr k) := by rw [hB 46 (by decide)]; exact j1
      have b48 : mo_sp s M k 48 k = nI (tt k) := by rw [hB 48 (by decide)]; exact j3
      rw [eq, es, ← hB 57 (by decide)] at hcl
      generalize mo_sp s M k = B at next hcl hnB b8 b46 b48 ⊢
      have ek : (nI k).toNatClampNeg = k := nI_clamp (by omega)
      have ess : (nI s).toNatClampNeg = s := nI_clamp (by omega)
      refine mx_if mo_Mo_spread 3 (t := 127) (f := 10) rfl trivial (fun (q : B 41 8 ≤ nI k) => ?_) (fun _ => ?_)
      · rw [b8] at q; exact absurd q (nI_ge (by omega) (by omega))
      refine mx_go mo_Mo_spread 6 (pc' := 18) (ls' := [.ref 41, .int (nI s), .int (nI k), x, y, z, w]) (st' := [.int (nI k), .int (B 54 (nI s).toNatClampNeg), .ref 41]) (M' := B) rfl ⟨vp_in_nI (N := 500) (by omega) (by decide), trivial⟩ ?_
      rw [ess]
      refine mx_cVi mo_Mo_spread 0 (As := [.int (B 54 s), .int (nI k)]) (rest := []) rfl (ct_Mo_made hl (B 54 s) (by omega)) rfl trivial rfl rfl rfl kv_Mo_123 kd_Mo_made rfl rfl rfl ?_
      change mx_E l (pg_L sc) mY_Mo_spread (d + 2) 0 _ 21 [.ref 41, .int (nI s), .int (nI k), x, y, z, w] [.int (mo_q B s k)] B
      unfold mo_sk at next
      generalize mo_q B s k = q at next hcl ⊢
      refine mx_if mo_Mo_spread 2 (t := 121) (f := 26) rfl trivial (fun (c1 : q < 0) => ?_) (fun (c1 : ¬ q < 0) => ?_)
      · rw [if_pos c1] at next
        exact next _ _ _ _
      rw [if_neg c1] at next
      refine mx_cVi mo_Mo_spread 3 (As := [.int q]) (rest := [.int 21]) rfl (ct_Mo_numberOf hl hnB q) rfl trivial rfl rfl rfl kv_Mo_136 kd_Mo_numberOf rfl rfl rfl ?_
      rcases mo_s_in hnB q with ⟨c2, -⟩ | ⟨i, hi, -, c2⟩
      · exact absurd c2 (hcl c1)
      have eno : mo_no B q = i := by rw [mo_no, c2, nI_pred, nI_clamp (by omega)]
      rw [eno, b48, b46, nI_clamp (by omega)] at next
      rw [c2, nI_pred]
      refine mx_go mo_Mo_spread 9 (pc' := 46) (ls' := [.ref 41, .int (nI s), .int (nI k), .int q, .int (nI 21 * nI i + B 48 (nI k).toNatClampNeg), .int (nI 0), w]) (st' := []) (M' := B) rfl ⟨vp_in_nI (N := 120) (by omega) (by decide), trivial⟩ ?_
      rw [ek, b48, pk_mul, nI_add]
      have ha : 21 * i + tt k < 10500 := by omega
      generalize 21 * i + tt k = a at next ha ⊢
      have hva : vp_in (nI a) 10500 := vp_in_nI ha (by decide)
      have ea : (nI a).toNatClampNeg = a := nI_clamp (by omega)
      have inner : ∀ (m2 h : Nat), 21 - h = m2 → h ≤ 21 → ∀ w : Value, mx_E l (pg_L sc) mY_Mo_spread (d + 2) 0 (mx_rV (mo_sp s M J)) 46 [.ref 41, .int (nI s), .int (nI k), .int q, .int (nI a), .int (nI h), w] [] (mo_i s a (nI (fr k)) B h) := by
        intro m2
        induction m2 with
        | zero =>
          intro h hm2 hle2 w
          have e : h = 21 := by omega
          subst e
          exact mx_if mo_Mo_spread 2 (t := 121) (f := 53) rfl trivial (fun _ => next _ _ _ _) (fun (q : ¬ nI 21 ≤ nI 21) => absurd (nI_le (Nat.le_refl 21) (by decide)) q)
        | succ m2 ih2 =>
          intro h hm2 hle2 w
          have c46 : mo_i s a (nI (fr k)) B h 46 k = nI (fr k) := by rw [mo_i_off (by decide)]; exact b46
          have nx2 : ∀ v x2 : Int32, mx_up (mo_i s a (nI (fr k)) B h) 58 a v = mo_i s a (nI (fr k)) B (h + 1) → mx_E l (pg_L sc) mY_Mo_spread (d + 2) 0 (mx_rV (mo_sp s M J)) 114 [.ref 41, .int (nI s), .int (nI k), .int q, .int (nI a), .int (nI h), .int x2] [.int v, .int (nI a), .ref 58] (mo_i s a (nI (fr k)) B h) := by
            intro v x2 hv
            refine mx_go mo_Mo_spread 3 (pc' := 46) (ls' := [.ref 41, .int (nI s), .int (nI k), .int q, .int (nI a), .int (nI h + 1), .int x2]) (st' := []) (M' := mx_up (mo_i s a (nI (fr k)) B h) 58 (nI a).toNatClampNeg v) rfl ⟨hva, trivial⟩ ?_
            rw [ea, hv, nI_1]
            exact ih2 (h + 1) (by omega) (by omega) _
          rw [mo_i, mo_i1] at nx2
          generalize mo_i s a (nI (fr k)) B h = C at c46 nx2 ⊢
          have hvs : vp_in (nI 21 * nI s + nI h) 10500 := by rw [pk_mul, nI_add]; exact vp_in_nI (by omega) (by decide)
          have es2 : (nI 21 * nI s + nI h).toNatClampNeg = 21 * s + h := by rw [pk_mul, nI_add]; exact nI_clamp (by omega)
          refine mx_if mo_Mo_spread 2 (t := 121) (f := 53) rfl trivial (fun (q : nI 21 ≤ nI h) => absurd q (nI_ge (by omega) (by decide))) (fun _ => ?_)
          have fin : ∀ x2 : Int32, x2 = C 58 (21 * s + h) + (if nI h = nI (fr k) then 0 else 1) → mx_E l (pg_L sc) mY_Mo_spread (d + 2) 0 (mx_rV (mo_sp s M J)) 84 [.ref 41, .int (nI s), .int (nI k), .int q, .int (nI a), .int (nI h), .int x2] [] C := by
            intro x2 hx2
            rw [← hx2] at nx2
            refine mx_if mo_Mo_spread 8 (t := 107) (f := 102) rfl ⟨hva, trivial⟩ (fun (c : C 58 (nI a).toNatClampNeg ≤ x2) => ?_) (fun (c : ¬ C 58 (nI a).toNatClampNeg ≤ x2) => ?_)
            · rw [ea] at c
              rw [if_pos c] at nx2
              refine mx_go mo_Mo_spread 4 (pc' := 114) (ls' := [.ref 41, .int (nI s), .int (nI k), .int q, .int (nI a), .int (nI h), .int x2]) (st' := [.int (C 58 (nI a).toNatClampNeg), .int (nI a), .ref 58]) (M' := C) rfl ⟨hva, trivial⟩ ?_
              rw [ea]
              exact nx2 _ _ rfl
            · rw [ea] at c
              rw [if_neg c] at nx2
              exact mx_go mo_Mo_spread 2 (pc' := 114) (ls' := [.ref 41, .int (nI s), .int (nI k), .int q, .int (nI a), .int (nI h), .int x2]) (st' := [.int x2, .int (nI a), .ref 58]) (M' := C) rfl trivial (nx2 _ _ rfl)
          refine mx_if mo_Mo_spread 13 (t := 80) (f := 76) rfl ⟨hvs, vp_in_nI (N := 120) (by omega) (by decide), trivial⟩ (fun (c : ¬ nI h = C 46 (nI k).toNatClampNeg) => ?_) (fun (c : nI h = C 46 (nI k).toNatClampNeg) => ?_)
          · rw [ek, c46] at c
            refine mx_go mo_Mo_spread 3 (pc' := 84) (ls' := [.ref 41, .int (nI s), .int (nI k), .int q, .int (nI a), .int (nI h), .int (C 58 (nI 21 * nI s + nI h).toNatClampNeg + 1)]) (st' := []) (M' := C) rfl trivial ?_
            exact fin _ (by rw [es2, if_neg c])
          · rw [ek, c46] at c
            refine mx_go mo_Mo_spread 4 (pc' := 84) (ls' := [.ref 41, .int (nI s), .int (nI k), .int q, .int (nI a), .int (nI h), .int (C 58 (nI 21 * nI s + nI h).toNatClampNeg + 0)]) (st' := []) (M' := C) rfl trivial ?_
            exact fin _ (by rw [es2, if_pos c])
      exact inner 21 0 (by omega) (by omega) w
  refine mx_bd (n0 := 2) hl (by decide +kernel) rfl rfl rfl ?_
  exact mx_go mo_Mo_spread 2 (pc' := 2) (ls' := [.ref 41, .int (nI s), .int (nI 0), .null, .null, .null, .null]) (st' := []) (M' := M) rfl trivial (loop J 0 (by omega) (by omega) _ _ _ _)
end MW
end
section
/-! PegBoardsModel: moves. -/
section MX
variable {l : Launch} {sc : Nat × (Nat → Int32)} {d : Nat} {M : mx_M}
def mo_lv (c : Int32) (N J : Nat) (M : mx_M) : Nat → mx_M
  | 0 => M
  | s + 1 => if mo_pg (mo_lv c N J M s 54 s) N = c then mo_sp s (mo_lv c N J M s) J else mo_lv c N J M s
theorem mo_lv_off {c : Int32} {N J a : Nat} (ha : a ≠ 58) : ∀ s, mo_lv c N J M s a = M a := by
  intro s
  induction s with
  | zero => rfl
  | succ s ih =>
    rw [mo_lv]
    split
    · rw [mo_sp_off ha, ih]
    · exact ih
def mo_mo (N J n : Nat) : Nat → mx_M → mx_M
  | 0, M => M
  | c + 1, M => mo_mo N J n c (mo_lv (nI (c + 1)) N J M n)
theorem mo_mo_off {N J n a : Nat} (ha : a ≠ 58) : ∀ c M, mo_mo N J n c M a = M a := by
  intro c
  induction c with
  | zero => intro M; rfl
  | succ c ih => intro M; rw [mo_mo, ih, mo_lv_off ha]
def mo_mn (f : Nat → Int32) (g : Nat) : Nat → Int32
  | 0 => 1000
  | h + 1 => if mo_mn f g h ≤ f (21 * g + h) then mo_mn f g h else f (21 * g + h)
/-- the table before the spreading, and behind it -/
def mo_t0 (A : mx_M) (n : Nat) : mx_M := mx_up (pg_fill A 58 (21 * n) 1000) 58 20 0
def mo_t1 (A : mx_M) (N J n c : Nat) : mx_M := mo_mo N J n c (mo_t0 A n)
theorem mo_t1_off {A : mx_M} {N J n c a : Nat} (ha : a ≠ 58) : mo_t1 A N J n c a = A a := by
  rw [mo_t1, mo_mo_off ha, mo_t0, mx_up_off ha]
  funext j
  simp [pg_fill, mx_row, ha]
def mo_moves (R : Bool × mx_M) (N J c : Nat) : Int32 × mx_M := if R.1 then ((if R.2 57 (mo_s R.2 (R.2 41 17)) = 0 then -1 else mo_mn (mo_t1 R.2 N J (R.2 41 20).toNatClampNeg c 58) (mo_no R.2 (R.2 41 17)) 21), mo_t1 R.2 N J (R.2 41 20).toNatClampNeg c) else (-2, R.2)
theorem ct_Mo_moves (hl : l.stackTraces = false) {J N c : Nat} {fr ov tt : Nat → Nat} (hj : ¬ M 41 2 = 0 → mj_ok M J fr ov tt 20) (hJ : J ≤ 120) (hs : M 41 8 = nI J) (lim : Int32) (hN : N ≤ 20) (hh : M 41 3 = nI N) (hc20 : c ≤ 20) (hpg : mo_pg (M 41 16) N = nI c)
    (hcl : ¬ M 41 2 = 0 → ∀ L, 1 ≤ L → L ≤ 500 → (mo_go (mx_up M 41 0 0) L J).1 = true → ∀ s k, s < ((mo_go (mx_up M 41 0 0) L J).2 41 20).toNatClampNeg → k < J → ¬ mo_q (mo_go (mx_up M 41 0 0) L J).2 s k < 0 → ¬ (mo_go (mx_up M 41 0 0) L J).2 57 (mo_s (mo_go (mx_up M 41 0 0) L J).2 (mo_q (mo_go (mx_up M 41 0 0) L J).2 s k)) = 0) :
    mx_Ct l (pg_L sc) mY_Mo_moves (d + 3) 0 [.ref 41, .int lim] M (mx_rI (mo_rw M lim (mo_moves (mo_go (mx_up M 41 0 0) lim.toNatClampNeg J) N J c)).1 (mo_rw M lim (mo_moves (mo_go (mx_up M 41 0 0) lim.toNatClampNeg J) N J c)).2) := by
  refine mx_bd (n0 := 2) hl (by decide +kernel) rfl rfl rfl ?_
  refine mx_cVi mo_Mo_moves 2 (As := [.int lim]) (rest := []) rfl (ct_Mo_cannot hl lim) rfl trivial rfl rfl rfl kv_Mo_139 kd_Mo_cannot rfl rfl rfl ?_
  rw [mo_rw]
  by_cases hc : mo_cc M lim = 0
  case neg =>
    rw [if_neg hc, if_neg hc]
    refine mx_if mo_Mo_moves 0 (t := 10) (f := 8) rfl trivial (fun (q : (1 : Int32) = 0) => absurd q (by decide)) (fun _ => ?_)
    exact mx_ret_i mo_Mo_moves rfl 1 rfl trivial rfl ⟨rfl, rfl⟩
  rw [if_pos hc, if_pos hc, hc]
  refine mx_if mo_Mo_moves 0 (t := 10) (f := 8) rfl trivial (fun _ => ?_) (fun q => absurd rfl q)
  obtain ⟨hfz, L, h1, h5, rfl⟩ := mo_cc0 hc
  rw [nI_clamp (by omega)]
  have hs' : mx_up M 41 0 0 41 8 = nI J := hs
  refine mx_cVi mo_Mo_moves 2 (As := [.int (nI L)]) (rest := []) rfl (ct_Mo_reach hl h1 h5 hJ hs') rfl trivial rfl rfl rfl kv_Mo_142 kd_Mo_reach rfl rfl rfl ?_
  have hk : mo_ok (mo_go (mx_up M 41 0 0) L J).2 L := (mo_ra_ok L 0 _ (mo_s0_ok h1 h5).1).1
  have hcl := hcl hfz L h1 h5
  obtain ⟨-, -, -, o4, o5⟩ := mo_ra_ok (J := J) L 0 _ (mo_s0_ok (M := mx_up M 41 0 0) h1 h5).1
  have r3 : (mo_go (mx_up M 41 0 0) L J).2 41 3 = nI N := by rw [mo_go, o5 3 (by decide), mo_s0_41 (by decide)]; exact hh
  have r16 : (mo_go (mx_up M 41 0 0) L J).2 41 16 = M 41 16 := by rw [mo_go, o5 16 (by decide), mo_s0_41 (by decide)]; rfl
  have rj : mj_ok (mo_go (mx_up M 41 0 0) L J).2 J fr ov tt 20 := mj_ok_off (hj hfz) (by rw [mo_go, o5 8 (by decide), mo_s0_41 (by decide)]; rfl) (by rw [mo_go, o4 46 (by omega), mo_s0_off (by omega)]; rfl) (by rw [mo_go, o4 47 (by omega), mo_s0_off (by omega)]; rfl) (by rw [mo_go, o4 48 (by omega), mo_s0_off (by omega)]; rfl)
  clear o4 o5
  generalize mo_go (mx_up M 41 0 0) L J = R at hk hcl r3 r16 rj ⊢
  obtain ⟨rb, A⟩ := R
  dsimp only at hk hcl r3 r16 rj ⊢
  rw [mo_moves]
  cases rb with
  | false =>
    rw [if_neg Bool.false_ne_true, if_neg Bool.false_ne_true]
    refine mx_if mo_Mo_moves 0 (t := 21) (f := 18) rfl trivial (fun q => absurd rfl q) (fun _ => ?_)
    exact mx_ret_i mo_Mo_moves rfl 1 rfl trivial rfl ⟨rfl, rfl⟩
  | true =>
    rw [if_pos rfl, if_pos rfl]
    have hcl := hcl rfl
    refine mx_if mo_Mo_moves 0 (t := 21) (f := 18) rfl trivial (fun _ => ?_) (fun (q : (1 : Int32) = 0) => absurd q (by decide))
    obtain ⟨-, n, g2, g3, g4⟩ := hk
    have hn : (A 41 20).toNatClampNeg = n := by rw [g3]; exact nI_clamp (by omega)
    rw [hn] at hcl
    dsimp only
    rw [hn]
    generalize hQ : mx_rI (if A 57 (mo_s A (A 41 17)) = 0 then -1 else mo_mn (mo_t1 A N J n c 58) (mo_no A (A 41 17)) 21) (mo_t1 A N J n c) = Q
    -- the least of the goal's 21
    have last : ∀ (g : Nat), g < n → ∀ (m h : Nat), 21 - h = m → h ≤ 21 → Q = mx_rI (mo_mn (mo_t1 A N J n c 58) g 21) (mo_t1 A N J n c) → mx_E l (pg_L sc) mY_Mo_moves (d + 3) 0 Q 127 [.ref 41, .int (nI L), .int (nI g), .int (mo_mn (mo_t1 A N J n c 58) g h), .int (nI h)] [] (mo_t1 A N J n c) := by
      intro g hg m
      generalize mo_t1 A N J n c = T
      induction m with
      | zero =>
        intro h hm hle hq
        have e : h = 21 := by omega
        subst e
        refine mx_if mo_Mo_moves 2 (t := 177) (f := 134) rfl trivial (fun _ => ?_) (fun (q : ¬ nI 21 ≤ nI 21) => absurd (nI_le (Nat.le_refl 21) (by decide)) q)
        refine mx_if mo_Mo_moves 1 (t := 185) (f := 181) rfl trivial (fun _ => ?_) (fun (q : ¬ (0 : Int32) ≤ nI g) => absurd (nI_pos' (by omega)) q)
        rw [hq]
        exact mx_ret_i mo_Mo_moves rfl 1 rfl trivial rfl ⟨rfl, rfl⟩
      | succ m ih =>
        intro h hm hle hq
        have hv : vp_in (nI 21 * nI g + nI h) 10500 := by rw [pk_mul, nI_add]; exact vp_in_nI (by omega) (by decide)
        have es : (nI 21 * nI g + nI h).toNatClampNeg = 21 * g + h := by rw [pk_mul, nI_add]; exact nI_clamp (by omega)
        refine mx_if mo_Mo_moves 2 (t := 177) (f := 134) rfl trivial (fun (q : nI 21 ≤ nI h) => absurd q (nI_ge (by omega) (by decide))) (fun _ => ?_)
        refine mx_if mo_Mo_moves 1 (t := 177) (f := 138) rfl trivial (fun (q : nI g < 0) => absurd q (nI_pos (by omega))) (fun _ => ?_)
        have next : ∀ v : Int32, v = mo_mn (T 58) g (h + 1) → mx_E l (pg_L sc) mY_Mo_moves (d + 3) 0 Q 170 [.ref 41, .int (nI L), .int (nI g), .int (mo_mn (T 58) g h), .int (nI h)] [.int v] T := by
          intro v hv
          refine mx_go mo_Mo_moves 3 (pc' := 127) (ls' := [.ref 41, .int (nI L), .int (nI g), .int v, .int (nI h + 1)]) (st' := []) (M' := T) rfl trivial ?_
          rw [hv, nI_1]
          exact ih (h + 1) (by omega) (by omega) hq
        rw [mo_mn] at next
        refine mx_if mo_Mo_moves 9 (t := 169) (f := 154) rfl ⟨hv, trivial⟩ (fun (q : mo_mn (T 58) g h ≤ T 58 (nI 21 * nI g + nI h).toNatClampNeg) => ?_) (fun (q : ¬ mo_mn (T 58) g h ≤ T 58 (nI 21 * nI g + nI h).toNatClampNeg) => ?_)
        · rw [es] at q
          exact mx_go mo_Mo_moves 1 (pc' := 170) (ls' := [.ref 41, .int (nI L), .int (nI g), .int (mo_mn (T 58) g h), .int (nI h)]) (st' := [.int (mo_mn (T 58) g h)]) (M' := T) rfl trivial (next _ (by rw [if_pos q]))
        · rw [es] at q
          refine mx_go mo_Mo_moves 9 (pc' := 170) (ls' := [.ref 41, .int (nI L), .int (nI g), .int (mo_mn (T 58) g h), .int (nI h)]) (st' := [.int (T 58 (nI 21 * nI g + nI h).toNatClampNeg)]) (M' := T) rfl ⟨hv, trivial⟩ ?_
          exact next _ (by rw [es, if_neg q])
    have tail : ∀ x y z : Value, mx_E l (pg_L sc) mY_Mo_moves (d + 3) 0 Q 111 [.ref 41, .int (nI L), x, y, z] [] (mo_t1 A N J n c) := by
      intro x y z
      have t57 : mo_t1 A N J n c 57 = A 57 := mo_t1_off (by decide)
      have t54 : mo_t1 A N J n c 54 = A 54 := mo_t1_off (by decide)
      have t41 : mo_t1 A N J n c 41 = A 41 := mo_t1_off (by decide)
      have hT : hs_ok mo_h (mo_t1 A N J n c 57) (mo_t1 A N J n c 54) n := by rw [t57, t54]; exact g4
      have eS : ∀ p, mo_s (mo_t1 A N J n c) p = mo_s A p := fun p => by unfold mo_s; rw [t57, t54]
      have hnum := ct_Mo_numberOf (l := l) (sc := sc) (d := d + 1) hl hT (A 41 17)
      rw [eS, t57] at hnum
      refine mx_go mo_Mo_moves 3 (pc' := 116) (ls' := [.ref 41, .int (nI L), x, y, z]) (st' := [.int (mo_t1 A N J n c 41 17), .ref 41]) (M' := mo_t1 A N J n c) rfl trivial ?_
      rw [t41]
      refine mx_cVi mo_Mo_moves 0 (As := [.int (A 41 17)]) (rest := []) rfl hnum rfl trivial rfl rfl rfl kv_Mo_136 kd_Mo_numberOf rfl rfl rfl ?_
      rcases mo_s_in g4 (A 41 17) with ⟨c2, -⟩ | ⟨i, hi, -, c2⟩
      · rw [if_pos c2] at hQ
        rw [c2]
        refine mx_if mo_Mo_moves 7 (t := 177) (f := 134) rfl trivial (fun (q : nI 21 ≤ nI 0) => absurd q (by decide)) (fun _ => ?_)
        refine mx_if mo_Mo_moves 1 (t := 177) (f := 138) rfl trivial (fun _ => ?_) (fun (q : ¬ (0 : Int32) - 1 < 0) => absurd (by decide) q)
        refine mx_if mo_Mo_moves 1 (t := 185) (f := 181) rfl trivial (fun (q : (0 : Int32) ≤ 0 - 1) => absurd q (by decide)) (fun _ => ?_)
        rw [← hQ]
        exact mx_ret_i mo_Mo_moves rfl 2 rfl trivial rfl ⟨rfl, rfl⟩
      · rw [if_neg (by rw [c2]; exact nI_ne0 (by omega) (by omega)), mo_no, c2, nI_pred, nI_clamp (by omega)] at hQ
        rw [c2, nI_pred]
        exact mx_go mo_Mo_moves 5 (pc' := 127) (ls' := [.ref 41, .int (nI L), .int (nI i), .int 1000, .int (nI 0)]) (st' := []) (M' := mo_t1 A N J n c) rfl trivial (last i hi 21 0 (by omega) (by omega) hQ.symm)
    -- the positions of one number of pegs
    have level : ∀ (e : Nat) (T : mx_M), e + 1 ≤ c → (∀ a, a ≠ 58 → T a = A a) → (∀ y z : Value, mx_E l (pg_L sc) mY_Mo_moves (d + 3) 0 Q 105 [.ref 41, .int (nI L), .int (nI (e + 1)), y, z] [] (mo_lv (nI (e + 1)) N J T n)) →
        ∀ (m s : Nat), n - s = m → s ≤ n → ∀ z : Value, mx_E l (pg_L sc) mY_Mo_moves (d + 3) 0 Q 72 [.ref 41, .int (nI L), .int (nI (e + 1)), .int (nI s), z] [] (mo_lv (nI (e + 1)) N J T s) := by
      intro e T he hT nx m
      induction m with
      | zero =>
        intro s hm hle z
        have es : s = n := by omega
        subst es
        refine mx_if mo_Mo_moves 3 (t := 105) (f := 80) rfl trivial (fun _ => nx _ _) (fun (q : ¬ mo_lv (nI (e + 1)) N J T s 41 20 ≤ nI s) => ?_)
        rw [mo_lv_off (by decide), hT 41 (by decide), g3] at q
        exact absurd (nI_le (Nat.le_refl s) (by omega)) q
      | succ m ih =>
        intro s hm hle z
        have hB : ∀ a, a ≠ 58 → mo_lv (nI (e + 1)) N J T s a = A a := fun a ha => by rw [mo_lv_off ha, hT a ha]
        have next : mx_E l (pg_L sc) mY_Mo_moves (d + 3) 0 Q 99 [.ref 41, .int (nI L), .int (nI (e + 1)), .int (nI s), z] [] (mo_lv (nI (e + 1)) N J T (s + 1)) := by
          refine mx_go mo_Mo_moves 2 (pc' := 72) (ls' := [.ref 41, .int (nI L), .int (nI (e + 1)), .int (nI s + 1), z]) (st' := []) rfl trivial ?_
          rw [nI_1]
          exact ih (s + 1) (by omega) (by omega) z
        rw [mo_lv] at next
        generalize mo_lv (nI (e + 1)) N J T s = B at hB next ⊢
        have ess : (nI s).toNatClampNeg = s := nI_clamp (by omega)
        refine mx_if mo_Mo_moves 3 (t := 105) (f := 80) rfl trivial (fun (q : B 41 20 ≤ nI s) => ?_) (fun _ => ?_)
        · rw [hB 41 (by decide), g3] at q; exact absurd q (nI_ge (by omega) (by omega))
        refine mx_go mo_Mo_moves 5 (pc' := 87) (ls' := [.ref 41, .int (nI L), .int (nI (e + 1)), .int (nI s), z]) (st' := [.int (B 54 (nI s).toNatClampNeg), .ref 41]) (M' := B) rfl ⟨vp_in_nI (N := 500) (by omega) (by decide), trivial⟩ ?_
        rw [ess]
        refine mx_cVi mo_Mo_moves 0 (As := [.int (B 54 s)]) (rest := []) rfl (ct_Mo_pegs hl hN (by rw [hB 41 (by decide)]; exact r3) (B 54 s)) rfl trivial rfl rfl rfl kv_Mo_145 kd_Mo_pegs rfl rfl rfl ?_
        refine mx_if mo_Mo_moves 1 (t := 99) (f := 94) rfl trivial (fun (q : ¬ mo_pg (B 54 s) N = nI (e + 1)) => ?_) (fun (q : mo_pg (B 54 s) N = nI (e + 1)) => ?_)
        · rw [if_neg q] at next; exact next
        · rw [if_pos q] at next
          have hjB : mj_ok B J fr ov tt 20 := mj_ok_off rj (by rw [hB 41 (by decide)]) (hB 46 (by decide)) (hB 47 (by decide)) (hB 48 (by decide))
          have hclB : ∀ k, k < J → ¬ mo_q B s k < 0 → ¬ B 57 (mo_s B (mo_q B s k)) = 0 := by
            have e1 : ∀ k, mo_q B s k = mo_q A s k := fun k => by unfold mo_q; rw [hB 54 (by decide), hB 46 (by decide), hB 47 (by decide), hB 48 (by decide)]
            have e2 : ∀ p, mo_s B p = mo_s A p := fun p => by unfold mo_s; rw [hB 54 (by decide), hB 57 (by decide)]
            intro k hk
            rw [e1, e2, hB 57 (by decide)]
            exact hcl s k (by omega) hk
          refine mx_cVv mo_Mo_moves 2 (As := [.int (nI s)]) (rest := []) rfl (ct_Mo_spread hl hjB (by rw [hB 57 (by decide), hB 54 (by decide)]; exact g4) (by omega) hclB) rfl trivial rfl rfl rfl kv_Mo_148 kd_Mo_spread rfl rfl rfl ?_
          exact next
    have outer : ∀ (e : Nat) (T : mx_M), e ≤ c → (∀ a, a ≠ 58 → T a = A a) → mo_mo N J n e T = mo_t1 A N J n c → ∀ y z : Value, mx_E l (pg_L sc) mY_Mo_moves (d + 3) 0 Q 66 [.ref 41, .int (nI L), .int (nI e), y, z] [] T := by
      intro e
      induction e with
      | zero =>
        intro T he hT hq y z
        rw [mo_mo] at hq
        subst hq
        exact mx_if mo_Mo_moves 1 (t := 111) (f := 70) rfl trivial (fun _ => tail _ _ _) (fun (q : ¬ nI 0 ≤ 0) => absurd (by decide) q)
      | succ e ih =>
        intro T he hT hq y z
        rw [mo_mo] at hq
        refine mx_if mo_Mo_moves 1 (t := 111) (f := 70) rfl trivial (fun (q : nI (e + 1) ≤ 0) => absurd q (nI_nle (by omega) (by omega))) (fun _ => ?_)
        refine mx_go mo_Mo_moves 2 (pc' := 72) (ls' := [.ref 41, .int (nI L), .int (nI (e + 1)), .int (nI 0), z]) (st' := []) (M' := T) rfl trivial ?_
        refine level e T he hT (fun y z => ?_) n 0 (by omega) (by omega) z
        refine mx_go mo_Mo_moves 2 (pc' := 66) (ls' := [.ref 41, .int (nI L), .int (nI (e + 1) + (-1)), y, z]) (st' := []) rfl trivial ?_
        rw [show nI (e + 1) + (-1) = nI e by rw [show ∀ x : Int32, x + (-1) = x - 1 from fun x => by rw [Int32.sub_eq_add_neg], nI_pred]]
        exact ih _ (by omega) (fun a ha => by rw [mo_lv_off ha, hT a ha]) hq y z
    have fill : ∀ (m i : Nat), 21 * n - i = m → i ≤ 21 * n → ∀ y z : Value, mx_E l (pg_L sc) mY_Mo_moves (d + 3) 0 Q 23 [.ref 41, .int (nI L), .int (nI i), y, z] [] (pg_fill A 58 i 1000) := by
      intro m
      have f41 : ∀ i, pg_fill A 58 i 1000 41 = A 41 := fun i => by funext j; simp [pg_fill, mx_row]
      have e21 : nI 21 * nI n = nI (21 * n) := pk_mul 21 n
      induction m with
      | zero =>
        intro i hm hle y z
        have e : i = 21 * n := by omega
        subst e
        refine mx_if mo_Mo_moves 5 (t := 49) (f := 34) rfl trivial (fun _ => ?_) (fun (q : ¬ nI 21 * pg_fill A 58 (21 * n) 1000 41 20 ≤ nI (21 * n)) => ?_)
        · refine mx_go mo_Mo_moves 8 (pc' := 62) (ls' := [.ref 41, .int (nI L), .int (nI (21 * n)), y, z]) (st' := [.int (mo_t0 A n 41 16), .ref 41]) (M' := mo_t0 A n) rfl ⟨vp_in_nI (n := 20) (N := 10500) (by decide) (by decide), trivial⟩ ?_
          have o : ∀ a, a ≠ 58 → mo_t0 A n a = A a := fun a ha => by
            rw [mo_t0, mx_up_off ha]; funext j; simp [pg_fill, mx_row, ha]
          rw [o 41 (by decide), r16]
          refine mx_cVi mo_Mo_moves 0 (As := [.int (M 41 16)]) (rest := []) rfl (ct_Mo_pegs hl hN (by rw [o 41 (by decide)]; exact r3) (M 41 16)) rfl trivial rfl rfl rfl kv_Mo_145 kd_Mo_pegs rfl rfl rfl ?_
          rw [hpg]
          exact mx_go mo_Mo_moves 1 (pc' := 66) (ls' := [.ref 41, .int (nI L), .int (nI c), y, z]) (st' := []) (M' := mo_t0 A n) rfl trivial (outer c _ (Nat.le_refl c) o rfl _ _)
        · rw [f41, g3, e21] at q; exact absurd (nI_le (Nat.le_refl _) (by omega)) q
      | succ m ih =>
        intro i hm hle y z
        have e : (nI i).toNatClampNeg = i := nI_clamp (by omega)
        refine mx_if mo_Mo_moves 5 (t := 49) (f := 34) rfl trivial (fun (q : nI 21 * pg_fill A 58 i 1000 41 20 ≤ nI i) => ?_) (fun _ => ?_)
        · rw [f41, g3, e21] at q; exact absurd q (nI_ge (by omega) (by omega))
        refine mx_go mo_Mo_moves 7 (pc' := 23) (ls' := [.ref 41, .int (nI L), .int (nI i + 1), y, z]) (st' := []) (M' := mx_up (pg_fill A 58 i 1000) 58 (nI i).toNatClampNeg 1000) rfl ⟨vp_in_nI (N := 10500) (by omega) (by decide), trivial⟩ ?_
        rw [e, pg_fill_s, nI_1]
        exact ih (i + 1) (by omega) (by omega) y z
    refine mx_go mo_Mo_moves 2 (pc' := 23) (ls' := [.ref 41, .int (nI L), .int (nI 0), .null, .null]) (st' := []) (M' := A) rfl trivial ?_
    have := fill (21 * n) 0 (by omega) (by omega) .null .null
    rw [pg_fill_0] at this
    exact this
end MX
end
section
/-! PegBoardsModel: way, parity. -/
section MZ
variable {l : Launch} {sc : Nat × (Nat → Int32)} {d : Nat} {M : mx_M}
def mo_way (A : mx_M) (i : Int32) (w : Nat → Nat) (K : Nat) : Int32 := if A 57 (mo_s A (A 41 17)) = 0 then -1 else if ¬ i < 0 ∧ i < nI K then A 56 (w (K - 1 - i.toNatClampNeg)) else -1
def mo_wok (A : mx_M) (w : Nat → Nat) (K : Nat) : Prop := K < 500 ∧ (¬ A 57 (mo_s A (A 41 17)) = 0 → mo_no A (A 41 17) = w 0 ∧ (∀ m, m ≤ K → w m < 500) ∧ (∀ m, m < K → A 55 (w m) = nI (w (m + 1))) ∧ A 55 (w K) = -1)
theorem ct_Mo_way (hl : l.stackTraces = false) {J K : Nat} {w : Nat → Nat} (hJ : J ≤ 120) (hs : M 41 8 = nI J) (lim i : Int32) (hw : ¬ M 41 2 = 0 → ∀ L, 1 ≤ L → L ≤ 500 → lim = nI L → mo_wok (mo_go (mx_up M 41 0 0) L J).2 w K) :
    mx_Ct l (pg_L sc) mY_Mo_way (d + 3) 0 [.ref 41, .int lim, .int i] M (mx_rI (mo_rw M lim (mo_way (mo_go (mx_up M 41 0 0) lim.toNatClampNeg J).2 i w K, (mo_go (mx_up M 41 0 0) lim.toNatClampNeg J).2)).1 (mo_rw M lim (mo_way (mo_go (mx_up M 41 0 0) lim.toNatClampNeg J).2 i w K, (mo_go (mx_up M 41 0 0) lim.toNatClampNeg J).2)).2) := by
  refine mx_bd (n0 := 3) hl (by decide +kernel) rfl rfl rfl ?_
  refine mx_cVi mo_Mo_way 2 (As := [.int lim]) (rest := []) rfl (ct_Mo_cannot hl lim) rfl trivial rfl rfl rfl kv_Mo_139 kd_Mo_cannot rfl rfl rfl ?_
  rw [mo_rw]
  by_cases hc : mo_cc M lim = 0
  case neg =>
    rw [if_neg hc, if_neg hc]
    refine mx_if mo_Mo_way 0 (t := 10) (f := 8) rfl trivial (fun (q : (1 : Int32) = 0) => absurd q (by decide)) (fun _ => ?_)
    exact mx_ret_i mo_Mo_way rfl 1 rfl trivial rfl ⟨rfl, rfl⟩
  rw [if_pos hc, if_pos hc, hc]
  refine mx_if mo_Mo_way 0 (t := 10) (f := 8) rfl trivial (fun _ => ?_) (fun q => absurd rfl q)
  obtain ⟨hfz, L, h1, h5, rfl⟩ := mo_cc0 hc
  rw [nI_clamp (by omega)]
  have hs' : mx_up M 41 0 0 41 8 = nI J := hs
  refine mx_cVi mo_Mo_way 2 (As := [.int (nI L)]) (rest := []) rfl (ct_Mo_reach hl h1 h5 hJ hs') rfl trivial rfl rfl rfl kv_Mo_142 kd_Mo_reach rfl rfl rfl ?_
  have hk : mo_ok (mo_go (mx_up M 41 0 0) L J).2 L := (mo_ra_ok L 0 _ (mo_s0_ok h1 h5).1).1
  have hw := hw hfz L h1 h5 rfl
  generalize mo_go (mx_up M 41 0 0) L J = R at hk hw ⊢
  obtain ⟨rb, A⟩ := R
  dsimp only at hk hw ⊢
  obtain ⟨-, n, g2, g3, g4⟩ := hk
  obtain ⟨hK, hw⟩ := hw
  rw [mo_way]
  generalize (if rb = true then (1 : Int32) else 0) = rv
  refine mx_cVi mo_Mo_way 4 (As := [.int (A 41 17)]) (rest := []) rfl (ct_Mo_numberOf hl g4 (A 41 17)) rfl trivial rfl rfl rfl kv_Mo_136 kd_Mo_numberOf rfl rfl rfl ?_
  rcases mo_s_in g4 (A 41 17) with ⟨c2, -⟩ | ⟨j, hj, -, c2⟩
  · rw [if_pos c2, c2]
    refine mx_if mo_Mo_way 2 (t := 33) (f := 31) rfl trivial (fun (q : (0 : Int32) ≤ 0 - 1) => absurd q (by decide)) (fun _ => ?_)
    exact mx_ret_i mo_Mo_way rfl 1 rfl trivial rfl ⟨rfl, rfl⟩
  have hne : ¬ A 57 (mo_s A (A 41 17)) = 0 := by rw [c2]; exact nI_ne0 (by omega) (by omega)
  obtain ⟨w0, w1, w2, w3⟩ := hw hne
  rw [mo_no, c2, nI_pred, nI_clamp (by omega)] at w0
  rw [if_neg hne, c2, nI_pred, w0]
  refine mx_if mo_Mo_way 2 (t := 33) (f := 31) rfl trivial (fun _ => ?_) (fun (q : ¬ (0 : Int32) ≤ nI (w 0)) => absurd (nI_pos' (by have := w1 0 (by omega); omega)) q)
  generalize hv : (if ¬ i < 0 ∧ i < nI K then A 56 (w (K - 1 - i.toNatClampNeg)) else -1) = v
  have fin : ¬ (¬ i < 0 ∧ i < nI K) → ∀ z : Value, mx_E l (pg_L sc) mY_Mo_way (d + 3) 0 (mx_rI v A) 75 [.ref 41, .int (nI L), .int i, .int rv, .int (nI (w 0)), .int (nI K), z] [] A := by
    intro c z
    rw [if_neg c] at hv
    exact mx_ret_i mo_Mo_way rfl 1 rfl trivial rfl ⟨by rw [← hv]; rfl, rfl⟩
  have back : ∀ (t : Nat), t < K → v = A 56 (w (K - 1 - t)) → ∀ (r m : Nat), K - 1 - t - m = r → m ≤ K - 1 - t → mx_E l (pg_L sc) mY_Mo_way (d + 3) 0 (mx_rI v A) 83 [.ref 41, .int (nI L), .int (nI t), .int rv, .int (nI (w m)), .int (nI K), .int (nI (K - 1 - m))] [] A := by
    intro t ht hvt r
    induction r with
    | zero =>
      intro m hm hle
      have e : m = K - 1 - t := by omega
      have hwm := w1 m (by omega)
      have ev : (nI (w m)).toNatClampNeg = w m := nI_clamp (by omega)
      refine mx_if mo_Mo_way 2 (t := 104) (f := 89) rfl trivial (fun _ => ?_) (fun (q : ¬ nI (K - 1 - m) ≤ nI t) => absurd (nI_le (by omega) (by omega)) q)
      exact mx_ret_i mo_Mo_way rfl 4 (v := A 56 (nI (w m)).toNatClampNeg) rfl ⟨vp_in_nI (N := 500) hwm (by decide), trivial⟩ rfl ⟨by rw [ev, hvt, e], rfl⟩
    | succ r ih =>
      intro m hm hle
      have hwm := w1 m (by omega)
      have ev : (nI (w m)).toNatClampNeg = w m := nI_clamp (by omega)
      refine mx_if mo_Mo_way 2 (t := 104) (f := 89) rfl trivial (fun (q : nI (K - 1 - m) ≤ nI t) => absurd q (nI_ge (by omega) (by omega))) (fun _ => ?_)
      refine mx_go mo_Mo_way 7 (pc' := 83) (ls' := [.ref 41, .int (nI L), .int (nI t), .int rv, .int (A 55 (nI (w m)).toNatClampNeg), .int (nI K), .int (nI (K - 1 - m) + (-1))]) (st' := []) (M' := A) rfl ⟨vp_in_nI (N := 500) hwm (by decide), trivial⟩ ?_
      rw [ev, w2 m (by omega)]
      have e1 : nI (K - 1 - m) + (-1) = nI (K - 1 - (m + 1)) := by
        rw [show K - 1 - m = (K - 1 - (m + 1)) + 1 by omega, show ∀ x : Int32, x + (-1) = x - 1 from fun x => by rw [Int32.sub_eq_add_neg], nI_pred]
      rw [e1]
      exact ih (m + 1) (by omega) (by omega)
  have count : ∀ (r m : Nat), K - m = r → m ≤ K → mx_E l (pg_L sc) mY_Mo_way (d + 3) 0 (mx_rI v A) 40 [.ref 41, .int (nI L), .int i, .int rv, .int (nI (w 0)), .int (nI m), .int (nI (w m))] [] A := by
    intro r
    induction r with
    | zero =>
      intro m hm hle
      have e : m = K := by omega
      subst e
      have hwm := w1 m (by omega)
      have ev : (nI (w m)).toNatClampNeg = w m := nI_clamp (by omega)
      refine mx_if mo_Mo_way 4 (t := 65) (f := 50) rfl ⟨vp_in_nI (N := 500) hwm (by decide), trivial⟩ (fun _ => ?_) (fun (q : ¬ A 55 (nI (w m)).toNatClampNeg < 0) => ?_)
      · refine mx_if mo_Mo_way 1 (t := 75) (f := 69) rfl trivial (fun q => fin (fun c => c.1 q) _) (fun (q1 : ¬ i < 0) => ?_)
        refine mx_if mo_Mo_way 2 (t := 77) (f := 75) rfl trivial (fun (q2 : i < nI m) => ?_) (fun q2 => fin (fun c => q2 c.2) _)
        rw [if_pos ⟨q1, q2⟩] at hv
        obtain ⟨t, ht, rfl⟩ := nI_inJ (by omega) ⟨q1, q2⟩
        rw [nI_clamp (by omega)] at hv
        refine mx_go mo_Mo_way 4 (pc' := 83) (ls' := [.ref 41, .int (nI L), .int (nI t), .int rv, .int (nI (w 0)), .int (nI m), .int (nI m - 1)]) (st' := []) (M' := A) rfl trivial ?_
        have e1 : nI m - 1 = nI (m - 1 - 0) := by
          rw [show m = (m - 1 - 0) + 1 by omega, nI_pred]; rfl
        rw [e1]
        exact back t ht hv.symm (m - 1 - t) 0 (by omega) (by omega)
      · rw [ev, w3] at q; exact absurd (by decide) q
    | succ r ih =>
      intro m hm hle
      have hwm := w1 m (by omega)
      have ev : (nI (w m)).toNatClampNeg = w m := nI_clamp (by omega)
      refine mx_if mo_Mo_way 4 (t := 65) (f := 50) rfl ⟨vp_in_nI (N := 500) hwm (by decide), trivial⟩ (fun (q : A 55 (nI (w m)).toNatClampNeg < 0) => ?_) (fun _ => ?_)
      · rw [ev, w2 m (by omega)] at q
        exact absurd q (nI_pos (by have := w1 (m + 1) (by omega); omega))
      refine mx_go mo_Mo_way 7 (pc' := 40) (ls' := [.ref 41, .int (nI L), .int i, .int rv, .int (nI (w 0)), .int (nI m + 1), .int (A 55 (nI (w m)).toNatClampNeg)]) (st' := []) (M' := A) rfl ⟨vp_in_nI (N := 500) hwm (by decide), trivial⟩ ?_
      rw [ev, w2 m (by omega), nI_1]
      exact ih (m + 1) (by omega) (by omega)
  exact mx_go mo_Mo_way 4 (pc' := 40) (ls' := [.ref 41, .int (nI L), .int i, .int rv, .int (nI (w 0)), .int (nI 0), .int (nI (w 0))]) (st' := []) (M' := A) rfl trivial (count K 0 (by omega) (by omega))
end MZ
end
section
/-! PegBoardsModel: classes. -/
section MC2
variable {l : Launch} {sc : Nat × (Nat → Int32)} {d : Nat} {M : mx_M}
def mo_cn (A : mx_M) (v : Int32) (n : Nat) : mx_M := mx_up (mx_up A 59 n v) 41 26 (nI (n + 1))
def mo_cs (A : mx_M) (g : Nat → Int32) : Nat → mx_M
  | 0 => mx_up A 41 26 0
  | s + 1 => if ∃ i, i < s ∧ g i = g s then mo_cs A g s else mo_cn (mo_cs A g s) (g s) (le_c g s)
theorem mo_cs_off {A : mx_M} {g : Nat → Int32} {c : Nat} (h1 : c ≠ 41) (h2 : c ≠ 59) : ∀ s, mo_cs A g s c = A c := by
  intro s
  induction s with
  | zero => rw [mo_cs, mx_up_off h1]
  | succ s ih =>
    rw [mo_cs]
    split
    · exact ih
    · rw [mo_cn, mx_up_off h1, mx_up_off h2, ih]
theorem mo_cs_41 {A : mx_M} {g : Nat → Int32} {c : Nat} (h1 : c ≠ 26) : ∀ s, mo_cs A g s 41 c = A 41 c := by
  intro s
  induction s with
  | zero => rw [mo_cs, mx_up_row]; simp [upd, h1]
  | succ s ih =>
    rw [mo_cs]
    split
    · exact ih
    · rw [mo_cn, mx_up_row, mx_up_off (by decide)]; simp [upd, h1, ih]
theorem mo_cs_ok {A : mx_M} {g : Nat → Int32} : ∀ s, le_c g s ≤ s ∧ mo_cs A g s 41 26 = nI (le_c g s) ∧ ∀ p, (∃ i, i < le_c g s ∧ mo_cs A g s 59 i = p) ↔ ∃ i, i < s ∧ g i = p := by
  intro s
  induction s with
  | zero =>
    refine ⟨Nat.le_refl _, by rw [mo_cs, mx_up_row]; simp [upd, le_c]; rfl, fun p => ?_⟩
    constructor
    · rintro ⟨i, hi, -⟩; exact absurd hi (Nat.not_lt_zero i)
    · rintro ⟨i, hi, -⟩; exact absurd hi (Nat.not_lt_zero i)
  | succ s ih =>
    obtain ⟨a1, a2, a3⟩ := ih
    rw [mo_cs, le_c]
    by_cases hx : ∃ i, i < s ∧ g i = g s
    · rw [if_pos hx, if_pos hx]
      refine ⟨by omega, a2, fun p => ?_⟩
      rw [Nat.add_zero, a3 p]
      constructor
      · rintro ⟨i, hi, e⟩; exact ⟨i, by omega, e⟩
      · rintro ⟨i, hi, e⟩
        by_cases hin : i = s
        · subst hin
          obtain ⟨j, hj, ej⟩ := hx
          exact ⟨j, hj, by rw [ej, e]⟩
        · exact ⟨i, by omega, e⟩
    · rw [if_neg hx, if_neg hx]
      have e59 : mo_cn (mo_cs A g s) (g s) (le_c g s) 59 = upd (mo_cs A g s 59) (le_c g s) (g s) := by
        rw [mo_cn, mx_up_off (by decide), mx_up_row]
      refine ⟨by omega, by rw [mo_cn, mx_up_row]; simp [upd], fun p => ?_⟩
      rw [e59]
      constructor
      · rintro ⟨i, hi, e⟩
        by_cases hin : i = le_c g s
        · subst hin
          simp [upd] at e
          exact ⟨s, by omega, e⟩
        · simp [upd, hin] at e
          obtain ⟨i', hi', e'⟩ := (a3 p).mp ⟨i, by omega, e⟩
          exact ⟨i', by omega, e'⟩
      · rintro ⟨i, hi, e⟩
        by_cases hin : i = s
        · subst hin
          exact ⟨le_c g i, by omega, by simp [upd, e]⟩
        · obtain ⟨i', hi', e'⟩ := (a3 p).mpr ⟨i, by omega, e⟩
          exact ⟨i', by omega, by simp [upd, show i' ≠ le_c g s by omega, e']⟩
def mo_classes (R : Bool × mx_M) (N s : Nat) : Int32 × mx_M := if R.1 then (nI (le_c (fun i => mo_lo (R.2 49) (R.2 54 i) N s) (R.2 41 20).toNatClampNeg), mo_cs R.2 (fun i => mo_lo (R.2 49) (R.2 54 i) N s) (R.2 41 20).toNatClampNeg) else (-2, R.2)
theorem ct_Mo_classes (hl : l.stackTraces = false) {J N s : Nat} (hJ : J ≤ 120) (hs : M 41 8 = nI J) (lim : Int32) (hN : N ≤ 20) (hy : ¬ M 41 2 = 0 → s ≤ 12 ∧ M 41 12 = nI s ∧ M 41 3 = nI N) :
    mx_Ct l (pg_L sc) mY_Mo_classes (d + 3) 0 [.ref 41, .int lim] M (mx_rI (mo_rw M lim (mo_classes (mo_go (mx_up M 41 0 0) lim.toNatClampNeg J) N s)).1 (mo_rw M lim (mo_classes (mo_go (mx_up M 41 0 0) lim.toNatClampNeg J) N s)).2) := by
  refine mx_bd (n0 := 2) hl (by decide +kernel) rfl rfl rfl ?_
  refine mx_cVi mo_Mo_classes 2 (As := [.int lim]) (rest := []) rfl (ct_Mo_cannot hl lim) rfl trivial rfl rfl rfl kv_Mo_139 kd_Mo_cannot rfl rfl rfl ?_
  rw [mo_rw]
  by_cases hc : mo_cc M lim = 0
  case neg =>
    rw [if_neg hc, if_neg hc]
    refine mx_if mo_Mo_classes 0 (t := 10) (f := 8) rfl trivial (fun (q : (1 : Int32) = 0) => absurd q (by decide)) (fun _ => ?_)
    exact mx_ret_i mo_Mo_classes rfl 1 rfl trivial rfl ⟨rfl, rfl⟩
  rw [if_pos hc, if_pos hc, hc]
  refine mx_if mo_Mo_classes 0 (t := 10) (f := 8) rfl trivial (fun _ => ?_) (fun q => absurd rfl q)
  obtain ⟨hfz, L, h1, h5, rfl⟩ := mo_cc0 hc
  rw [nI_clamp (by omega)]
  have hs' : mx_up M 41 0 0 41 8 = nI J := hs
  refine mx_cVi mo_Mo_classes 2 (As := [.int (nI L)]) (rest := []) rfl (ct_Mo_reach hl h1 h5 hJ hs') rfl trivial rfl rfl rfl kv_Mo_142 kd_Mo_reach rfl rfl rfl ?_
  have hk : mo_ok (mo_go (mx_up M 41 0 0) L J).2 L := (mo_ra_ok L 0 _ (mo_s0_ok h1 h5).1).1
  obtain ⟨y1, y2, y3⟩ := hy hfz
  obtain ⟨-, -, -, o4, o5⟩ := mo_ra_ok (J := J) L 0 _ (mo_s0_ok (M := mx_up M 41 0 0) h1 h5).1
  have r3 : (mo_go (mx_up M 41 0 0) L J).2 41 3 = nI N := by rw [mo_go, o5 3 (by decide), mo_s0_41 (by decide)]; exact y3
  have r12 : (mo_go (mx_up M 41 0 0) L J).2 41 12 = nI s := by rw [mo_go, o5 12 (by decide), mo_s0_41 (by decide)]; exact y2
  clear o4 o5
  generalize mo_go (mx_up M 41 0 0) L J = R at hk r3 r12 ⊢
  obtain ⟨rb, A⟩ := R
  dsimp only at hk r3 r12 ⊢
  rw [mo_classes]
  cases rb with
  | false =>
    rw [if_neg Bool.false_ne_true, if_neg Bool.false_ne_true]
    refine mx_if mo_Mo_classes 0 (t := 21) (f := 18) rfl trivial (fun q => absurd rfl q) (fun _ => ?_)
    exact mx_ret_i mo_Mo_classes rfl 1 rfl trivial rfl ⟨rfl, rfl⟩
  | true =>
    rw [if_pos rfl, if_pos rfl]
    refine mx_if mo_Mo_classes 0 (t := 21) (f := 18) rfl trivial (fun _ => ?_) (fun (q : (1 : Int32) = 0) => absurd q (by decide))
    obtain ⟨-, n, g2, g3, -⟩ := hk
    have hn : (A 41 20).toNatClampNeg = n := by rw [g3]; exact nI_clamp (by omega)
    dsimp only
    rw [hn]
    generalize hg : (fun i => mo_lo (A 49) (A 54 i) N s) = g
    have hgi : ∀ i, mo_lo (A 49) (A 54 i) N s = g i := fun i => by rw [← hg]
    have loop : ∀ (m t : Nat), n - t = m → t ≤ n → ∀ x y z : Value, mx_E l (pg_L sc) mY_Mo_classes (d + 3) 0 (mx_rI (nI (le_c g n)) (mo_cs A g n)) 28 [.ref 41, .int (nI L), .int (nI t), x, y, z] [] (mo_cs A g t) := by
      intro m
      induction m with
      | zero =>
        intro t hm hle x y z
        have e : t = n := by omega
        subst e
        obtain ⟨-, a2, -⟩ := mo_cs_ok (A := A) (g := g) t
        refine mx_if mo_Mo_classes 3 (t := 122) (f := 36) rfl trivial (fun _ => ?_) (fun (q : ¬ mo_cs A g t 41 20 ≤ nI t) => ?_)
        · exact mx_ret_i mo_Mo_classes rfl 2 (v := mo_cs A g t 41 26) rfl trivial rfl ⟨by rw [a2], rfl⟩
        · rw [mo_cs_41 (by decide), g3] at q; exact absurd (nI_le (Nat.le_refl t) (by omega)) q
      | succ m ih =>
        intro t hm hle x y z
        obtain ⟨a1, a2, a3⟩ := mo_cs_ok (A := A) (g := g) t
        have et : (nI t).toNatClampNeg = t := nI_clamp (by omega)
        have next : ∀ x y z : Value, mx_E l (pg_L sc) mY_Mo_classes (d + 3) 0 (mx_rI (nI (le_c g n)) (mo_cs A g n)) 116 [.ref 41, .int (nI L), .int (nI t), x, y, z] [] (mo_cs A g (t + 1)) := by
          intro x y z
          refine mx_go mo_Mo_classes 2 (pc' := 28) (ls' := [.ref 41, .int (nI L), .int (nI t + 1), x, y, z]) (st' := []) rfl trivial ?_
          rw [nI_1]
          exact ih (t + 1) (by omega) (by omega) x y z
        rw [mo_cs] at next
        have b49 : mo_cs A g t 49 = A 49 := mo_cs_off (by decide) (by decide) t
        have b54 : mo_cs A g t 54 = A 54 := mo_cs_off (by decide) (by decide) t
        have b20 : mo_cs A g t 41 20 = nI n := by rw [mo_cs_41 (by decide)]; exact g3
        have b12 : mo_cs A g t 41 12 = nI s := by rw [mo_cs_41 (by decide)]; exact r12
        have b3 : mo_cs A g t 41 3 = nI N := by rw [mo_cs_41 (by decide)]; exact r3
        generalize mo_cs A g t = B at a2 a3 next b49 b54 b20 b12 b3 ⊢
        refine mx_if mo_Mo_classes 3 (t := 122) (f := 36) rfl trivial (fun (q : B 41 20 ≤ nI t) => ?_) (fun _ => ?_)
        · rw [b20] at q; exact absurd q (nI_ge (by omega) (by omega))
        refine mx_go mo_Mo_classes 5 (pc' := 43) (ls' := [.ref 41, .int (nI L), .int (nI t), x, y, z]) (st' := [.int (B 54 (nI t).toNatClampNeg), .ref 41]) (M' := B) rfl ⟨vp_in_nI (N := 500) (by omega) (by decide), trivial⟩ ?_
        rw [et]
        refine mx_cVi mo_Mo_classes 0 (As := [.int (B 54 t)]) (rest := []) rfl (ct_Mo_leastOf hl y1 hN b12 b3 (B 54 t)) rfl trivial rfl rfl rfl kv_Mo_158 kd_Mo_leastOf rfl rfl rfl ?_
        rw [b49, b54, hgi]
        -- is it among the kinds
        have yes : (∃ i, i < t ∧ g i = g t) → ∀ z : Value, mx_E l (pg_L sc) mY_Mo_classes (d + 3) 0 (mx_rI (nI (le_c g n)) (mo_cs A g n)) 91 [.ref 41, .int (nI L), .int (nI t), .int (g t), .int 1, z] [] B := by
          intro c z
          rw [if_pos c] at next
          exact mx_if mo_Mo_classes 1 (t := 116) (f := 96) rfl trivial (fun _ => next _ _ _) (fun (q : (1 : Int32) = 0) => absurd q (by decide))
        have no : ¬ (∃ i, i < t ∧ g i = g t) → ∀ z : Value, mx_E l (pg_L sc) mY_Mo_classes (d + 3) 0 (mx_rI (nI (le_c g n)) (mo_cs A g n)) 91 [.ref 41, .int (nI L), .int (nI t), .int (g t), .int 0, z] [] B := by
          intro c z
          rw [if_neg c] at next
          refine mx_if mo_Mo_classes 1 (t := 116) (f := 96) rfl trivial (fun q => absurd rfl q) (fun _ => ?_)
          refine mx_go mo_Mo_classes 12 (pc' := 116) (ls' := [.ref 41, .int (nI L), .int (nI t), .int (g t), .int 0, z]) (st' := []) (M' := mx_up (mx_up B 59 (B 41 26).toNatClampNeg (g t)) 41 26 (B 41 26 + 1)) rfl ⟨by rw [a2]; exact vp_in_nI (N := 500) (by omega) (by decide), trivial⟩ ?_
          rw [a2, nI_clamp (by omega), nI_1]
          exact next _ _ _
        have look : ∀ (m2 k : Nat), le_c g t - k = m2 → k ≤ le_c g t → (∀ j, j < k → ¬ B 59 j = g t) → mx_E l (pg_L sc) mY_Mo_classes (d + 3) 0 (mx_rI (nI (le_c g n)) (mo_cs A g n)) 53 [.ref 41, .int (nI L), .int (nI t), .int (g t), .int 0, .int (nI k)] [] B := by
          intro m2
          induction m2 with
          | zero =>
            intro k hm2 hle2 hno
            have e : k = le_c g t := by omega
            refine mx_if mo_Mo_classes 3 (t := 91) (f := 62) rfl trivial (fun _ => ?_) (fun (q : ¬ B 41 26 ≤ nI k) => ?_)
            · refine no (fun c => ?_) _
              obtain ⟨i, hi, ei⟩ := (a3 (g t)).mpr c
              exact hno i (by omega) ei
            · rw [a2, e] at q; exact absurd (nI_le (Nat.le_refl _) (by omega)) q
          | succ m2 ih2 =>
            intro k hm2 hle2 hno
            have ek : (nI k).toNatClampNeg = k := nI_clamp (by omega)
            refine mx_if mo_Mo_classes 3 (t := 91) (f := 62) rfl trivial (fun (q : B 41 26 ≤ nI k) => ?_) (fun _ => ?_)
            · rw [a2] at q; exact absurd q (nI_ge (by omega) (by omega))
            refine mx_if mo_Mo_classes 1 (t := 91) (f := 67) rfl trivial (fun q => absurd rfl q) (fun _ => ?_)
            refine mx_if mo_Mo_classes 5 (t := 82) (f := 78) rfl ⟨vp_in_nI (N := 500) (by omega) (by decide), trivial⟩ (fun (q : ¬ B 59 (nI k).toNatClampNeg = g t) => ?_) (fun (q : B 59 (nI k).toNatClampNeg = g t) => ?_)
            · rw [ek] at q
              refine mx_go mo_Mo_classes 4 (pc' := 53) (ls' := [.ref 41, .int (nI L), .int (nI t), .int (g t), .int 0, .int (nI k + 1)]) (st' := []) (M' := B) rfl trivial ?_
              rw [nI_1]
              refine ih2 (k + 1) (by omega) (by omega) (fun j hj => ?_)
              by_cases hjk : j = k
              · rw [hjk]; exact q
              · exact hno j (by omega)
            · rw [ek] at q
              have hc : ∃ i, i < t ∧ g i = g t := (a3 (g t)).mp ⟨k, by omega, q⟩
              refine mx_go mo_Mo_classes 5 (pc' := 53) (ls' := [.ref 41, .int (nI L), .int (nI t), .int (g t), .int 1, .int (nI k + 1)]) (st' := []) (M' := B) rfl trivial ?_
              refine mx_if mo_Mo_classes 3 (t := 91) (f := 62) rfl trivial (fun _ => yes hc _) (fun _ => ?_)
              exact mx_if mo_Mo_classes 1 (t := 91) (f := 67) rfl trivial (fun _ => yes hc _) (fun (q : (1 : Int32) = 0) => absurd q (by decide))
        exact mx_go mo_Mo_classes 5 (pc' := 53) (ls' := [.ref 41, .int (nI L), .int (nI t), .int (g t), .int 0, .int (nI 0)]) (st' := []) (M' := B) rfl trivial (look (le_c g t) 0 (by omega) (by omega) (fun j hj => absurd hj (Nat.not_lt_zero j)))
    exact mx_go mo_Mo_classes 5 (pc' := 28) (ls' := [.ref 41, .int (nI L), .int (nI 0), .null, .null, .null]) (st' := []) (M' := mo_cs A g 0) rfl trivial (loop n 0 (by omega) (by omega) _ _ _)
end MC2
end
section
/-! PegBoardsModel: parity. -/
section MP2
variable {l : Launch} {sc : Nat × (Nat → Int32)} {d : Nat} {M : mx_M}
def mo_pc (x : Nat → Int32) (t p : Int32) : Nat → Int32
  | 0 => 0
  | h + 1 => if mo_bit p (nI h) = 1 then (if x h = t then mo_pc x t p h else mo_pc x t p h + 1) else mo_pc x t p h
def mo_r2 (x : Int32) : Int32 := x - x / 2 * 2
def mo_pr (f g : Nat → Int32) (p : Int32) (N : Nat) : Int32 :=
  8 * mo_r2 (mo_pc (fun h => pg_r3 (f h + g h)) 2 p N) + 4 * mo_r2 (mo_pc (fun h => pg_r3 (f h + g h)) 0 p N) + 2 * mo_r2 (mo_pc (fun h => pg_r3 (f h - g h + 9)) 2 p N) + mo_r2 (mo_pc (fun h => pg_r3 (f h - g h + 9)) 0 p N)
def mo_parity (M : mx_M) (p : Int32) (N : Nat) : Int32 × mx_M := if ¬ p < 0 ∧ p < mo_all M then ((if M 41 1 = 0 then mo_pr (M 44) (M 45) p N else -1), mx_up M 41 0 0) else (0, mx_up M 41 0 1)
theorem ct_Mo_parity (hl : l.stackTraces = false) {N : Nat} (hN : N ≤ 20) (hh : M 41 3 = nI N) (p : Int32) : mx_Ct l (pg_L sc) mY_Mo_parity (d + 1) 0 [.ref 41, .int p] M (mx_rI (mo_parity M p N).1 (mo_parity M p N).2) := by
  refine mx_bd (n0 := 2) hl (by decide +kernel) rfl rfl rfl ?_
  refine mx_cVi mo_Mo_parity 3 (As := [.int p]) (rest := [.ref 41]) rfl (ct_Mo_noPosition hl p) rfl trivial rfl rfl rfl kv_Mo_117 kd_Mo_noPosition rfl rfl rfl ?_
  rw [mo_parity]
  by_cases c : ¬ p < 0 ∧ p < mo_all M
  case neg =>
    rw [if_neg c, if_neg c]
    refine mx_if mo_Mo_parity 0 (t := 13) (f := 9) rfl trivial (fun (q : (1 : Int32) = 0) => absurd q (by decide)) (fun _ => ?_)
    refine mx_if mo_Mo_parity 5 (t := 26) (f := 24) rfl trivial (fun (q : (1 : Int32) ≤ 0) => absurd q (by decide)) (fun _ => ?_)
    exact mx_ret_i mo_Mo_parity rfl 1 rfl trivial rfl ⟨rfl, rfl⟩
  rw [if_pos c, if_pos c]
  refine mx_if mo_Mo_parity 0 (t := 13) (f := 9) rfl trivial (fun _ => ?_) (fun q => absurd rfl q)
  refine mx_if mo_Mo_parity 4 (t := 26) (f := 24) rfl trivial (fun _ => ?_) (fun (q : ¬ (0 : Int32) ≤ 0) => absurd (by decide) q)
  refine mx_if mo_Mo_parity 2 (t := 35) (f := 33) rfl trivial (fun (q : M 41 1 = 0) => ?_) (fun (q : ¬ M 41 1 = 0) => ?_)
  case refine_2 =>
    rw [if_neg q]
    exact mx_ret_i mo_Mo_parity rfl 1 rfl trivial rfl ⟨rfl, rfl⟩
  rw [if_pos q]
  generalize hA : mx_up M 41 0 (Int32.ofInt 0) = A
  have a3 : A 41 3 = nI N := by rw [← hA]; exact hh
  have e44 : M 44 = A 44 := by rw [← hA]; rfl
  have e45 : M 45 = A 45 := by rw [← hA]; rfl
  have hA0 : mx_up M 41 0 0 = A := hA
  rw [e44, e45, hA0]
  clear hA hA0 e44 e45
  generalize hX : (fun h => pg_r3 (A 44 h + A 45 h)) = X
  generalize hZ : (fun h => pg_r3 (A 44 h - A 45 h + 9)) = Z
  have hXi : ∀ h, pg_r3 (A 44 h + A 45 h) = X h := fun h => by rw [← hX]
  have hZi : ∀ h, pg_r3 (A 44 h - A 45 h + 9) = Z h := fun h => by rw [← hZ]
  rw [mo_pr, hX, hZ]
  have loop : ∀ (m h : Nat), N - h = m → h ≤ N → ∀ x y : Value, mx_E l (pg_L sc) mY_Mo_parity (d + 1) 0 (mx_rI (8 * mo_r2 (mo_pc X 2 p N) + 4 * mo_r2 (mo_pc X 0 p N) + 2 * mo_r2 (mo_pc Z 2 p N) + mo_r2 (mo_pc Z 0 p N)) A) 48 [.ref 41, .int p, .int (mo_pc X 2 p h), .int (mo_pc X 0 p h), .int (mo_pc Z 2 p h), .int (mo_pc Z 0 p h), .int (nI h), x, y] [] A := by
    intro m
    induction m with
    | zero =>
      intro h hm hle x y
      have e : h = N := by omega
      subst e
      refine mx_if mo_Mo_parity 3 (t := 174) (f := 57) rfl trivial (fun _ => ?_) (fun (q : ¬ A 41 3 ≤ nI h) => ?_)
      · exact mx_ret_i mo_Mo_parity rfl 21 (v := 8 * mo_r2 (mo_pc X 2 p h) + 4 * mo_r2 (mo_pc X 0 p h) + 2 * mo_r2 (mo_pc Z 2 p h) + mo_r2 (mo_pc Z 0 p h)) rfl ⟨by decide, by decide, by decide, by decide, trivial⟩ rfl ⟨rfl, rfl⟩
      · rw [a3] at q; exact absurd (nI_le (Nat.le_refl h) (by omega)) q
    | succ m ih =>
      intro h hm hle x y
      have e : (nI h).toNatClampNeg = h := nI_clamp (by omega)
      have hv : vp_in (nI h) 20 := vp_in_nI (by omega) (by decide)
      refine mx_if mo_Mo_parity 3 (t := 174) (f := 57) rfl trivial (fun (q : A 41 3 ≤ nI h) => ?_) (fun _ => ?_)
      · rw [a3] at q; exact absurd q (nI_ge (by omega) (by omega))
      have hI := ih (h + 1) (by omega) (by omega)
      have u1 : ∀ (x : Nat → Int32) (t : Int32), mo_pc x t p (h + 1) = (if mo_bit p (nI h) = 1 then (if x h = t then mo_pc x t p h else mo_pc x t p h + 1) else mo_pc x t p h) := fun _ _ => rfl
      rw [u1, u1, u1, u1] at hI
      refine mx_cSi mo_Mo_parity 2 (As := [.int p, .int (nI h)]) (rest := []) rfl (ct_Mo_bit hl p (nI h)) rfl trivial rfl ks_Mo_120 kd_Mo_bit rfl rfl rfl ?_
      generalize mo_pc X 2 p h = a at hI ⊢
      generalize mo_pc X 0 p h = b at hI ⊢
      generalize mo_pc Z 2 p h = cc at hI ⊢
      generalize mo_pc Z 0 p h = dd at hI ⊢
      have next : ∀ a' b' c' d' : Int32, ∀ x y : Value, (if mo_bit p (nI h) = 1 then (if X h = 2 then a else a + 1) else a) = a' → (if mo_bit p (nI h) = 1 then (if X h = 0 then b else b + 1) else b) = b' → (if mo_bit p (nI h) = 1 then (if Z h = 2 then cc else cc + 1) else cc) = c' → (if mo_bit p (nI h) = 1 then (if Z h = 0 then dd else dd + 1) else dd) = d' → mx_E l (pg_L sc) mY_Mo_parity (d + 1) 0 (mx_rI (8 * mo_r2 (mo_pc X 2 p N) + 4 * mo_r2 (mo_pc X 0 p N) + 2 * mo_r2 (mo_pc Z 2 p N) + mo_r2 (mo_pc Z 0 p N)) A) 168 [.ref 41, .int p, .int a', .int b', .int c', .int d', .int (nI h), x, y] [] A := by
        intro a' b' c' d' x y ha hb hc hd
        rw [ha, hb, hc, hd] at hI
        refine mx_go mo_Mo_parity 2 (pc' := 48) (ls' := [.ref 41, .int p, .int a', .int b', .int c', .int d', .int (nI h + 1), x, y]) (st' := []) (M' := A) rfl trivial ?_
        rw [nI_1]
        exact hI x y
      refine mx_if mo_Mo_parity 1 (t := 168) (f := 67) rfl trivial (fun (q : ¬ mo_bit p (nI h) = 1) => ?_) (fun (q : mo_bit p (nI h) = 1) => ?_)
      · exact next _ _ _ _ _ _ (if_neg q) (if_neg q) (if_neg q) (if_neg q)
      rw [if_pos q, if_pos q, if_pos q, if_pos q] at next
      refine mx_go mo_Mo_parity 26 (pc' := 108) (ls' := [.ref 41, .int p, .int a, .int b, .int cc, .int dd, .int (nI h), .int (pg_r3 (A 44 (nI h).toNatClampNeg + A 45 (nI h).toNatClampNeg)), .int (pg_r3 (A 44 (nI h).toNatClampNeg - A 45 (nI h).toNatClampNeg + 9))]) (st' := []) (M' := A) rfl ⟨hv, hv, by decide, hv, hv, by decide, trivial⟩ ?_
      rw [e, hXi, hZi]
      generalize X h = X0 at next ⊢
      generalize Z h = Z0 at next ⊢
      have s4 : ∀ a' b' c' : Int32, (if X0 = 2 then a else a + 1) = a' → (if X0 = 0 then b else b + 1) = b' → (if Z0 = 2 then cc else cc + 1) = c' → mx_E l (pg_L sc) mY_Mo_parity (d + 1) 0 (mx_rI (8 * mo_r2 (mo_pc X 2 p N) + 4 * mo_r2 (mo_pc X 0 p N) + 2 * mo_r2 (mo_pc Z 2 p N) + mo_r2 (mo_pc Z 0 p N)) A) 152 [.ref 41, .int p, .int a', .int b', .int c', .int dd, .int (nI h), .int X0, .int Z0] [] A := by
        intro a' b' c' ha hb hc
        refine mx_if mo_Mo_parity 1 (t := 162) (f := 157) rfl trivial (fun (r : ¬ Z0 = 0) => ?_) (fun (r : Z0 = 0) => ?_)
        · exact mx_go mo_Mo_parity 4 (pc' := 168) (ls' := [.ref 41, .int p, .int a', .int b', .int c', .int (dd + 1), .int (nI h), .int X0, .int Z0]) (st' := []) (M' := A) rfl trivial (next _ _ _ _ _ _ ha hb hc (if_neg r))
        · exact mx_go mo_Mo_parity 3 (pc' := 168) (ls' := [.ref 41, .int p, .int a', .int b', .int c', .int dd, .int (nI h), .int X0, .int Z0]) (st' := []) (M' := A) rfl trivial (next _ _ _ _ _ _ ha hb hc (if_pos r))
      have s3 : ∀ a' b' : Int32, (if X0 = 2 then a else a + 1) = a' → (if X0 = 0 then b else b + 1) = b' → mx_E l (pg_L sc) mY_Mo_parity (d + 1) 0 (mx_rI (8 * mo_r2 (mo_pc X 2 p N) + 4 * mo_r2 (mo_pc X 0 p N) + 2 * mo_r2 (mo_pc Z 2 p N) + mo_r2 (mo_pc Z 0 p N)) A) 135 [.ref 41, .int p, .int a', .int b', .int cc, .int dd, .int (nI h), .int X0, .int Z0] [] A := by
        intro a' b' ha hb
        refine mx_if mo_Mo_parity 2 (t := 146) (f := 141) rfl trivial (fun (r : ¬ Z0 = 2) => ?_) (fun (r : Z0 = 2) => ?_)
        · exact mx_go mo_Mo_parity 4 (pc' := 152) (ls' := [.ref 41, .int p, .int a', .int b', .int (cc + 1), .int dd, .int (nI h), .int X0, .int Z0]) (st' := []) (M' := A) rfl trivial (s4 _ _ _ ha hb (if_neg r))
        · exact mx_go mo_Mo_parity 3 (pc' := 152) (ls' := [.ref 41, .int p, .int a', .int b', .int cc, .int dd, .int (nI h), .int X0, .int Z0]) (st' := []) (M' := A) rfl trivial (s4 _ _ _ ha hb (if_pos r))
      have s2 : ∀ a' : Int32, (if X0 = 2 then a else a + 1) = a' → mx_E l (pg_L sc) mY_Mo_parity (d + 1) 0 (mx_rI (8 * mo_r2 (mo_pc X 2 p N) + 4 * mo_r2 (mo_pc X 0 p N) + 2 * mo_r2 (mo_pc Z 2 p N) + mo_r2 (mo_pc Z 0 p N)) A) 122 [.ref 41, .int p, .int a', .int b, .int cc, .int dd, .int (nI h), .int X0, .int Z0] [] A := by
        intro a' ha
        refine mx_if mo_Mo_parity 1 (t := 131) (f := 127) rfl trivial (fun (r : ¬ X0 = 0) => ?_) (fun (r : X0 = 0) => ?_)
        · exact mx_go mo_Mo_parity 4 (pc' := 135) (ls' := [.ref 41, .int p, .int a', .int (b + 1), .int cc, .int dd, .int (nI h), .int X0, .int Z0]) (st' := []) (M' := A) rfl trivial (s3 _ _ ha (if_neg r))
        · exact mx_go mo_Mo_parity 3 (pc' := 135) (ls' := [.ref 41, .int p, .int a', .int b, .int cc, .int dd, .int (nI h), .int X0, .int Z0]) (st' := []) (M' := A) rfl trivial (s3 _ _ ha (if_pos r))
      refine mx_if mo_Mo_parity 2 (t := 118) (f := 114) rfl trivial (fun (r : ¬ X0 = 2) => ?_) (fun (r : X0 = 2) => ?_)
      · exact mx_go mo_Mo_parity 4 (pc' := 122) (ls' := [.ref 41, .int p, .int (a + 1), .int b, .int cc, .int dd, .int (nI h), .int X0, .int Z0]) (st' := []) (M' := A) rfl trivial (s2 _ (if_neg r))
      · exact mx_go mo_Mo_parity 3 (pc' := 122) (ls' := [.ref 41, .int p, .int a, .int b, .int cc, .int dd, .int (nI h), .int X0, .int Z0]) (st' := []) (M' := A) rfl trivial (s2 _ (if_pos r))
  exact mx_go mo_Mo_parity 10 (pc' := 48) (ls' := [.ref 41, .int p, .int 0, .int 0, .int 0, .int 0, .int (nI 0), .null, .null]) (st' := []) (M' := A) rfl trivial (loop N 0 (by omega) (by omega) _ _)
end MP2
end
section
/-! PegBoardsModel: isSymmetry. -/
section MQ2
variable {l : Launch} {sc : Nat × (Nat → Int32)} {d : Nat} {M : mx_M}
/-- where hole h comes to -/
def mo_z (M : mx_M) (k t h : Nat) : Int32 × Int32 := if k < t then sy_t (M 41 1) (k % t) (M 44 h) (M 45 h) else ((sy_t (M 41 1) (k % t) (M 44 h) (M 45 h)).2, (sy_t (M 41 1) (k % t) (M 44 h) (M 45 h)).1)
def mo_m9 (f : Nat → Int32) : Nat → Int32
  | 0 => 99
  | h + 1 => if mo_m9 f h ≤ f h then mo_m9 f h else f h
def mo_y1 (M : mx_M) (k t : Nat) : Nat → mx_M
  | 0 => M
  | h + 1 => mx_up (mx_up (mo_y1 M k t h) 50 h (mo_z M k t h).1) 51 h (mo_z M k t h).2
theorem mo_y1_off {k t c : Nat} (h1 : c ≠ 50) (h2 : c ≠ 51) : ∀ h, mo_y1 M k t h c = M c := by
  intro h
  induction h with
  | zero => rfl
  | succ h ih => rw [mo_y1, mx_up_off h2, mx_up_off h1, ih]
theorem mo_y1_at {k t : Nat} : ∀ h j, j < h → mo_y1 M k t h 50 j = (mo_z M k t j).1 ∧ mo_y1 M k t h 51 j = (mo_z M k t j).2 := by
  intro h
  induction h with
  | zero => intro j hj; exact absurd hj (Nat.not_lt_zero j)
  | succ h ih =>
    intro j hj
    rw [mo_y1]
    by_cases e : j = h
    · subst e; simp [mx_up]
    · have := ih j (by omega)
      simp [mx_up, e, this]
def mo_y2 (B : mx_M) (im : Nat) (g : Nat → Int32) : Nat → mx_M
  | 0 => B
  | h + 1 => mx_up (mo_y2 B im g h) 49 (20 * im + h) (g h)
theorem mo_y2_off {B : mx_M} {im c : Nat} {g : Nat → Int32} (h1 : c ≠ 49) : ∀ h, mo_y2 B im g h c = B c := by
  intro h
  induction h with
  | zero => rfl
  | succ h ih => rw [mo_y2, mx_up_off h1, ih]
def mo_al (g : Nat → Int32) : Nat → Int32
  | 0 => 1
  | h + 1 => if mo_al g h = 0 then 0 else if g h < 0 then 0 else 1
theorem mo_al01 {g : Nat → Int32} : ∀ h, mo_al g h = 0 ∨ mo_al g h = 1 := by
  intro h
  cases h with
  | zero => exact Or.inr rfl
  | succ h =>
    rw [mo_al]
    split
    · exact Or.inl rfl
    · split
      · exact Or.inl rfl
      · exact Or.inr rfl
def mo_g (M : mx_M) (k t N h : Nat) : Int32 := mo_at M ((mo_z M k t h).1 - mo_m9 (fun j => (mo_z M k t j).1) N + mo_m9 (M 44) N) ((mo_z M k t h).2 - mo_m9 (fun j => (mo_z M k t j).2) N + mo_m9 (M 45) N)
/-- the second loop: are all images holes -/
theorem mo_is2 (hl : l.stackTraces = false) {B : mx_M} {k t N im : Nat} (hN : N ≤ 20) (him : im < 12) (hB3 : B 41 3 = nI N) (hB12 : B 41 12 = nI im) {z1 z2 : Nat → Int32} (hz : ∀ j, j < N → B 50 j = z1 j ∧ B 51 j = z2 j) {tp lf ot ol : Int32} :
    ∀ (m h : Nat), N - h = m → h ≤ N → ∀ x y u : Value, mx_E l (pg_L sc) mY_Mo_isSymmetry (d + 2) 0 (mx_rI (mo_al (fun h => mo_at B (z1 h - tp + ot) (z2 h - lf + ol)) N) (mo_y2 B im (fun h => mo_at B (z1 h - tp + ot) (z2 h - lf + ol)) N)) 247 [.ref 41, .int (nI k), .int (nI t), .int tp, .int lf, .int ot, .int ol, .int (mo_al (fun h => mo_at B (z1 h - tp + ot) (z2 h - lf + ol)) h), .int (nI h), x, y, u] [] (mo_y2 B im (fun h => mo_at B (z1 h - tp + ot) (z2 h - lf + ol)) h) := by
  generalize hg : (fun h => mo_at B (z1 h - tp + ot) (z2 h - lf + ol)) = g
  have hgi : ∀ h, mo_at B (z1 h - tp + ot) (z2 h - lf + ol) = g h := fun h => by rw [← hg]
  intro m
  induction m with
  | zero =>
    intro h hm hle x y u
    have e : h = N := by omega
    subst e
    refine mx_if mo_Mo_isSymmetry 3 (t := 327) (f := 256) rfl trivial (fun _ => ?_) (fun (q : ¬ mo_y2 B im g h 41 3 ≤ nI h) => ?_)
    · exact mx_ret_z mo_Mo_isSymmetry rfl 1 rfl trivial rfl (mo_al01 h) ⟨rfl, rfl⟩
    · rw [mo_y2_off (by decide), hB3] at q; exact absurd (nI_le (Nat.le_refl h) (by omega)) q
  | succ m ih =>
    intro h hm hle x y u
    have e : (nI h).toNatClampNeg = h := nI_clamp (by omega)
    have hv : vp_in (nI h) 20 := vp_in_nI (by omega) (by decide)
    obtain ⟨e1, e2⟩ := hz h (by omega)
    have hI := ih (h + 1) (by omega) (by omega)
    rw [show mo_y2 B im g (h + 1) = mx_up (mo_y2 B im g h) 49 (20 * im + h) (g h) from rfl] at hI
    have c41 : mo_y2 B im g h 41 = B 41 := mo_y2_off (by decide) h
    have c50 : mo_y2 B im g h 50 = B 50 := mo_y2_off (by decide) h
    have c51 : mo_y2 B im g h 51 = B 51 := mo_y2_off (by decide) h
    have cat : ∀ r c, mo_at (mo_y2 B im g h) r c = mo_at B r c := fun r c => by unfold mo_at; rw [mo_y2_off (by decide), mo_y2_off (by decide)]
    generalize mo_y2 B im g h = C at hI c41 c50 c51 cat ⊢
    refine mx_if mo_Mo_isSymmetry 3 (t := 327) (f := 256) rfl trivial (fun (q : C 41 3 ≤ nI h) => ?_) (fun _ => ?_)
    · rw [c41, hB3] at q; exact absurd q (nI_ge (by omega) (by omega))
    refine mx_go mo_Mo_isSymmetry 17 (pc' := 282) (ls' := [.ref 41, .int (nI k), .int (nI t), .int tp, .int lf, .int ot, .int ol, .int (mo_al g h), .int (nI h), x, y, u]) (st' := [.int (C 51 (nI h).toNatClampNeg - lf + ol), .int (C 50 (nI h).toNatClampNeg - tp + ot), .ref 41]) (M' := C) rfl ⟨hv, hv, trivial⟩ ?_
    rw [e, c50, c51, e1, e2]
    refine mx_cVi mo_Mo_isSymmetry 0 (As := [.int (z1 h - tp + ot), .int (z2 h - lf + ol)]) (rest := []) rfl (ct_Mo_numberAt hl _ _) rfl trivial rfl rfl rfl kv_Mo_99 kd_Mo_numberAt rfl rfl rfl ?_
    rw [cat, hgi]
    have hvi : vp_in (20 * C 41 12 + nI h) 240 := by rw [c41, hB12, show (20 : Int32) = nI 20 from rfl, pk_mul, nI_add]; exact vp_in_nI (by omega) (by decide)
    have ei : (20 * C 41 12 + nI h).toNatClampNeg = 20 * im + h := by rw [c41, hB12, show (20 : Int32) = nI 20 from rfl, pk_mul, nI_add]; exact nI_clamp (by omega)
    refine mx_go mo_Mo_isSymmetry 11 (pc' := 304) (ls' := [.ref 41, .int (nI k), .int (nI t), .int tp, .int lf, .int ot, .int ol, .int (mo_al g h), .int (nI h), .int (g h), y, u]) (st' := []) (M' := mx_up C 49 (20 * C 41 12 + nI h).toNatClampNeg (g h)) rfl ⟨hvi, trivial⟩ ?_
    rw [ei]
    generalize mx_up C 49 (20 * im + h) (g h) = E at hI ⊢
    have next : ∀ v : Int32, v = mo_al g (h + 1) → mx_E l (pg_L sc) mY_Mo_isSymmetry (d + 2) 0 (mx_rI (mo_al g N) (mo_y2 B im g N)) 319 [.ref 41, .int (nI k), .int (nI t), .int tp, .int lf, .int ot, .int ol, .int (mo_al g h), .int (nI h), .int (g h), y, u] [.int v] E := by
      intro v hv
      refine mx_go mo_Mo_isSymmetry 3 (pc' := 247) (ls' := [.ref 41, .int (nI k), .int (nI t), .int tp, .int lf, .int ot, .int ol, .int v, .int (nI h + 1), .int (g h), y, u]) (st' := []) (M' := E) rfl trivial ?_
      rw [hv, nI_1]
      exact hI _ _ _
    rw [mo_al] at next
    have bad : (0 : Int32) = (if mo_al g h = 0 then 0 else if g h < 0 then 0 else 1) → mx_E l (pg_L sc) mY_Mo_isSymmetry (d + 2) 0 (mx_rI (mo_al g N) (mo_y2 B im g N)) 318 [.ref 41, .int (nI k), .int (nI t), .int tp, .int lf, .int ot, .int ol, .int (mo_al g h), .int (nI h), .int (g h), y, u] [] E := fun c =>
      mx_go mo_Mo_isSymmetry 1 (pc' := 319) (ls' := [.ref 41, .int (nI k), .int (nI t), .int tp, .int lf, .int ot, .int ol, .int (mo_al g h), .int (nI h), .int (g h), y, u]) (st' := [.int 0]) (M' := E) rfl trivial (next 0 c)
    refine mx_if mo_Mo_isSymmetry 1 (t := 318) (f := 309) rfl trivial (fun (q : mo_al g h = 0) => bad (by rw [if_pos q])) (fun (q : ¬ mo_al g h = 0) => ?_)
    rw [if_neg q] at next bad
    refine mx_if mo_Mo_isSymmetry 1 (t := 318) (f := 314) rfl trivial (fun (q : g h < 0) => bad (by rw [if_pos q])) (fun (q : ¬ g h < 0) => ?_)
    exact mx_go mo_Mo_isSymmetry 2 (pc' := 319) (ls' := [.ref 41, .int (nI k), .int (nI t), .int tp, .int lf, .int ot, .int ol, .int (mo_al g h), .int (nI h), .int (g h), y, u]) (st' := [.int 1]) (M' := E) rfl trivial (next 1 (by rw [if_neg q]))
end MQ2
end
section
/-! PegBoardsModel: isSymmetry, whole. -/
section MQ3
variable {l : Launch} {sc : Nat × (Nat → Int32)} {d : Nat} {M : mx_M}
theorem sy_t_s {t : Int32} : ∀ (m : Nat) (r c : Int32), sy_t t (m + 1) r c = ((if t = 0 then (sy_t t m r c).2 else (sy_t t m r c).1 + (sy_t t m r c).2), -(sy_t t m r c).1) := by
  intro m
  induction m with
  | zero => intro r c; rfl
  | succ m ih =>
    intro r c
    rw [show sy_t t (m + 1 + 1) r c = sy_t t (m + 1) (if t = 0 then c else r + c) (-r) from rfl, ih]
    rfl
theorem ct_Mo_isSymmetry (hl : l.stackTraces = false) {k t N im : Nat} (hk : k < 12) (ht : t = 4 ∨ t = 6) (htt : (if M 41 1 = 0 then 4 else 6 : Int32) = nI t) (hN : N ≤ 20) (him : im < 12) (h3 : M 41 3 = nI N) (h12 : M 41 12 = nI im) :
    mx_Ct l (pg_L sc) mY_Mo_isSymmetry (d + 2) 0 [.ref 41, .int (nI k)] M (mx_rI (mo_al (mo_g M k t N) N) (mo_y2 (mo_y1 M k t N) im (mo_g M k t N) N)) := by
  have ht0 : ¬ nI t = 0 := nI_ne0 (by omega) (by omega)
  generalize hQ : mx_rI (mo_al (mo_g M k t N) N) (mo_y2 (mo_y1 M k t N) im (mo_g M k t N) N) = Q
  have two : ∀ x y z u v : Value, mx_E l (pg_L sc) mY_Mo_isSymmetry (d + 2) 0 Q 241 [.ref 41, .int (nI k), .int (nI t), .int (mo_m9 (fun j => (mo_z M k t j).1) N), .int (mo_m9 (fun j => (mo_z M k t j).2) N), .int (mo_m9 (M 44) N), .int (mo_m9 (M 45) N), x, y, z, u, v] [] (mo_y1 M k t N) := by
    intro x y z u v
    have := mo_is2 (l := l) (sc := sc) (d := d) (k := k) (t := t) (B := mo_y1 M k t N) (z1 := fun j => (mo_z M k t j).1) (z2 := fun j => (mo_z M k t j).2) (tp := mo_m9 (fun j => (mo_z M k t j).1) N) (lf := mo_m9 (fun j => (mo_z M k t j).2) N) (ot := mo_m9 (M 44) N) (ol := mo_m9 (M 45) N) hl hN him (by rw [mo_y1_off (by decide) (by decide)]; exact h3) (by rw [mo_y1_off (by decide) (by decide)]; exact h12) (fun j hj => mo_y1_at N j hj) N 0 (by omega) (by omega) z u v
    have eg : (fun h => mo_at (mo_y1 M k t N) ((fun j => (mo_z M k t j).1) h - mo_m9 (fun j => (mo_z M k t j).1) N + mo_m9 (M 44) N) ((fun j => (mo_z M k t j).2) h - mo_m9 (fun j => (mo_z M k t j).2) N + mo_m9 (M 45) N)) = mo_g M k t N := by
      funext h
      unfold mo_g mo_at
      rw [mo_y1_off (by decide) (by decide), mo_y1_off (by decide) (by decide)]
    rw [eg, hQ] at this
    exact mx_go mo_Mo_isSymmetry 4 (pc' := 247) (ls' := [.ref 41, .int (nI k), .int (nI t), .int (mo_m9 (fun j => (mo_z M k t j).1) N), .int (mo_m9 (fun j => (mo_z M k t j).2) N), .int (mo_m9 (M 44) N), .int (mo_m9 (M 45) N), .int 1, .int (nI 0), z, u, v]) (st' := []) (M' := mo_y1 M k t N) rfl trivial this
  have one : ∀ (m h : Nat), N - h = m → h ≤ N → ∀ x y z u : Value, mx_E l (pg_L sc) mY_Mo_isSymmetry (d + 2) 0 Q 23 [.ref 41, .int (nI k), .int (nI t), .int (mo_m9 (fun j => (mo_z M k t j).1) h), .int (mo_m9 (fun j => (mo_z M k t j).2) h), .int (mo_m9 (M 44) h), .int (mo_m9 (M 45) h), .int (nI h), x, y, z, u] [] (mo_y1 M k t h) := by
    intro m
    induction m with
    | zero =>
      intro h hm hle x y z u
      have e : h = N := by omega
      subst e
      refine mx_if mo_Mo_isSymmetry 3 (t := 241) (f := 32) rfl trivial (fun _ => two _ _ _ _ _) (fun (q : ¬ mo_y1 M k t h 41 3 ≤ nI h) => ?_)
      rw [mo_y1_off (by decide) (by decide), h3] at q; exact absurd (nI_le (Nat.le_refl h) (by omega)) q
    | succ m ih =>
      intro h hm hle x y z u
      have e : (nI h).toNatClampNeg = h := nI_clamp (by omega)
      have hv : vp_in (nI h) 20 := vp_in_nI (by omega) (by decide)
      have hI := ih (h + 1) (by omega) (by omega)
      rw [show mo_y1 M k t (h + 1) = mx_up (mx_up (mo_y1 M k t h) 50 h (mo_z M k t h).1) 51 h (mo_z M k t h).2 from rfl] at hI
      have um : ∀ f : Nat → Int32, mo_m9 f (h + 1) = (if mo_m9 f h ≤ f h then mo_m9 f h else f h) := fun _ => rfl
      rw [um, um, um, um] at hI
      have c41 : mo_y1 M k t h 41 = M 41 := mo_y1_off (by decide) (by decide) h
      have c44 : mo_y1 M k t h 44 = M 44 := mo_y1_off (by decide) (by decide) h
      have c45 : mo_y1 M k t h 45 = M 45 := mo_y1_off (by decide) (by decide) h
      generalize mo_y1 M k t h = B at hI c41 c44 c45 ⊢
      generalize mo_m9 (fun j => (mo_z M k t j).1) h = tp at hI ⊢
      generalize mo_m9 (fun j => (mo_z M k t j).2) h = lf at hI ⊢
      generalize mo_m9 (M 44) h = ot at hI ⊢
      generalize mo_m9 (M 45) h = ol at hI ⊢
      refine mx_if mo_Mo_isSymmetry 3 (t := 241) (f := 32) rfl trivial (fun (q : B 41 3 ≤ nI h) => ?_) (fun _ => ?_)
      · rw [c41, h3] at q; exact absurd q (nI_ge (by omega) (by omega))
      -- behind the turning
      have tail : ∀ r c : Int32, sy_t (M 41 1) (k % t) (M 44 h) (M 45 h) = (r, c) → ∀ z u : Value, mx_E l (pg_L sc) mY_Mo_isSymmetry (d + 2) 0 Q 96 [.ref 41, .int (nI k), .int (nI t), .int tp, .int lf, .int ot, .int ol, .int (nI h), .int r, .int c, z, u] [] B := by
        intro r c hrc z u
        have s1 : ∀ a b : Int32, mo_z M k t h = (a, b) → mx_E l (pg_L sc) mY_Mo_isSymmetry (d + 2) 0 Q 134 [.ref 41, .int (nI k), .int (nI t), .int tp, .int lf, .int ot, .int ol, .int (nI h), .int r, .int c, z, u] [] (mx_up (mx_up B 50 h a) 51 h b) := by
          intro a b hab
          rw [hab] at hI
          dsimp only at hI
          have d50 : mx_up (mx_up B 50 h a) 51 h b 50 h = a := by simp [mx_up]
          have d51 : mx_up (mx_up B 50 h a) 51 h b 51 h = b := by simp [mx_up]
          have d44 : mx_up (mx_up B 50 h a) 51 h b 44 = M 44 := by rw [mx_up_off (by decide), mx_up_off (by decide), c44]
          have d45 : mx_up (mx_up B 50 h a) 51 h b 45 = M 45 := by rw [mx_up_off (by decide), mx_up_off (by decide), c45]
          generalize mx_up (mx_up B 50 h a) 51 h b = E at hI d50 d51 d44 d45 ⊢
          have w4 : ∀ tp' lf' ot' : Int32, (if tp ≤ a then tp else a) = tp' → (if lf ≤ b then lf else b) = lf' → (if ot ≤ M 44 h then ot else M 44 h) = ot' → mx_E l (pg_L sc) mY_Mo_isSymmetry (d + 2) 0 Q 209 [.ref 41, .int (nI k), .int (nI t), .int tp', .int lf', .int ot', .int ol, .int (nI h), .int r, .int c, z, u] [] E := by
            intro tp' lf' ot' q1 q2 q3
            rw [q1, q2, q3] at hI
            have nx : ∀ v : Int32, (if ol ≤ M 45 h then ol else M 45 h) = v → mx_E l (pg_L sc) mY_Mo_isSymmetry (d + 2) 0 Q 233 [.ref 41, .int (nI k), .int (nI t), .int tp', .int lf', .int ot', .int ol, .int (nI h), .int r, .int c, z, u] [.int v] E := by
              intro v q4
              rw [q4] at hI
              refine mx_go mo_Mo_isSymmetry 3 (pc' := 23) (ls' := [.ref 41, .int (nI k), .int (nI t), .int tp', .int lf', .int ot', .int v, .int (nI h + 1), .int r, .int c, z, u]) (st' := []) (M' := E) rfl trivial ?_
              rw [nI_1]
              exact hI _ _ _ _
            refine mx_if mo_Mo_isSymmetry 5 (t := 231) (f := 221) rfl ⟨hv, trivial⟩ (fun (q : ol ≤ E 45 (nI h).toNatClampNeg) => ?_) (fun (q : ¬ ol ≤ E 45 (nI h).toNatClampNeg) => ?_)
            · rw [e, d45] at q
              exact mx_go mo_Mo_isSymmetry 1 (pc' := 233) (ls' := [.ref 41, .int (nI k), .int (nI t), .int tp', .int lf', .int ot', .int ol, .int (nI h), .int r, .int c, z, u]) (st' := [.int ol]) (M' := E) rfl trivial (nx _ (if_pos q))
            · rw [e, d45] at q
              exact mx_go mo_Mo_isSymmetry 5 (pc' := 233) (ls' := [.ref 41, .int (nI k), .int (nI t), .int tp', .int lf', .int ot', .int ol, .int (nI h), .int r, .int c, z, u]) (st' := [.int (E 45 (nI h).toNatClampNeg)]) (M' := E) rfl ⟨hv, trivial⟩ (by rw [e, d45]; exact nx _ (if_neg q))
          have w3 : ∀ tp' lf' : Int32, (if tp ≤ a then tp else a) = tp' → (if lf ≤ b then lf else b) = lf' → mx_E l (pg_L sc) mY_Mo_isSymmetry (d + 2) 0 Q 183 [.ref 41, .int (nI k), .int (nI t), .int tp', .int lf', .int ot, .int ol, .int (nI h), .int r, .int c, z, u] [] E := by
            intro tp' lf' q1 q2
            refine mx_if mo_Mo_isSymmetry 5 (t := 205) (f := 195) rfl ⟨hv, trivial⟩ (fun (q : ot ≤ E 44 (nI h).toNatClampNeg) => ?_) (fun (q : ¬ ot ≤ E 44 (nI h).toNatClampNeg) => ?_)
            · rw [e, d44] at q
              exact mx_go mo_Mo_isSymmetry 2 (pc' := 209) (ls' := [.ref 41, .int (nI k), .int (nI t), .int tp', .int lf', .int ot, .int ol, .int (nI h), .int r, .int c, z, u]) (st' := []) (M' := E) rfl trivial (w4 _ _ _ q1 q2 (if_pos q))
            · rw [e, d44] at q
              exact mx_go mo_Mo_isSymmetry 6 (pc' := 209) (ls' := [.ref 41, .int (nI k), .int (nI t), .int tp', .int lf', .int (E 44 (nI h).toNatClampNeg), .int ol, .int (nI h), .int r, .int c, z, u]) (st' := []) (M' := E) rfl ⟨hv, trivial⟩ (by rw [e, d44]; exact w4 _ _ _ q1 q2 (if_neg q))
          have w2 : ∀ tp' : Int32, (if tp ≤ a then tp else a) = tp' → mx_E l (pg_L sc) mY_Mo_isSymmetry (d + 2) 0 Q 157 [.ref 41, .int (nI k), .int (nI t), .int tp', .int lf, .int ot, .int ol, .int (nI h), .int r, .int c, z, u] [] E := by
            intro tp' q1
            refine mx_if mo_Mo_isSymmetry 5 (t := 179) (f := 169) rfl ⟨hv, trivial⟩ (fun (q : lf ≤ E 51 (nI h).toNatClampNeg) => ?_) (fun (q : ¬ lf ≤ E 51 (nI h).toNatClampNeg) => ?_)
            · rw [e, d51] at q
              exact mx_go mo_Mo_isSymmetry 2 (pc' := 183) (ls' := [.ref 41, .int (nI k), .int (nI t), .int tp', .int lf, .int ot, .int ol, .int (nI h), .int r, .int c, z, u]) (st' := []) (M' := E) rfl trivial (w3 _ _ q1 (if_pos q))
            · rw [e, d51] at q
              exact mx_go mo_Mo_isSymmetry 6 (pc' := 183) (ls' := [.ref 41, .int (nI k), .int (nI t), .int tp', .int (E 51 (nI h).toNatClampNeg), .int ot, .int ol, .int (nI h), .int r, .int c, z, u]) (st' := []) (M' := E) rfl ⟨hv, trivial⟩ (by rw [e, d51]; exact w3 _ _ q1 (if_neg q))
          refine mx_if mo_Mo_isSymmetry 5 (t := 155) (f := 145) rfl ⟨hv, trivial⟩ (fun (q : tp ≤ E 50 (nI h).toNatClampNeg) => ?_) (fun (q : ¬ tp ≤ E 50 (nI h).toNatClampNeg) => ?_)
          · rw [e, d50] at q
            exact mx_go mo_Mo_isSymmetry 2 (pc' := 157) (ls' := [.ref 41, .int (nI k), .int (nI t), .int tp, .int lf, .int ot, .int ol, .int (nI h), .int r, .int c, z, u]) (st' := []) (M' := E) rfl trivial (w2 _ (if_pos q))
          · rw [e, d50] at q
            exact mx_go mo_Mo_isSymmetry 6 (pc' := 157) (ls' := [.ref 41, .int (nI k), .int (nI t), .int (E 50 (nI h).toNatClampNeg), .int lf, .int ot, .int ol, .int (nI h), .int r, .int c, z, u]) (st' := []) (M' := E) rfl ⟨hv, trivial⟩ (by rw [e, d50]; exact w2 _ (if_neg q))
        by_cases hkt : k < t
        · refine mx_if mo_Mo_isSymmetry 5 (t := 112) (f := 107) rfl trivial (fun (q : nI t ≤ nI k) => absurd q (nI_ge hkt (by omega))) (fun _ => ?_)
          refine mx_if mo_Mo_isSymmetry 8 (t := 131) (f := 126) rfl ⟨hv, trivial⟩ (fun (q : nI t ≤ nI k) => absurd q (nI_ge hkt (by omega))) (fun _ => ?_)
          refine mx_go mo_Mo_isSymmetry 3 (pc' := 134) (ls' := [.ref 41, .int (nI k), .int (nI t), .int tp, .int lf, .int ot, .int ol, .int (nI h), .int r, .int c, z, u]) (st' := []) (M' := mx_up (mx_up B 50 (nI h).toNatClampNeg r) 51 (nI h).toNatClampNeg c) rfl ⟨hv, trivial⟩ ?_
          rw [e]
          exact s1 r c (by rw [mo_z, if_pos hkt, hrc])
        · refine mx_if mo_Mo_isSymmetry 5 (t := 112) (f := 107) rfl trivial (fun _ => ?_) (fun (q : ¬ nI t ≤ nI k) => absurd (nI_le (by omega) (by omega)) q)
          refine mx_if mo_Mo_isSymmetry 7 (t := 131) (f := 126) rfl ⟨hv, trivial⟩ (fun _ => ?_) (fun (q : ¬ nI t ≤ nI k) => absurd (nI_le (by omega) (by omega)) q)
          refine mx_go mo_Mo_isSymmetry 2 (pc' := 134) (ls' := [.ref 41, .int (nI k), .int (nI t), .int tp, .int lf, .int ot, .int ol, .int (nI h), .int r, .int c, z, u]) (st' := []) (M' := mx_up (mx_up B 50 (nI h).toNatClampNeg c) 51 (nI h).toNatClampNeg r) rfl ⟨hv, trivial⟩ ?_
          rw [e]
          exact s1 c r (by rw [mo_z, if_neg hkt, hrc])
      have turn : ∀ (m2 i : Nat), k % t - i = m2 → i ≤ k % t → ∀ (r c : Int32) (u : Value), sy_t (M 41 1) i (M 44 h) (M 45 h) = (r, c) → mx_E l (pg_L sc) mY_Mo_isSymmetry (d + 2) 0 Q 53 [.ref 41, .int (nI k), .int (nI t), .int tp, .int lf, .int ot, .int ol, .int (nI h), .int r, .int c, .int (nI i), u] [] B := by
        have hkt : k % t < t := Nat.mod_lt _ (by omega)
        have er : nI k - nI k / nI t * nI t = nI (k % t) := pk_rem (by omega) (by omega) (by omega)
        intro m2
        induction m2 with
        | zero =>
          intro i hm2 hle2 r c u hrc
          have ei : i = k % t := by omega
          refine mx_if mo_Mo_isSymmetry 4 (t := 96) (f := 61) rfl ⟨ht0, trivial⟩ (fun _ => tail r c (by rw [← ei]; exact hrc) _ _) (fun (q : ¬ nI k - nI k / nI t * nI t ≤ nI i) => ?_)
          rw [er] at q; exact absurd (nI_le (by omega) (by omega)) q
        | succ m2 ih2 =>
          intro i hm2 hle2 r c u hrc
          refine mx_if mo_Mo_isSymmetry 4 (t := 96) (f := 61) rfl ⟨ht0, trivial⟩ (fun (q : nI k - nI k / nI t * nI t ≤ nI i) => ?_) (fun _ => ?_)
          · rw [er] at q; exact absurd q (nI_ge (by omega) (by omega))
          have hs := sy_t_s (t := M 41 1) i (M 44 h) (M 45 h)
          rw [hrc] at hs
          dsimp only at hs
          have z0 : ∀ x : Int32, 0 - x = -x := fun x => Int32.zero_sub x
          refine mx_if mo_Mo_isSymmetry 2 (t := 76) (f := 68) rfl trivial (fun (q : B 41 1 = 0) => ?_) (fun (q : ¬ B 41 1 = 0) => ?_)
          · rw [c41] at q
            rw [if_pos q] at hs
            refine mx_go mo_Mo_isSymmetry 10 (pc' := 53) (ls' := [.ref 41, .int (nI k), .int (nI t), .int tp, .int lf, .int ot, .int ol, .int (nI h), .int c, .int (0 - r), .int (nI i + 1), .int c]) (st' := []) (M' := B) rfl trivial ?_
            rw [nI_1, z0]
            exact ih2 (i + 1) (by omega) (by omega) _ _ _ hs
          · rw [c41] at q
            rw [if_neg q] at hs
            refine mx_go mo_Mo_isSymmetry 13 (pc' := 53) (ls' := [.ref 41, .int (nI k), .int (nI t), .int tp, .int lf, .int ot, .int ol, .int (nI h), .int (r + c), .int (0 - r), .int (nI i + 1), .int (r + c)]) (st' := []) (M' := B) rfl trivial ?_
            rw [nI_1, z0]
            exact ih2 (i + 1) (by omega) (by omega) _ _ _ hs
      refine mx_go mo_Mo_isSymmetry 12 (pc' := 53) (ls' := [.ref 41, .int (nI k), .int (nI t), .int tp, .int lf, .int ot, .int ol, .int (nI h), .int (B 44 (nI h).toNatClampNeg), .int (B 45 (nI h).toNatClampNeg), .int (nI 0), u]) (st' := []) (M' := B) rfl ⟨hv, hv, trivial⟩ ?_
      rw [e, c44, c45]
      exact turn (k % t) 0 (by omega) (by omega) _ _ _ rfl
  refine mx_bd (n0 := 2) hl (by decide +kernel) rfl rfl rfl ?_
  refine mx_cVi mo_Mo_isSymmetry 1 (As := []) (rest := []) rfl (ct_Mo_turns hl) rfl trivial rfl rfl rfl kv_Mo_95 kd_Mo_turns rfl rfl rfl ?_
  rw [htt]
  exact mx_go mo_Mo_isSymmetry 11 (pc' := 23) (ls' := [.ref 41, .int (nI k), .int (nI t), .int 99, .int 99, .int 99, .int 99, .int (nI 0), .null, .null, .null, .null]) (st' := []) (M' := M) rfl trivial (one N 0 (by omega) (by omega) _ _ _ _)
end MQ3
end
section
/-! PegBoardsModel: freeze, the numbering. -/
section MF
variable {l : Launch} {sc : Nat × (Nat → Int32)} {d : Nat} {M : mx_M}
def mo_nh (D : Nat → Bool) (M : mx_M) : Nat → mx_M
  | 0 => M
  | p + 1 => if D p then mx_up (mx_up (mx_up (mo_nh D M p) 43 p (nI (pg_n D p))) 44 (pg_n D p) (nI (p / 8))) 45 (pg_n D p) (nI (p % 8)) else mo_nh D M p
theorem mo_nh_off {D : Nat → Bool} {c : Nat} (h1 : c ≠ 43) (h2 : c ≠ 44) (h3 : c ≠ 45) : ∀ p, mo_nh D M p c = M c := by
  intro p
  induction p with
  | zero => rfl
  | succ p ih =>
    rw [mo_nh]
    split
    · rw [mx_up_off h3, mx_up_off h2, mx_up_off h1, ih]
    · exact ih
theorem mo_fz1 {D : Nat → Bool} (hD : ∀ p, p < 64 → (M 42 p = 0 ↔ D p = false)) (hc : pg_n D 64 ≤ 20) {Q : mx_R → mx_M → Prop}
    (nx : ∀ n r c x y : Value, mx_E l (pg_L sc) mY_Mo_freeze d 0 Q 110 [.ref 41, n, r, c, x, y] [] (mo_nh D M 64)) :
    ∀ (m r : Nat), 8 - r = m → r ≤ 8 → ∀ c x y : Value, mx_E l (pg_L sc) mY_Mo_freeze d 0 Q 41 [.ref 41, .int (nI (pg_n D (8 * r))), .int (nI r), c, x, y] [] (mo_nh D M (8 * r)) := by
  have inner : ∀ (r : Nat), r < 8 → (∀ c x y : Value, mx_E l (pg_L sc) mY_Mo_freeze d 0 Q 104 [.ref 41, .int (nI (pg_n D (8 * r + 8))), .int (nI r), c, x, y] [] (mo_nh D M (8 * r + 8))) →
      ∀ (m c : Nat), 8 - c = m → c ≤ 8 → ∀ x y : Value, mx_E l (pg_L sc) mY_Mo_freeze d 0 Q 49 [.ref 41, .int (nI (pg_n D (8 * r + c))), .int (nI r), .int (nI c), x, y] [] (mo_nh D M (8 * r + c)) := by
    intro r hr nx2 m
    induction m with
    | zero =>
      intro c hm hle x y
      have e : c = 8 := by omega
      subst e
      exact mx_if mo_Mo_freeze 2 (t := 104) (f := 55) rfl trivial (fun _ => nx2 _ _ _) (fun (q : ¬ nI 8 ≤ nI 8) => absurd (nI_le (Nat.le_refl 8) (by decide)) q)
    | succ m ih =>
      intro c hm hle x y
      have ep : (8 * nI r + nI c) = nI (8 * r + c) := by rw [show (8 : Int32) = nI 8 from rfl, pk_mul, nI_add]
      have hv : vp_in (8 * nI r + nI c) 64 := by rw [ep]; exact vp_in_nI (by omega) (by decide)
      have e : (8 * nI r + nI c).toNatClampNeg = 8 * r + c := by rw [ep]; exact nI_clamp (by omega)
      have c42 : mo_nh D M (8 * r + c) 42 = M 42 := mo_nh_off (by decide) (by decide) (by decide) _
      have hI := ih (c + 1) (by omega) (by omega) x y
      refine mx_if mo_Mo_freeze 2 (t := 104) (f := 55) rfl trivial (fun (q : nI 8 ≤ nI c) => absurd q (nI_ge (by omega) (by decide))) (fun _ => ?_)
      refine mx_if mo_Mo_freeze 8 (t := 98) (f := 69) rfl ⟨hv, trivial⟩ (fun (q : mo_nh D M (8 * r + c) 42 (8 * nI r + nI c).toNatClampNeg = 0) => ?_) (fun (q : ¬ mo_nh D M (8 * r + c) 42 (8 * nI r + nI c).toNatClampNeg = 0) => ?_)
      · rw [e, c42, hD _ (by omega)] at q
        rw [show 8 * r + (c + 1) = 8 * r + c + 1 by omega, show pg_n D (8 * r + c + 1) = pg_n D (8 * r + c) by rw [pg_n, q]; rfl, show mo_nh D M (8 * r + c + 1) = mo_nh D M (8 * r + c) by rw [mo_nh, q]; rfl] at hI
        refine mx_go mo_Mo_freeze 2 (pc' := 49) (ls' := [.ref 41, .int (nI (pg_n D (8 * r + c))), .int (nI r), .int (nI c + 1), x, y]) (st' := []) rfl trivial ?_
        rw [nI_1]
        exact hI
      · rw [e, c42, hD _ (by omega)] at q
        have q : D (8 * r + c) = true := by cases hd : D (8 * r + c) with | true => rfl | false => exact absurd hd q
        have hlt : pg_n D (8 * r + c) < 20 := Nat.lt_of_lt_of_le (pg_n_lt (show 8 * r + c < 64 by omega) q) hc
        rw [show 8 * r + (c + 1) = 8 * r + c + 1 by omega, show pg_n D (8 * r + c + 1) = pg_n D (8 * r + c) + 1 by rw [pg_n, q]; rfl, show mo_nh D M (8 * r + c + 1) = mx_up (mx_up (mx_up (mo_nh D M (8 * r + c)) 43 (8 * r + c) (nI (pg_n D (8 * r + c)))) 44 (pg_n D (8 * r + c)) (nI ((8 * r + c) / 8))) 45 (pg_n D (8 * r + c)) (nI ((8 * r + c) % 8)) by rw [mo_nh, q]; rfl, show (8 * r + c) / 8 = r by omega, show (8 * r + c) % 8 = c by omega] at hI
        generalize mo_nh D M (8 * r + c) = B at hI ⊢
        generalize pg_n D (8 * r + c) = n at hI hlt ⊢
        have en : (nI n).toNatClampNeg = n := nI_clamp (by omega)
        have hvn : vp_in (nI n) 20 := vp_in_nI hlt (by decide)
        refine mx_go mo_Mo_freeze 22 (pc' := 49) (ls' := [.ref 41, .int (nI n + 1), .int (nI r), .int (nI c + 1), x, y]) (st' := []) (M' := mx_up (mx_up (mx_up B 43 (8 * nI r + nI c).toNatClampNeg (nI n)) 44 (nI n).toNatClampNeg (nI r)) 45 (nI n).toNatClampNeg (nI c)) rfl ⟨hv, hvn, hvn, trivial⟩ ?_
        rw [e, en, nI_1, nI_1]
        exact hI
  intro m
  induction m with
  | zero =>
    intro r hm hle c x y
    have e : r = 8 := by omega
    subst e
    exact mx_if mo_Mo_freeze 2 (t := 110) (f := 47) rfl trivial (fun _ => nx _ _ _ _ _) (fun (q : ¬ nI 8 ≤ nI 8) => absurd (nI_le (Nat.le_refl 8) (by decide)) q)
  | succ m ih =>
    intro r hm hle c x y
    refine mx_if mo_Mo_freeze 2 (t := 110) (f := 47) rfl trivial (fun (q : nI 8 ≤ nI r) => absurd q (nI_ge (by omega) (by decide))) (fun _ => ?_)
    refine mx_go mo_Mo_freeze 2 (pc' := 49) (ls' := [.ref 41, .int (nI (pg_n D (8 * r))), .int (nI r), .int (nI 0), x, y]) (st' := []) rfl trivial ?_
    refine inner r (by omega) (fun c x y => ?_) 8 0 (by omega) (by omega) x y
    refine mx_go mo_Mo_freeze 2 (pc' := 41) (ls' := [.ref 41, .int (nI (pg_n D (8 * r + 8))), .int (nI r + 1), c, x, y]) (st' := []) rfl trivial ?_
    rw [nI_1]
    exact ih (r + 1) (by omega) (by omega) c x y
end MF
end
section
/-! PegBoardsModel: freeze, the jumps. -/
section MG
variable {l : Launch} {sc : Nat × (Nat → Int32)} {d : Nat} {M : mx_M}
def mo_jin (B : mx_M) (n : Nat) (x y z : Int32) : mx_M := mx_up (mx_up (mx_up (mx_up B 46 n x) 47 n y) 48 n z) 41 8 (B 41 8 + 1)
def mo_j1 (B : mx_M) (h : Nat) (a b : Int32) : mx_M :=
  if mo_at B (B 44 h + a) (B 45 h + b) < 0 then B else if mo_at B (B 44 h + 2 * a) (B 45 h + 2 * b) < 0 then B else
    mo_jin B (B 41 8).toNatClampNeg (nI h) (mo_at B (B 44 h + a) (B 45 h + b)) (mo_at B (B 44 h + 2 * a) (B 45 h + 2 * b))
def mo_jd (M : mx_M) (h : Nat) : Nat → mx_M
  | 0 => M
  | j + 1 => mo_j1 (mo_jd M h j) h (mo_dn M (nI j)) (mo_rt M (nI j))
def mo_ja (M : mx_M) (t : Nat) : Nat → mx_M
  | 0 => M
  | h + 1 => mo_jd (mo_ja M t h) h t
theorem mo_jin_off {B : mx_M} {n c : Nat} {x y z : Int32} (hc : c ≠ 41 ∧ c ≠ 46 ∧ c ≠ 47 ∧ c ≠ 48) : mo_jin B n x y z c = B c := by
  rw [mo_jin, mx_up_off hc.1, mx_up_off hc.2.2.2, mx_up_off hc.2.2.1, mx_up_off hc.2.1]
theorem mo_jin_41 {B : mx_M} {n c : Nat} {x y z : Int32} (hc : c ≠ 8) : mo_jin B n x y z 41 c = B 41 c := by
  rw [mo_jin, mx_up_row, mx_up_off (by decide), mx_up_off (by decide), mx_up_off (by decide)]
  simp [upd, hc]
theorem mo_jin_8 {B : mx_M} {n : Nat} {x y z : Int32} : mo_jin B n x y z 41 8 = B 41 8 + 1 := by
  rw [mo_jin, mx_up_row]; simp [upd]
theorem mo_j1_off {B : mx_M} {h c : Nat} {a b : Int32} (hc : c ≠ 41 ∧ c ≠ 46 ∧ c ≠ 47 ∧ c ≠ 48) : mo_j1 B h a b c = B c := by
  unfold mo_j1
  split
  · rfl
  split
  · rfl
  · exact mo_jin_off hc
theorem mo_j1_41 {B : mx_M} {h c : Nat} {a b : Int32} (hc : c ≠ 8) : mo_j1 B h a b 41 c = B 41 c := by
  unfold mo_j1
  split
  · rfl
  split
  · rfl
  · exact mo_jin_41 hc
theorem mo_j1_8 {B : mx_M} {h n : Nat} {a b : Int32} (hn : B 41 8 = nI n) : ∃ n', n ≤ n' ∧ n' ≤ n + 1 ∧ mo_j1 B h a b 41 8 = nI n' := by
  unfold mo_j1
  split
  · exact ⟨n, Nat.le_refl n, by omega, hn⟩
  split
  · exact ⟨n, Nat.le_refl n, by omega, hn⟩
  · exact ⟨n + 1, by omega, Nat.le_refl _, by rw [mo_jin_8, hn, nI_1]⟩
theorem mo_jd_off {h c : Nat} (hc : c ≠ 41 ∧ c ≠ 46 ∧ c ≠ 47 ∧ c ≠ 48) : ∀ j, mo_jd M h j c = M c := by
  intro j
  induction j with
  | zero => rfl
  | succ j ih => rw [mo_jd, mo_j1_off hc, ih]
theorem mo_jd_41 {h c : Nat} (hc : c ≠ 8) : ∀ j, mo_jd M h j 41 c = M 41 c := by
  intro j
  induction j with
  | zero => rfl
  | succ j ih => rw [mo_jd, mo_j1_41 hc, ih]
theorem mo_jd_8 {h n : Nat} (hn : M 41 8 = nI n) : ∀ j, ∃ n', n' ≤ n + j ∧ mo_jd M h j 41 8 = nI n' := by
  intro j
  induction j with
  | zero => exact ⟨n, by omega, hn⟩
  | succ j ih =>
    obtain ⟨n1, h1, h2⟩ := ih
    obtain ⟨n2, -, h3, h4⟩ := mo_j1_8 (h := h) (a := mo_dn M (nI j)) (b := mo_rt M (nI j)) h2
    exact ⟨n2, by omega, h4⟩
theorem mo_ja_off {t c : Nat} (hc : c ≠ 41 ∧ c ≠ 46 ∧ c ≠ 47 ∧ c ≠ 48) : ∀ h, mo_ja M t h c = M c := by
  intro h
  induction h with
  | zero => rfl
  | succ h ih => rw [mo_ja, mo_jd_off hc, ih]
theorem mo_ja_41 {t c : Nat} (hc : c ≠ 8) : ∀ h, mo_ja M t h 41 c = M 41 c := by
  intro h
  induction h with
  | zero => rfl
  | succ h ih => rw [mo_ja, mo_jd_41 hc, ih]
theorem mo_ja_8 {t : Nat} (ht : t ≤ 6) (hn : M 41 8 = 0) : ∀ h, ∃ n', n' ≤ 6 * h ∧ mo_ja M t h 41 8 = nI n' := by
  intro h
  induction h with
  | zero => exact ⟨0, by omega, hn⟩
  | succ h ih =>
    obtain ⟨n1, h1, h2⟩ := ih
    obtain ⟨n2, h3, h4⟩ := mo_jd_8 (h := h) h2 t
    exact ⟨n2, by omega, h4⟩
end MG
end
section
/-! PegBoardsModel: freeze, listing the jumps. -/
section MH
variable {l : Launch} {sc : Nat × (Nat → Int32)} {d : Nat} {M : mx_M}
theorem mo_fz2 (hl : l.stackTraces = false) {N t : Nat} (hN : N ≤ 20) (ht : t = 4 ∨ t = 6) (htt : (if M 41 1 = 0 then 4 else 6 : Int32) = nI t) (h3 : M 41 3 = nI N) (h8 : M 41 8 = 0) {Q : mx_R → mx_M → Prop}
    (nx : ∀ n r c x y : Value, mx_E l (pg_L sc) mY_Mo_freeze (d + 2) 0 Q 258 [.ref 41, n, r, c, x, y] [] (mo_ja M t N)) :
    ∀ (m h : Nat), N - h = m → h ≤ N → ∀ n c x y : Value, mx_E l (pg_L sc) mY_Mo_freeze (d + 2) 0 Q 112 [.ref 41, n, .int (nI h), c, x, y] [] (mo_ja M t h) := by
  intro m
  induction m with
  | zero =>
    intro h hm hle n c x y
    have e : h = N := by omega
    subst e
    refine mx_if mo_Mo_freeze 3 (t := 258) (f := 120) rfl trivial (fun _ => nx _ _ _ _ _) (fun (q : ¬ mo_ja M t h 41 3 ≤ nI h) => ?_)
    rw [mo_ja_41 (by decide), h3] at q; exact absurd (nI_le (Nat.le_refl h) (by omega)) q
  | succ m ih =>
    intro h hm hle n c x y
    have hI := ih (h + 1) (by omega) (by omega)
    rw [show mo_ja M t (h + 1) = mo_jd (mo_ja M t h) h t from rfl] at hI
    obtain ⟨n0, hn0, en0⟩ := mo_ja_8 (t := t) (by omega) h8 h
    have b1 : mo_ja M t h 41 1 = M 41 1 := mo_ja_41 (by decide) h
    have b3 : mo_ja M t h 41 3 = nI N := by rw [mo_ja_41 (by decide)]; exact h3
    generalize mo_ja M t h = B at hI en0 b1 b3 ⊢
    have eh : (nI h).toNatClampNeg = h := nI_clamp (by omega)
    have hvh : vp_in (nI h) 20 := vp_in_nI (by omega) (by decide)
    refine mx_if mo_Mo_freeze 3 (t := 258) (f := 120) rfl trivial (fun (q : B 41 3 ≤ nI h) => ?_) (fun _ => ?_)
    · rw [b3] at q; exact absurd q (nI_ge (by omega) (by omega))
    have inner : ∀ (m2 j : Nat), t - j = m2 → j ≤ t → ∀ x y : Value, mx_E l (pg_L sc) mY_Mo_freeze (d + 2) 0 Q 122 [.ref 41, n, .int (nI h), .int (nI j), x, y] [] (mo_jd B h j) := by
      intro m2
      induction m2 with
      | zero =>
        intro j hm2 hle2 x y
        have e : j = t := by omega
        subst e
        refine mx_cVi mo_Mo_freeze 2 (As := []) (rest := [.int (nI j)]) rfl (ct_Mo_turns hl) rfl trivial rfl rfl rfl kv_Mo_95 kd_Mo_turns rfl rfl rfl ?_
        rw [mo_jd_41 (by decide), b1, htt]
        refine mx_if mo_Mo_freeze 0 (t := 252) (f := 130) rfl trivial (fun _ => ?_) (fun q => absurd (nI_le (Nat.le_refl j) (by omega)) q)
        refine mx_go mo_Mo_freeze 2 (pc' := 112) (ls' := [.ref 41, n, .int (nI h + 1), .int (nI j), x, y]) (st' := []) rfl trivial ?_
        rw [nI_1]
        exact hI _ _ _ _
      | succ m2 ih2 =>
        intro j hm2 hle2 x y
        obtain ⟨n1, hn1, en1⟩ := mo_jd_8 (h := h) en0 j
        have next := ih2 (j + 1) (by omega) (by omega)
        rw [mo_jd] at next
        refine mx_cVi mo_Mo_freeze 2 (As := []) (rest := [.int (nI j)]) rfl (ct_Mo_turns hl) rfl trivial rfl rfl rfl kv_Mo_95 kd_Mo_turns rfl rfl rfl ?_
        rw [mo_jd_41 (by decide), b1, htt]
        refine mx_if mo_Mo_freeze 0 (t := 252) (f := 130) rfl trivial (fun q => absurd q (nI_ge (by omega) (by omega))) (fun _ => ?_)
        have edn : mo_dn (mo_jd B h j) (nI j) = mo_dn B (nI j) := by unfold mo_dn; rw [mo_jd_41 (by decide)]
        have ert : mo_rt (mo_jd B h j) (nI j) = mo_rt B (nI j) := by unfold mo_rt; rw [mo_jd_41 (by decide)]
        have hdn := fun d => ct_Mo_down (l := l) (sc := sc) (d := d) (M := mo_jd B h j) hl (nI j)
        have hrt := fun d => ct_Mo_right (l := l) (sc := sc) (d := d) (M := mo_jd B h j) hl (nI j)
        rw [edn] at hdn
        rw [ert] at hrt
        generalize mo_dn B (nI j) = a at next hdn
        generalize mo_rt B (nI j) = b at next hrt
        generalize mo_jd B h j = C at next hdn hrt en1 ⊢
        refine mx_go mo_Mo_freeze 7 (pc' := 139) (ls' := [.ref 41, n, .int (nI h), .int (nI j), x, y]) (st' := [.int (nI j), .ref 41, .int (C 44 (nI h).toNatClampNeg), .ref 41]) (M' := C) rfl ⟨hvh, trivial⟩ ?_
        rw [eh]
        refine mx_cVi mo_Mo_freeze 0 (As := [.int (nI j)]) (rest := [.int (C 44 h), .ref 41]) rfl (hdn _) rfl trivial rfl rfl rfl kv_Mo_103 kd_Mo_down rfl rfl rfl ?_
        refine mx_go mo_Mo_freeze 7 (pc' := 151) (ls' := [.ref 41, n, .int (nI h), .int (nI j), x, y]) (st' := [.int (nI j), .ref 41, .int (C 45 (nI h).toNatClampNeg), .int (C 44 h + a), .ref 41]) (M' := C) rfl ⟨hvh, trivial⟩ ?_
        rw [eh]
        refine mx_cVi mo_Mo_freeze 0 (As := [.int (nI j)]) (rest := [.int (C 45 h), .int (C 44 h + a), .ref 41]) rfl (hrt _) rfl trivial rfl rfl rfl kv_Mo_107 kd_Mo_right rfl rfl rfl ?_
        refine mx_cVi mo_Mo_freeze 1 (As := [.int (C 44 h + a), .int (C 45 h + b)]) (rest := []) rfl (ct_Mo_numberAt hl _ _) rfl trivial rfl rfl rfl kv_Mo_99 kd_Mo_numberAt rfl rfl rfl ?_
        unfold mo_j1 at next
        generalize mo_at C (C 44 h + a) (C 45 h + b) = u at next ⊢
        refine mx_go mo_Mo_freeze 9 (pc' := 170) (ls' := [.ref 41, n, .int (nI h), .int (nI j), .int u, y]) (st' := [.int (nI j), .ref 41, .int 2, .int (C 44 (nI h).toNatClampNeg), .ref 41]) (M' := C) rfl ⟨hvh, trivial⟩ ?_
        rw [eh]
        refine mx_cVi mo_Mo_freeze 0 (As := [.int (nI j)]) (rest := [.int 2, .int (C 44 h), .ref 41]) rfl (hdn _) rfl trivial rfl rfl rfl kv_Mo_103 kd_Mo_down rfl rfl rfl ?_
        refine mx_go mo_Mo_freeze 9 (pc' := 184) (ls' := [.ref 41, n, .int (nI h), .int (nI j), .int u, y]) (st' := [.int (nI j), .ref 41, .int 2, .int (C 45 (nI h).toNatClampNeg), .int (C 44 h + 2 * a), .ref 41]) (M' := C) rfl ⟨hvh, trivial⟩ ?_
        rw [eh]
        refine mx_cVi mo_Mo_freeze 0 (As := [.int (nI j)]) (rest := [.int 2, .int (C 45 h), .int (C 44 h + 2 * a), .ref 41]) rfl (hrt _) rfl trivial rfl rfl rfl kv_Mo_107 kd_Mo_right rfl rfl rfl ?_
        refine mx_cVi mo_Mo_freeze 2 (As := [.int (C 44 h + 2 * a), .int (C 45 h + 2 * b)]) (rest := []) rfl (ct_Mo_numberAt hl _ _) rfl trivial rfl rfl rfl kv_Mo_99 kd_Mo_numberAt rfl rfl rfl ?_
        generalize mo_at C (C 44 h + 2 * a) (C 45 h + 2 * b) = v at next ⊢
        have step : ∀ E : mx_M, (∀ x y : Value, mx_E l (pg_L sc) mY_Mo_freeze (d + 2) 0 Q 122 [.ref 41, n, .int (nI h), .int (nI (j + 1)), x, y] [] E) → mx_E l (pg_L sc) mY_Mo_freeze (d + 2) 0 Q 246 [.ref 41, n, .int (nI h), .int (nI j), .int u, .int v] [] E := by
          intro E hE
          refine mx_go mo_Mo_freeze 2 (pc' := 122) (ls' := [.ref 41, n, .int (nI h), .int (nI j + 1), .int u, .int v]) (st' := []) (M' := E) rfl trivial ?_
          rw [nI_1]
          exact hE _ _
        refine mx_if mo_Mo_freeze 2 (t := 246) (f := 199) rfl trivial (fun (q : u < 0) => ?_) (fun (q : ¬ u < 0) => ?_)
        · rw [if_pos q] at next; exact step _ next
        rw [if_neg q] at next
        refine mx_if mo_Mo_freeze 1 (t := 246) (f := 204) rfl trivial (fun (q : v < 0) => ?_) (fun (q : ¬ v < 0) => ?_)
        · rw [if_pos q] at next; exact step _ next
        rw [if_neg q] at next
        have hv8 : vp_in (C 41 8) 120 := by rw [en1]; exact vp_in_nI (by omega) (by decide)
        refine mx_go mo_Mo_freeze 24 (pc' := 246) (ls' := [.ref 41, n, .int (nI h), .int (nI j), .int u, .int v]) (st' := []) (M' := mo_jin C (C 41 8).toNatClampNeg (nI h) u v) rfl ⟨hv8, hv8, hv8, trivial⟩ ?_
        exact step _ next
    exact mx_go mo_Mo_freeze 2 (pc' := 122) (ls' := [.ref 41, n, .int (nI h), .int (nI 0), x, y]) (st' := []) (M' := B) rfl trivial (inner t 0 (by omega) (by omega) _ _)
end MH
end
section
/-! PegBoardsModel: freeze, whole. -/
section MI
variable {l : Launch} {sc : Nat × (Nat → Int32)} {d : Nat} {M : mx_M}
/-- one image tried -/
def mo_f1 (B : mx_M) (k t N : Nat) : mx_M := mo_y2 (mo_y1 B k t N) (B 41 12).toNatClampNeg (mo_g B k t N) N
def mo_f2 (B : mx_M) (k t N : Nat) : mx_M := if mo_al (mo_g B k t N) N = 0 then mo_f1 B k t N else mx_up (mo_f1 B k t N) 41 12 (B 41 12 + 1)
def mo_fi (M : mx_M) (t N : Nat) : Nat → mx_M
  | 0 => M
  | k + 1 => mo_f2 (mo_fi M t N k) k t N
theorem mo_f1_off {B : mx_M} {k t N c : Nat} (hc : c ≠ 49 ∧ c ≠ 50 ∧ c ≠ 51) : mo_f1 B k t N c = B c := by
  rw [mo_f1, mo_y2_off hc.1, mo_y1_off hc.2.1 hc.2.2]
theorem mo_f2_off {B : mx_M} {k t N c : Nat} (hc : c ≠ 41 ∧ c ≠ 49 ∧ c ≠ 50 ∧ c ≠ 51) : mo_f2 B k t N c = B c := by
  unfold mo_f2
  split
  · exact mo_f1_off hc.2
  · rw [mx_up_off hc.1, mo_f1_off hc.2]
theorem mo_f2_41 {B : mx_M} {k t N c : Nat} (hc : c ≠ 12) : mo_f2 B k t N 41 c = B 41 c := by
  unfold mo_f2
  split
  · rw [mo_f1_off (by decide)]
  · rw [mx_up_row, mo_f1_off (by decide)]; simp [upd, hc]
theorem mo_fi_41 {t N c : Nat} (hc : c ≠ 12) : ∀ k, mo_fi M t N k 41 c = M 41 c := by
  intro k
  induction k with
  | zero => rfl
  | succ k ih => rw [mo_fi, mo_f2_41 hc, ih]
theorem mo_fi_12 {t N : Nat} (h : M 41 12 = 0) : ∀ k, ∃ s, s ≤ k ∧ mo_fi M t N k 41 12 = nI s := by
  intro k
  induction k with
  | zero => exact ⟨0, by omega, h⟩
  | succ k ih =>
    obtain ⟨s, h1, h2⟩ := ih
    rw [mo_fi, mo_f2]
    split
    · exact ⟨s, by omega, by rw [mo_f1_off (by decide), h2]⟩
    · exact ⟨s + 1, by omega, by rw [mx_up_row, h2, nI_1]; simp [upd]⟩
theorem mo_fz3 (hl : l.stackTraces = false) {N t : Nat} (hN : N ≤ 20) (ht : t = 4 ∨ t = 6) (htt : (if M 41 1 = 0 then 4 else 6 : Int32) = nI t) (h3 : M 41 3 = nI N) (h12 : M 41 12 = 0) {Q : mx_R → mx_M → Prop}
    (nx : ∀ n r c x y : Value, mx_E l (pg_L sc) mY_Mo_freeze (d + 3) 0 Q 294 [.ref 41, n, r, c, x, y] [] (mo_fi M t N (2 * t))) :
    ∀ (m k : Nat), 2 * t - k = m → k ≤ 2 * t → ∀ n c x y : Value, mx_E l (pg_L sc) mY_Mo_freeze (d + 3) 0 Q 260 [.ref 41, n, .int (nI k), c, x, y] [] (mo_fi M t N k) := by
  have e2t : 2 * nI t = nI (2 * t) := by rw [show (2 : Int32) = nI 2 from rfl, pk_mul]
  intro m
  induction m with
  | zero =>
    intro k hm hle n c x y
    have e : k = 2 * t := by omega
    subst e
    refine mx_cVi mo_Mo_freeze 3 (As := []) (rest := [.int 2, .int (nI (2 * t))]) rfl (ct_Mo_turns hl) rfl trivial rfl rfl rfl kv_Mo_95 kd_Mo_turns rfl rfl rfl ?_
    rw [mo_fi_41 (by decide), htt]
    refine mx_if mo_Mo_freeze 1 (t := 294) (f := 270) rfl trivial (fun _ => nx _ _ _ _ _) (fun (q : ¬ 2 * nI t ≤ nI (2 * t)) => ?_)
    rw [e2t] at q; exact absurd (nI_le (Nat.le_refl _) (by omega)) q
  | succ m ih =>
    intro k hm hle n c x y
    have hI := ih (k + 1) (by omega) (by omega)
    rw [mo_fi, mo_f2] at hI
    obtain ⟨s, hs, es⟩ := mo_fi_12 (t := t) (N := N) h12 k
    have b1 : mo_fi M t N k 41 1 = M 41 1 := mo_fi_41 (by decide) k
    have b3 : mo_fi M t N k 41 3 = nI N := by rw [mo_fi_41 (by decide)]; exact h3
    generalize mo_fi M t N k = B at hI es b1 b3 ⊢
    refine mx_cVi mo_Mo_freeze 3 (As := []) (rest := [.int 2, .int (nI k)]) rfl (ct_Mo_turns hl) rfl trivial rfl rfl rfl kv_Mo_95 kd_Mo_turns rfl rfl rfl ?_
    rw [b1, htt]
    refine mx_if mo_Mo_freeze 1 (t := 294) (f := 270) rfl trivial (fun (q : 2 * nI t ≤ nI k) => ?_) (fun _ => ?_)
    · rw [e2t] at q; exact absurd q (nI_ge (by omega) (by omega))
    have hc := ct_Mo_isSymmetry (l := l) (sc := sc) (d := d) (M := B) (k := k) (t := t) (N := N) (im := s) hl (by omega) ht (by rw [b1]; exact htt) hN (by omega) b3 es
    rw [show mo_y2 (mo_y1 B k t N) s (mo_g B k t N) N = mo_f1 B k t N by rw [mo_f1, es, nI_clamp (by omega)]] at hc
    refine mx_cVi mo_Mo_freeze 2 (As := [.int (nI k)]) (rest := []) rfl hc rfl trivial rfl rfl rfl kv_Mo_110 kd_Mo_isSymmetry rfl rfl rfl ?_
    have c12 : mo_f1 B k t N 41 = B 41 := mo_f1_off (by decide)
    generalize mo_f1 B k t N = C at hI c12 ⊢
    have step : ∀ E : mx_M, (∀ n c x y : Value, mx_E l (pg_L sc) mY_Mo_freeze (d + 3) 0 Q 260 [.ref 41, n, .int (nI (k + 1)), c, x, y] [] E) → mx_E l (pg_L sc) mY_Mo_freeze (d + 3) 0 Q 288 [.ref 41, n, .int (nI k), c, x, y] [] E := by
      intro E hE
      refine mx_go mo_Mo_freeze 2 (pc' := 260) (ls' := [.ref 41, n, .int (nI k + 1), c, x, y]) (st' := []) (M' := E) rfl trivial ?_
      rw [nI_1]
      exact hE _ _ _ _
    refine mx_if mo_Mo_freeze 0 (t := 288) (f := 278) rfl trivial (fun q => ?_) (fun q => ?_)
    · rw [if_pos q] at hI; exact step _ hI
    · rw [if_neg q] at hI
      refine mx_go mo_Mo_freeze 6 (pc' := 288) (ls' := [.ref 41, n, .int (nI k), c, x, y]) (st' := []) (M' := mx_up C 41 12 (C 41 12 + 1)) rfl trivial ?_
      rw [c12]
      exact step _ hI
end MI
end
section
/-! PegBoardsModel.freeze. -/
section MJ
variable {l : Launch} {sc : Nat × (Nat → Int32)} {d : Nat} {M : mx_M}
theorem ct_Mo_freeze0 (hl : l.stackTraces = false) (h : ¬ M 41 2 = 0 ∨ M 41 3 = 0) : mx_Ct l (pg_L sc) mY_Mo_freeze d 0 [.ref 41] M (mx_rI 0 (mx_up M 41 0 1)) := by
  refine mx_bd (n0 := 1) hl (by decide +kernel) rfl rfl rfl ?_
  have fin : mx_E l (pg_L sc) mY_Mo_freeze d 0 (mx_rI 0 (mx_up M 41 0 1)) 15 [.ref 41, .null, .null, .null, .null, .null] [.ref 41] M := by
    refine mx_if mo_Mo_freeze 5 (t := 32) (f := 30) rfl trivial (fun (q : (1 : Int32) ≤ 0) => absurd q (by decide)) (fun _ => ?_)
    exact mx_ret_i mo_Mo_freeze rfl 1 rfl trivial rfl ⟨rfl, rfl⟩
  refine mx_if mo_Mo_freeze 3 (t := 15) (f := 8) rfl trivial (fun _ => fin) (fun (q : M 41 2 = 0) => ?_)
  refine mx_if mo_Mo_freeze 2 (t := 19) (f := 15) rfl trivial (fun (q2 : ¬ M 41 3 = 0) => ?_) (fun _ => fin)
  exact absurd h (fun c => c.elim (fun c => c q) q2)
def mo_fr (M : mx_M) (D : Nat → Bool) (t N : Nat) : mx_M := mo_fi (mo_ja (mo_nh D (mx_up (mx_up M 41 0 0) 41 2 1) 64) t N) t N (2 * t)
theorem ct_Mo_freeze1 (hl : l.stackTraces = false) {D : Nat → Bool} {N t : Nat} (hf : M 41 2 = 0) (hn0 : ¬ M 41 3 = 0) (hD : ∀ p, p < 64 → (M 42 p = 0 ↔ D p = false)) (hc : pg_n D 64 ≤ 20) (hN : N ≤ 20) (ht : t = 4 ∨ t = 6) (htt : (if M 41 1 = 0 then 4 else 6 : Int32) = nI t) (h3 : M 41 3 = nI N) (h8 : M 41 8 = 0) (h12 : M 41 12 = 0) :
    mx_Ct l (pg_L sc) mY_Mo_freeze (d + 3) 0 [.ref 41] M (mx_rI (mo_fr M D t N 41 8) (mo_fr M D t N)) := by
  refine mx_bd (n0 := 1) hl (by decide +kernel) rfl rfl rfl ?_
  refine mx_if mo_Mo_freeze 3 (t := 15) (f := 8) rfl trivial (fun (q : ¬ M 41 2 = 0) => absurd hf q) (fun _ => ?_)
  refine mx_if mo_Mo_freeze 2 (t := 19) (f := 15) rfl trivial (fun _ => ?_) (fun (q : M 41 3 = 0) => absurd q hn0)
  refine mx_if mo_Mo_freeze 4 (t := 32) (f := 30) rfl trivial (fun _ => ?_) (fun (q : ¬ (0 : Int32) ≤ 0) => absurd (by decide) q)
  generalize hA : mx_up (mx_up M 41 0 0) 41 2 1 = A
  have a1 : A 41 1 = M 41 1 := by rw [← hA]; rfl
  have a3 : A 41 3 = nI N := by rw [← hA]; exact h3
  have a8 : A 41 8 = 0 := by rw [← hA]; exact h8
  have a12 : A 41 12 = 0 := by rw [← hA]; exact h12
  have a42 : A 42 = M 42 := by rw [← hA]; rfl
  refine mx_go mo_Mo_freeze 7 (P := ((1 : Int32) = 0 ∨ (1 : Int32) = 1) ∧ True) (pc' := 41) (ls' := [.ref 41, .int (nI (pg_n D (8 * 0))), .int (nI 0), .null, .null, .null]) (st' := []) (M' := mo_nh D A (8 * 0)) (by rw [← hA]; rfl) ⟨Or.inr rfl, trivial⟩ ?_
  rw [mo_fr, hA]
  refine mo_fz1 (by rw [a42]; exact hD) hc (fun n r c x y => ?_) 8 0 (by omega) (by omega) _ _ _
  have b41 : mo_nh D A 64 41 = A 41 := mo_nh_off (by decide) (by decide) (by decide) 64
  generalize mo_nh D A 64 = B at b41 ⊢
  rw [← b41] at a1 a3 a8 a12
  refine mx_go mo_Mo_freeze 2 (pc' := 112) (ls' := [.ref 41, n, .int (nI 0), c, x, y]) (st' := []) (M' := mo_ja B t 0) rfl trivial ?_
  refine mo_fz2 (d := d + 1) hl hN ht (by rw [a1]; exact htt) a3 a8 (fun n r c x y => ?_) N 0 (by omega) (by omega) _ _ _ _
  have c1 : mo_ja B t N 41 1 = M 41 1 := by rw [mo_ja_41 (by decide)]; exact a1
  have c3 : mo_ja B t N 41 3 = nI N := by rw [mo_ja_41 (by decide)]; exact a3
  have c12 : mo_ja B t N 41 12 = 0 := by rw [mo_ja_41 (by decide)]; exact a12
  generalize mo_ja B t N = C at c1 c3 c12 ⊢
  refine mx_go mo_Mo_freeze 2 (pc' := 260) (ls' := [.ref 41, n, .int (nI 0), c, x, y]) (st' := []) (M' := mo_fi C t N 0) rfl trivial ?_
  refine mo_fz3 (d := d) hl hN ht (by rw [c1]; exact htt) c3 c12 (fun n r c x y => ?_) (2 * t) 0 (by omega) (by omega) _ _ _ _
  exact mx_ret_i mo_Mo_freeze rfl 2 rfl trivial rfl ⟨rfl, rfl⟩
end MJ
end
section
/-! Positions as natural numbers. -/
section NB
theorem nI_or (a b : Nat) : nI a ||| nI b = nI (a ||| b) := by
  apply Int32.toBitVec_inj.mp
  rw [Int32.toBitVec_or]
  show BitVec.ofNat 32 a ||| BitVec.ofNat 32 b = BitVec.ofNat 32 (a ||| b)
  rw [BitVec.ofNat_or]
theorem nI_xor (a b : Nat) : nI a ^^^ nI b = nI (a ^^^ b) := by
  apply Int32.toBitVec_inj.mp
  rw [Int32.toBitVec_xor]
  show BitVec.ofNat 32 a ^^^ BitVec.ofNat 32 b = BitVec.ofNat 32 (a ^^^ b)
  rw [BitVec.ofNat_xor]
theorem nb_s : ∀ h, h < 31 → ((nI h &&& 31).toBitVec.smod 32).toNat = h := by decide +kernel
theorem nb_shl {h : Nat} (hh : h < 31) : (1 : Int32) <<< (nI h &&& 31) = nI (2 ^ h) := by
  have hp : 2 ^ h < 2 ^ 31 := Nat.pow_lt_pow_right (by decide) hh
  have := pk_shlN (n := 1) (nI h &&& 31) h (nb_s h hh) (by omega)
  rw [Nat.one_mul] at this
  exact this
def nb (a h : Nat) : Nat := a / 2 ^ h % 2
theorem nb_bit {a h : Nat} (ha : a < 2 ^ 31) (hh : h < 31) : mo_bit (nI a) (nI h) = nI (nb a h) := by
  rw [mo_bit, pk_shrN ha _ h (nb_s h hh), pk_andN (Nat.lt_of_le_of_lt (Nat.div_le_self _ _) (by omega)) (m := 1) 1 (by decide)]
  rfl
theorem nb_01 (a h : Nat) : nb a h = 0 ∨ nb a h = 1 := by
  unfold nb; omega
theorem nb_has {a h : Nat} (ha : a < 2 ^ 31) (hh : h < 31) : pg_has (nI a) (nI h) = nI (nb a h) := by
  have := nb_bit ha hh
  unfold mo_bit at this
  rw [pg_has, this]
  rcases nb_01 a h with e | e <;> rw [e] <;> decide
theorem nb_t (a h : Nat) : nb a h = (a.testBit h).toNat := by
  rw [nb, Nat.testBit_eq_decide_div_mod_eq]
  rcases Nat.mod_two_eq_zero_or_one (a / 2 ^ h) with e | e <;> rw [e] <;> rfl
end NB
end
section
/-! A jump made: the class's way and the model's. -/
section MK
theorem bv_add {w : Nat} {x g : BitVec w} (h : x &&& g = 0#w) : x + g = x ^^^ g := by
  rw [BitVec.add_eq_or_of_and_eq_zero x g h]
  apply BitVec.eq_of_getElem_eq
  intro i hi
  have := congrArg (fun y : BitVec w => y[i]) h
  simp at this ⊢
  cases hx : x[i] <;> cases hg : g[i] <;> simp_all
theorem bv_sub {w : Nat} {x g : BitVec w} (h : x &&& g = g) : x - g = x ^^^ g := by
  have h1 : (x ^^^ g) &&& g = 0#w := by
    apply BitVec.eq_of_getElem_eq
    intro i hi
    have := congrArg (fun y : BitVec w => y[i]) h
    simp at this ⊢
    cases hx : x[i] <;> cases hg : g[i] <;> simp_all
  have h2 := bv_add h1
  have h3 : (x ^^^ g) ^^^ g = x := by
    rw [BitVec.xor_assoc, BitVec.xor_self, BitVec.xor_zero]
  rw [h3] at h2
  have h4 := congrArg (fun y => y - g) h2
  dsimp only at h4
  rw [BitVec.add_sub_cancel] at h4
  exact h4.symm
theorem i_add {x g : Int32} (h : x &&& g = 0) : x + g = x ^^^ g := by
  apply Int32.toBitVec_inj.mp
  rw [Int32.toBitVec_add, Int32.toBitVec_xor]
  apply bv_add
  have := congrArg Int32.toBitVec h
  rw [Int32.toBitVec_and] at this
  exact this
theorem i_sub {x g : Int32} (h : x &&& g = g) : x - g = x ^^^ g := by
  apply Int32.toBitVec_inj.mp
  rw [Int32.toBitVec_sub, Int32.toBitVec_xor]
  apply bv_sub
  have := congrArg Int32.toBitVec h
  rw [Int32.toBitVec_and] at this
  exact this
theorem nb_and {a i : Nat} : a &&& 2 ^ i = if a.testBit i then 2 ^ i else 0 := by
  apply Nat.eq_of_testBit_eq
  intro j
  rw [Nat.testBit_and, Nat.testBit_two_pow]
  by_cases e : i = j
  · subst e
    cases ha : a.testBit i <;> simp [Nat.testBit_two_pow]
  · cases ha : a.testBit i <;> simp [Nat.testBit_two_pow, e]
/-- when a jump can be made -/
def jm_ok (a f o t : Nat) : Bool := a.testBit f && a.testBit o && !a.testBit t
/-- the position behind it -/
def jm_go (a f o t : Nat) : Nat := ((a ^^^ 2 ^ f) ^^^ 2 ^ o) ^^^ 2 ^ t
theorem jm_mask {a f o t : Nat} (h1 : f ≠ o) (h2 : f ≠ t) (h3 : o ≠ t) : a &&& ((2 ^ f ||| 2 ^ o) ||| 2 ^ t) = (2 ^ f ||| 2 ^ o) ↔ jm_ok a f o t = true := by
  unfold jm_ok
  constructor
  · intro h
    have q := fun j => congrArg (fun y => Nat.testBit y j) h
    simp only [Nat.testBit_and, Nat.testBit_or, Nat.testBit_two_pow] at q
    have q1 := q f
    have q2 := q o
    have q3 := q t
    simp [h1, h2, h3, Ne.symm h1, Ne.symm h2, Ne.symm h3] at q1 q2 q3
    simp [q1, q2, q3]
  · intro h
    simp at h
    obtain ⟨⟨q1, q2⟩, q3⟩ := h
    apply Nat.eq_of_testBit_eq
    intro j
    simp only [Nat.testBit_and, Nat.testBit_or, Nat.testBit_two_pow]
    by_cases e1 : f = j
    · subst e1; simp [q1]
    · by_cases e2 : o = j
      · subst e2; simp [q2]
      · by_cases e3 : t = j
        · subst e3; simp [q3, e1, e2]
        · simp [e1, e2, e3]
theorem jm_lt {a f o t n : Nat} (ha : a < 2 ^ n) (hf : f < n) (ho : o < n) (ht : t < n) : jm_go a f o t < 2 ^ n := by
  unfold jm_go
  have p : ∀ i, i < n → 2 ^ i < 2 ^ n := fun i hi => Nat.pow_lt_pow_right (by decide) hi
  exact Nat.xor_lt_two_pow (Nat.xor_lt_two_pow (Nat.xor_lt_two_pow ha (p f hf)) (p o ho)) (p t ht)
end MK
end
