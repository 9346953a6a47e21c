/-! The law from its entry: the constructors, then the loop; the claim. -/
section WS
set_option maxRecDepth 20000
def mt_L_init : mx_B := [(0, .new 8, 3), (3, .dup, 1), (4, .invokespecial 69, 3), (7, .astore_n 1, 1), (8, .new 70, 3), (11, .dup, 1), (12, .invokespecial 72, 3), (15, .astore_n 2, 1), (16, .iconst 1, 1), (17, .newarray .long, 2), (19, .astore_n 3, 1), (20, .iconst 0, 1)]
theorem mt_L_init_ok : ∀ x ∈ mt_L_init, decode code x.1 = .ok (x.2.1, x.2.2) := by decide +kernel
theorem mL_init : mx_ok mY_La_law mf_La mt_L_init := ⟨mt_L_init_ok, mf_La_ok, fun w h => h⟩
theorem wL_8 : Cond.classLink "PegBoardsLaw" 8 "PegBoards" ∈ mx_WS := mx_in 59 (by decide +kernel) rfl
theorem wL_70 : Cond.classLink "PegBoardsLaw" 70 "PegBoardsModel" ∈ mx_WS := mx_in 775 (by decide +kernel) rfl
theorem wL_69 : Cond.methodLink "PegBoardsLaw" 69 ⟨"PegBoards", "<init>", "()V"⟩ ∈ mx_WS := mx_in 61 (by decide +kernel) rfl
theorem wL_72 : Cond.methodLink "PegBoardsLaw" 72 ⟨"PegBoardsModel", "<init>", "()V"⟩ ∈ mx_WS := mx_in 777 (by decide +kernel) rfl
theorem ao_in : Cond.arrayOver (.array .int) ∈ lw_tbl := List.mem_of_getElem? (i := 128) (by decide +kernel)
variable {p : Program} {l : Launch} {e : Env} {R : Room} {s : State} {m : MethodId} {args : Array Value} {below : List Frame} {meth : Method} {c : Code} {D : va_G} {T : mx_T} {A : Nat → Prop} {Q : State → Prop} {la : Array Slot} {ws : va_W} {pc cells slots : Nat} {st : List Value} {Y Y' : mx_Y} {fl : mx_F} {tab : mx_B} {adS : Nat → Nat}
theorem cn_ast (hok : mx_ok Y fl tab) (hC : cn_C p s m args c D T adS A Y) {i q nL : Nat} {k4 : Fin 4} {lv : List (Nat × Value)} (hlv : lv_has la nL lv) (hi : (k4 : Nat) = i) (hn : i < nL) (hd : tab.lookup pc = some (.astore_n k4, 1))
    (kk : ∀ la' : Array Slot, lv_has la' nL ((i, .ref q) :: lv.filter (fun z => !(z.1 == i) && !(z.1 + 1 == i && z.2.category == 2))) → cn_W p l e R s m args below meth c D A Q la' ws (pc + 1) st cells slots) : cn_W p l e R s m args below meth c D A Q la ws pc (.ref q :: st) cells slots := by
  intro H locs hP hD hS
  obtain ⟨⟨hx, hb, -⟩, -⟩ := hC
  exact lv_astore_n hx hb (cn_dc hok hd) hi hlv hn rfl (fun la' hl' => kk la' hl' H locs hP hD hS)
/-- the numbers behind the constructors -/
def M0 : mx_M := fun c => if c = 2 then (fun j => if j < 64 then -1 else 0) else fun _ => 0
theorem iv_M0 : IV M0 M0 := by
  refine ⟨fun _ => false, 0, 0, 0, id, id, id, fun _ => id, 0, 0, ?_⟩
  refine iv.mk' (Or.inl rfl) rfl (Or.inl rfl) rfl rfl rfl (pg_n0 64).symm (by omega) ?_ ?_ rfl rfl (by omega) (fun k hk => by omega) (fun k hk => by omega) (fun k hk => by omega) rfl rfl (by omega) (fun k h hk => by omega) (fun k h h' hk => by omega) (fun _ => ⟨rfl, rfl, rfl, rfl⟩) (fun h => absurd rfl h) (fun h => absurd rfl h) (fun h => absurd rfl h) rfl rfl (by decide) rfl rfl (by decide) (fun j hj => rfl)
  · intro q hq
    show (if q < 64 then (-1 : Int32) else 0) = -1 ↔ _
    rw [if_pos hq]
    simp
  · intro q hq
    show (0 : Int32) = 0 ↔ _
    simp
def adL (q0 q1 q2 : Nat) (r1 r2 : List Nat) : List Nat := [q0, (r1.getD 0 0), (r1.getD 1 0), (r1.getD 2 0), (r1.getD 3 0), (r1.getD 4 0), (r1.getD 5 0), (r1.getD 6 0), (r1.getD 7 0), (r1.getD 8 0), (r1.getD 9 0), (r1.getD 10 0), (r1.getD 11 0), (r1.getD 11 0 + 1 + 0), (r1.getD 11 0 + 1 + 1), (r1.getD 11 0 + 1 + 2), (r1.getD 11 0 + 1 + 3), (r1.getD 11 0 + 1 + 4), (r1.getD 11 0 + 1 + 5), (r1.getD 11 0 + 1 + 6), (r1.getD 11 0 + 1 + 7), (r1.getD 11 0 + 1 + 8), (r1.getD 11 0 + 1 + 9), (r1.getD 11 0 + 1 + 10), (r1.getD 11 0 + 1 + 11), (r1.getD 12 0), (r1.getD 13 0), (r1.getD 14 0), (r1.getD 15 0), (r1.getD 16 0), (r1.getD 17 0), (r1.getD 18 0), (r1.getD 19 0), (r1.getD 20 0), (r1.getD 21 0), (r1.getD 22 0), (r1.getD 23 0), (r1.getD 24 0), (r1.getD 25 0), (r1.getD 26 0), (r1.getD 27 0), q1, (r2.getD 0 0), (r2.getD 1 0), (r2.getD 2 0), (r2.getD 3 0), (r2.getD 4 0), (r2.getD 5 0), (r2.getD 6 0), (r2.getD 7 0), (r2.getD 8 0), (r2.getD 9 0), (r2.getD 10 0), (r2.getD 11 0), (r2.getD 12 0), (r2.getD 13 0), (r2.getD 14 0), (r2.getD 15 0), (r2.getD 16 0), (r2.getD 17 0), q2]
def adW (q0 q1 q2 : Nat) (r1 r2 : List Nat) (adS : Nat → Nat) : Nat → Nat := fun k => if k < 61 then (adL q0 q1 q2 r1 r2).getD k 0 else adS k
def wF (T : mx_T) (q0 q1 q2 : Nat) (r1 r2 : List Nat) : va_W := co_Pe T q0 r1 ++ co_Mo T q1 r2 ++ [(q2, .inl (T.2.2.1, 1, .inr (.inl (fun _ => (0 : Int32).toInt64))))]
theorem arrV_congr {cI : ClassId} {N : Nat} {f g : Nat → Value} (h : ∀ j, j < N → f j = g j) : arrV cI N f = arrV cI N g := by
  unfold arrV
  have : (Array.ofFn (n := N) fun j => f j.val) = Array.ofFn (n := N) fun j => g j.val := by
    congr 1
    funext j
    exact h j.val j.isLt
  rw [this]
/-- the array of arrays, as the layout has it -/
def e12 (T : mx_T) (ad : Nat → Nat) : va_E := .inl (T.2.1, 12, .inr (.inr (.inr (.inr (fun j => (([13, 14, 15, 16, 17, 18, 19, 20, 21, 22, 23, 24] : List Nat)[j]?).map ad)))))
theorem wl_0 {q0 q1 q2 : Nat} {r1 r2 : List Nat} {K : mx_K} (hK : pg_c[0]? = some K) : ((wF T q0 q1 q2 r1 r2).set 12 (r1.getD 11 0, e12 T (adW q0 q1 q2 r1 r2 adS)))[0]? = some (adW q0 q1 q2 r1 r2 adS 0, mx_cell T (adW q0 q1 q2 r1 r2 adS) K (M0 0)) := by
  cases hK
  rfl
theorem wl_1 {q0 q1 q2 : Nat} {r1 r2 : List Nat} {K : mx_K} (hK : pg_c[1]? = some K) : ((wF T q0 q1 q2 r1 r2).set 12 (r1.getD 11 0, e12 T (adW q0 q1 q2 r1 r2 adS)))[1]? = some (adW q0 q1 q2 r1 r2 adS 1, mx_cell T (adW q0 q1 q2 r1 r2 adS) K (M0 1)) := by
  cases hK
  rfl
theorem wl_2 {q0 q1 q2 : Nat} {r1 r2 : List Nat} {K : mx_K} (hK : pg_c[2]? = some K) : ((wF T q0 q1 q2 r1 r2).set 12 (r1.getD 11 0, e12 T (adW q0 q1 q2 r1 r2 adS)))[4]? = some (adW q0 q1 q2 r1 r2 adS 2, mx_cell T (adW q0 q1 q2 r1 r2 adS) K (M0 2)) := by
  cases hK
  rfl
theorem wl_3 {q0 q1 q2 : Nat} {r1 r2 : List Nat} {K : mx_K} (hK : pg_c[3]? = some K) : ((wF T q0 q1 q2 r1 r2).set 12 (r1.getD 11 0, e12 T (adW q0 q1 q2 r1 r2 adS)))[2]? = some (adW q0 q1 q2 r1 r2 adS 3, mx_cell T (adW q0 q1 q2 r1 r2 adS) K (M0 3)) := by
  cases hK
  rfl
theorem wl_4 {q0 q1 q2 : Nat} {r1 r2 : List Nat} {K : mx_K} (hK : pg_c[4]? = some K) : ((wF T q0 q1 q2 r1 r2).set 12 (r1.getD 11 0, e12 T (adW q0 q1 q2 r1 r2 adS)))[3]? = some (adW q0 q1 q2 r1 r2 adS 4, mx_cell T (adW q0 q1 q2 r1 r2 adS) K (M0 4)) := by
  cases hK
  rfl
theorem wl_5 {q0 q1 q2 : Nat} {r1 r2 : List Nat} {K : mx_K} (hK : pg_c[5]? = some K) : ((wF T q0 q1 q2 r1 r2).set 12 (r1.getD 11 0, e12 T (adW q0 q1 q2 r1 r2 adS)))[5]? = some (adW q0 q1 q2 r1 r2 adS 5, mx_cell T (adW q0 q1 q2 r1 r2 adS) K (M0 5)) := by
  cases hK
  rfl
theorem wl_6 {q0 q1 q2 : Nat} {r1 r2 : List Nat} {K : mx_K} (hK : pg_c[6]? = some K) : ((wF T q0 q1 q2 r1 r2).set 12 (r1.getD 11 0, e12 T (adW q0 q1 q2 r1 r2 adS)))[6]? = some (adW q0 q1 q2 r1 r2 adS 6, mx_cell T (adW q0 q1 q2 r1 r2 adS) K (M0 6)) := by
  cases hK
  rfl
theorem wl_7 {q0 q1 q2 : Nat} {r1 r2 : List Nat} {K : mx_K} (hK : pg_c[7]? = some K) : ((wF T q0 q1 q2 r1 r2).set 12 (r1.getD 11 0, e12 T (adW q0 q1 q2 r1 r2 adS)))[7]? = some (adW q0 q1 q2 r1 r2 adS 7, mx_cell T (adW q0 q1 q2 r1 r2 adS) K (M0 7)) := by
  cases hK
  rfl
theorem wl_8 {q0 q1 q2 : Nat} {r1 r2 : List Nat} {K : mx_K} (hK : pg_c[8]? = some K) : ((wF T q0 q1 q2 r1 r2).set 12 (r1.getD 11 0, e12 T (adW q0 q1 q2 r1 r2 adS)))[8]? = some (adW q0 q1 q2 r1 r2 adS 8, mx_cell T (adW q0 q1 q2 r1 r2 adS) K (M0 8)) := by
  cases hK
  rfl
theorem wl_9 {q0 q1 q2 : Nat} {r1 r2 : List Nat} {K : mx_K} (hK : pg_c[9]? = some K) : ((wF T q0 q1 q2 r1 r2).set 12 (r1.getD 11 0, e12 T (adW q0 q1 q2 r1 r2 adS)))[9]? = some (adW q0 q1 q2 r1 r2 adS 9, mx_cell T (adW q0 q1 q2 r1 r2 adS) K (M0 9)) := by
  cases hK
  rfl
theorem wl_10 {q0 q1 q2 : Nat} {r1 r2 : List Nat} {K : mx_K} (hK : pg_c[10]? = some K) : ((wF T q0 q1 q2 r1 r2).set 12 (r1.getD 11 0, e12 T (adW q0 q1 q2 r1 r2 adS)))[10]? = some (adW q0 q1 q2 r1 r2 adS 10, mx_cell T (adW q0 q1 q2 r1 r2 adS) K (M0 10)) := by
  cases hK
  rfl
theorem wl_11 {q0 q1 q2 : Nat} {r1 r2 : List Nat} {K : mx_K} (hK : pg_c[11]? = some K) : ((wF T q0 q1 q2 r1 r2).set 12 (r1.getD 11 0, e12 T (adW q0 q1 q2 r1 r2 adS)))[11]? = some (adW q0 q1 q2 r1 r2 adS 11, mx_cell T (adW q0 q1 q2 r1 r2 adS) K (M0 11)) := by
  cases hK
  rfl
theorem wl_12 {q0 q1 q2 : Nat} {r1 r2 : List Nat} {K : mx_K} (hK : pg_c[12]? = some K) : ((wF T q0 q1 q2 r1 r2).set 12 (r1.getD 11 0, e12 T (adW q0 q1 q2 r1 r2 adS)))[12]? = some (adW q0 q1 q2 r1 r2 adS 12, mx_cell T (adW q0 q1 q2 r1 r2 adS) K (M0 12)) := by
  cases hK
  rfl
theorem wl_13 {q0 q1 q2 : Nat} {r1 r2 : List Nat} {K : mx_K} (hK : pg_c[13]? = some K) : ((wF T q0 q1 q2 r1 r2).set 12 (r1.getD 11 0, e12 T (adW q0 q1 q2 r1 r2 adS)))[13]? = some (adW q0 q1 q2 r1 r2 adS 13, mx_cell T (adW q0 q1 q2 r1 r2 adS) K (M0 13)) := by
  cases hK
  rfl
theorem wl_14 {q0 q1 q2 : Nat} {r1 r2 : List Nat} {K : mx_K} (hK : pg_c[14]? = some K) : ((wF T q0 q1 q2 r1 r2).set 12 (r1.getD 11 0, e12 T (adW q0 q1 q2 r1 r2 adS)))[14]? = some (adW q0 q1 q2 r1 r2 adS 14, mx_cell T (adW q0 q1 q2 r1 r2 adS) K (M0 14)) := by
  cases hK
  rfl
theorem wl_15 {q0 q1 q2 : Nat} {r1 r2 : List Nat} {K : mx_K} (hK : pg_c[15]? = some K) : ((wF T q0 q1 q2 r1 r2).set 12 (r1.getD 11 0, e12 T (adW q0 q1 q2 r1 r2 adS)))[15]? = some (adW q0 q1 q2 r1 r2 adS 15, mx_cell T (adW q0 q1 q2 r1 r2 adS) K (M0 15)) := by
  cases hK
  rfl
theorem wl_16 {q0 q1 q2 : Nat} {r1 r2 : List Nat} {K : mx_K} (hK : pg_c[16]? = some K) : ((wF T q0 q1 q2 r1 r2).set 12 (r1.getD 11 0, e12 T (adW q0 q1 q2 r1 r2 adS)))[16]? = some (adW q0 q1 q2 r1 r2 adS 16, mx_cell T (adW q0 q1 q2 r1 r2 adS) K (M0 16)) := by
  cases hK
  rfl
theorem wl_17 {q0 q1 q2 : Nat} {r1 r2 : List Nat} {K : mx_K} (hK : pg_c[17]? = some K) : ((wF T q0 q1 q2 r1 r2).set 12 (r1.getD 11 0, e12 T (adW q0 q1 q2 r1 r2 adS)))[17]? = some (adW q0 q1 q2 r1 r2 adS 17, mx_cell T (adW q0 q1 q2 r1 r2 adS) K (M0 17)) := by
  cases hK
  rfl
theorem wl_18 {q0 q1 q2 : Nat} {r1 r2 : List Nat} {K : mx_K} (hK : pg_c[18]? = some K) : ((wF T q0 q1 q2 r1 r2).set 12 (r1.getD 11 0, e12 T (adW q0 q1 q2 r1 r2 adS)))[18]? = some (adW q0 q1 q2 r1 r2 adS 18, mx_cell T (adW q0 q1 q2 r1 r2 adS) K (M0 18)) := by
  cases hK
  rfl
theorem wl_19 {q0 q1 q2 : Nat} {r1 r2 : List Nat} {K : mx_K} (hK : pg_c[19]? = some K) : ((wF T q0 q1 q2 r1 r2).set 12 (r1.getD 11 0, e12 T (adW q0 q1 q2 r1 r2 adS)))[19]? = some (adW q0 q1 q2 r1 r2 adS 19, mx_cell T (adW q0 q1 q2 r1 r2 adS) K (M0 19)) := by
  cases hK
  rfl
theorem wl_20 {q0 q1 q2 : Nat} {r1 r2 : List Nat} {K : mx_K} (hK : pg_c[20]? = some K) : ((wF T q0 q1 q2 r1 r2).set 12 (r1.getD 11 0, e12 T (adW q0 q1 q2 r1 r2 adS)))[20]? = some (adW q0 q1 q2 r1 r2 adS 20, mx_cell T (adW q0 q1 q2 r1 r2 adS) K (M0 20)) := by
  cases hK
  rfl
theorem wl_21 {q0 q1 q2 : Nat} {r1 r2 : List Nat} {K : mx_K} (hK : pg_c[21]? = some K) : ((wF T q0 q1 q2 r1 r2).set 12 (r1.getD 11 0, e12 T (adW q0 q1 q2 r1 r2 adS)))[21]? = some (adW q0 q1 q2 r1 r2 adS 21, mx_cell T (adW q0 q1 q2 r1 r2 adS) K (M0 21)) := by
  cases hK
  rfl
theorem wl_22 {q0 q1 q2 : Nat} {r1 r2 : List Nat} {K : mx_K} (hK : pg_c[22]? = some K) : ((wF T q0 q1 q2 r1 r2).set 12 (r1.getD 11 0, e12 T (adW q0 q1 q2 r1 r2 adS)))[22]? = some (adW q0 q1 q2 r1 r2 adS 22, mx_cell T (adW q0 q1 q2 r1 r2 adS) K (M0 22)) := by
  cases hK
  rfl
theorem wl_23 {q0 q1 q2 : Nat} {r1 r2 : List Nat} {K : mx_K} (hK : pg_c[23]? = some K) : ((wF T q0 q1 q2 r1 r2).set 12 (r1.getD 11 0, e12 T (adW q0 q1 q2 r1 r2 adS)))[23]? = some (adW q0 q1 q2 r1 r2 adS 23, mx_cell T (adW q0 q1 q2 r1 r2 adS) K (M0 23)) := by
  cases hK
  rfl
theorem wl_24 {q0 q1 q2 : Nat} {r1 r2 : List Nat} {K : mx_K} (hK : pg_c[24]? = some K) : ((wF T q0 q1 q2 r1 r2).set 12 (r1.getD 11 0, e12 T (adW q0 q1 q2 r1 r2 adS)))[24]? = some (adW q0 q1 q2 r1 r2 adS 24, mx_cell T (adW q0 q1 q2 r1 r2 adS) K (M0 24)) := by
  cases hK
  rfl
theorem wl_25 {q0 q1 q2 : Nat} {r1 r2 : List Nat} {K : mx_K} (hK : pg_c[25]? = some K) : ((wF T q0 q1 q2 r1 r2).set 12 (r1.getD 11 0, e12 T (adW q0 q1 q2 r1 r2 adS)))[25]? = some (adW q0 q1 q2 r1 r2 adS 25, mx_cell T (adW q0 q1 q2 r1 r2 adS) K (M0 25)) := by
  cases hK
  rfl
theorem wl_26 {q0 q1 q2 : Nat} {r1 r2 : List Nat} {K : mx_K} (hK : pg_c[26]? = some K) : ((wF T q0 q1 q2 r1 r2).set 12 (r1.getD 11 0, e12 T (adW q0 q1 q2 r1 r2 adS)))[26]? = some (adW q0 q1 q2 r1 r2 adS 26, mx_cell T (adW q0 q1 q2 r1 r2 adS) K (M0 26)) := by
  cases hK
  rfl
theorem wl_27 {q0 q1 q2 : Nat} {r1 r2 : List Nat} {K : mx_K} (hK : pg_c[27]? = some K) : ((wF T q0 q1 q2 r1 r2).set 12 (r1.getD 11 0, e12 T (adW q0 q1 q2 r1 r2 adS)))[27]? = some (adW q0 q1 q2 r1 r2 adS 27, mx_cell T (adW q0 q1 q2 r1 r2 adS) K (M0 27)) := by
  cases hK
  rfl
theorem wl_28 {q0 q1 q2 : Nat} {r1 r2 : List Nat} {K : mx_K} (hK : pg_c[28]? = some K) : ((wF T q0 q1 q2 r1 r2).set 12 (r1.getD 11 0, e12 T (adW q0 q1 q2 r1 r2 adS)))[28]? = some (adW q0 q1 q2 r1 r2 adS 28, mx_cell T (adW q0 q1 q2 r1 r2 adS) K (M0 28)) := by
  cases hK
  rfl
theorem wl_29 {q0 q1 q2 : Nat} {r1 r2 : List Nat} {K : mx_K} (hK : pg_c[29]? = some K) : ((wF T q0 q1 q2 r1 r2).set 12 (r1.getD 11 0, e12 T (adW q0 q1 q2 r1 r2 adS)))[29]? = some (adW q0 q1 q2 r1 r2 adS 29, mx_cell T (adW q0 q1 q2 r1 r2 adS) K (M0 29)) := by
  cases hK
  rfl
theorem wl_30 {q0 q1 q2 : Nat} {r1 r2 : List Nat} {K : mx_K} (hK : pg_c[30]? = some K) : ((wF T q0 q1 q2 r1 r2).set 12 (r1.getD 11 0, e12 T (adW q0 q1 q2 r1 r2 adS)))[30]? = some (adW q0 q1 q2 r1 r2 adS 30, mx_cell T (adW q0 q1 q2 r1 r2 adS) K (M0 30)) := by
  cases hK
  rfl
theorem wl_31 {q0 q1 q2 : Nat} {r1 r2 : List Nat} {K : mx_K} (hK : pg_c[31]? = some K) : ((wF T q0 q1 q2 r1 r2).set 12 (r1.getD 11 0, e12 T (adW q0 q1 q2 r1 r2 adS)))[31]? = some (adW q0 q1 q2 r1 r2 adS 31, mx_cell T (adW q0 q1 q2 r1 r2 adS) K (M0 31)) := by
  cases hK
  rfl
theorem wl_32 {q0 q1 q2 : Nat} {r1 r2 : List Nat} {K : mx_K} (hK : pg_c[32]? = some K) : ((wF T q0 q1 q2 r1 r2).set 12 (r1.getD 11 0, e12 T (adW q0 q1 q2 r1 r2 adS)))[32]? = some (adW q0 q1 q2 r1 r2 adS 32, mx_cell T (adW q0 q1 q2 r1 r2 adS) K (M0 32)) := by
  cases hK
  rfl
theorem wl_33 {q0 q1 q2 : Nat} {r1 r2 : List Nat} {K : mx_K} (hK : pg_c[33]? = some K) : ((wF T q0 q1 q2 r1 r2).set 12 (r1.getD 11 0, e12 T (adW q0 q1 q2 r1 r2 adS)))[33]? = some (adW q0 q1 q2 r1 r2 adS 33, mx_cell T (adW q0 q1 q2 r1 r2 adS) K (M0 33)) := by
  cases hK
  rfl
theorem wl_34 {q0 q1 q2 : Nat} {r1 r2 : List Nat} {K : mx_K} (hK : pg_c[34]? = some K) : ((wF T q0 q1 q2 r1 r2).set 12 (r1.getD 11 0, e12 T (adW q0 q1 q2 r1 r2 adS)))[34]? = some (adW q0 q1 q2 r1 r2 adS 34, mx_cell T (adW q0 q1 q2 r1 r2 adS) K (M0 34)) := by
  cases hK
  rfl
theorem wl_35 {q0 q1 q2 : Nat} {r1 r2 : List Nat} {K : mx_K} (hK : pg_c[35]? = some K) : ((wF T q0 q1 q2 r1 r2).set 12 (r1.getD 11 0, e12 T (adW q0 q1 q2 r1 r2 adS)))[35]? = some (adW q0 q1 q2 r1 r2 adS 35, mx_cell T (adW q0 q1 q2 r1 r2 adS) K (M0 35)) := by
  cases hK
  rfl
theorem wl_36 {q0 q1 q2 : Nat} {r1 r2 : List Nat} {K : mx_K} (hK : pg_c[36]? = some K) : ((wF T q0 q1 q2 r1 r2).set 12 (r1.getD 11 0, e12 T (adW q0 q1 q2 r1 r2 adS)))[36]? = some (adW q0 q1 q2 r1 r2 adS 36, mx_cell T (adW q0 q1 q2 r1 r2 adS) K (M0 36)) := by
  cases hK
  rfl
theorem wl_37 {q0 q1 q2 : Nat} {r1 r2 : List Nat} {K : mx_K} (hK : pg_c[37]? = some K) : ((wF T q0 q1 q2 r1 r2).set 12 (r1.getD 11 0, e12 T (adW q0 q1 q2 r1 r2 adS)))[37]? = some (adW q0 q1 q2 r1 r2 adS 37, mx_cell T (adW q0 q1 q2 r1 r2 adS) K (M0 37)) := by
  cases hK
  rfl
theorem wl_38 {q0 q1 q2 : Nat} {r1 r2 : List Nat} {K : mx_K} (hK : pg_c[38]? = some K) : ((wF T q0 q1 q2 r1 r2).set 12 (r1.getD 11 0, e12 T (adW q0 q1 q2 r1 r2 adS)))[38]? = some (adW q0 q1 q2 r1 r2 adS 38, mx_cell T (adW q0 q1 q2 r1 r2 adS) K (M0 38)) := by
  cases hK
  rfl
theorem wl_39 {q0 q1 q2 : Nat} {r1 r2 : List Nat} {K : mx_K} (hK : pg_c[39]? = some K) : ((wF T q0 q1 q2 r1 r2).set 12 (r1.getD 11 0, e12 T (adW q0 q1 q2 r1 r2 adS)))[39]? = some (adW q0 q1 q2 r1 r2 adS 39, mx_cell T (adW q0 q1 q2 r1 r2 adS) K (M0 39)) := by
  cases hK
  rfl
theorem wl_40 {q0 q1 q2 : Nat} {r1 r2 : List Nat} {K : mx_K} (hK : pg_c[40]? = some K) : ((wF T q0 q1 q2 r1 r2).set 12 (r1.getD 11 0, e12 T (adW q0 q1 q2 r1 r2 adS)))[40]? = some (adW q0 q1 q2 r1 r2 adS 40, mx_cell T (adW q0 q1 q2 r1 r2 adS) K (M0 40)) := by
  cases hK
  rfl
theorem mf_41 {ad : Nat → Nat} {g : Nat → Int32} : mx_fs ad g [none, none, none, none, some 42, some 43, some 44, some 45, none, some 46, some 47, some 48, none, some 49, some 50, some 51, none, none, some 52, some 53, none, some 54, some 55, some 56, some 57, some 58, none, some 59] = [.int (g 0), .int (g 1), .int (g 2), .int (g 3), .ref (ad 42), .ref (ad 43), .ref (ad 44), .ref (ad 45), .int (g 8), .ref (ad 46), .ref (ad 47), .ref (ad 48), .int (g 12), .ref (ad 49), .ref (ad 50), .ref (ad 51), .int (g 16), .int (g 17), .ref (ad 52), .ref (ad 53), .int (g 20), .ref (ad 54), .ref (ad 55), .ref (ad 56), .ref (ad 57), .ref (ad 58), .int (g 26), .ref (ad 59)] := by
  simp [mx_fs, List.mapIdx_cons, mx_fv]
theorem wl_41 {q0 q1 q2 : Nat} {r1 r2 : List Nat} {K : mx_K} (hK : pg_c[41]? = some K) : ((wF T q0 q1 q2 r1 r2).set 12 (r1.getD 11 0, e12 T (adW q0 q1 q2 r1 r2 adS)))[41]? = some (adW q0 q1 q2 r1 r2 adS 41, mx_cell T (adW q0 q1 q2 r1 r2 adS) K (M0 41)) := by
  cases hK
  have e : mx_cell T (adW q0 q1 q2 r1 r2 adS) (.inr (.inl (7, [none, none, none, none, some 42, some 43, some 44, some 45, none, some 46, some 47, some 48, none, some 49, some 50, some 51, none, none, some 52, some 53, none, some 54, some 55, some 56, some 57, some 58, none, some 59]))) (M0 41) = .inr (7, [.int (M0 41 0), .int (M0 41 1), .int (M0 41 2), .int (M0 41 3), .ref (adW q0 q1 q2 r1 r2 adS 42), .ref (adW q0 q1 q2 r1 r2 adS 43), .ref (adW q0 q1 q2 r1 r2 adS 44), .ref (adW q0 q1 q2 r1 r2 adS 45), .int (M0 41 8), .ref (adW q0 q1 q2 r1 r2 adS 46), .ref (adW q0 q1 q2 r1 r2 adS 47), .ref (adW q0 q1 q2 r1 r2 adS 48), .int (M0 41 12), .ref (adW q0 q1 q2 r1 r2 adS 49), .ref (adW q0 q1 q2 r1 r2 adS 50), .ref (adW q0 q1 q2 r1 r2 adS 51), .int (M0 41 16), .int (M0 41 17), .ref (adW q0 q1 q2 r1 r2 adS 52), .ref (adW q0 q1 q2 r1 r2 adS 53), .int (M0 41 20), .ref (adW q0 q1 q2 r1 r2 adS 54), .ref (adW q0 q1 q2 r1 r2 adS 55), .ref (adW q0 q1 q2 r1 r2 adS 56), .ref (adW q0 q1 q2 r1 r2 adS 57), .ref (adW q0 q1 q2 r1 r2 adS 58), .int (M0 41 26), .ref (adW q0 q1 q2 r1 r2 adS 59)]) := congrArg (fun z => Sum.inr (7, z)) mf_41
  have e2 : ((wF T q0 q1 q2 r1 r2).set 12 (r1.getD 11 0, e12 T (adW q0 q1 q2 r1 r2 adS)))[41]? = some (q1, .inr (7, [.int 0, .int 0, .int 0, .int 0, .ref (r2.getD 0 0), .ref (r2.getD 1 0), .ref (r2.getD 2 0), .ref (r2.getD 3 0), .int 0, .ref (r2.getD 4 0), .ref (r2.getD 5 0), .ref (r2.getD 6 0), .int 0, .ref (r2.getD 7 0), .ref (r2.getD 8 0), .ref (r2.getD 9 0), .int 0, .int 0, .ref (r2.getD 10 0), .ref (r2.getD 11 0), .int 0, .ref (r2.getD 12 0), .ref (r2.getD 13 0), .ref (r2.getD 14 0), .ref (r2.getD 15 0), .ref (r2.getD 16 0), .int 0, .ref (r2.getD 17 0)])) := rfl
  rw [e2]
  refine congrArg some (congrArg (Prod.mk q1) ?_)
  refine Eq.trans ?_ e.symm
  rfl
theorem wl_42 {q0 q1 q2 : Nat} {r1 r2 : List Nat} {K : mx_K} (hK : pg_c[42]? = some K) : ((wF T q0 q1 q2 r1 r2).set 12 (r1.getD 11 0, e12 T (adW q0 q1 q2 r1 r2 adS)))[42]? = some (adW q0 q1 q2 r1 r2 adS 42, mx_cell T (adW q0 q1 q2 r1 r2 adS) K (M0 42)) := by
  cases hK
  rfl
theorem wl_43 {q0 q1 q2 : Nat} {r1 r2 : List Nat} {K : mx_K} (hK : pg_c[43]? = some K) : ((wF T q0 q1 q2 r1 r2).set 12 (r1.getD 11 0, e12 T (adW q0 q1 q2 r1 r2 adS)))[43]? = some (adW q0 q1 q2 r1 r2 adS 43, mx_cell T (adW q0 q1 q2 r1 r2 adS) K (M0 43)) := by
  cases hK
  rfl
theorem wl_44 {q0 q1 q2 : Nat} {r1 r2 : List Nat} {K : mx_K} (hK : pg_c[44]? = some K) : ((wF T q0 q1 q2 r1 r2).set 12 (r1.getD 11 0, e12 T (adW q0 q1 q2 r1 r2 adS)))[44]? = some (adW q0 q1 q2 r1 r2 adS 44, mx_cell T (adW q0 q1 q2 r1 r2 adS) K (M0 44)) := by
  cases hK
  rfl
theorem wl_45 {q0 q1 q2 : Nat} {r1 r2 : List Nat} {K : mx_K} (hK : pg_c[45]? = some K) : ((wF T q0 q1 q2 r1 r2).set 12 (r1.getD 11 0, e12 T (adW q0 q1 q2 r1 r2 adS)))[45]? = some (adW q0 q1 q2 r1 r2 adS 45, mx_cell T (adW q0 q1 q2 r1 r2 adS) K (M0 45)) := by
  cases hK
  rfl
theorem wl_46 {q0 q1 q2 : Nat} {r1 r2 : List Nat} {K : mx_K} (hK : pg_c[46]? = some K) : ((wF T q0 q1 q2 r1 r2).set 12 (r1.getD 11 0, e12 T (adW q0 q1 q2 r1 r2 adS)))[46]? = some (adW q0 q1 q2 r1 r2 adS 46, mx_cell T (adW q0 q1 q2 r1 r2 adS) K (M0 46)) := by
  cases hK
  rfl
theorem wl_47 {q0 q1 q2 : Nat} {r1 r2 : List Nat} {K : mx_K} (hK : pg_c[47]? = some K) : ((wF T q0 q1 q2 r1 r2).set 12 (r1.getD 11 0, e12 T (adW q0 q1 q2 r1 r2 adS)))[47]? = some (adW q0 q1 q2 r1 r2 adS 47, mx_cell T (adW q0 q1 q2 r1 r2 adS) K (M0 47)) := by
  cases hK
  rfl
theorem wl_48 {q0 q1 q2 : Nat} {r1 r2 : List Nat} {K : mx_K} (hK : pg_c[48]? = some K) : ((wF T q0 q1 q2 r1 r2).set 12 (r1.getD 11 0, e12 T (adW q0 q1 q2 r1 r2 adS)))[48]? = some (adW q0 q1 q2 r1 r2 adS 48, mx_cell T (adW q0 q1 q2 r1 r2 adS) K (M0 48)) := by
  cases hK
  rfl
theorem wl_49 {q0 q1 q2 : Nat} {r1 r2 : List Nat} {K : mx_K} (hK : pg_c[49]? = some K) : ((wF T q0 q1 q2 r1 r2).set 12 (r1.getD 11 0, e12 T (adW q0 q1 q2 r1 r2 adS)))[49]? = some (adW q0 q1 q2 r1 r2 adS 49, mx_cell T (adW q0 q1 q2 r1 r2 adS) K (M0 49)) := by
  cases hK
  rfl
theorem wl_50 {q0 q1 q2 : Nat} {r1 r2 : List Nat} {K : mx_K} (hK : pg_c[50]? = some K) : ((wF T q0 q1 q2 r1 r2).set 12 (r1.getD 11 0, e12 T (adW q0 q1 q2 r1 r2 adS)))[50]? = some (adW q0 q1 q2 r1 r2 adS 50, mx_cell T (adW q0 q1 q2 r1 r2 adS) K (M0 50)) := by
  cases hK
  rfl
theorem wl_51 {q0 q1 q2 : Nat} {r1 r2 : List Nat} {K : mx_K} (hK : pg_c[51]? = some K) : ((wF T q0 q1 q2 r1 r2).set 12 (r1.getD 11 0, e12 T (adW q0 q1 q2 r1 r2 adS)))[51]? = some (adW q0 q1 q2 r1 r2 adS 51, mx_cell T (adW q0 q1 q2 r1 r2 adS) K (M0 51)) := by
  cases hK
  rfl
theorem wl_52 {q0 q1 q2 : Nat} {r1 r2 : List Nat} {K : mx_K} (hK : pg_c[52]? = some K) : ((wF T q0 q1 q2 r1 r2).set 12 (r1.getD 11 0, e12 T (adW q0 q1 q2 r1 r2 adS)))[52]? = some (adW q0 q1 q2 r1 r2 adS 52, mx_cell T (adW q0 q1 q2 r1 r2 adS) K (M0 52)) := by
  cases hK
  rfl
theorem wl_53 {q0 q1 q2 : Nat} {r1 r2 : List Nat} {K : mx_K} (hK : pg_c[53]? = some K) : ((wF T q0 q1 q2 r1 r2).set 12 (r1.getD 11 0, e12 T (adW q0 q1 q2 r1 r2 adS)))[53]? = some (adW q0 q1 q2 r1 r2 adS 53, mx_cell T (adW q0 q1 q2 r1 r2 adS) K (M0 53)) := by
  cases hK
  rfl
theorem wl_54 {q0 q1 q2 : Nat} {r1 r2 : List Nat} {K : mx_K} (hK : pg_c[54]? = some K) : ((wF T q0 q1 q2 r1 r2).set 12 (r1.getD 11 0, e12 T (adW q0 q1 q2 r1 r2 adS)))[54]? = some (adW q0 q1 q2 r1 r2 adS 54, mx_cell T (adW q0 q1 q2 r1 r2 adS) K (M0 54)) := by
  cases hK
  rfl
theorem wl_55 {q0 q1 q2 : Nat} {r1 r2 : List Nat} {K : mx_K} (hK : pg_c[55]? = some K) : ((wF T q0 q1 q2 r1 r2).set 12 (r1.getD 11 0, e12 T (adW q0 q1 q2 r1 r2 adS)))[55]? = some (adW q0 q1 q2 r1 r2 adS 55, mx_cell T (adW q0 q1 q2 r1 r2 adS) K (M0 55)) := by
  cases hK
  rfl
theorem wl_56 {q0 q1 q2 : Nat} {r1 r2 : List Nat} {K : mx_K} (hK : pg_c[56]? = some K) : ((wF T q0 q1 q2 r1 r2).set 12 (r1.getD 11 0, e12 T (adW q0 q1 q2 r1 r2 adS)))[56]? = some (adW q0 q1 q2 r1 r2 adS 56, mx_cell T (adW q0 q1 q2 r1 r2 adS) K (M0 56)) := by
  cases hK
  rfl
theorem wl_57 {q0 q1 q2 : Nat} {r1 r2 : List Nat} {K : mx_K} (hK : pg_c[57]? = some K) : ((wF T q0 q1 q2 r1 r2).set 12 (r1.getD 11 0, e12 T (adW q0 q1 q2 r1 r2 adS)))[57]? = some (adW q0 q1 q2 r1 r2 adS 57, mx_cell T (adW q0 q1 q2 r1 r2 adS) K (M0 57)) := by
  cases hK
  rfl
theorem wl_58 {q0 q1 q2 : Nat} {r1 r2 : List Nat} {K : mx_K} (hK : pg_c[58]? = some K) : ((wF T q0 q1 q2 r1 r2).set 12 (r1.getD 11 0, e12 T (adW q0 q1 q2 r1 r2 adS)))[58]? = some (adW q0 q1 q2 r1 r2 adS 58, mx_cell T (adW q0 q1 q2 r1 r2 adS) K (M0 58)) := by
  cases hK
  rfl
theorem wl_59 {q0 q1 q2 : Nat} {r1 r2 : List Nat} {K : mx_K} (hK : pg_c[59]? = some K) : ((wF T q0 q1 q2 r1 r2).set 12 (r1.getD 11 0, e12 T (adW q0 q1 q2 r1 r2 adS)))[59]? = some (adW q0 q1 q2 r1 r2 adS 59, mx_cell T (adW q0 q1 q2 r1 r2 adS) K (M0 59)) := by
  cases hK
  rfl
theorem wl_60 {q0 q1 q2 : Nat} {r1 r2 : List Nat} {K : mx_K} (hK : pg_c[60]? = some K) : ((wF T q0 q1 q2 r1 r2).set 12 (r1.getD 11 0, e12 T (adW q0 q1 q2 r1 r2 adS)))[60]? = some (adW q0 q1 q2 r1 r2 adS 60, mx_cell T (adW q0 q1 q2 r1 r2 adS) K (M0 60)) := by
  cases hK
  rfl
def sg (k : Nat) : Nat := if k = 2 then 4 else if k = 3 then 2 else if k = 4 then 3 else k
theorem wl_all {q0 q1 q2 : Nat} {r1 r2 : List Nat} {K : mx_K} : ∀ k, k < 61 → pg_c[k]? = some K → ((wF T q0 q1 q2 r1 r2).set 12 (r1.getD 11 0, e12 T (adW q0 q1 q2 r1 r2 adS)))[sg k]? = some (adW q0 q1 q2 r1 r2 adS k, mx_cell T (adW q0 q1 q2 r1 r2 adS) K (M0 k))
  | 0, _, hK => wl_0 hK
  | 1, _, hK => wl_1 hK
  | 2, _, hK => wl_2 hK
  | 3, _, hK => wl_3 hK
  | 4, _, hK => wl_4 hK
  | 5, _, hK => wl_5 hK
  | 6, _, hK => wl_6 hK
  | 7, _, hK => wl_7 hK
  | 8, _, hK => wl_8 hK
  | 9, _, hK => wl_9 hK
  | 10, _, hK => wl_10 hK
  | 11, _, hK => wl_11 hK
  | 12, _, hK => wl_12 hK
  | 13, _, hK => wl_13 hK
  | 14, _, hK => wl_14 hK
  | 15, _, hK => wl_15 hK
  | 16, _, hK => wl_16 hK
  | 17, _, hK => wl_17 hK
  | 18, _, hK => wl_18 hK
  | 19, _, hK => wl_19 hK
  | 20, _, hK => wl_20 hK
  | 21, _, hK => wl_21 hK
  | 22, _, hK => wl_22 hK
  | 23, _, hK => wl_23 hK
  | 24, _, hK => wl_24 hK
  | 25, _, hK => wl_25 hK
  | 26, _, hK => wl_26 hK
  | 27, _, hK => wl_27 hK
  | 28, _, hK => wl_28 hK
  | 29, _, hK => wl_29 hK
  | 30, _, hK => wl_30 hK
  | 31, _, hK => wl_31 hK
  | 32, _, hK => wl_32 hK
  | 33, _, hK => wl_33 hK
  | 34, _, hK => wl_34 hK
  | 35, _, hK => wl_35 hK
  | 36, _, hK => wl_36 hK
  | 37, _, hK => wl_37 hK
  | 38, _, hK => wl_38 hK
  | 39, _, hK => wl_39 hK
  | 40, _, hK => wl_40 hK
  | 41, _, hK => wl_41 hK
  | 42, _, hK => wl_42 hK
  | 43, _, hK => wl_43 hK
  | 44, _, hK => wl_44 hK
  | 45, _, hK => wl_45 hK
  | 46, _, hK => wl_46 hK
  | 47, _, hK => wl_47 hK
  | 48, _, hK => wl_48 hK
  | 49, _, hK => wl_49 hK
  | 50, _, hK => wl_50 hK
  | 51, _, hK => wl_51 hK
  | 52, _, hK => wl_52 hK
  | 53, _, hK => wl_53 hK
  | 54, _, hK => wl_54 hK
  | 55, _, hK => wl_55 hK
  | 56, _, hK => wl_56 hK
  | 57, _, hK => wl_57 hK
  | 58, _, hK => wl_58 hK
  | 59, _, hK => wl_59 hK
  | 60, _, hK => wl_60 hK
  | k + 61, h, _ => absurd h (by omega)
theorem wF_12 {q0 q1 q2 : Nat} {r1 r2 : List Nat} {H : Heap} (hP : va_P D vwCl (wF T q0 q1 q2 r1 r2) H) : va_at D vwCl (r1.getD 11 0, e12 T (adW q0 q1 q2 r1 r2 adS)) H := by
  have h := hP 12 _ rfl
  have h2 : H[r1.getD 11 0]? = some (vp_cell T.2.1 (12, .inr (.inr (.inr (.inr (fun j => if j < 12 then some ((r1.getD 11 0) + 1 + j) else none)))))) := h
  show H[r1.getD 11 0]? = some (vp_cell T.2.1 (12, .inr (.inr (.inr (.inr (fun j => (([13, 14, 15, 16, 17, 18, 19, 20, 21, 22, 23, 24] : List Nat)[j]?).map (adW q0 q1 q2 r1 r2 adS)))))))
  rw [h2, vp_cell_q, vp_cell_q]
  refine congrArg some (arrV_congr ?_)
  intro j hj
  match j, hj with
  | 0, _ => rfl
  | 1, _ => rfl
  | 2, _ => rfl
  | 3, _ => rfl
  | 4, _ => rfl
  | 5, _ => rfl
  | 6, _ => rfl
  | 7, _ => rfl
  | 8, _ => rfl
  | 9, _ => rfl
  | 10, _ => rfl
  | 11, _ => rfl
  | j + 12, hj => omega
theorem wF_g {q0 q1 q2 : Nat} {r1 r2 : List Nat} {sc : Nat × (Nat → Int32)} (k : Nat) (q : Nat × va_E) (hk : (mx_lay T (adW q0 q1 q2 r1 r2 adS) (pg_L sc) M0)[k]? = some q) : ((wF T q0 q1 q2 r1 r2).set 12 (r1.getD 11 0, e12 T (adW q0 q1 q2 r1 r2 adS)))[sg k]? = some q := by
  have hlt : k < 61 := (mx_lay_of hk).1
  obtain ⟨K, hK⟩ : ∃ K, pg_c[k]? = some K := ⟨pg_c[k]'hlt, List.getElem?_eq_getElem hlt⟩
  have e := mx_lay_get (T := T) (ad := adW q0 q1 q2 r1 r2 adS) (LK := pg_L sc) (M := M0) hK
  rw [e] at hk
  obtain rfl := Option.some.inj hk
  exact wl_all k hlt hK
theorem sg_inj {i j : Nat} (h : sg i = sg j) : i = j := by
  unfold sg at h
  by_cases a2 : i = 2 <;> by_cases a3 : i = 3 <;> by_cases a4 : i = 4 <;> by_cases b2 : j = 2 <;> by_cases b3 : j = 3 <;> by_cases b4 : j = 4 <;> simp [a2, a3, a4, b2, b3, b4] at h <;> omega
theorem wF_PD {q0 q1 q2 : Nat} {r1 r2 : List Nat} {sc : Nat × (Nat → Int32)} {H : Heap} (hP : va_P D vwCl (wF T q0 q1 q2 r1 r2) H) (hD : va_D A (wF T q0 q1 q2 r1 r2)) : va_P D vwCl (mx_lay T (adW q0 q1 q2 r1 r2 adS) (pg_L sc) M0) H ∧ va_D A (mx_lay T (adW q0 q1 q2 r1 r2 adS) (pg_L sc) M0) := by
  have h12 : (wF T q0 q1 q2 r1 r2)[12]? = some (r1.getD 11 0, .inl (T.2.1, 12, .inr (.inr (.inr (.inr (fun j => if j < 12 then some ((r1.getD 11 0) + 1 + j) else none)))))) := rfl
  have hP1 := hP.set hD h12 (wF_12 (adS := adS) hP) (fun _ _ => rfl)
  have hD1 := hD.set (e := e12 T (adW q0 q1 q2 r1 r2 adS)) h12
  exact ⟨fun k q hk => hP1 (sg k) q (wF_g k q hk), va_D.by hD1 sg wF_g (fun i j _ _ h => sg_inj h)⟩
theorem lw_frm {s t : State} {o : Outcome} {L : List Loc} {mc ms : Nat} (h : FrameEnd s o t L mc ms) (hL : ∀ q ∈ L, s.heap.size ≤ q.base) (h1 : mc ≤ 601024) (h2 : ms ≤ 7293034) : Framed s o t [] 601024 7293034 := by
  obtain ⟨a, b, c1, c2, c3, c4, c5, c6⟩ := h
  refine ⟨a, b, c1, c2, by omega, c4, by omega, fun q c hq => ?_⟩
  obtain ⟨c', d1, d2, d3, d4⟩ := c6 q c hq
  exact ⟨c', d1, d2, d3, fun i _ => d4 i (fun hm => by have := hL _ hm; have := (Array.getElem?_eq_some_iff.mp hq).1; dsimp only at *; omega)⟩
end WS
