/-! PegBoards$Jumps: the list of jumps. -/
section JU
variable {l : Launch} {sc : Nat × (Nat → Int32)} {d : Nat} {M : mx_M}
def ju_pg (x y : Int32) : Int32 := (1 <<< (x &&& 31)) ||| (1 <<< (y &&& 31))
/-- a jump more -/
def ju_in (M : mx_M) (n : Nat) (x y z : Int32) : mx_M :=
  mx_up (mx_up (mx_up (mx_up (mx_up (mx_up M 6 n x) 7 n y) 8 n z) 9 n (ju_pg x y)) 10 n (ju_pg x y ||| (1 <<< (z &&& 31)))) 5 5 (M 5 5 + 1)
def ju_one (M : mx_M) (h : Nat) (a b : Int32) : mx_M :=
  if pg_at M (M 3 h + a) (M 4 h + b) = -1 then M else if pg_at M (M 3 h + 2 * a) (M 4 h + 2 * b) = -1 then M else if 120 ≤ M 5 5 then M else
    ju_in M (M 5 5).toNatClampNeg (nI h) (pg_at M (M 3 h + a) (M 4 h + b)) (pg_at M (M 3 h + 2 * a) (M 4 h + 2 * b))
theorem ct_Ju_listOne (hl : l.stackTraces = false) {h n : Nat} (hh : h < 20) (hn : n ≤ 120) (hs : M 5 5 = nI n) (a b : Int32) : mx_Ct l (pg_L sc) mY_Ju_listOne (d + 2) 0 [.ref 5, .ref 1, .int (nI h), .int a, .int b] M (mx_rV (ju_one M h a b)) := by
  refine mx_bd (n0 := 5) hl (by decide +kernel) rfl rfl rfl ?_
  refine mx_cVi mo_Ju_listOne 2 (As := [.int (nI h)]) rfl (ct_Bo_rowOf hl hh) rfl trivial rfl rfl rfl kv_Ju_57 kd_Bo_rowOf rfl rfl rfl ?_
  refine mx_cVi mo_Ju_listOne 3 (As := [.int (nI h)]) rfl (ct_Bo_columnOf hl hh) rfl trivial rfl rfl rfl kv_Ju_61 kd_Bo_columnOf rfl rfl rfl ?_
  refine mx_cVi mo_Ju_listOne 8 (As := [.int (M 3 h + a), .int (M 4 h + b)]) rfl (ct_Bo_numberAt hl _ _) rfl trivial rfl rfl rfl kv_Ju_64 kd_Bo_numberAt rfl rfl rfl ?_
  refine mx_cVi mo_Ju_listOne 12 (As := [.int (M 3 h + 2 * a), .int (M 4 h + 2 * b)]) rfl (ct_Bo_numberAt hl _ _) rfl trivial rfl rfl rfl kv_Ju_64 kd_Bo_numberAt rfl rfl rfl ?_
  unfold ju_one
  generalize pg_at M (M 3 h + a) (M 4 h + b) = y
  generalize pg_at M (M 3 h + 2 * a) (M 4 h + 2 * b) = z
  refine mx_go mo_Ju_listOne 1 (pc' := 48) (ls' := [.ref 5, .ref 1, .int (nI h), .int a, .int b, .int (M 3 h), .int (M 4 h), .int y, .int z]) (st' := []) (M' := M) rfl trivial ?_
  refine mx_if mo_Ju_listOne 2 (t := 151) (f := 54) rfl trivial (fun (h1 : y = -1) => ?_) (fun (h1 : ¬ y = -1) => ?_)
  · rw [if_pos h1]; exact mx_ret_v mo_Ju_listOne rfl 0 rfl trivial rfl ⟨rfl, rfl⟩
  rw [if_neg h1]
  refine mx_if mo_Ju_listOne 2 (t := 151) (f := 60) rfl trivial (fun (h2 : z = -1) => ?_) (fun (h2 : ¬ z = -1) => ?_)
  · rw [if_pos h2]; exact mx_ret_v mo_Ju_listOne rfl 0 rfl trivial rfl ⟨rfl, rfl⟩
  rw [if_neg h2]
  refine mx_if mo_Ju_listOne 3 (t := 151) (f := 69) rfl trivial (fun (h3 : 120 ≤ M 5 5) => ?_) (fun (h3 : ¬ 120 ≤ M 5 5) => ?_)
  · rw [if_pos h3]; exact mx_ret_v mo_Ju_listOne rfl 0 rfl trivial rfl ⟨rfl, rfl⟩
  rw [if_neg h3]
  have hv : vp_in (M 5 5) 120 := by
    rw [hs] at h3 ⊢
    rw [show (120 : Int32) = nI 120 from rfl, nI_leI (by decide) (by omega)] at h3
    exact vp_in_nI (by omega) (by decide)
  generalize hN : (M 5 5).toNatClampNeg = N
  refine mx_go mo_Ju_listOne 30 (pc' := 118) (ls' := [.ref 5, .ref 1, .int (nI h), .int a, .int b, .int (M 3 h), .int (M 4 h), .int y, .int z]) (st' := []) (M' := mx_up (mx_up (mx_up (mx_up M 6 (M 5 5).toNatClampNeg (nI h)) 7 (M 5 5).toNatClampNeg y) 8 (M 5 5).toNatClampNeg z) 9 (M 5 5).toNatClampNeg (ju_pg (nI h) y)) rfl ⟨hv, hv, hv, hv, trivial⟩ ?_
  refine mx_ret_v mo_Ju_listOne rfl 20 (M' := mx_up (mx_up (mx_up (mx_up (mx_up (mx_up M 6 (M 5 5).toNatClampNeg (nI h)) 7 (M 5 5).toNatClampNeg y) 8 (M 5 5).toNatClampNeg z) 9 (M 5 5).toNatClampNeg (ju_pg (nI h) y)) 10 (M 5 5).toNatClampNeg (mx_up (mx_up (mx_up (mx_up M 6 (M 5 5).toNatClampNeg (nI h)) 7 (M 5 5).toNatClampNeg y) 8 (M 5 5).toNatClampNeg z) 9 (M 5 5).toNatClampNeg (ju_pg (nI h) y) 9 (M 5 5).toNatClampNeg ||| (1 <<< (z &&& 31)))) 5 5 (M 5 5 + 1)) rfl ⟨hv, hv, trivial⟩ rfl ⟨rfl, ?_⟩
  rw [hN]
  have e : mx_up (mx_up (mx_up (mx_up M 6 N (nI h)) 7 N y) 8 N z) 9 N (ju_pg (nI h) y) 9 N = ju_pg (nI h) y := by simp [mx_up]
  rw [e]
  rfl
theorem ju_one_off {h c : Nat} {a b : Int32} (hc : c < 5 ∨ 10 < c) : ju_one M h a b c = M c := by
  unfold ju_one
  split
  · rfl
  split
  · rfl
  split
  · rfl
  · unfold ju_in
    rw [mx_up_off (by omega), mx_up_off (by omega), mx_up_off (by omega), mx_up_off (by omega), mx_up_off (by omega), mx_up_off (by omega)]
theorem ju_one_n {h n : Nat} {a b : Int32} (hn : n ≤ 120) (hs : M 5 5 = nI n) : ∃ n', n ≤ n' ∧ n' ≤ 120 ∧ ju_one M h a b 5 5 = nI n' := by
  unfold ju_one
  split
  · exact ⟨n, Nat.le_refl _, hn, hs⟩
  split
  · exact ⟨n, Nat.le_refl _, hn, hs⟩
  split
  · exact ⟨n, Nat.le_refl _, hn, hs⟩
  next h3 =>
    rw [hs, show (120 : Int32) = nI 120 from rfl, nI_leI (by decide) (by omega)] at h3
    refine ⟨n + 1, by omega, by omega, ?_⟩
    simp only [ju_in, mx_up, if_true]
    rw [hs, nI_1]
def ju_dir (ra ca : Nat → Int32) (M : mx_M) (h : Nat) : Nat → mx_M
  | 0 => M
  | j + 1 => ju_one (ju_dir ra ca M h j) h (ra j) (ca j)
def ju_all (ra ca : Nat → Int32) (nd : Nat) (M : mx_M) : Nat → mx_M
  | 0 => M
  | h + 1 => ju_dir ra ca (ju_all ra ca nd M h) h nd
theorem ju_dir_off {ra ca : Nat → Int32} {h c : Nat} (hc : c < 5 ∨ 10 < c) : ∀ j, ju_dir ra ca M h j c = M c := by
  intro j
  induction j with
  | zero => rfl
  | succ j ih => rw [ju_dir, ju_one_off hc, ih]
theorem ju_all_off {ra ca : Nat → Int32} {nd c : Nat} (hc : c < 5 ∨ 10 < c) : ∀ h, ju_all ra ca nd M h c = M c := by
  intro h
  induction h with
  | zero => rfl
  | succ h ih => rw [ju_all, ju_dir_off hc, ih]
theorem ju_dir_n {ra ca : Nat → Int32} {h n : Nat} (hn : n ≤ 120) (hs : M 5 5 = nI n) : ∀ j, ∃ n', n' ≤ 120 ∧ ju_dir ra ca M h j 5 5 = nI n' := by
  intro j
  induction j with
  | zero => exact ⟨n, hn, hs⟩
  | succ j ih =>
    obtain ⟨n', h1, h2⟩ := ih
    obtain ⟨n2, -, h4, h5⟩ := ju_one_n (h := h) (a := ra j) (b := ca j) h1 h2
    exact ⟨n2, h4, h5⟩
theorem ju_all_n {ra ca : Nat → Int32} {nd n : Nat} (hn : n ≤ 120) (hs : M 5 5 = nI n) : ∀ h, ∃ n', n' ≤ 120 ∧ ju_all ra ca nd M h 5 5 = nI n' := by
  intro h
  induction h with
  | zero => exact ⟨n, hn, hs⟩
  | succ h ih =>
    obtain ⟨n', h1, h2⟩ := ih
    exact ju_dir_n h1 h2 nd
theorem ct_Ju_listL (hl : l.stackTraces = false) {k1 k2 nd N n : Nat} {ra ca : Nat → Int32} (hnd : nd ≤ 6) (hN : N ≤ 20) (hf : ¬ M 1 4 = 0) (hh : M 1 5 = nI N) (hn : n ≤ 120) (hs : M 5 5 = nI n)
    (hA : ∀ (x y : Int32) (M0 : mx_M), mx_rb mf_Ju (pg_L sc) mt_Ju_list 3 49 [.ref 5, .ref 1, .ref k1, .ref k2, .int x, .int y] [] M0 = some (True, nI nd ≤ y, ¬ nI nd ≤ y, 77, 56, [.ref 5, .ref 1, .ref k1, .ref k2, .int x, .int y], [], M0))
    (hB : ∀ (x y : Int32) (M0 : mx_M), mx_run mf_Ju (pg_L sc) mt_Ju_list 9 56 [.ref 5, .ref 1, .ref k1, .ref k2, .int x, .int y] [] M0 = some (vp_in y nd ∧ vp_in y nd ∧ True, 68, [.ref 5, .ref 1, .ref k1, .ref k2, .int x, .int y], [.int (ca y.toNatClampNeg), .int (ra y.toNatClampNeg), .int x, .ref 1, .ref 5], M0)) :
    ∀ v : Value, mx_E l (pg_L sc) mY_Ju_list (d + 3) 0 (mx_rV (ju_all ra ca nd M N)) 37 [.ref 5, .ref 1, .ref k1, .ref k2, .int (nI 0), v] [] M := by
  have outer : ∀ (m h : Nat), N - h = m → h ≤ N → ∀ v : Value, mx_E l (pg_L sc) mY_Ju_list (d + 3) 0 (mx_rV (ju_all ra ca nd M N)) 37 [.ref 5, .ref 1, .ref k1, .ref k2, .int (nI h), v] [] (ju_all ra ca nd M h) := by
    intro m
    induction m with
    | zero =>
      intro h hm hle v
      have e : h = N := by omega
      subst e
      refine mx_cVi mo_Ju_list 2 (rest := [.int (nI h)]) rfl (ct_Bo_holes hl) rfl trivial rfl rfl rfl kv_Ju_49 kd_Bo_holes rfl rfl rfl ?_
      rw [ju_all_off (by decide), if_neg hf, hh]
      refine mx_if mo_Ju_list 0 (t := 83) (f := 46) rfl trivial (fun h1 => ?_) (fun h1 => ?_)
      · exact mx_ret_v mo_Ju_list rfl 0 rfl trivial rfl ⟨rfl, rfl⟩
      · exact absurd (nI_le (Nat.le_refl h) (by omega)) h1
    | succ m ih =>
      intro h hm hle v
      refine mx_cVi mo_Ju_list 2 (rest := [.int (nI h)]) rfl (ct_Bo_holes hl) rfl trivial rfl rfl rfl kv_Ju_49 kd_Bo_holes rfl rfl rfl ?_
      rw [ju_all_off (by decide), if_neg hf, hh]
      refine mx_if mo_Ju_list 0 (t := 83) (f := 46) rfl trivial (fun h1 => ?_) (fun h1 => ?_)
      · exact absurd h1 (nI_ge (by omega) (by omega))
      have inner : ∀ (m2 j : Nat), nd - j = m2 → j ≤ nd → mx_E l (pg_L sc) mY_Ju_list (d + 3) 0 (mx_rV (ju_all ra ca nd M N)) 49 [.ref 5, .ref 1, .ref k1, .ref k2, .int (nI h), .int (nI j)] [] (ju_dir ra ca (ju_all ra ca nd M h) h j) := by
        intro m2
        induction m2 with
        | zero =>
          intro j hm2 hj
          have e : j = nd := by omega
          subst e
          refine mx_if mo_Ju_list 3 (hA (nI h) (nI j) _) trivial (fun h2 => ?_) (fun h2 => ?_)
          · refine mx_go mo_Ju_list 2 (pc' := 37) (ls' := [.ref 5, .ref 1, .ref k1, .ref k2, .int (nI h + 1), .int (nI j)]) (st' := []) rfl trivial ?_
            rw [nI_1]
            exact ih (h + 1) (by omega) (by omega) _
          · exact absurd (nI_le (Nat.le_refl j) (by omega)) h2
        | succ m2 ih2 =>
          intro j hm2 hj
          have e : (nI j).toNatClampNeg = j := nI_clamp (by omega)
          have hv : vp_in (nI j) nd := vp_in_nI (by omega) (by omega)
          refine mx_if mo_Ju_list 3 (hA (nI h) (nI j) _) trivial (fun h2 => ?_) (fun h2 => ?_)
          · exact absurd h2 (nI_ge (by omega) (by omega))
          obtain ⟨n1, q1, q2⟩ := ju_all_n (ra := ra) (ca := ca) (nd := nd) hn hs h
          obtain ⟨n2, q3, q4⟩ := ju_dir_n (ra := ra) (ca := ca) (h := h) q1 q2 j
          have hB' := hB (nI h) (nI j) (ju_dir ra ca (ju_all ra ca nd M h) h j)
          rw [e] at hB'
          refine mx_cVv mo_Ju_list 9 (As := [.ref 1, .int (nI h), .int (ra j), .int (ca j)]) (rest := []) rfl (ct_Ju_listOne hl (by omega) q3 q4 (ra j) (ca j)) hB' ⟨hv, hv, trivial⟩ rfl rfl rfl kv_Ju_53 kd_Ju_listOne rfl rfl rfl ?_
          refine mx_go mo_Ju_list 2 (pc' := 49) (ls' := [.ref 5, .ref 1, .ref k1, .ref k2, .int (nI h), .int (nI j + 1)]) (st' := []) rfl trivial ?_
          rw [nI_1]
          exact ih2 (j + 1) (by omega) (by omega)
      exact mx_go mo_Ju_list 2 (pc' := 49) (ls' := [.ref 5, .ref 1, .ref k1, .ref k2, .int (nI h), .int (nI 0)]) (st' := []) rfl trivial (inner nd 0 (by omega) (by omega))
  exact outer N 0 (by omega) (by omega)
theorem wk_37 : Cond.fieldLinkNest "PegBoards$Jumps" 37 "PegBoards" "TRIANGULAR_ROW_STEPS" "[I" "PegBoards" ∈ mx_NW := by decide +kernel
theorem wk_40 : Cond.fieldLinkNest "PegBoards$Jumps" 40 "PegBoards" "SQUARE_ROW_STEPS" "[I" "PegBoards" ∈ mx_NW := by decide +kernel
theorem wk_43 : Cond.fieldLinkNest "PegBoards$Jumps" 43 "PegBoards" "TRIANGULAR_COLUMN_STEPS" "[I" "PegBoards" ∈ mx_NW := by decide +kernel
theorem wk_46 : Cond.fieldLinkNest "PegBoards$Jumps" 46 "PegBoards" "SQUARE_COLUMN_STEPS" "[I" "PegBoards" ∈ mx_NW := by decide +kernel
theorem ct_Ju_list (hl : l.stackTraces = false) {N n : Nat} (hN : N ≤ 20) (hf : ¬ M 1 4 = 0) (hh : M 1 5 = nI N) (hn : n ≤ 120) (hs : M 5 5 = nI n) (ht : M 1 3 = 0 ∨ M 1 3 = 1) :
    mx_Ct l (pg_L sc) mY_Ju_list (d + 3) 0 [.ref 5, .ref 1] M (mx_rV (if M 1 3 = 0 then ju_all pg_s1 pg_s2 4 M N else ju_all pg_s3 pg_s4 6 M N)) := by
  refine mx_bd (n0 := 2) hl (by decide +kernel) rfl rfl rfl ?_
  refine mx_cVi mo_Ju_list 1 rfl (ct_Bo_isTriangular hl ht) rfl trivial rfl rfl rfl kv_Ju_31 kd_Bo_isTriangular rfl rfl rfl ?_
  refine mx_if mo_Ju_list 0 (t := 13) (f := 7) rfl trivial (fun h => ?_) (fun h => ?_)
  · rw [if_pos h]
    refine mx_gst mo_Ju_list 0 (i := 0) rfl trivial rfl wk_40 rfl ?_
    refine mx_cVi mo_Ju_list 2 rfl (ct_Bo_isTriangular hl ht) rfl trivial rfl rfl rfl kv_Ju_31 kd_Bo_isTriangular rfl rfl rfl ?_
    refine mx_if mo_Ju_list 0 (t := 30) (f := 24) rfl trivial (fun h2 => ?_) (fun h2 => ?_)
    · refine mx_gst mo_Ju_list 0 (i := 1) rfl trivial rfl wk_46 rfl ?_
      exact mx_go mo_Ju_list 3 (pc' := 37) (ls' := [.ref 5, .ref 1, .ref 1000, .ref 1001, .int (nI 0), .null]) (st' := []) (M' := M) rfl trivial (ct_Ju_listL hl (by decide) hN hf hh hn hs (fun _ _ _ => rfl) (fun _ _ _ => rfl) _)
    · exact absurd h h2
  · rw [if_neg h]
    refine mx_gst mo_Ju_list 0 (i := 2) rfl trivial rfl wk_37 rfl ?_
    refine mx_cVi mo_Ju_list 3 rfl (ct_Bo_isTriangular hl ht) rfl trivial rfl rfl rfl kv_Ju_31 kd_Bo_isTriangular rfl rfl rfl ?_
    refine mx_if mo_Ju_list 0 (t := 30) (f := 24) rfl trivial (fun h2 => ?_) (fun h2 => ?_)
    · exact absurd h2 h
    · refine mx_gst mo_Ju_list 0 (i := 3) rfl trivial rfl wk_43 rfl ?_
      exact mx_go mo_Ju_list 4 (pc' := 37) (ls' := [.ref 5, .ref 1, .ref 1002, .ref 1003, .int (nI 0), .null]) (st' := []) (M' := M) rfl trivial (ct_Ju_listL hl (by decide) hN hf hh hn hs (fun _ _ _ => rfl) (fun _ _ _ => rfl) _)
end JU
