/-! PegBoards$Board. -/
section BO
variable {l : Launch} {sc : Nat × (Nat → Int32)} {d : Nat} {M : mx_M}
theorem pg_in_s {r c : Int32} (h : ¬ pg_in r c = 0) : ∃ i j : Nat, i < 8 ∧ j < 8 ∧ r = nI i ∧ c = nI j := by
  unfold pg_in at h
  split at h
  · exact absurd rfl h
  next h1 =>
    split at h
    · exact absurd rfl h
    next h2 =>
      split at h
      · exact absurd rfl h
      next h3 =>
        split at h
        · exact absurd rfl h
        next h4 =>
          obtain ⟨i, hi, rfl⟩ := nI_of h1
          obtain ⟨j, hj, rfl⟩ := nI_of h3
          have e8 : (8 : Int32) = nI 8 := rfl
          rw [e8, nI_leI (by decide) hi] at h2
          rw [e8, nI_leI (by decide) hj] at h4
          exact ⟨i, j, by omega, by omega, rfl, rfl⟩
theorem pg_in_1 {i j : Nat} (hi : i < 8) (hj : j < 8) : pg_in (nI i) (nI j) = 1 := by
  have e8 : (8 : Int32) = nI 8 := rfl
  rw [pg_in, if_neg (nI_pos (by omega)), if_neg (by rw [e8, nI_leI (by decide) (by omega)]; omega), if_neg (nI_pos (by omega)), if_neg (by rw [e8, nI_leI (by decide) (by omega)]; omega)]
theorem pg_ix {i j : Nat} : nI i * 8 + nI j = nI (i * 8 + j) := by
  rw [show (8 : Int32) = nI 8 from rfl, pk_mul, nI_add]
/-- what Board.numberAt answers -/
def pg_at (M : mx_M) (r c : Int32) : Int32 := if M 1 4 = 0 then -1 else if pg_in r c = 0 then -1 else M 2 (r * 8 + c).toNatClampNeg
theorem ct_Bo_numberAt (hl : l.stackTraces = false) (r c : Int32) : mx_Ct l (pg_L sc) mY_Bo_numberAt (d + 1) 0 [.ref 1, .int r, .int c] M (mx_rI (pg_at M r c) M) := by
  refine mx_bd (n0 := 3) hl (by decide +kernel) rfl rfl rfl ?_
  refine mx_if mo_Bo_numberAt 2 (t := 29) (f := 7) rfl trivial (fun h => ?_) (fun h => ?_)
  · exact mx_ret_i mo_Bo_numberAt rfl 1 rfl trivial rfl ⟨by rw [pg_at, if_pos h]; rfl, rfl⟩
  refine mx_cNi mo_Bo_numberAt 2 (As := [.int r, .int c]) rfl (ct_Pe_isPlace hl r c) rfl trivial rfl kn_Bo_42 kd_Pe_isPlace rfl rfl rfl ?_
  refine mx_if mo_Bo_numberAt 0 (t := 29) (f := 15) rfl trivial (fun h2 => ?_) (fun h2 => ?_)
  · exact mx_ret_i mo_Bo_numberAt rfl 1 rfl trivial rfl ⟨by rw [pg_at, if_neg h, if_pos h2]; rfl, rfl⟩
  · obtain ⟨i, j, hi, hj, rfl, rfl⟩ := pg_in_s h2
    have hv : vp_in (nI i * 8 + nI j) 64 := by rw [pg_ix]; exact vp_in_nI (by omega) (by decide)
    exact mx_ret_i mo_Bo_numberAt rfl 9 (v := M 2 (nI i * 8 + nI j).toNatClampNeg) rfl ⟨hv, trivial⟩ rfl ⟨by rw [pg_at, if_neg h, if_neg h2], rfl⟩
def pg_cd (M : mx_M) (q : Nat) : Int32 := if ¬ M 1 4 = 0 then 0 else if 20 ≤ M 1 5 then 0 else if ¬ M 2 q = -1 then 0 else 1
theorem ct_Bo_canDraw (hl : l.stackTraces = false) {i j : Nat} (hi : i < 8) (hj : j < 8) : mx_Ct l (pg_L sc) mY_Bo_canDraw d 0 [.ref 1, .int (nI i), .int (nI j)] M (mx_rI (pg_cd M (i * 8 + j)) M) := by
  have hv : vp_in (nI i * 8 + nI j) 64 := by rw [pg_ix]; exact vp_in_nI (by omega) (by decide)
  have e : (nI i * 8 + nI j).toNatClampNeg = i * 8 + j := by rw [pg_ix]; exact nI_clamp (by omega)
  refine mx_bd (n0 := 3) hl (by decide +kernel) rfl rfl rfl ?_
  refine mx_if mo_Bo_canDraw 2 (t := 35) (f := 7) rfl trivial (fun h => ?_) (fun h => ?_)
  · exact mx_ret_z mo_Bo_canDraw rfl 1 rfl trivial rfl (Or.inl rfl) ⟨by rw [pg_cd, if_pos h]; rfl, rfl⟩
  refine mx_if mo_Bo_canDraw 3 (t := 35) (f := 16) rfl trivial (fun (h2 : 20 ≤ M 1 5) => ?_) (fun (h2 : ¬ 20 ≤ M 1 5) => ?_)
  · exact mx_ret_z mo_Bo_canDraw rfl 1 rfl trivial rfl (Or.inl rfl) ⟨by rw [pg_cd, if_neg (fun q => q h), if_pos h2]; rfl, rfl⟩
  refine mx_if mo_Bo_canDraw 9 (t := 35) (f := 31) rfl ⟨hv, trivial⟩ (fun (h3 : ¬ M 2 (nI i * 8 + nI j).toNatClampNeg = -1) => ?_) (fun (h3 : M 2 (nI i * 8 + nI j).toNatClampNeg = -1) => ?_)
  · rw [e] at h3
    exact mx_ret_z mo_Bo_canDraw rfl 1 rfl trivial rfl (Or.inl rfl) ⟨by rw [pg_cd, if_neg (fun q => q h), if_neg h2, if_pos h3]; rfl, rfl⟩
  · rw [e] at h3
    exact mx_ret_z mo_Bo_canDraw rfl 2 rfl trivial rfl (Or.inr rfl) ⟨by rw [pg_cd, if_neg (fun q => q h), if_neg h2, if_neg (fun q => q h3)]; rfl, rfl⟩
theorem ct_Bo_draw (hl : l.stackTraces = false) {i j : Nat} (hi : i < 8) (hj : j < 8) : mx_Ct l (pg_L sc) mY_Bo_draw d 0 [.ref 1, .int (nI i), .int (nI j)] M (mx_rI (M 1 5 + 1) (mx_up (mx_up M 2 (i * 8 + j) 0) 1 5 (M 1 5 + 1))) := by
  have hv : vp_in (nI i * 8 + nI j) 64 := by rw [pg_ix]; exact vp_in_nI (by omega) (by decide)
  have e : (nI i * 8 + nI j).toNatClampNeg = i * 8 + j := by rw [pg_ix]; exact nI_clamp (by omega)
  refine mx_bd (n0 := 3) hl (by decide +kernel) rfl rfl rfl ?_
  refine mx_go mo_Bo_draw 15 (pc' := 22) (ls' := [.ref 1, .int (nI i), .int (nI j)]) (st' := []) (M' := mx_up (mx_up M 2 (nI i * 8 + nI j).toNatClampNeg 0) 1 5 (M 1 5 + 1)) rfl ⟨hv, trivial⟩ ?_
  rw [e]
  exact mx_ret_i mo_Bo_draw rfl 2 (v := M 1 5 + 1) rfl trivial rfl ⟨rfl, rfl⟩
def pg_cb (M : mx_M) : Int32 := if ¬ M 1 4 = 0 then 0 else if M 1 5 ≤ 0 then 0 else 1
theorem ct_Bo_canBeNumbered (hl : l.stackTraces = false) : mx_Ct l (pg_L sc) mY_Bo_canBeNumbered d 0 [.ref 1] M (mx_rI (pg_cb M) M) := by
  refine mx_bd (n0 := 1) hl (by decide +kernel) rfl rfl rfl ?_
  refine mx_if mo_Bo_canBeNumbered 2 (t := 18) (f := 7) rfl trivial (fun h => ?_) (fun h => ?_)
  · exact mx_ret_z mo_Bo_canBeNumbered rfl 1 rfl trivial rfl (Or.inl rfl) ⟨by rw [pg_cb, if_pos h]; rfl, rfl⟩
  refine mx_if mo_Bo_canBeNumbered 2 (t := 18) (f := 14) rfl trivial (fun h2 => ?_) (fun h2 => ?_)
  · exact mx_ret_z mo_Bo_canBeNumbered rfl 1 rfl trivial rfl (Or.inl rfl) ⟨by rw [pg_cb, if_neg (fun q => q h), if_pos h2]; rfl, rfl⟩
  · exact mx_ret_z mo_Bo_canBeNumbered rfl 2 rfl trivial rfl (Or.inr rfl) ⟨by rw [pg_cb, if_neg (fun q => q h), if_neg h2]; rfl, rfl⟩
def pg_wipe (M : mx_M) (t : Int32) : mx_M := mx_up (mx_up (mx_up (pg_fill M 2 64 (-1)) 1 3 t) 1 4 0) 1 5 0
theorem ct_Bo_wipe (hl : l.stackTraces = false) {t : Int32} (ht : t = 0 ∨ t = 1) : mx_Ct l (pg_L sc) mY_Bo_wipe (d + 1) 0 [.ref 1, .int t] M (mx_rV (pg_wipe M t)) := by
  refine mx_bd (n0 := 2) hl (by decide +kernel) rfl rfl rfl ?_
  refine mx_cSv mo_Bo_wipe 3 (As := [.ref 2, .int (-1)]) rfl (ct_fill_2 hl (-1)) rfl trivial rfl ks_Bo_21 kd_Ar_fill rfl rfl rfl ?_
  exact mx_ret_v mo_Bo_wipe rfl 9 (M' := pg_wipe M t) rfl ⟨ht, Or.inl rfl, trivial⟩ rfl ⟨rfl, rfl⟩
def pg_col (x : Int32) : Int32 := (if x = 2 then 0 else 2) + (if x = 0 then 0 else 1)
theorem ct_Bo_colours (hl : l.stackTraces = false) (x : Int32) : mx_Ct l (pg_L sc) mY_Bo_colours d 0 [.int x] M (mx_rI (pg_col x) M) := by
  refine mx_bd (n0 := 1) hl (by decide +kernel) rfl rfl rfl ?_
  refine mx_if mo_Bo_colours 2 (t := 9) (f := 5) rfl trivial (fun (h : x = 2) => ?_) (fun (h : ¬ x = 2) => ?_)
  · refine mx_if mo_Bo_colours 2 (t := 18) (f := 14) rfl trivial (fun h2 => ?_) (fun h2 => ?_)
    · exact mx_ret_i mo_Bo_colours rfl 2 rfl trivial rfl ⟨by rw [pg_col, if_pos h, if_pos h2]; rfl, rfl⟩
    · exact mx_ret_i mo_Bo_colours rfl 3 rfl trivial rfl ⟨by rw [pg_col, if_pos h, if_neg h2]; rfl, rfl⟩
  · refine mx_if mo_Bo_colours 3 (t := 18) (f := 14) rfl trivial (fun h2 => ?_) (fun h2 => ?_)
    · exact mx_ret_i mo_Bo_colours rfl 2 rfl trivial rfl ⟨by rw [pg_col, if_neg h, if_pos h2]; rfl, rfl⟩
    · exact mx_ret_i mo_Bo_colours rfl 3 rfl trivial rfl ⟨by rw [pg_col, if_neg h, if_neg h2]; rfl, rfl⟩
/-- the least of f 0 .. f k -/
def pg_mn (f : Nat → Int32) : Nat → Int32
  | 0 => f 0
  | k + 1 => if f (k + 1) < pg_mn f k then f (k + 1) else pg_mn f k
theorem ct_Pe_leastIn (hl : l.stackTraces = false) {k n : Nat} (hn : n < 20) (h1 : ∀ M0 : mx_M, mx_run mf_Pe (pg_L sc) mt_Pe_leastIn 6 0 [.ref k, .int (nI (n + 1)), .null, .null] [] M0 = some (vp_in 0 20 ∧ True, 6, [.ref k, .int (nI (n + 1)), .int (M0 k 0), .int (nI 1)], [], M0))
    (h2 : ∀ (x y z : Int32) (M0 : mx_M), mx_run mf_Pe (pg_L sc) mt_Pe_leastIn 4 11 [.ref k, .int x, .int y, .int z] [] M0 = some (vp_in z 20 ∧ True, 15, [.ref k, .int x, .int y, .int z], [.int (M0 k z.toNatClampNeg), .int y], M0)) :
    mx_Ct l (pg_L sc) mY_Pe_leastIn (d + 1) 0 [.ref k, .int (nI (n + 1))] M (mx_rI (pg_mn (M k) n) M) := by
  have loop : ∀ (m i : Nat), n - i = m → i ≤ n → mx_E l (pg_L sc) mY_Pe_leastIn (d + 1) 0 (mx_rI (pg_mn (M k) n) M) 6 [.ref k, .int (nI (n + 1)), .int (pg_mn (M k) i), .int (nI (i + 1))] [] M := by
    intro m
    induction m with
    | zero =>
      intro i hm hi
      have e : i = n := by omega
      subst e
      refine mx_if mo_Pe_leastIn 2 (t := 25) (f := 11) rfl trivial (fun h => ?_) (fun h => ?_)
      · exact mx_ret_i mo_Pe_leastIn rfl 1 rfl trivial rfl ⟨rfl, rfl⟩
      · exact absurd (nI_le (Nat.le_refl _) (by omega)) h
    | succ m ih =>
      intro i hm hi
      have e : (nI (i + 1)).toNatClampNeg = i + 1 := nI_clamp (by omega)
      refine mx_if mo_Pe_leastIn 2 (t := 25) (f := 11) rfl trivial (fun h => ?_) (fun h => ?_)
      · exact absurd h (nI_ge (by omega) (by omega))
      · have h2' := h2 (nI (n + 1)) (pg_mn (M k) i) (nI (i + 1)) M
        rw [e] at h2'
        refine mx_cSi mo_Pe_leastIn 4 (As := [.int (pg_mn (M k) i), .int (M k (i + 1))]) rfl (ct_Ma_min hl _ _) h2' ⟨vp_in_nI (by omega) (by decide), trivial⟩ rfl ks_Pe_219 kd_Ma_min rfl rfl rfl ?_
        refine mx_go mo_Pe_leastIn 3 (pc' := 6) (ls' := [.ref k, .int (nI (n + 1)), .int (pg_mn (M k) (i + 1)), .int (nI (i + 1) + 1)]) (st' := []) (M' := M) rfl trivial ?_
        rw [nI_1]
        exact ih (i + 1) (by omega) (by omega)
  refine mx_bd (n0 := 2) hl (by decide +kernel) rfl rfl rfl ?_
  exact mx_go mo_Pe_leastIn 6 (h1 M) ⟨vp_in_nI (n := 0) (by decide) (by decide), trivial⟩ (loop n 0 (by omega) (by omega))
theorem ct_leastIn_3 (hl : l.stackTraces = false) {n : Nat} (hn : n < 20) : mx_Ct l (pg_L sc) mY_Pe_leastIn (d + 1) 0 [.ref 3, .int (nI (n + 1))] M (mx_rI (pg_mn (M 3) n) M) := ct_Pe_leastIn hl hn (fun _ => rfl) (fun _ _ _ _ => rfl)
theorem ct_leastIn_4 (hl : l.stackTraces = false) {n : Nat} (hn : n < 20) : mx_Ct l (pg_L sc) mY_Pe_leastIn (d + 1) 0 [.ref 4, .int (nI (n + 1))] M (mx_rI (pg_mn (M 4) n) M) := ct_Pe_leastIn hl hn (fun _ => rfl) (fun _ _ _ _ => rfl)
theorem ct_leastIn_25 (hl : l.stackTraces = false) {n : Nat} (hn : n < 20) : mx_Ct l (pg_L sc) mY_Pe_leastIn (d + 1) 0 [.ref 25, .int (nI (n + 1))] M (mx_rI (pg_mn (M 25) n) M) := ct_Pe_leastIn hl hn (fun _ => rfl) (fun _ _ _ _ => rfl)
theorem ct_leastIn_26 (hl : l.stackTraces = false) {n : Nat} (hn : n < 20) : mx_Ct l (pg_L sc) mY_Pe_leastIn (d + 1) 0 [.ref 26, .int (nI (n + 1))] M (mx_rI (pg_mn (M 26) n) M) := ct_Pe_leastIn hl hn (fun _ => rfl) (fun _ _ _ _ => rfl)
theorem ct_Bo_leastRow (hl : l.stackTraces = false) {n : Nat} (hn : n < 20) (hf : ¬ M 1 4 = 0) (hh : M 1 5 = nI (n + 1)) : mx_Ct l (pg_L sc) mY_Bo_leastRow (d + 2) 0 [.ref 1] M (mx_rI (pg_mn (M 3) n) M) := by
  refine mx_bd (n0 := 1) hl (by decide +kernel) rfl rfl rfl ?_
  refine mx_cVi mo_Bo_leastRow 3 (rest := [.ref 3]) rfl (ct_Bo_holes hl) rfl trivial rfl rfl rfl kv_Bo_38 kd_Bo_holes rfl rfl rfl ?_
  rw [if_neg hf, hh]
  refine mx_cNi mo_Bo_leastRow 0 (As := [.ref 3, .int (nI (n + 1))]) rfl (ct_leastIn_3 hl hn) rfl trivial rfl kn_Bo_46 kd_Pe_leastIn rfl rfl rfl ?_
  exact mx_ret_i mo_Bo_leastRow rfl 0 rfl trivial rfl ⟨rfl, rfl⟩
theorem ct_Bo_leastColumn (hl : l.stackTraces = false) {n : Nat} (hn : n < 20) (hf : ¬ M 1 4 = 0) (hh : M 1 5 = nI (n + 1)) : mx_Ct l (pg_L sc) mY_Bo_leastColumn (d + 2) 0 [.ref 1] M (mx_rI (pg_mn (M 4) n) M) := by
  refine mx_bd (n0 := 1) hl (by decide +kernel) rfl rfl rfl ?_
  refine mx_cVi mo_Bo_leastColumn 3 (rest := [.ref 4]) rfl (ct_Bo_holes hl) rfl trivial rfl rfl rfl kv_Bo_38 kd_Bo_holes rfl rfl rfl ?_
  rw [if_neg hf, hh]
  refine mx_cNi mo_Bo_leastColumn 0 (As := [.ref 4, .int (nI (n + 1))]) rfl (ct_leastIn_4 hl hn) rfl trivial rfl kn_Bo_46 kd_Pe_leastIn rfl rfl rfl ?_
  exact mx_ret_i mo_Bo_leastColumn rfl 0 rfl trivial rfl ⟨rfl, rfl⟩
end BO
