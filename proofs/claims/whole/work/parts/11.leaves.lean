/-! Leaves: contracts of methods that call nothing, or little. -/
section LF
variable {l : Launch} {sc : Nat × (Nat → Int32)} {d : Nat} {M : mx_M}
def pg_in (r c : Int32) : Int32 := if r < 0 then 0 else if 8 ≤ r then 0 else if c < 0 then 0 else if 8 ≤ c then 0 else 1
theorem ct_Pe_isPlace (hl : l.stackTraces = false) (r c : Int32) : mx_Ct l (pg_L sc) mY_Pe_isPlace d 0 [.int r, .int c] M (mx_rI (pg_in r c) M) := by
  refine mx_bd (n0 := 2) hl (by decide +kernel) rfl rfl rfl ?_
  refine mx_if mo_Pe_isPlace 1 (t := 24) (f := 4) rfl trivial (fun h => ?_) (fun h => ?_)
  · exact mx_ret_z mo_Pe_isPlace rfl 1 rfl trivial rfl (Or.inl rfl) ⟨by simp [pg_in, h], rfl⟩
  refine mx_if mo_Pe_isPlace 2 (t := 24) (f := 10) rfl trivial (fun (h2 : 8 ≤ r) => ?_) (fun (h2 : ¬ 8 ≤ r) => ?_)
  · exact mx_ret_z mo_Pe_isPlace rfl 1 rfl trivial rfl (Or.inl rfl) ⟨by rw [pg_in, if_neg h, if_pos h2]; rfl, rfl⟩
  refine mx_if mo_Pe_isPlace 1 (t := 24) (f := 14) rfl trivial (fun h3 => ?_) (fun h3 => ?_)
  · exact mx_ret_z mo_Pe_isPlace rfl 1 rfl trivial rfl (Or.inl rfl) ⟨by rw [pg_in, if_neg h, if_neg h2, if_pos h3]; rfl, rfl⟩
  refine mx_if mo_Pe_isPlace 2 (t := 24) (f := 20) rfl trivial (fun (h4 : 8 ≤ c) => ?_) (fun (h4 : ¬ 8 ≤ c) => ?_)
  · exact mx_ret_z mo_Pe_isPlace rfl 1 rfl trivial rfl (Or.inl rfl) ⟨by rw [pg_in, if_neg h, if_neg h2, if_neg h3, if_pos h4]; rfl, rfl⟩
  · exact mx_ret_z mo_Pe_isPlace rfl 2 rfl trivial rfl (Or.inr rfl) ⟨by rw [pg_in, if_neg h, if_neg h2, if_neg h3, if_neg h4]; rfl, rfl⟩
/-- is hole h in the position -/
def pg_has (p h : Int32) : Int32 := if (p >>> (h &&& 31)) &&& 1 = 1 then 1 else 0
theorem ct_Pe_contains (hl : l.stackTraces = false) (p h : Int32) : mx_Ct l (pg_L sc) mY_Pe_contains d 0 [.int p, .int h] M (mx_rI (pg_has p h) M) := by
  refine mx_bd (n0 := 2) hl (by decide +kernel) rfl rfl rfl ?_
  refine mx_if mo_Pe_contains 6 (t := 13) (f := 9) rfl trivial (fun (h2 : ¬ (p >>> (h &&& 31)) &&& 1 = 1) => ?_) (fun (h2 : (p >>> (h &&& 31)) &&& 1 = 1) => ?_)
  · exact mx_ret_z mo_Pe_contains rfl 1 rfl trivial rfl (Or.inl rfl) ⟨by rw [pg_has, if_neg h2]; rfl, rfl⟩
  · exact mx_ret_z mo_Pe_contains rfl 2 rfl trivial rfl (Or.inr rfl) ⟨by rw [pg_has, if_pos h2]; rfl, rfl⟩
theorem ct_Bo_holes (hl : l.stackTraces = false) : mx_Ct l (pg_L sc) mY_Bo_holes d 0 [.ref 1] M (mx_rI (if M 1 4 = 0 then 0 else M 1 5) M) := by
  refine mx_bd (n0 := 1) hl (by decide +kernel) rfl rfl rfl ?_
  refine mx_if mo_Bo_holes 2 (t := 14) (f := 7) rfl trivial (fun h => ?_) (fun h => ?_)
  · exact mx_ret_i mo_Bo_holes rfl 1 rfl trivial rfl ⟨by rw [if_pos h]; rfl, rfl⟩
  · exact mx_ret_i mo_Bo_holes rfl 3 rfl trivial rfl ⟨by rw [if_neg h], rfl⟩
theorem ct_Bo_isTriangular (hl : l.stackTraces = false) (h : M 1 3 = 0 ∨ M 1 3 = 1) : mx_Ct l (pg_L sc) mY_Bo_isTriangular d 0 [.ref 1] M (mx_rI (M 1 3) M) := by
  refine mx_bd (n0 := 1) hl (by decide +kernel) rfl rfl rfl ?_
  exact mx_ret_z mo_Bo_isTriangular rfl 2 rfl trivial rfl h ⟨rfl, rfl⟩
theorem ct_Bo_isFrozen (hl : l.stackTraces = false) (h : M 1 4 = 0 ∨ M 1 4 = 1) : mx_Ct l (pg_L sc) mY_Bo_isFrozen d 0 [.ref 1] M (mx_rI (M 1 4) M) := by
  refine mx_bd (n0 := 1) hl (by decide +kernel) rfl rfl rfl ?_
  exact mx_ret_z mo_Bo_isFrozen rfl 2 rfl trivial rfl h ⟨rfl, rfl⟩
theorem ct_Bo_rowOf (hl : l.stackTraces = false) {i : Nat} (hi : i < 20) : mx_Ct l (pg_L sc) mY_Bo_rowOf d 0 [.ref 1, .int (nI i)] M (mx_rI (M 3 i) M) := by
  refine mx_bd (n0 := 2) hl (by decide +kernel) rfl rfl rfl ?_
  exact mx_ret_i mo_Bo_rowOf rfl 4 rfl ⟨vp_in_nI hi (by decide), trivial⟩ rfl ⟨by rw [nI_clamp (by omega)], rfl⟩
theorem ct_Bo_columnOf (hl : l.stackTraces = false) {i : Nat} (hi : i < 20) : mx_Ct l (pg_L sc) mY_Bo_columnOf d 0 [.ref 1, .int (nI i)] M (mx_rI (M 4 i) M) := by
  refine mx_bd (n0 := 2) hl (by decide +kernel) rfl rfl rfl ?_
  exact mx_ret_i mo_Bo_columnOf rfl 4 rfl ⟨vp_in_nI hi (by decide), trivial⟩ rfl ⟨by rw [nI_clamp (by omega)], rfl⟩
theorem ct_Bo_allHoles (hl : l.stackTraces = false) : mx_Ct l (pg_L sc) mY_Bo_allHoles (d + 1) 0 [.ref 1] M (mx_rI ((1 <<< ((if M 1 4 = 0 then 0 else M 1 5) &&& 31)) - 1) M) := by
  refine mx_bd (n0 := 1) hl (by decide +kernel) rfl rfl rfl ?_
  refine mx_cVi mo_Bo_allHoles 2 rfl (ct_Bo_holes hl) rfl trivial rfl rfl rfl kv_Bo_38 kd_Bo_holes rfl rfl rfl ?_
  exact mx_ret_i mo_Bo_allHoles rfl 3 rfl trivial rfl ⟨rfl, rfl⟩
theorem ct_Ju_size (hl : l.stackTraces = false) : mx_Ct l (pg_L sc) mY_Ju_size d 0 [.ref 5] M (mx_rI (M 5 5) M) := by
  refine mx_bd (n0 := 1) hl (by decide +kernel) rfl rfl rfl ?_
  exact mx_ret_i mo_Ju_size rfl 2 rfl trivial rfl ⟨rfl, rfl⟩
theorem ct_Ju_forget (hl : l.stackTraces = false) : mx_Ct l (pg_L sc) mY_Ju_forget d 0 [.ref 5] M (mx_rV (mx_up M 5 5 0)) := by
  refine mx_bd (n0 := 1) hl (by decide +kernel) rfl rfl rfl ?_
  exact mx_ret_v mo_Ju_forget rfl 3 rfl trivial rfl ⟨rfl, rfl⟩
theorem ct_Ju_from (hl : l.stackTraces = false) {i : Nat} (hi : i < 120) : mx_Ct l (pg_L sc) mY_Ju_from d 0 [.ref 5, .int (nI i)] M (mx_rI (M 6 i) M) := by
  refine mx_bd (n0 := 2) hl (by decide +kernel) rfl rfl rfl ?_
  exact mx_ret_i mo_Ju_from rfl 4 rfl ⟨vp_in_nI hi (by decide), trivial⟩ rfl ⟨by rw [nI_clamp (by omega)], rfl⟩
theorem ct_Ju_over (hl : l.stackTraces = false) {i : Nat} (hi : i < 120) : mx_Ct l (pg_L sc) mY_Ju_over d 0 [.ref 5, .int (nI i)] M (mx_rI (M 7 i) M) := by
  refine mx_bd (n0 := 2) hl (by decide +kernel) rfl rfl rfl ?_
  exact mx_ret_i mo_Ju_over rfl 4 rfl ⟨vp_in_nI hi (by decide), trivial⟩ rfl ⟨by rw [nI_clamp (by omega)], rfl⟩
theorem ct_Ju_to (hl : l.stackTraces = false) {i : Nat} (hi : i < 120) : mx_Ct l (pg_L sc) mY_Ju_to d 0 [.ref 5, .int (nI i)] M (mx_rI (M 8 i) M) := by
  refine mx_bd (n0 := 2) hl (by decide +kernel) rfl rfl rfl ?_
  exact mx_ret_i mo_Ju_to rfl 4 rfl ⟨vp_in_nI hi (by decide), trivial⟩ rfl ⟨by rw [nI_clamp (by omega)], rfl⟩
/-- the position behind a jump -/
def pg_mk (p t g : Int32) : Int32 := if p &&& t = g then p ^^^ t else -1
theorem ct_Ju_make (hl : l.stackTraces = false) (p : Int32) {i : Nat} (hi : i < 120) : mx_Ct l (pg_L sc) mY_Ju_make d 0 [.ref 5, .int p, .int (nI i)] M (mx_rI (pg_mk p (M 10 i) (M 9 i)) M) := by
  have e : (nI i).toNatClampNeg = i := nI_clamp (by omega)
  have hv : vp_in (nI i) 120 := vp_in_nI hi (by decide)
  refine mx_bd (n0 := 3) hl (by decide +kernel) rfl rfl rfl ?_
  refine mx_if mo_Ju_make 10 (t := 28) (f := 17) rfl ⟨hv, hv, trivial⟩ (fun h => ?_) (fun h => ?_)
  · rw [e] at h
    exact mx_ret_i mo_Ju_make rfl 1 rfl trivial rfl ⟨by rw [pg_mk, if_neg h]; rfl, rfl⟩
  · rw [e] at h
    refine mx_ret_i mo_Ju_make rfl 7 (v := p ^^^ M 10 (nI i).toNatClampNeg) rfl ⟨hv, trivial⟩ rfl ⟨?_, rfl⟩
    rw [pg_mk, if_pos h, e]
theorem ct_Sy_size (hl : l.stackTraces = false) : mx_Ct l (pg_L sc) mY_Sy_size d 0 [.ref 11] M (mx_rI (M 11 4) M) := by
  refine mx_bd (n0 := 1) hl (by decide +kernel) rfl rfl rfl ?_
  exact mx_ret_i mo_Sy_size rfl 2 rfl trivial rfl ⟨rfl, rfl⟩
theorem ct_Sy_forget (hl : l.stackTraces = false) : mx_Ct l (pg_L sc) mY_Sy_forget d 0 [.ref 11] M (mx_rV (mx_up M 11 4 0)) := by
  refine mx_bd (n0 := 1) hl (by decide +kernel) rfl rfl rfl ?_
  exact mx_ret_v mo_Sy_forget rfl 3 rfl trivial rfl ⟨rfl, rfl⟩
theorem ct_We_of (hl : l.stackTraces = false) {i : Nat} (hi : i < 20) : mx_Ct l (pg_L sc) mY_We_of d 0 [.ref 38, .int (nI i)] M (mx_rI (M 39 i) M) := by
  refine mx_bd (n0 := 2) hl (by decide +kernel) rfl rfl rfl ?_
  exact mx_ret_i mo_We_of rfl 4 rfl ⟨vp_in_nI hi (by decide), trivial⟩ rfl ⟨by rw [nI_clamp (by omega)], rfl⟩
theorem ct_We_put (hl : l.stackTraces = false) (w : Int32) {i : Nat} (hi : i < 20) : mx_Ct l (pg_L sc) mY_We_put d 0 [.ref 38, .int (nI i), .int w] M (mx_rV (mx_up M 39 i w)) := by
  refine mx_bd (n0 := 3) hl (by decide +kernel) rfl rfl rfl ?_
  exact mx_ret_v mo_We_put rfl 5 rfl ⟨vp_in_nI hi (by decide), trivial⟩ rfl ⟨rfl, by rw [nI_clamp (by omega)]⟩
theorem ct_Re_limitMet (hl : l.stackTraces = false) (h : M 27 6 = 0 ∨ M 27 6 = 1) : mx_Ct l (pg_L sc) mY_Re_limitMet d 0 [.ref 27] M (mx_rI (M 27 6) M) := by
  refine mx_bd (n0 := 1) hl (by decide +kernel) rfl rfl rfl ?_
  exact mx_ret_z mo_Re_limitMet rfl 2 rfl trivial rfl h ⟨rfl, rfl⟩
theorem ct_Ma_min (hl : l.stackTraces = false) {LK : mx_L} (x y : Int32) : mx_Ct l LK mY_Ma_min d 0 [.int x, .int y] M (mx_rI (if y < x then y else x) M) := by
  refine mx_bd (n0 := 2) hl (by decide +kernel) rfl rfl rfl ?_
  refine mx_if mo_Ma_min 2 (t := 9) (f := 5) rfl trivial (fun h => ?_) (fun h => ?_)
  · exact mx_ret_i mo_Ma_min rfl 1 rfl trivial rfl ⟨by rw [if_pos h], rfl⟩
  · exact mx_ret_i mo_Ma_min rfl 2 rfl trivial rfl ⟨by rw [if_neg h], rfl⟩
theorem ct_Ma_max (hl : l.stackTraces = false) {LK : mx_L} (x y : Int32) : mx_Ct l LK mY_Ma_max d 0 [.int x, .int y] M (mx_rI (if x < y then y else x) M) := by
  refine mx_bd (n0 := 2) hl (by decide +kernel) rfl rfl rfl ?_
  refine mx_if mo_Ma_max 2 (t := 9) (f := 5) rfl trivial (fun h => ?_) (fun h => ?_)
  · exact mx_ret_i mo_Ma_max rfl 1 rfl trivial rfl ⟨by rw [if_pos h], rfl⟩
  · exact mx_ret_i mo_Ma_max rfl 2 rfl trivial rfl ⟨by rw [if_neg h], rfl⟩
/-- Arrays.fill -/
def pg_fill (M : mx_M) (k n : Nat) (v : Int32) : mx_M := mx_row M k (fun j => if j < n then v else M k j)
theorem pg_fill_s {k i : Nat} {v : Int32} : mx_up (pg_fill M k i v) k i v = pg_fill M k (i + 1) v := by
  funext a j
  by_cases ha : a = k
  · subst ha
    by_cases hj : j = i
    · subst hj; simp [mx_up, pg_fill, mx_row]
    · by_cases h2 : j < i
      · simp [mx_up, pg_fill, mx_row, hj, h2, Nat.lt_succ_of_lt h2]
      · simp [mx_up, pg_fill, mx_row, hj, h2, show ¬ j < i + 1 by omega]
  · simp [mx_up, pg_fill, mx_row, ha]
theorem pg_fill_0 {k : Nat} {v : Int32} : pg_fill M k 0 v = M := by
  funext a j
  by_cases ha : a = k
  · subst ha; simp [pg_fill, mx_row]
  · simp [pg_fill, mx_row, ha]
theorem ct_Ar_fill (hl : l.stackTraces = false) {LK : mx_L} {k n : Nat} (hn : n < 2 ^ 31) (v : Int32) (h1 : ∀ M0 : mx_M, mx_run mf_Ar LK mt_Ar_fill 5 0 [.ref k, .int v, .null, .null] [] M0 = some (True, 5, [.ref k, .int v, .int (nI 0), .int (nI n)], [], M0))
    (h2 : ∀ (x y : Int32) (M0 : mx_M), mx_run mf_Ar LK mt_Ar_fill 6 10 [.ref k, .int v, .int x, .int y] [] M0 = some (vp_in x n ∧ True, 5, [.ref k, .int v, .int (x + 1), .int y], [], mx_up M0 k x.toNatClampNeg v)) : mx_Ct l LK mY_Ar_fill d 0 [.ref k, .int v] M (mx_rV (pg_fill M k n v)) := by
  have loop : ∀ (m i : Nat), n - i = m → i ≤ n → mx_E l LK mY_Ar_fill d 0 (mx_rV (pg_fill M k n v)) 5 [.ref k, .int v, .int (nI i), .int (nI n)] [] (pg_fill M k i v) := by
    intro m
    induction m with
    | zero =>
      intro i hm hi
      have e : i = n := by omega
      subst e
      refine mx_if mo_Ar_fill 2 (t := 20) (f := 10) rfl trivial (fun h => ?_) (fun h => ?_)
      · exact mx_ret_v mo_Ar_fill rfl 0 rfl trivial rfl ⟨rfl, rfl⟩
      · exact absurd (nI_le (Nat.le_refl i) hn) h
    | succ m ih =>
      intro i hm hi
      have e : (nI i).toNatClampNeg = i := nI_clamp (by omega)
      refine mx_if mo_Ar_fill 2 (t := 20) (f := 10) rfl trivial (fun h => ?_) (fun h => ?_)
      · exact absurd h (nI_ge (by omega) hn)
      · refine mx_go mo_Ar_fill 6 (h2 (nI i) (nI n) _) ⟨vp_in_nI (by omega) hn, trivial⟩ ?_
        rw [e, pg_fill_s, nI_1]
        exact ih (i + 1) (by omega) (by omega)
  refine mx_bd (n0 := 2) hl (by decide +kernel) rfl rfl rfl ?_
  refine mx_go mo_Ar_fill 5 (h1 M) trivial ?_
  have := loop n 0 (by omega) (by omega)
  rw [pg_fill_0] at this
  exact this
theorem ct_fill_2 (hl : l.stackTraces = false) (v : Int32) : mx_Ct l (pg_L sc) mY_Ar_fill d 0 [.ref 2, .int v] M (mx_rV (pg_fill M 2 64 v)) := ct_Ar_fill hl (by decide) v (fun _ => rfl) (fun _ _ _ => rfl)
theorem ct_fill_30 (hl : l.stackTraces = false) (v : Int32) : mx_Ct l (pg_L sc) mY_Ar_fill d 0 [.ref 30, .int v] M (mx_rV (pg_fill M 30 1024 v)) := ct_Ar_fill hl (by decide) v (fun _ => rfl) (fun _ _ _ => rfl)
theorem ct_fill_33 (hl : l.stackTraces = false) (v : Int32) : mx_Ct l (pg_L sc) mY_Ar_fill d 0 [.ref 33, .int v] M (mx_rV (pg_fill M 33 1024 v)) := ct_Ar_fill hl (by decide) v (fun _ => rfl) (fun _ _ _ => rfl)
theorem ct_fill_39 (hl : l.stackTraces = false) (v : Int32) : mx_Ct l (pg_L sc) mY_Ar_fill d 0 [.ref 39, .int v] M (mx_rV (pg_fill M 39 20 v)) := ct_Ar_fill hl (by decide) v (fun _ => rfl) (fun _ _ _ => rfl)
end LF
