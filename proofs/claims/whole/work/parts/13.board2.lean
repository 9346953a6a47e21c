/-! PegBoards$Board: the loops. -/
section BP
variable {l : Launch} {sc : Nat × (Nat → Int32)} {d : Nat} {M : mx_M}
/-- how many of the places below p are drawn -/
def pg_n (D : Nat → Bool) : Nat → Nat
  | 0 => 0
  | p + 1 => pg_n D p + (if D p then 1 else 0)
theorem pg_n_le {D : Nat → Bool} {p q : Nat} (h : p ≤ q) : pg_n D p ≤ pg_n D q := by
  induction q with
  | zero => rw [Nat.le_zero.mp h]; exact Nat.le_refl _
  | succ q ih =>
    by_cases e : p = q + 1
    · rw [e]; exact Nat.le_refl _
    · have := ih (by omega)
      rw [pg_n]; omega
theorem pg_n_lt {D : Nat → Bool} {p q : Nat} (h : p < q) (hp : D p = true) : pg_n D p < pg_n D q := by
  have h1 := pg_n_le (D := D) (show p + 1 ≤ q from h)
  rw [pg_n, hp] at h1
  simp at h1
  omega
/-- the numbers behind Board.numberHoles, up to place p -/
def pg_nh (D : Nat → Bool) (M : mx_M) : Nat → mx_M
  | 0 => M
  | p + 1 => if D p then mx_up (mx_up (mx_up (pg_nh D M p) 2 p (nI (pg_n D p))) 3 (pg_n D p) (nI (p / 8))) 4 (pg_n D p) (nI (p % 8)) else pg_nh D M p
theorem pg_nh_2 {D : Nat → Bool} {q : Nat} : ∀ p, p ≤ q → pg_nh D M p 2 q = M 2 q := by
  intro p
  induction p with
  | zero => intro _; rfl
  | succ p ih =>
    intro h
    rw [pg_nh]
    split
    · rw [mx_up_off (by decide), mx_up_off (by decide), ← ih (by omega)]
      simp [mx_up, show q ≠ p by omega]
    · exact ih (by omega)
theorem ct_Bo_numberHoles (hl : l.stackTraces = false) {D : Nat → Bool} (hD : ∀ p, p < 64 → (M 2 p = -1 ↔ D p = false)) (hc : pg_n D 64 ≤ 20) : mx_Ct l (pg_L sc) mY_Bo_numberHoles d 0 [.ref 1] M (mx_rV (mx_up (pg_nh D M 64) 1 4 1)) := by
  have e8 : (8 : Int32) = nI 8 := rfl
  have loop : ∀ (m p : Nat), 64 - p = m → p ≤ 64 → mx_E l (pg_L sc) mY_Bo_numberHoles d 0 (mx_rV (mx_up (pg_nh D M 64) 1 4 1)) 4 [.ref 1, .int (nI (pg_n D p)), .int (nI p)] [] (pg_nh D M p) := by
    intro m
    induction m with
    | zero =>
      intro p hm hp
      have e : p = 64 := by omega
      subst e
      refine mx_if mo_Bo_numberHoles 4 (t := 65) (f := 13) rfl trivial (fun h => ?_) (fun h => ?_)
      · exact mx_ret_v mo_Bo_numberHoles rfl 3 (M' := mx_up (pg_nh D M 64) 1 4 1) rfl ⟨Or.inr rfl, trivial⟩ rfl ⟨rfl, rfl⟩
      · exact absurd (nI_le (Nat.le_refl 64) (by decide)) h
    | succ m ih =>
      intro p hm hp
      have e : (nI p).toNatClampNeg = p := nI_clamp (by omega)
      have hv : vp_in (nI p) 64 := vp_in_nI (by omega) (by decide)
      refine mx_if mo_Bo_numberHoles 4 (t := 65) (f := 13) rfl trivial (fun (h : nI 64 ≤ nI p) => ?_) (fun h => ?_)
      · exact absurd h (nI_ge (by omega) (by decide))
      refine mx_if mo_Bo_numberHoles 5 (t := 59) (f := 23) rfl ⟨hv, trivial⟩ (fun (h2 : pg_nh D M p 2 (nI p).toNatClampNeg = -1) => ?_) (fun (h2 : ¬ pg_nh D M p 2 (nI p).toNatClampNeg = -1) => ?_)
      · rw [e, pg_nh_2 p (Nat.le_refl p), hD p (by omega)] at h2
        refine mx_go mo_Bo_numberHoles 2 (pc' := 4) (ls' := [.ref 1, .int (nI (pg_n D p)), .int (nI p + 1)]) (st' := []) rfl trivial ?_
        have := ih (p + 1) (by omega) (by omega)
        have e3 : pg_nh D M (p + 1) = pg_nh D M p := by rw [pg_nh, h2]; rfl
        have e4 : pg_n D (p + 1) = pg_n D p := by rw [pg_n, h2]; rfl
        rw [e3, e4] at this
        rw [nI_1]
        exact this
      · rw [e, pg_nh_2 p (Nat.le_refl p), hD p (by omega)] at h2
        have h3 : D p = true := by cases hh : D p <;> simp_all
        have h4 := pg_n_lt (D := D) (show p < 64 by omega) h3
        have e2 : (nI (pg_n D p)).toNatClampNeg = pg_n D p := nI_clamp (by omega)
        have hv2 : vp_in (nI (pg_n D p)) 20 := vp_in_nI (by omega) (by decide)
        refine mx_if mo_Bo_numberHoles 2 (t := 59) (f := 29) rfl trivial (fun (h5 : nI 20 ≤ nI (pg_n D p)) => ?_) (fun h5 => ?_)
        · exact absurd h5 (nI_ge (by omega) (by decide))
        refine mx_go mo_Bo_numberHoles 22 (pc' := 4) (ls' := [.ref 1, .int (nI (pg_n D p) + 1), .int (nI p + 1)]) (st' := []) (M' := mx_up (mx_up (mx_up (pg_nh D M p) 2 (nI p).toNatClampNeg (nI (pg_n D p))) 3 (nI (pg_n D p)).toNatClampNeg (nI p / 8)) 4 (nI (pg_n D p)).toNatClampNeg (nI p - nI p / 8 * 8)) rfl ⟨hv, by decide, hv2, by decide, hv2, trivial⟩ ?_
        rw [e, e2, e8, pk_rem (by omega) (by decide) (by decide), pk_div (by omega) (by decide) (by decide), nI_1, nI_1]
        have := ih (p + 1) (by omega) (by omega)
        have e3 : pg_nh D M (p + 1) = mx_up (mx_up (mx_up (pg_nh D M p) 2 p (nI (pg_n D p))) 3 (pg_n D p) (nI (p / 8))) 4 (pg_n D p) (nI (p % 8)) := by rw [pg_nh, h3]; rfl
        have e4 : pg_n D (p + 1) = pg_n D p + 1 := by rw [pg_n, h3]; rfl
        rw [e3, e4] at this
        exact this
  refine mx_bd (n0 := 1) hl (by decide +kernel) rfl rfl rfl ?_
  exact mx_go mo_Bo_numberHoles 4 (pc' := 4) (ls' := [.ref 1, .int (nI 0), .int (nI 0)]) (st' := []) (M' := M) rfl trivial (loop 64 0 (by omega) (by omega))
def pg_r3 (x : Int32) : Int32 := x - x / 3 * 3
/-- Board.classOf, up to hole h -/
def pg_cls (f g : Nat → Int32) (p : Int32) : Nat → Int32
  | 0 => 0
  | h + 1 => if pg_has p (nI h) = 0 then pg_cls f g p h else pg_cls f g p h ^^^ (4 * pg_col (pg_r3 (f h + g h)) + pg_col (pg_r3 (f h - g h + 9)))
theorem ct_Bo_classOf (hl : l.stackTraces = false) (p : Int32) {n : Nat} (hn : n ≤ 20) (hh : (if M 1 4 = 0 then 0 else M 1 5) = nI n) : mx_Ct l (pg_L sc) mY_Bo_classOf (d + 1) 0 [.ref 1, .int p] M (mx_rI (pg_cls (M 3) (M 4) p n) M) := by
  have loop : ∀ (m i : Nat), n - i = m → i ≤ n → ∀ x y : Value, mx_E l (pg_L sc) mY_Bo_classOf (d + 1) 0 (mx_rI (pg_cls (M 3) (M 4) p n) M) 4 [.ref 1, .int p, .int (pg_cls (M 3) (M 4) p i), .int (nI i), x, y] [] M := by
    intro m
    induction m with
    | zero =>
      intro i hm hi x y
      have e : i = n := by omega
      subst e
      refine mx_cVi mo_Bo_classOf 2 (rest := [.int (nI i)]) rfl (ct_Bo_holes hl) rfl trivial rfl rfl rfl kv_Bo_38 kd_Bo_holes rfl rfl rfl ?_
      rw [hh]
      refine mx_if mo_Bo_classOf 0 (t := 79) (f := 12) rfl trivial (fun h => ?_) (fun h => ?_)
      · exact mx_ret_i mo_Bo_classOf rfl 1 rfl trivial rfl ⟨rfl, rfl⟩
      · exact absurd (nI_le (Nat.le_refl i) (by omega)) h
    | succ m ih =>
      intro i hm hi x y
      have e : (nI i).toNatClampNeg = i := nI_clamp (by omega)
      have hv : vp_in (nI i) 20 := vp_in_nI (by omega) (by decide)
      refine mx_cVi mo_Bo_classOf 2 (rest := [.int (nI i)]) rfl (ct_Bo_holes hl) rfl trivial rfl rfl rfl kv_Bo_38 kd_Bo_holes rfl rfl rfl ?_
      rw [hh]
      refine mx_if mo_Bo_classOf 0 (t := 79) (f := 12) rfl trivial (fun h => ?_) (fun h => ?_)
      · exact absurd h (nI_ge (by omega) (by omega))
      refine mx_cNi mo_Bo_classOf 2 (As := [.int p, .int (nI i)]) rfl (ct_Pe_contains hl p (nI i)) rfl trivial rfl kn_Bo_50 kd_Pe_contains rfl rfl rfl ?_
      refine mx_if mo_Bo_classOf 0 (t := 73) (f := 20) rfl trivial (fun h2 => ?_) (fun h2 => ?_)
      · refine mx_go mo_Bo_classOf 2 (pc' := 4) (ls' := [.ref 1, .int p, .int (pg_cls (M 3) (M 4) p i), .int (nI i + 1), x, y]) (st' := []) (M' := M) rfl trivial ?_
        have := ih (i + 1) (by omega) (by omega) x y
        rw [pg_cls, if_pos h2] at this
        rw [nI_1]; exact this
      · refine mx_go mo_Bo_classOf 26 (pc' := 57) (ls' := [.ref 1, .int p, .int (pg_cls (M 3) (M 4) p i), .int (nI i), .int (pg_r3 (M 3 (nI i).toNatClampNeg + M 4 (nI i).toNatClampNeg)), .int (pg_r3 (M 3 (nI i).toNatClampNeg - M 4 (nI i).toNatClampNeg + 9))]) (st' := []) (M' := M) rfl ⟨hv, hv, by decide, hv, hv, by decide, trivial⟩ ?_
        rw [e]
        refine mx_cSi mo_Bo_classOf 3 (As := [.int (pg_r3 (M 3 i + M 4 i))]) (rest := [.int 4, .int (pg_cls (M 3) (M 4) p i)]) rfl (ct_Bo_colours hl _) rfl trivial rfl ks_Bo_53 kd_Bo_colours rfl rfl rfl ?_
        refine mx_cSi mo_Bo_classOf 2 (As := [.int (pg_r3 (M 3 i - M 4 i + 9))]) (rest := [.int (4 * pg_col (pg_r3 (M 3 i + M 4 i))), .int (pg_cls (M 3) (M 4) p i)]) rfl (ct_Bo_colours hl _) rfl trivial rfl ks_Bo_53 kd_Bo_colours rfl rfl rfl ?_
        refine mx_go mo_Bo_classOf 5 (pc' := 4) (ls' := [.ref 1, .int p, .int (pg_cls (M 3) (M 4) p i ^^^ (4 * pg_col (pg_r3 (M 3 i + M 4 i)) + pg_col (pg_r3 (M 3 i - M 4 i + 9)))), .int (nI i + 1), .int (pg_r3 (M 3 i + M 4 i)), .int (pg_r3 (M 3 i - M 4 i + 9))]) (st' := []) (M' := M) rfl trivial ?_
        have := ih (i + 1) (by omega) (by omega) (.int (pg_r3 (M 3 i + M 4 i))) (.int (pg_r3 (M 3 i - M 4 i + 9)))
        rw [pg_cls, if_neg h2] at this
        rw [nI_1]; exact this
  refine mx_bd (n0 := 2) hl (by decide +kernel) rfl rfl rfl ?_
  exact mx_go mo_Bo_classOf 4 (pc' := 4) (ls' := [.ref 1, .int p, .int 0, .int (nI 0), .null, .null]) (st' := []) (M' := M) rfl trivial (loop n 0 (by omega) (by omega) _ _)
end BP
