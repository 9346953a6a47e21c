/-! PegBoardsModel: the small methods. -/
section MO
variable {l : Launch} {sc : Nat × (Nat → Int32)} {d : Nat} {M : mx_M}
theorem i7 (r : Int32) : 7 < r ↔ 8 ≤ r := by
  rw [Int32.lt_iff_toInt_lt, Int32.le_iff_toInt_le, show (7 : Int32).toInt = 7 from rfl, show (8 : Int32).toInt = 8 from rfl]
  omega
theorem ct_Mo_thrown (hl : l.stackTraces = false) : mx_Ct l (pg_L sc) mY_Mo_thrown d 0 [.ref 41] M (mx_rI (M 41 0) M) := by
  refine mx_bd (n0 := 1) hl (by decide +kernel) rfl rfl rfl ?_
  exact mx_ret_i mo_Mo_thrown rfl 2 rfl trivial rfl ⟨rfl, rfl⟩
theorem ct_Mo_off (hl : l.stackTraces = false) (r c : Int32) : mx_Ct l (pg_L sc) mY_Mo_off d 0 [.int r, .int c] M (mx_rI (if pg_in r c = 0 then 1 else 0) M) := by
  refine mx_bd (n0 := 2) hl (by decide +kernel) rfl rfl rfl ?_
  have fin : pg_in r c = 0 → mx_E l (pg_L sc) mY_Mo_off d 0 (mx_rI (if pg_in r c = 0 then 1 else 0) M) 20 [.int r, .int c] [] M := by
    intro h
    rw [if_pos h]
    exact mx_ret_z mo_Mo_off rfl 2 rfl trivial rfl (Or.inr rfl) ⟨rfl, rfl⟩
  refine mx_if mo_Mo_off 1 (t := 20) (f := 4) rfl trivial (fun (h : r < 0) => fin (by rw [pg_in, if_pos h])) (fun (h1 : ¬ r < 0) => ?_)
  refine mx_if mo_Mo_off 2 (t := 20) (f := 10) rfl trivial (fun (h : 7 < r) => fin (by rw [pg_in, if_neg h1, if_pos ((i7 r).mp h)])) (fun (h2 : ¬ 7 < r) => ?_)
  rw [i7] at h2
  refine mx_if mo_Mo_off 1 (t := 20) (f := 14) rfl trivial (fun (h : c < 0) => fin (by rw [pg_in, if_neg h1, if_neg h2, if_pos h])) (fun (h3 : ¬ c < 0) => ?_)
  refine mx_if mo_Mo_off 2 (t := 24) (f := 20) rfl trivial (fun (h : c ≤ 7) => ?_) (fun (h : ¬ c ≤ 7) => fin (by rw [pg_in, if_neg h1, if_neg h2, if_neg h3, if_pos ((i7 c).mp (Int32.not_le.mp h))]))
  have h4 : ¬ 8 ≤ c := fun q => absurd h (Int32.not_le.mpr ((i7 c).mpr q))
  have h5 : ¬ pg_in r c = 0 := by rw [pg_in, if_neg h1, if_neg h2, if_neg h3, if_neg h4]; decide
  rw [if_neg h5]
  exact mx_ret_z mo_Mo_off rfl 1 rfl trivial rfl (Or.inl rfl) ⟨rfl, rfl⟩
def mo_cl (M : mx_M) (t : Int32) : mx_M := mx_up (mx_up (mx_up (mx_up (mx_up (mx_up (mx_up (mx_up M 41 0 0) 41 1 t) 41 2 0) 41 3 0) 41 8 0) 41 12 0) 41 16 0) 41 17 0
def mo_clear (M : mx_M) (t : Int32) : mx_M := pg_fill (pg_fill (mo_cl M t) 42 64 0) 52 20 0
theorem ct_Mo_clear (hl : l.stackTraces = false) {t : Int32} (ht : t = 0 ∨ t = 1) : mx_Ct l (pg_L sc) mY_Mo_clear d 0 [.ref 41, .int t] M (mx_rV (mo_clear M t)) := by
  have loop2 : ∀ (m i : Nat) (B : mx_M), 20 - i = m → i ≤ 20 → mx_E l (pg_L sc) mY_Mo_clear d 0 (mx_rV (pg_fill B 52 20 0)) 63 [.ref 41, .int t, .int (nI i)] [] (pg_fill B 52 i 0) := by
    intro m
    induction m with
    | zero =>
      intro i B hm hi
      have e : i = 20 := by omega
      subst e
      refine mx_if mo_Mo_clear 2 (t := 82) (f := 69) rfl trivial (fun h => ?_) (fun h => absurd (nI_le (Nat.le_refl 20) (by decide)) h)
      exact mx_ret_v mo_Mo_clear rfl 0 rfl trivial rfl ⟨rfl, rfl⟩
    | succ m ih =>
      intro i B hm hi
      have e : (nI i).toNatClampNeg = i := nI_clamp (by omega)
      refine mx_if mo_Mo_clear 2 (t := 82) (f := 69) rfl trivial (fun (h : nI 20 ≤ nI i) => absurd h (nI_ge (by omega) (by decide))) (fun h => ?_)
      refine mx_go mo_Mo_clear 7 (pc' := 63) (ls' := [.ref 41, .int t, .int (nI i + 1)]) (st' := []) (M' := mx_up (pg_fill B 52 i 0) 52 (nI i).toNatClampNeg 0) rfl ⟨vp_in_nI (N := 20) (by omega) (by decide), trivial⟩ ?_
      rw [e, pg_fill_s, nI_1]
      exact ih (i + 1) B (by omega) (by omega)
  have loop1 : ∀ (m i : Nat), 64 - i = m → i ≤ 64 → mx_E l (pg_L sc) mY_Mo_clear d 0 (mx_rV (mo_clear M t)) 42 [.ref 41, .int t, .int (nI i)] [] (pg_fill (mo_cl M t) 42 i 0) := by
    intro m
    induction m with
    | zero =>
      intro i hm hi
      have e : i = 64 := by omega
      subst e
      refine mx_if mo_Mo_clear 2 (t := 61) (f := 48) rfl trivial (fun h => ?_) (fun h => absurd (nI_le (Nat.le_refl 64) (by decide)) h)
      refine mx_go mo_Mo_clear 2 (pc' := 63) (ls' := [.ref 41, .int t, .int (nI 0)]) (st' := []) (M' := pg_fill (mo_cl M t) 42 64 0) rfl trivial ?_
      have := loop2 20 0 (pg_fill (mo_cl M t) 42 64 0) (by omega) (by omega)
      rw [pg_fill_0] at this
      exact this
    | succ m ih =>
      intro i hm hi
      have e : (nI i).toNatClampNeg = i := nI_clamp (by omega)
      refine mx_if mo_Mo_clear 2 (t := 61) (f := 48) rfl trivial (fun (h : nI 64 ≤ nI i) => absurd h (nI_ge (by omega) (by decide))) (fun h => ?_)
      refine mx_go mo_Mo_clear 7 (pc' := 42) (ls' := [.ref 41, .int t, .int (nI i + 1)]) (st' := []) (M' := mx_up (pg_fill (mo_cl M t) 42 i 0) 42 (nI i).toNatClampNeg 0) rfl ⟨⟨vp_in_nI (N := 64) (by omega) (by decide), Or.inl rfl⟩, trivial⟩ ?_
      rw [e, pg_fill_s, nI_1]
      exact ih (i + 1) (by omega) (by omega)
  refine mx_bd (n0 := 2) hl (by decide +kernel) rfl rfl rfl ?_
  refine mx_go mo_Mo_clear 26 (pc' := 42) (ls' := [.ref 41, .int t, .int (nI 0)]) (st' := []) (M' := mo_cl M t) rfl ⟨ht, Or.inl rfl, trivial⟩ ?_
  have := loop1 64 0 (by omega) (by omega)
  rw [pg_fill_0] at this
  exact this
theorem pg_ix2 {i j : Nat} : 8 * nI i + nI j = nI (i * 8 + j) := by
  rw [show (8 : Int32) = nI 8 from rfl, pk_mul, nI_add, Nat.mul_comm]
def mo_at (M : mx_M) (r c : Int32) : Int32 := if pg_in r c = 0 then -1 else if M 42 (r * 8 + c).toNatClampNeg = 0 then -1 else M 43 (r * 8 + c).toNatClampNeg
theorem ct_Mo_numberAt (hl : l.stackTraces = false) (r c : Int32) : mx_Ct l (pg_L sc) mY_Mo_numberAt (d + 1) 0 [.ref 41, .int r, .int c] M (mx_rI (mo_at M r c) M) := by
  refine mx_bd (n0 := 3) hl (by decide +kernel) rfl rfl rfl ?_
  refine mx_cSi mo_Mo_numberAt 2 (As := [.int r, .int c]) (rest := []) rfl (ct_Mo_off hl r c) rfl trivial rfl ks_Mo_91 kd_Mo_off rfl rfl rfl ?_
  rw [mo_at]
  by_cases h : pg_in r c = 0
  · rw [if_pos h, if_pos h]
    refine mx_if mo_Mo_numberAt 0 (t := 22) (f := 8) rfl trivial (fun _ => ?_) (fun (q : (1 : Int32) = 0) => absurd q (by decide))
    exact mx_ret_i mo_Mo_numberAt rfl 2 rfl trivial rfl ⟨rfl, rfl⟩
  · rw [if_neg h, if_neg h]
    obtain ⟨i, j, hi, hj, rfl, rfl⟩ := pg_in_s h
    have hv : vp_in (8 * nI i + nI j) 64 := by rw [pg_ix2]; exact vp_in_nI (by omega) (by decide)
    have e : (8 * nI i + nI j).toNatClampNeg = (nI i * 8 + nI j).toNatClampNeg := by rw [pg_ix2, pg_ix]
    refine mx_if mo_Mo_numberAt 0 (t := 22) (f := 8) rfl trivial (fun (q : ¬ (0 : Int32) = 0) => absurd rfl q) (fun _ => ?_)
    refine mx_if mo_Mo_numberAt 8 (t := 26) (f := 22) rfl ⟨hv, trivial⟩ (fun (q : ¬ M 42 (8 * nI i + nI j).toNatClampNeg = 0) => ?_) (fun (q : M 42 (8 * nI i + nI j).toNatClampNeg = 0) => ?_)
    · rw [e] at q
      rw [if_neg q]
      exact mx_ret_i mo_Mo_numberAt rfl 8 (v := M 43 (8 * nI i + nI j).toNatClampNeg) rfl ⟨hv, trivial⟩ rfl ⟨by rw [e], rfl⟩
    · rw [e] at q
      rw [if_pos q]
      exact mx_ret_i mo_Mo_numberAt rfl 2 rfl trivial rfl ⟨rfl, rfl⟩
def mo_hole (M : mx_M) (r c : Int32) : Int32 × mx_M := if pg_in r c = 0 then (0, mx_up M 41 0 1) else if ¬ M 41 2 = 0 ∨ ¬ M 42 (r * 8 + c).toNatClampNeg = 0 ∨ M 41 3 = 20 then (0, mx_up (mx_up M 41 0 0) 41 0 2) else (M 41 3 + 1, mx_up (mx_up (mx_up M 41 0 0) 42 (r * 8 + c).toNatClampNeg 1) 41 3 (M 41 3 + 1))
theorem ct_Mo_hole (hl : l.stackTraces = false) (r c : Int32) : mx_Ct l (pg_L sc) mY_Mo_hole (d + 1) 0 [.ref 41, .int r, .int c] M (mx_rI (mo_hole M r c).1 (mo_hole M r c).2) := by
  refine mx_bd (n0 := 3) hl (by decide +kernel) rfl rfl rfl ?_
  refine mx_cSi mo_Mo_hole 3 (As := [.int r, .int c]) (rest := [.ref 41]) rfl (ct_Mo_off hl r c) rfl trivial rfl ks_Mo_91 kd_Mo_off rfl rfl rfl ?_
  rw [mo_hole]
  by_cases h : pg_in r c = 0
  · rw [if_pos h, if_pos h]
    refine mx_if mo_Mo_hole 0 (t := 13) (f := 9) rfl trivial (fun (q : (1 : Int32) = 0) => absurd q (by decide)) (fun _ => ?_)
    refine mx_go mo_Mo_hole 3 (pc' := 17) (ls' := [.ref 41, .int r, .int c]) (st' := []) (M' := mx_up M 41 0 1) rfl trivial ?_
    refine mx_if mo_Mo_hole 2 (t := 59) (f := 24) rfl trivial (fun _ => ?_) (fun (q : (1 : Int32) = 0) => absurd q (by decide))
    refine mx_if mo_Mo_hole 2 (t := 68) (f := 66) rfl trivial (fun (q : (1 : Int32) ≤ 0) => absurd q (by decide)) (fun _ => ?_)
    exact mx_ret_i mo_Mo_hole rfl 1 rfl trivial rfl ⟨rfl, rfl⟩
  · rw [if_neg h, if_neg h]
    obtain ⟨i, j, hi, hj, rfl, rfl⟩ := pg_in_s h
    have hv : vp_in (8 * nI i + nI j) 64 := by rw [pg_ix2]; exact vp_in_nI (by omega) (by decide)
    have e : (8 * nI i + nI j).toNatClampNeg = (nI i * 8 + nI j).toNatClampNeg := by rw [pg_ix2, pg_ix]
    refine mx_if mo_Mo_hole 0 (t := 13) (f := 9) rfl trivial (fun _ => ?_) (fun (q : ¬ (0 : Int32) = 0) => absurd rfl q)
    refine mx_go mo_Mo_hole 2 (pc' := 17) (ls' := [.ref 41, .int (nI i), .int (nI j)]) (st' := []) (M' := mx_up M 41 0 0) rfl trivial ?_
    refine mx_if mo_Mo_hole 2 (t := 59) (f := 24) rfl trivial (fun (q : ¬ (0 : Int32) = 0) => absurd rfl q) (fun _ => ?_)
    generalize hq : (nI i * 8 + nI j).toNatClampNeg = q0 at e ⊢
    have fin : (¬ M 41 2 = 0 ∨ ¬ M 42 q0 = 0 ∨ M 41 3 = 20) → mx_E l (pg_L sc) mY_Mo_hole (d + 1) 0 (mx_rI (if ¬ M 41 2 = 0 ∨ ¬ M 42 q0 = 0 ∨ M 41 3 = 20 then ((0, mx_up (mx_up M 41 0 0) 41 0 2) : Int32 × mx_M) else (M 41 3 + 1, mx_up (mx_up (mx_up M 41 0 0) 42 q0 1) 41 3 (M 41 3 + 1))).1 (if ¬ M 41 2 = 0 ∨ ¬ M 42 q0 = 0 ∨ M 41 3 = 20 then ((0, mx_up (mx_up M 41 0 0) 41 0 2) : Int32 × mx_M) else (M 41 3 + 1, mx_up (mx_up (mx_up M 41 0 0) 42 q0 1) 41 3 (M 41 3 + 1))).2) 54 [.ref 41, .int (nI i), .int (nI j)] [] (mx_up M 41 0 0) := by
      intro c
      rw [if_pos c]
      refine mx_if mo_Mo_hole 5 (t := 68) (f := 66) rfl trivial (fun (q : (2 : Int32) ≤ 0) => absurd q (by decide)) (fun _ => ?_)
      exact mx_ret_i mo_Mo_hole rfl 1 rfl trivial rfl ⟨rfl, rfl⟩
    refine mx_if mo_Mo_hole 2 (t := 54) (f := 31) rfl trivial (fun (q : ¬ M 41 2 = 0) => fin (Or.inl q)) (fun (q1 : M 41 2 = 0) => ?_)
    refine mx_if mo_Mo_hole 8 (t := 54) (f := 45) rfl ⟨hv, trivial⟩ (fun (q : ¬ M 42 (8 * nI i + nI j).toNatClampNeg = 0) => fin (Or.inr (Or.inl (by rw [e] at q; exact q)))) (fun (q2 : M 42 (8 * nI i + nI j).toNatClampNeg = 0) => ?_)
    rw [e] at q2
    refine mx_if mo_Mo_hole 3 (t := 59) (f := 54) rfl trivial (fun (q3 : ¬ M 41 3 = 20) => ?_) (fun (q3 : M 41 3 = 20) => fin (Or.inr (Or.inr q3)))
    rw [if_neg (fun c => c.elim (fun c => c q1) (fun c => c.elim (fun c => c q2) q3))]
    refine mx_if mo_Mo_hole 2 (t := 68) (f := 66) rfl trivial (fun _ => ?_) (fun (q : ¬ (0 : Int32) ≤ 0) => absurd (by decide) q)
    refine mx_ret_i mo_Mo_hole rfl 17 (M' := mx_up (mx_up (mx_up M 41 0 0) 42 (8 * nI i + nI j).toNatClampNeg 1) 41 3 (M 41 3 + 1)) (v := M 41 3 + 1) rfl ⟨⟨hv, Or.inr rfl⟩, trivial⟩ rfl ⟨rfl, by rw [e]⟩
def mo_dn (M : mx_M) (x : Int32) : Int32 := if M 41 1 = 0 then (if x = 1 then 1 else if x = 3 then -1 else 0) else (if x = 1 ∨ x = 2 then 1 else if x = 4 ∨ x = 5 then -1 else 0)
def mo_rt (M : mx_M) (x : Int32) : Int32 := if M 41 1 = 0 then (if x = 0 then 1 else if x = 2 then -1 else 0) else (if x = 0 ∨ x = 5 then 1 else if x = 2 ∨ x = 3 then -1 else 0)
theorem ct_Mo_down (hl : l.stackTraces = false) (x : Int32) : mx_Ct l (pg_L sc) mY_Mo_down d 0 [.ref 41, .int x] M (mx_rI (mo_dn M x) M) := by
  refine mx_bd (n0 := 2) hl (by decide +kernel) rfl rfl rfl ?_
  rw [mo_dn]
  refine mx_if mo_Mo_down 2 (t := 27) (f := 7) rfl trivial (fun (q : ¬ M 41 1 = 0) => ?_) (fun (q : M 41 1 = 0) => ?_)
  · rw [if_neg q]
    have f1 : (x = 1 ∨ x = 2) → mx_E l (pg_L sc) mY_Mo_down d 0 (mx_rI (if x = 1 ∨ x = 2 then 1 else if x = 4 ∨ x = 5 then -1 else 0) M) 37 [.ref 41, .int x] [] M := fun c => mx_ret_i mo_Mo_down rfl 2 (v := 1) rfl trivial rfl ⟨by rw [if_pos c], rfl⟩
    refine mx_if mo_Mo_down 2 (t := 37) (f := 32) rfl trivial (fun q1 => f1 (Or.inl q1)) (fun (q1 : ¬ x = 1) => ?_)
    refine mx_if mo_Mo_down 2 (t := 41) (f := 37) rfl trivial (fun (q2 : ¬ x = 2) => ?_) (fun q2 => f1 (Or.inr q2))
    rw [if_neg (fun c => c.elim q1 q2)]
    have f2 : (x = 4 ∨ x = 5) → mx_E l (pg_L sc) mY_Mo_down d 0 (mx_rI (if x = 4 ∨ x = 5 then -1 else 0) M) 51 [.ref 41, .int x] [] M := fun c => mx_ret_i mo_Mo_down rfl 2 (v := -1) rfl trivial rfl ⟨by rw [if_pos c], rfl⟩
    refine mx_if mo_Mo_down 2 (t := 51) (f := 46) rfl trivial (fun q1 => f2 (Or.inl q1)) (fun (q1 : ¬ x = 4) => ?_)
    refine mx_if mo_Mo_down 2 (t := 55) (f := 51) rfl trivial (fun (q2 : ¬ x = 5) => ?_) (fun q2 => f2 (Or.inr q2))
    exact mx_ret_i mo_Mo_down rfl 1 (v := 0) rfl trivial rfl ⟨by rw [if_neg (fun c => c.elim q1 q2)], rfl⟩
  · rw [if_pos q]
    refine mx_if mo_Mo_down 2 (t := 16) (f := 12) rfl trivial (fun (q1 : ¬ x = 1) => ?_) (fun (q1 : x = 1) => ?_)
    · rw [if_neg q1]
      refine mx_if mo_Mo_down 2 (t := 25) (f := 21) rfl trivial (fun (q1 : ¬ x = 3) => ?_) (fun (q1 : x = 3) => ?_)
      · exact mx_ret_i mo_Mo_down rfl 1 (v := 0) rfl trivial rfl ⟨by rw [if_neg q1], rfl⟩
      · exact mx_ret_i mo_Mo_down rfl 2 (v := -1) rfl trivial rfl ⟨by rw [if_pos q1], rfl⟩
    · exact mx_ret_i mo_Mo_down rfl 2 (v := 1) rfl trivial rfl ⟨by rw [if_pos q1], rfl⟩
theorem ct_Mo_right (hl : l.stackTraces = false) (x : Int32) : mx_Ct l (pg_L sc) mY_Mo_right d 0 [.ref 41, .int x] M (mx_rI (mo_rt M x) M) := by
  refine mx_bd (n0 := 2) hl (by decide +kernel) rfl rfl rfl ?_
  rw [mo_rt]
  refine mx_if mo_Mo_right 2 (t := 26) (f := 7) rfl trivial (fun (q : ¬ M 41 1 = 0) => ?_) (fun (q : M 41 1 = 0) => ?_)
  · rw [if_neg q]
    have f1 : (x = 0 ∨ x = 5) → mx_E l (pg_L sc) mY_Mo_right d 0 (mx_rI (if x = 0 ∨ x = 5 then 1 else if x = 2 ∨ x = 3 then -1 else 0) M) 35 [.ref 41, .int x] [] M := fun c => mx_ret_i mo_Mo_right rfl 2 (v := 1) rfl trivial rfl ⟨by rw [if_pos c], rfl⟩
    refine mx_if mo_Mo_right 1 (t := 35) (f := 30) rfl trivial (fun q1 => f1 (Or.inl q1)) (fun (q1 : ¬ x = 0) => ?_)
    refine mx_if mo_Mo_right 2 (t := 39) (f := 35) rfl trivial (fun (q2 : ¬ x = 5) => ?_) (fun q2 => f1 (Or.inr q2))
    rw [if_neg (fun c => c.elim q1 q2)]
    have f2 : (x = 2 ∨ x = 3) → mx_E l (pg_L sc) mY_Mo_right d 0 (mx_rI (if x = 2 ∨ x = 3 then -1 else 0) M) 49 [.ref 41, .int x] [] M := fun c => mx_ret_i mo_Mo_right rfl 2 (v := -1) rfl trivial rfl ⟨by rw [if_pos c], rfl⟩
    refine mx_if mo_Mo_right 2 (t := 49) (f := 44) rfl trivial (fun q1 => f2 (Or.inl q1)) (fun (q1 : ¬ x = 2) => ?_)
    refine mx_if mo_Mo_right 2 (t := 53) (f := 49) rfl trivial (fun (q2 : ¬ x = 3) => ?_) (fun q2 => f2 (Or.inr q2))
    exact mx_ret_i mo_Mo_right rfl 1 (v := 0) rfl trivial rfl ⟨by rw [if_neg (fun c => c.elim q1 q2)], rfl⟩
  · rw [if_pos q]
    refine mx_if mo_Mo_right 1 (t := 15) (f := 11) rfl trivial (fun (q1 : ¬ x = 0) => ?_) (fun (q1 : x = 0) => ?_)
    · rw [if_neg q1]
      refine mx_if mo_Mo_right 2 (t := 24) (f := 20) rfl trivial (fun (q1 : ¬ x = 2) => ?_) (fun (q1 : x = 2) => ?_)
      · exact mx_ret_i mo_Mo_right rfl 1 (v := 0) rfl trivial rfl ⟨by rw [if_neg q1], rfl⟩
      · exact mx_ret_i mo_Mo_right rfl 2 (v := -1) rfl trivial rfl ⟨by rw [if_pos q1], rfl⟩
    · exact mx_ret_i mo_Mo_right rfl 2 (v := 1) rfl trivial rfl ⟨by rw [if_pos q1], rfl⟩
theorem ct_Mo_turns (hl : l.stackTraces = false) : mx_Ct l (pg_L sc) mY_Mo_turns d 0 [.ref 41] M (mx_rI (if M 41 1 = 0 then 4 else 6) M) := by
  refine mx_bd (n0 := 1) hl (by decide +kernel) rfl rfl rfl ?_
  refine mx_if mo_Mo_turns 2 (t := 12) (f := 7) rfl trivial (fun (q : M 41 1 = 0) => ?_) (fun (q : ¬ M 41 1 = 0) => ?_)
  · exact mx_ret_i mo_Mo_turns rfl 1 (v := 4) rfl trivial rfl ⟨by rw [if_pos q], rfl⟩
  · exact mx_ret_i mo_Mo_turns rfl 2 (v := 6) rfl trivial rfl ⟨by rw [if_neg q], rfl⟩
theorem ct_Mo_at (hl : l.stackTraces = false) (r c : Int32) : mx_Ct l (pg_L sc) mY_Mo_at (d + 2) 0 [.ref 41, .int r, .int c] M (mx_rI (if M 41 2 = 0 then -1 else mo_at M r c) (mx_up M 41 0 0)) := by
  refine mx_bd (n0 := 3) hl (by decide +kernel) rfl rfl rfl ?_
  refine mx_if mo_Mo_at 5 (t := 21) (f := 12) rfl trivial (fun (q : M 41 2 = 0) => ?_) (fun (q : ¬ M 41 2 = 0) => ?_)
  · exact mx_ret_i mo_Mo_at rfl 1 (v := -1) rfl trivial rfl ⟨by rw [if_pos q], rfl⟩
  · rw [if_neg q]
    refine mx_cVi mo_Mo_at 3 (As := [.int r, .int c]) (rest := []) rfl (ct_Mo_numberAt hl r c) rfl trivial rfl rfl rfl kv_Mo_99 kd_Mo_numberAt rfl rfl rfl ?_
    exact mx_ret_i mo_Mo_at rfl 1 rfl trivial rfl ⟨rfl, rfl⟩
theorem ct_Mo_noJump (hl : l.stackTraces = false) (k : Int32) : mx_Ct l (pg_L sc) mY_Mo_noJump d 0 [.ref 41, .int k] M (mx_rI (if ¬ k < 0 ∧ k < M 41 8 then 0 else 1) M) := by
  refine mx_bd (n0 := 2) hl (by decide +kernel) rfl rfl rfl ?_
  have fin : ¬ (¬ k < 0 ∧ k < M 41 8) → mx_E l (pg_L sc) mY_Mo_noJump d 0 (mx_rI (if ¬ k < 0 ∧ k < M 41 8 then 0 else 1) M) 12 [.ref 41, .int k] [] M := fun c => mx_ret_z mo_Mo_noJump rfl 2 rfl trivial rfl (Or.inr rfl) ⟨by rw [if_neg c]; rfl, rfl⟩
  refine mx_if mo_Mo_noJump 1 (t := 12) (f := 4) rfl trivial (fun q => fin (fun c => c.1 q)) (fun q => ?_)
  refine mx_if mo_Mo_noJump 3 (t := 16) (f := 12) rfl trivial (fun q1 => ?_) (fun q1 => fin (fun c => q1 c.2))
  exact mx_ret_z mo_Mo_noJump rfl 1 rfl trivial rfl (Or.inl rfl) ⟨by rw [if_pos ⟨q, q1⟩]; rfl, rfl⟩
def mo_all (M : mx_M) : Int32 := if M 41 2 = 0 then 1 else 1 <<< (M 41 3 &&& 31)
theorem ct_Mo_noPosition (hl : l.stackTraces = false) (k : Int32) : mx_Ct l (pg_L sc) mY_Mo_noPosition d 0 [.ref 41, .int k] M (mx_rI (if ¬ k < 0 ∧ k < mo_all M then 0 else 1) M) := by
  refine mx_bd (n0 := 2) hl (by decide +kernel) rfl rfl rfl ?_
  have fin : ¬ (¬ k < 0 ∧ k < mo_all M) → mx_E l (pg_L sc) mY_Mo_noPosition d 0 (mx_rI (if ¬ k < 0 ∧ k < mo_all M then 0 else 1) M) 25 [.ref 41, .int k] [] M := fun c => mx_ret_z mo_Mo_noPosition rfl 2 rfl trivial rfl (Or.inr rfl) ⟨by rw [if_neg c]; rfl, rfl⟩
  refine mx_if mo_Mo_noPosition 1 (t := 25) (f := 4) rfl trivial (fun q => fin (fun c => c.1 q)) (fun (q : ¬ k < 0) => ?_)
  have mid : mx_E l (pg_L sc) mY_Mo_noPosition d 0 (mx_rI (if ¬ k < 0 ∧ k < mo_all M then 0 else 1) M) 22 [.ref 41, .int k] [.int (mo_all M), .int k] M := by
    refine mx_if mo_Mo_noPosition 0 (t := 29) (f := 25) rfl trivial (fun q1 => ?_) (fun q1 => fin (fun c => q1 c.2))
    exact mx_ret_z mo_Mo_noPosition rfl 1 rfl trivial rfl (Or.inl rfl) ⟨by rw [if_pos ⟨q, q1⟩]; rfl, rfl⟩
  refine mx_if mo_Mo_noPosition 3 (t := 21) (f := 12) rfl trivial (fun (q1 : M 41 2 = 0) => ?_) (fun (q1 : ¬ M 41 2 = 0) => ?_)
  · rw [show mo_all M = 1 by rw [mo_all, if_pos q1]] at mid ⊢
    exact mx_go mo_Mo_noPosition 1 (pc' := 22) (ls' := [.ref 41, .int k]) (st' := [.int 1, .int k]) (M' := M) rfl trivial mid
  · rw [show mo_all M = 1 <<< (M 41 3 &&& 31) by rw [mo_all, if_neg q1]] at mid ⊢
    exact mx_go mo_Mo_noPosition 5 (pc' := 22) (ls' := [.ref 41, .int k]) (st' := [.int (1 <<< (M 41 3 &&& 31)), .int k]) (M' := M) rfl trivial mid
end MO
