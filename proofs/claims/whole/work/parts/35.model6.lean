/-! PegBoardsModel: weights. -/
section MU
variable {l : Launch} {sc : Nat × (Nat → Int32)} {d : Nat} {M : mx_M}
def mo_sum (f : Nat → Int32) (p : Int32) : Nat → Int32
  | 0 => 0
  | h + 1 => mo_sum f p h + mo_bit p (nI h) * f h
theorem ct_Mo_sumOf (hl : l.stackTraces = false) (p : Int32) : mx_Ct l (pg_L sc) mY_Mo_sumOf (d + 1) 0 [.ref 41, .int p] M (mx_rI (mo_sum (M 52) p 20) M) := by
  have loop : ∀ (m h : Nat), 20 - h = m → h ≤ 20 → mx_E l (pg_L sc) mY_Mo_sumOf (d + 1) 0 (mx_rI (mo_sum (M 52) p 20) M) 4 [.ref 41, .int p, .int (mo_sum (M 52) p h), .int (nI h)] [] M := by
    intro m
    induction m with
    | zero =>
      intro h hm hle
      have e : h = 20 := by omega
      subst e
      refine mx_if mo_Mo_sumOf 2 (t := 31) (f := 10) rfl trivial (fun q => ?_) (fun (q : ¬ nI 20 ≤ nI 20) => absurd (nI_le (Nat.le_refl 20) (by decide)) q)
      exact mx_ret_i mo_Mo_sumOf rfl 1 rfl trivial rfl ⟨rfl, rfl⟩
    | succ m ih =>
      intro h hm hle
      have e : (nI h).toNatClampNeg = h := nI_clamp (by omega)
      have hv : vp_in (nI h) 20 := vp_in_nI (by omega) (by decide)
      refine mx_if mo_Mo_sumOf 2 (t := 31) (f := 10) rfl trivial (fun (q : nI 20 ≤ nI h) => absurd q (nI_ge (by omega) (by decide))) (fun q => ?_)
      refine mx_cSi mo_Mo_sumOf 3 (As := [.int p, .int (nI h)]) (rest := [.int (mo_sum (M 52) p h)]) rfl (ct_Mo_bit hl p (nI h)) rfl trivial rfl ks_Mo_120 kd_Mo_bit rfl rfl rfl ?_
      refine mx_go mo_Mo_sumOf 9 (pc' := 4) (ls' := [.ref 41, .int p, .int (mo_sum (M 52) p h + mo_bit p (nI h) * M 52 (nI h).toNatClampNeg), .int (nI h + 1)]) (st' := []) (M' := M) rfl ⟨hv, trivial⟩ ?_
      rw [e, nI_1]
      exact ih (h + 1) (by omega) (by omega)
  refine mx_bd (n0 := 2) hl (by decide +kernel) rfl rfl rfl ?_
  exact mx_go mo_Mo_sumOf 4 (pc' := 4) (ls' := [.ref 41, .int p, .int 0, .int (nI 0)]) (st' := []) (M' := M) rfl trivial (loop 20 0 (by omega) (by omega))
/-- the model's jumps -/
def mj_ok (M : mx_M) (n : Nat) (fr ov tt : Nat → Nat) (H : Nat) : Prop := M 41 8 = nI n ∧ n ≤ 120 ∧ ∀ k, k < n → M 46 k = nI (fr k) ∧ M 47 k = nI (ov k) ∧ M 48 k = nI (tt k) ∧ fr k < H ∧ ov k < H ∧ tt k < H
def mo_hd (f : Nat → Int32) (fr ov tt : Nat → Nat) : Nat → Int32
  | 0 => 1
  | k + 1 => if mo_hd f fr ov tt k = 0 then 0 else if f (tt k) ≤ f (fr k) + f (ov k) then 1 else 0
theorem mo_hd01 {f : Nat → Int32} {fr ov tt : Nat → Nat} : ∀ k, mo_hd f fr ov tt k = 0 ∨ mo_hd f fr ov tt k = 1 := by
  intro k
  cases k with
  | zero => exact Or.inr rfl
  | succ k =>
    rw [mo_hd]
    split
    · exact Or.inl rfl
    · split
      · exact Or.inr rfl
      · exact Or.inl rfl
theorem ct_Mo_holding (hl : l.stackTraces = false) {J : Nat} {fr ov tt : Nat → Nat} (hj : mj_ok M J fr ov tt 20) : mx_Ct l (pg_L sc) mY_Mo_holding d 0 [.ref 41] M (mx_rI (mo_hd (M 52) fr ov tt J) M) := by
  obtain ⟨hs, hn, hj⟩ := hj
  have loop : ∀ (m k : Nat), J - k = m → k ≤ J → mx_E l (pg_L sc) mY_Mo_holding d 0 (mx_rI (mo_hd (M 52) fr ov tt J) M) 4 [.ref 41, .int (mo_hd (M 52) fr ov tt k), .int (nI k)] [] M := by
    intro m
    induction m with
    | zero =>
      intro k hm hle
      have e : k = J := by omega
      subst e
      refine mx_if mo_Mo_holding 3 (t := 65) (f := 12) rfl trivial (fun _ => ?_) (fun (q : ¬ M 41 8 ≤ nI k) => ?_)
      · exact mx_ret_z mo_Mo_holding rfl 1 rfl trivial rfl (mo_hd01 k) ⟨rfl, rfl⟩
      · rw [hs] at q; exact absurd (nI_le (Nat.le_refl k) (by omega)) q
    | succ m ih =>
      intro k hm hle
      obtain ⟨j1, j2, j3, j4, j5, j6⟩ := hj k (by omega)
      have ek : (nI k).toNatClampNeg = k := nI_clamp (by omega)
      have hv : vp_in (nI k) 120 := vp_in_nI (by omega) (by decide)
      refine mx_if mo_Mo_holding 3 (t := 65) (f := 12) rfl trivial (fun (q : M 41 8 ≤ nI k) => ?_) (fun _ => ?_)
      · rw [hs] at q; exact absurd q (nI_ge (by omega) (by omega))
      have next : ∀ v : Int32, v = mo_hd (M 52) fr ov tt (k + 1) → mx_E l (pg_L sc) mY_Mo_holding d 0 (mx_rI (mo_hd (M 52) fr ov tt J) M) 58 [.ref 41, .int (mo_hd (M 52) fr ov tt k), .int (nI k)] [.int v] M := by
        intro v hv
        refine mx_go mo_Mo_holding 3 (pc' := 4) (ls' := [.ref 41, .int v, .int (nI k + 1)]) (st' := []) (M' := M) rfl trivial ?_
        rw [hv, nI_1]
        exact ih (k + 1) (by omega) (by omega)
      rw [mo_hd] at next
      have bad : (0 : Int32) = (if mo_hd (M 52) fr ov tt k = 0 then 0 else if M 52 (tt k) ≤ M 52 (fr k) + M 52 (ov k) then 1 else 0) → mx_E l (pg_L sc) mY_Mo_holding d 0 (mx_rI (mo_hd (M 52) fr ov tt J) M) 57 [.ref 41, .int (mo_hd (M 52) fr ov tt k), .int (nI k)] [] M := fun h =>
        mx_go mo_Mo_holding 1 (pc' := 58) (ls' := [.ref 41, .int (mo_hd (M 52) fr ov tt k), .int (nI k)]) (st' := [.int 0]) (M' := M) rfl trivial (next 0 h)
      refine mx_if mo_Mo_holding 1 (t := 57) (f := 16) rfl trivial (fun (q : mo_hd (M 52) fr ov tt k = 0) => bad (by rw [if_pos q])) (fun (q : ¬ mo_hd (M 52) fr ov tt k = 0) => ?_)
      rw [if_neg q] at next bad
      have e1 : M 48 (nI k).toNatClampNeg = nI (tt k) := by rw [ek, j3]
      have e2 : M 46 (nI k).toNatClampNeg = nI (fr k) := by rw [ek, j1]
      have e3 : M 47 (nI k).toNatClampNeg = nI (ov k) := by rw [ek, j2]
      have w1 : vp_in (M 48 (nI k).toNatClampNeg) 20 := by rw [e1]; exact vp_in_nI j6 (by decide)
      have w2 : vp_in (M 46 (nI k).toNatClampNeg) 20 := by rw [e2]; exact vp_in_nI j4 (by decide)
      have w3 : vp_in (M 47 (nI k).toNatClampNeg) 20 := by rw [e3]; exact vp_in_nI j5 (by decide)
      have c1 : (nI (tt k)).toNatClampNeg = tt k := nI_clamp (by omega)
      have c2 : (nI (fr k)).toNatClampNeg = fr k := nI_clamp (by omega)
      have c3 : (nI (ov k)).toNatClampNeg = ov k := nI_clamp (by omega)
      refine mx_if mo_Mo_holding 22 (t := 57) (f := 53) rfl ⟨hv, w1, hv, w2, hv, w3, trivial⟩ (fun (q1 : M 52 (M 46 (nI k).toNatClampNeg).toNatClampNeg + M 52 (M 47 (nI k).toNatClampNeg).toNatClampNeg < M 52 (M 48 (nI k).toNatClampNeg).toNatClampNeg) => ?_) (fun (q1 : ¬ M 52 (M 46 (nI k).toNatClampNeg).toNatClampNeg + M 52 (M 47 (nI k).toNatClampNeg).toNatClampNeg < M 52 (M 48 (nI k).toNatClampNeg).toNatClampNeg) => ?_)
      · rw [e1, e2, e3, c1, c2, c3] at q1
        exact bad (by rw [if_neg (Int32.not_le.mpr q1)])
      · rw [e1, e2, e3, c1, c2, c3] at q1
        exact mx_go mo_Mo_holding 2 (pc' := 58) (ls' := [.ref 41, .int (mo_hd (M 52) fr ov tt k), .int (nI k)]) (st' := [.int 1]) (M' := M) rfl trivial (next 1 (by rw [if_pos (Int32.not_lt.mp q1)]))
  refine mx_bd (n0 := 1) hl (by decide +kernel) rfl rfl rfl ?_
  exact mx_go mo_Mo_holding 4 (pc' := 4) (ls' := [.ref 41, .int 1, .int (nI 0)]) (st' := []) (M' := M) rfl trivial (loop J 0 (by omega) (by omega))
def mo_weights (M : mx_M) (fr ov tt : Nat → Nat) (J : Nat) (w : Int32) : Int32 × mx_M :=
  if w < 0 then (0, mx_up M 41 0 1) else if w ≤ 2 then ((if w = 0 then mo_hd (M 52) fr ov tt J else if w = 1 then mo_sum (M 52) (M 41 16) 20 else mo_sum (M 52) (M 41 17) 20), mx_up M 41 0 0) else
  if ¬ M 41 2 = 0 ∧ ¬ w - 3 < 0 ∧ w - 3 < M 41 3 then (M 52 (w - 3).toNatClampNeg, mx_up M 41 0 0) else (0, mx_up M 41 0 1)
theorem w3_of {w : Int32} (h0 : ¬ w < 0) (h2 : w ≤ 2) : w = 0 ∨ w = 1 ∨ w = 2 := by
  rw [Int32.lt_iff_toInt_lt, show (0 : Int32).toInt = 0 from rfl] at h0
  rw [Int32.le_iff_toInt_le, show (2 : Int32).toInt = 2 from rfl] at h2
  exact i3_of h0 (by omega)
theorem w3_no {w : Int32} (h2 : ¬ w ≤ 2) : ¬ w = 0 ∧ ¬ w = 1 ∧ ¬ w = 2 := ⟨fun e => h2 (by rw [e]; decide), fun e => h2 (by rw [e]; decide), fun e => h2 (by rw [e]; decide)⟩
theorem ct_Mo_weights (hl : l.stackTraces = false) {J N : Nat} {fr ov tt : Nat → Nat} (hj : mj_ok M J fr ov tt 20) (hN : N ≤ 20) (hh : M 41 3 = nI N) (w : Int32) : mx_Ct l (pg_L sc) mY_Mo_weights (d + 2) 0 [.ref 41, .int w] M (mx_rI (mo_weights M fr ov tt J w).1 (mo_weights M fr ov tt J w).2) := by
  refine mx_bd (n0 := 2) hl (by decide +kernel) rfl rfl rfl ?_
  have fin : mo_weights M fr ov tt J w = (0, mx_up M 41 0 1) → mx_E l (pg_L sc) mY_Mo_weights (d + 2) 0 (mx_rI (mo_weights M fr ov tt J w).1 (mo_weights M fr ov tt J w).2) 20 [.ref 41, .int w] [.ref 41] M := by
    intro c
    rw [c]
    refine mx_if mo_Mo_weights 5 (t := 37) (f := 35) rfl trivial (fun (q : (1 : Int32) ≤ 0) => absurd q (by decide)) (fun _ => ?_)
    exact mx_ret_i mo_Mo_weights rfl 1 rfl trivial rfl ⟨rfl, rfl⟩
  refine mx_if mo_Mo_weights 2 (t := 20) (f := 5) rfl trivial (fun (q : w < 0) => fin (by rw [mo_weights, if_pos q])) (fun (q1 : ¬ w < 0) => ?_)
  have good : ∀ R : Int32 × mx_M, mx_E l (pg_L sc) mY_Mo_weights (d + 2) 0 (mx_rI R.1 R.2) 37 [.ref 41, .int w] [] (mx_up M 41 0 0) → mx_E l (pg_L sc) mY_Mo_weights (d + 2) 0 (mx_rI R.1 R.2) 24 [.ref 41, .int w] [.ref 41] M := fun R h =>
    mx_if mo_Mo_weights 4 (t := 37) (f := 35) rfl trivial (fun _ => h) (fun (q : ¬ (0 : Int32) ≤ 0) => absurd (by decide) q)
  refine mx_if mo_Mo_weights 2 (t := 24) (f := 10) rfl trivial (fun (q2 : w ≤ 2) => ?_) (fun (q2 : ¬ w ≤ 2) => ?_)
  · rw [mo_weights, if_neg q1, if_pos q2]
    refine good _ ?_
    rcases w3_of q1 q2 with rfl | rfl | rfl
    · rw [if_pos rfl]
      refine mx_if mo_Mo_weights 1 (t := 56) (f := 41) rfl trivial (fun q => absurd rfl q) (fun _ => ?_)
      refine mx_cVi mo_Mo_weights 1 (As := []) (rest := []) rfl (ct_Mo_holding (M := mx_up M 41 0 0) hl hj) rfl trivial rfl rfl rfl kv_Mo_164 kd_Mo_holding rfl rfl rfl ?_
      have h01 := mo_hd01 (f := M 52) (fr := fr) (ov := ov) (tt := tt) J
      refine mx_if mo_Mo_weights 0 (t := 52) (f := 48) rfl trivial (fun (q : mo_hd (M 52) fr ov tt J = 0) => ?_) (fun (q : ¬ mo_hd (M 52) fr ov tt J = 0) => ?_)
      · exact mx_ret_i mo_Mo_weights rfl 2 (v := 0) rfl trivial rfl ⟨by rw [q], rfl⟩
      · exact mx_ret_i mo_Mo_weights rfl 2 (v := 1) rfl trivial rfl ⟨by rw [h01.resolve_left q], rfl⟩
    · rw [if_neg (by decide), if_pos rfl]
      refine mx_if mo_Mo_weights 1 (t := 56) (f := 41) rfl trivial (fun _ => ?_) (fun (q : (1 : Int32) = 0) => absurd q (by decide))
      refine mx_if mo_Mo_weights 2 (t := 72) (f := 61) rfl trivial (fun q => absurd rfl q) (fun _ => ?_)
      refine mx_cVi mo_Mo_weights 3 (As := [.int (M 41 16)]) (rest := []) rfl (ct_Mo_sumOf (M := mx_up M 41 0 0) hl (M 41 16)) rfl trivial rfl rfl rfl kv_Mo_168 kd_Mo_sumOf rfl rfl rfl ?_
      exact mx_ret_i mo_Mo_weights rfl 1 rfl trivial rfl ⟨rfl, rfl⟩
    · rw [if_neg (by decide), if_neg (by decide)]
      refine mx_if mo_Mo_weights 1 (t := 56) (f := 41) rfl trivial (fun _ => ?_) (fun (q : (2 : Int32) = 0) => absurd q (by decide))
      refine mx_if mo_Mo_weights 2 (t := 72) (f := 61) rfl trivial (fun _ => ?_) (fun (q : (2 : Int32) = 1) => absurd q (by decide))
      refine mx_if mo_Mo_weights 2 (t := 88) (f := 77) rfl trivial (fun q => absurd rfl q) (fun _ => ?_)
      refine mx_cVi mo_Mo_weights 3 (As := [.int (M 41 17)]) (rest := []) rfl (ct_Mo_sumOf (M := mx_up M 41 0 0) hl (M 41 17)) rfl trivial rfl rfl rfl kv_Mo_168 kd_Mo_sumOf rfl rfl rfl ?_
      exact mx_ret_i mo_Mo_weights rfl 1 rfl trivial rfl ⟨rfl, rfl⟩
  · refine mx_cVi mo_Mo_weights 4 (As := [.int (w - 3)]) (rest := [.ref 41]) rfl (ct_Mo_noHole hl (w - 3)) rfl trivial rfl rfl rfl kv_Mo_161 kd_Mo_noHole rfl rfl rfl ?_
    by_cases c : ¬ M 41 2 = 0 ∧ ¬ w - 3 < 0 ∧ w - 3 < M 41 3
    · rw [if_pos c, mo_weights, if_neg q1, if_neg q2, if_pos c]
      refine mx_if mo_Mo_weights 0 (t := 24) (f := 20) rfl trivial (fun _ => good _ ?_) (fun q => absurd rfl q)
      obtain ⟨n0, n1, n2⟩ := w3_no q2
      have c2 := c.2
      rw [hh] at c2
      obtain ⟨i, hi, ei⟩ := nI_inJ (by omega) c2
      have hv : vp_in (w - 3) 20 := by rw [ei]; exact vp_in_nI (by omega) (by decide)
      refine mx_if mo_Mo_weights 1 (t := 56) (f := 41) rfl trivial (fun _ => ?_) (fun q => absurd q n0)
      refine mx_if mo_Mo_weights 2 (t := 72) (f := 61) rfl trivial (fun _ => ?_) (fun q => absurd q n1)
      refine mx_if mo_Mo_weights 2 (t := 88) (f := 77) rfl trivial (fun _ => ?_) (fun q => absurd q n2)
      exact mx_ret_i mo_Mo_weights rfl 6 (v := M 52 (w - 3).toNatClampNeg) rfl ⟨hv, trivial⟩ rfl ⟨rfl, rfl⟩
    · rw [if_neg c]
      exact mx_if mo_Mo_weights 0 (t := 24) (f := 20) rfl trivial (fun (q : (1 : Int32) = 0) => absurd q (by decide)) (fun _ => fin (by rw [mo_weights, if_neg q1, if_neg q2, if_neg c]))
end MU
