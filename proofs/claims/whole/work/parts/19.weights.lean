/-! PegBoards$Weights, but its search. -/
section WE
variable {l : Launch} {sc : Nat × (Nat → Int32)} {d : Nat} {M : mx_M}
/-- the class's jumps: n of them, between holes below H -/
def ju_ok (M : mx_M) (n : Nat) (fr ov tt : Nat → Nat) (H : Nat) : Prop := M 5 5 = nI n ∧ n ≤ 120 ∧ ∀ k, k < n → M 6 k = nI (fr k) ∧ M 7 k = nI (ov k) ∧ M 8 k = nI (tt k) ∧ fr k < H ∧ ov k < H ∧ tt k < H
theorem ct_We_forget (hl : l.stackTraces = false) : mx_Ct l (pg_L sc) mY_We_forget (d + 1) 0 [.ref 38] M (mx_rV (pg_fill M 39 20 0)) := by
  refine mx_bd (n0 := 1) hl (by decide +kernel) rfl rfl rfl ?_
  refine mx_cSv mo_We_forget 3 (As := [.ref 39, .int 0]) rfl (ct_fill_39 hl 0) rfl trivial rfl ks_We_18 kd_Ar_fill rfl rfl rfl ?_
  exact mx_ret_v mo_We_forget rfl 0 rfl trivial rfl ⟨rfl, rfl⟩
/-- the sum of the weights of the holes below h that are in the position -/
def we_sum (f : Nat → Int32) (p : Int32) : Nat → Int32
  | 0 => 0
  | h + 1 => if pg_has p (nI h) = 0 then we_sum f p h else we_sum f p h + f h
theorem ct_We_sumOf (hl : l.stackTraces = false) (p : Int32) : mx_Ct l (pg_L sc) mY_We_sumOf (d + 1) 0 [.ref 38, .int p] M (mx_rI (we_sum (M 39) p 20) M) := by
  have loop : ∀ (m h : Nat), 20 - h = m → h ≤ 20 → mx_E l (pg_L sc) mY_We_sumOf (d + 1) 0 (mx_rI (we_sum (M 39) p 20) M) 4 [.ref 38, .int p, .int (we_sum (M 39) p h), .int (nI h)] [] M := by
    intro m
    induction m with
    | zero =>
      intro h hm hle
      have e : h = 20 := by omega
      subst e
      refine mx_if mo_We_sumOf 4 (t := 36) (f := 13) rfl trivial (fun q => ?_) (fun (q : ¬ nI 20 ≤ nI 20) => ?_)
      · exact mx_ret_i mo_We_sumOf rfl 1 rfl trivial rfl ⟨rfl, rfl⟩
      · exact absurd (nI_le (Nat.le_refl 20) (by decide)) q
    | succ m ih =>
      intro h hm hle
      have e : (nI h).toNatClampNeg = h := nI_clamp (by omega)
      have hv : vp_in (nI h) 20 := vp_in_nI (by omega) (by decide)
      refine mx_if mo_We_sumOf 4 (t := 36) (f := 13) rfl trivial (fun (q : nI 20 ≤ nI h) => ?_) (fun q => ?_)
      · exact absurd q (nI_ge (by omega) (by decide))
      refine mx_cNi mo_We_sumOf 2 (As := [.int p, .int (nI h)]) rfl (ct_Pe_contains hl p (nI h)) rfl trivial rfl kn_We_24 kd_Pe_contains rfl rfl rfl ?_
      have hI := ih (h + 1) (by omega) (by omega)
      rw [show we_sum (M 39) p (h + 1) = (if pg_has p (nI h) = 0 then we_sum (M 39) p h else we_sum (M 39) p h + M 39 h) from rfl] at hI
      refine mx_if mo_We_sumOf 0 (t := 30) (f := 21) rfl trivial (fun q2 => ?_) (fun q2 => ?_)
      · rw [if_pos q2] at hI
        refine mx_go mo_We_sumOf 2 (pc' := 4) (ls' := [.ref 38, .int p, .int (we_sum (M 39) p h), .int (nI h + 1)]) (st' := []) (M' := M) rfl trivial ?_
        rw [nI_1]; exact hI
      · rw [if_neg q2] at hI
        refine mx_go mo_We_sumOf 9 (pc' := 4) (ls' := [.ref 38, .int p, .int (we_sum (M 39) p h + M 39 (nI h).toNatClampNeg), .int (nI h + 1)]) (st' := []) (M' := M) rfl ⟨hv, trivial⟩ ?_
        rw [nI_1, e]; exact hI
  refine mx_bd (n0 := 2) hl (by decide +kernel) rfl rfl rfl ?_
  exact mx_go mo_We_sumOf 4 (pc' := 4) (ls' := [.ref 38, .int p, .int 0, .int (nI 0)]) (st' := []) (M' := M) rfl trivial (loop 20 0 (by omega) (by omega))
/-- do the weights f hold at the jumps from k on (m are left) -/
def we_hold (f : Nat → Int32) (fr ov tt : Nat → Nat) : Nat → Nat → Int32
  | 0, _ => 1
  | m + 1, k => if f (tt k) ≤ f (fr k) + f (ov k) then we_hold f fr ov tt m (k + 1) else 0
theorem ct_We_hold (hl : l.stackTraces = false) {n : Nat} {fr ov tt : Nat → Nat} (hj : ju_ok M n fr ov tt 20) : mx_Ct l (pg_L sc) mY_We_hold (d + 1) 0 [.ref 38, .ref 5] M (mx_rI (we_hold (M 39) fr ov tt n 0) M) := by
  obtain ⟨hs, hn, hj⟩ := hj
  have loop : ∀ (m k : Nat), n - k = m → k ≤ n → we_hold (M 39) fr ov tt m k = we_hold (M 39) fr ov tt n 0 → mx_E l (pg_L sc) mY_We_hold (d + 1) 0 (mx_rI (we_hold (M 39) fr ov tt n 0) M) 2 [.ref 38, .ref 5, .int (nI k)] [] M := by
    intro m
    induction m with
    | zero =>
      intro k hm hle he
      have e : k = n := by omega
      subst e
      refine mx_cVi mo_We_hold 2 (rest := [.int (nI k)]) rfl (ct_Ju_size hl) rfl trivial rfl rfl rfl kv_We_28 kd_Ju_size rfl rfl rfl ?_
      rw [hs]
      refine mx_if mo_We_hold 0 (t := 52) (f := 10) rfl trivial (fun q => ?_) (fun q => ?_)
      · exact mx_ret_z mo_We_hold rfl 1 rfl trivial rfl (Or.inr rfl) ⟨by rw [← he]; rfl, rfl⟩
      · exact absurd (nI_le (Nat.le_refl k) (by omega)) q
    | succ m ih =>
      intro k hm hle he
      obtain ⟨j1, j2, j3, j4, j5, j6⟩ := hj k (by omega)
      refine mx_cVi mo_We_hold 2 (rest := [.int (nI k)]) rfl (ct_Ju_size hl) rfl trivial rfl rfl rfl kv_We_28 kd_Ju_size rfl rfl rfl ?_
      rw [hs]
      refine mx_if mo_We_hold 0 (t := 52) (f := 10) rfl trivial (fun q => ?_) (fun q => ?_)
      · exact absurd q (nI_ge (by omega) (by omega))
      refine mx_cVi mo_We_hold 4 (As := [.int (nI k)]) (rest := [.ref 39]) rfl (ct_Ju_to hl (by omega)) rfl trivial rfl rfl rfl kv_We_34 kd_Ju_to rfl rfl rfl ?_
      rw [j3]
      refine mx_go mo_We_hold 5 (pc' := 26) (ls' := [.ref 38, .ref 5, .int (nI k)]) (st' := [.int (nI k), .ref 5, .ref 39, .int (M 39 (nI (tt k)).toNatClampNeg)]) (M' := M) rfl ⟨vp_in_nI j6 (by decide), trivial⟩ ?_
      rw [nI_clamp (n := tt k) (by omega)]
      refine mx_cVi mo_We_hold 0 (As := [.int (nI k)]) (rest := [.ref 39, .int (M 39 (tt k))]) rfl (ct_Ju_from hl (by omega)) rfl trivial rfl rfl rfl kv_We_38 kd_Ju_from rfl rfl rfl ?_
      rw [j1]
      refine mx_go mo_We_hold 5 (pc' := 36) (ls' := [.ref 38, .ref 5, .int (nI k)]) (st' := [.int (nI k), .ref 5, .ref 39, .int (M 39 (nI (fr k)).toNatClampNeg), .int (M 39 (tt k))]) (M' := M) rfl ⟨vp_in_nI j4 (by decide), trivial⟩ ?_
      rw [nI_clamp (n := fr k) (by omega)]
      refine mx_cVi mo_We_hold 0 (As := [.int (nI k)]) (rest := [.ref 39, .int (M 39 (fr k)), .int (M 39 (tt k))]) rfl (ct_Ju_over hl (by omega)) rfl trivial rfl rfl rfl kv_We_41 kd_Ju_over rfl rfl rfl ?_
      rw [j2]
      rw [we_hold] at he
      refine mx_if mo_We_hold 2 (t := 46) (f := 44) rfl ⟨vp_in_nI j5 (by decide), trivial⟩ (fun (q : M 39 (tt k) ≤ M 39 (fr k) + M 39 (nI (ov k)).toNatClampNeg) => ?_) (fun (q : ¬ M 39 (tt k) ≤ M 39 (fr k) + M 39 (nI (ov k)).toNatClampNeg) => ?_)
      · rw [nI_clamp (n := ov k) (by omega)] at q
        rw [if_pos q] at he
        refine mx_go mo_We_hold 2 (pc' := 2) (ls' := [.ref 38, .ref 5, .int (nI k + 1)]) (st' := []) (M' := M) rfl trivial ?_
        rw [nI_1]
        exact ih (k + 1) (by omega) (by omega) he
      · rw [nI_clamp (n := ov k) (by omega)] at q
        rw [if_neg q] at he
        exact mx_ret_z mo_We_hold rfl 1 rfl trivial rfl (Or.inl rfl) ⟨by rw [← he]; rfl, rfl⟩
  refine mx_bd (n0 := 2) hl (by decide +kernel) rfl rfl rfl ?_
  exact mx_go mo_We_hold 2 (pc' := 2) (ls' := [.ref 38, .ref 5, .int (nI 0)]) (st' := []) (M' := M) rfl trivial (loop n 0 (by omega) (by omega) rfl)
def we_mx (a b : Nat) : Nat := if a < b then b else a
theorem we_mx_lt {a b c : Nat} (ha : a < c) (hb : b < c) : we_mx a b < c := by
  unfold we_mx
  split <;> omega
theorem we_mx_I {a b : Nat} (ha : a < 100) (hb : b < 100) : (if nI a < nI b then nI b else nI a) = nI (we_mx a b) := by
  rw [we_mx]
  by_cases h : a < b
  · rw [if_pos (nI_lt h (by omega)), if_pos h]
  · rw [if_neg (by rw [nI_ltI (by omega) (by omega)]; exact h), if_neg h]
/-- do the tried weights hold at the jumps whose last hole is h, from k on (m are left) -/
def we_try (f : Nat → Int32) (fr ov tt : Nat → Nat) (h : Nat) : Nat → Nat → Int32
  | 0, _ => 1
  | m + 1, k => if we_mx (fr k) (we_mx (ov k) (tt k)) = h ∧ ¬ f (tt k) ≤ f (fr k) + f (ov k) then 0 else we_try f fr ov tt h m (k + 1)
theorem ct_We_triedHold (hl : l.stackTraces = false) {n h : Nat} {fr ov tt : Nat → Nat} (hh : h < 8) (hj : ju_ok M n fr ov tt 8) : mx_Ct l (pg_L sc) mY_We_triedHold (d + 1) 0 [.ref 38, .int (nI h), .ref 5] M (mx_rI (we_try (M 40) fr ov tt h n 0) M) := by
  obtain ⟨hs, hn, hj⟩ := hj
  have loop : ∀ (m k : Nat), n - k = m → k ≤ n → we_try (M 40) fr ov tt h m k = we_try (M 40) fr ov tt h n 0 → ∀ x y z : Value, mx_E l (pg_L sc) mY_We_triedHold (d + 1) 0 (mx_rI (we_try (M 40) fr ov tt h n 0) M) 2 [.ref 38, .int (nI h), .ref 5, .int (nI k), x, y, z] [] M := by
    intro m
    induction m with
    | zero =>
      intro k hm hle he x y z
      have e : k = n := by omega
      subst e
      refine mx_cVi mo_We_triedHold 2 (rest := [.int (nI k)]) rfl (ct_Ju_size hl) rfl trivial rfl rfl rfl kv_We_28 kd_Ju_size rfl rfl rfl ?_
      rw [hs]
      refine mx_if mo_We_triedHold 0 (t := 80) (f := 10) rfl trivial (fun q => ?_) (fun q => ?_)
      · exact mx_ret_z mo_We_triedHold rfl 1 rfl trivial rfl (Or.inr rfl) ⟨by rw [← he]; rfl, rfl⟩
      · exact absurd (nI_le (Nat.le_refl k) (by omega)) q
    | succ m ih =>
      intro k hm hle he x y z
      obtain ⟨j1, j2, j3, j4, j5, j6⟩ := hj k (by omega)
      refine mx_cVi mo_We_triedHold 2 (rest := [.int (nI k)]) rfl (ct_Ju_size hl) rfl trivial rfl rfl rfl kv_We_28 kd_Ju_size rfl rfl rfl ?_
      rw [hs]
      refine mx_if mo_We_triedHold 0 (t := 80) (f := 10) rfl trivial (fun q => ?_) (fun q => ?_)
      · exact absurd q (nI_ge (by omega) (by omega))
      refine mx_cVi mo_We_triedHold 2 (As := [.int (nI k)]) (rest := []) rfl (ct_Ju_from hl (by omega)) rfl trivial rfl rfl rfl kv_We_38 kd_Ju_from rfl rfl rfl ?_
      rw [j1]
      refine mx_cVi mo_We_triedHold 3 (As := [.int (nI k)]) (rest := []) rfl (ct_Ju_over hl (by omega)) rfl trivial rfl rfl rfl kv_We_41 kd_Ju_over rfl rfl rfl ?_
      rw [j2]
      refine mx_cVi mo_We_triedHold 3 (As := [.int (nI k)]) (rest := []) rfl (ct_Ju_to hl (by omega)) rfl trivial rfl rfl rfl kv_We_34 kd_Ju_to rfl rfl rfl ?_
      rw [j3]
      refine mx_go mo_We_triedHold 4 (pc' := 37) (ls' := [.ref 38, .int (nI h), .ref 5, .int (nI k), .int (nI (fr k)), .int (nI (ov k)), .int (nI (tt k))]) (st' := [.int (nI (tt k)), .int (nI (ov k)), .int (nI (fr k))]) (M' := M) rfl trivial ?_
      have w1 : we_mx (ov k) (tt k) < 100 := we_mx_lt (by omega) (by omega)
      have w2 : we_mx (fr k) (we_mx (ov k) (tt k)) < 100 := we_mx_lt (by omega) w1
      refine mx_cSi mo_We_triedHold 0 (As := [.int (nI (ov k)), .int (nI (tt k))]) (rest := [.int (nI (fr k))]) rfl (ct_Ma_max hl _ _) rfl trivial rfl ks_We_63 kd_Ma_max rfl rfl rfl ?_
      rw [we_mx_I (by omega) (by omega)]
      refine mx_cSi mo_We_triedHold 0 (As := [.int (nI (fr k)), .int (nI (we_mx (ov k) (tt k)))]) (rest := []) rfl (ct_Ma_max hl _ _) rfl trivial rfl ks_We_63 kd_Ma_max rfl rfl rfl ?_
      rw [we_mx_I (by omega) (by omega)]
      rw [we_try] at he
      have next : we_try (M 40) fr ov tt h m (k + 1) = we_try (M 40) fr ov tt h n 0 → mx_E l (pg_L sc) mY_We_triedHold (d + 1) 0 (mx_rI (we_try (M 40) fr ov tt h n 0) M) 74 [.ref 38, .int (nI h), .ref 5, .int (nI k), .int (nI (fr k)), .int (nI (ov k)), .int (nI (tt k))] [] M := by
        intro he2
        refine mx_go mo_We_triedHold 2 (pc' := 2) (ls' := [.ref 38, .int (nI h), .ref 5, .int (nI k + 1), .int (nI (fr k)), .int (nI (ov k)), .int (nI (tt k))]) (st' := []) (M' := M) rfl trivial ?_
        rw [nI_1]
        exact ih (k + 1) (by omega) (by omega) he2 _ _ _
      refine mx_if mo_We_triedHold 1 (t := 74) (f := 47) rfl trivial (fun q1 => ?_) (fun q1 => ?_)
      · have q2 := fun e => q1 (congrArg nI e)
        rw [if_neg (fun q3 => q2 q3.1)] at he
        exact next he
      · have q2 := (nI_eq (by omega) (by omega)).mp q1
        refine mx_if mo_We_triedHold 13 (t := 74) (f := 72) rfl ⟨vp_in_nI j6 (by decide), vp_in_nI j4 (by decide), vp_in_nI j5 (by decide), trivial⟩ (fun (q3 : M 40 (nI (tt k)).toNatClampNeg ≤ M 40 (nI (fr k)).toNatClampNeg + M 40 (nI (ov k)).toNatClampNeg) => ?_) (fun (q3 : ¬ M 40 (nI (tt k)).toNatClampNeg ≤ M 40 (nI (fr k)).toNatClampNeg + M 40 (nI (ov k)).toNatClampNeg) => ?_)
        · rw [nI_clamp (n := ov k) (by omega), nI_clamp (n := fr k) (by omega), nI_clamp (n := tt k) (by omega)] at q3
          rw [if_neg (fun q4 => q4.2 q3)] at he
          exact next he
        · rw [nI_clamp (n := ov k) (by omega), nI_clamp (n := fr k) (by omega), nI_clamp (n := tt k) (by omega)] at q3
          rw [if_pos ⟨q2, q3⟩] at he
          exact mx_ret_z mo_We_triedHold rfl 1 rfl trivial rfl (Or.inl rfl) ⟨by rw [← he]; rfl, rfl⟩
  refine mx_bd (n0 := 3) hl (by decide +kernel) rfl rfl rfl ?_
  exact mx_go mo_We_triedHold 2 (pc' := 2) (ls' := [.ref 38, .int (nI h), .ref 5, .int (nI 0), .null, .null, .null]) (st' := []) (M' := M) rfl trivial (loop n 0 (by omega) (by omega) rfl _ _ _)
end WE
