/-! PegBoards$Found, for its two objects; printed by wip/whole/found.py. -/
section FO
variable {l : Launch} {sc : Nat × (Nat → Int32)} {d : Nat} {M : mx_M}
def fo_x (p : Int32) : Int32 := (p ^^^ (p >>> ((10 : Int32) &&& 31))) &&& 1023
def fo_h (p : Int32) : Nat := (fo_x p).toNatClampNeg
theorem fo_hx (p : Int32) : fo_x p = nI (fo_h p) ∧ fo_h p < 1024 := by
  obtain ⟨j, hj, e⟩ := pk_andE (p ^^^ (p >>> ((10 : Int32) &&& 31))) (m := 1023) 10 (by decide)
  have e2 : fo_x p = nI j := e
  have e3 : fo_h p = j := by rw [fo_h, e2]; exact nI_clamp (by omega)
  rw [e3]
  exact ⟨e2, hj⟩
theorem fo_nx {t : Nat} (ht : t < 1024) : (nI t + 1) &&& 1023 = nI ((t + 1) % 1024) := by
  rw [nI_1, pk_andN (by omega) (m := 1023) 10 (by decide)]
def fo_ok (S : Nat → Int32) : Prop := ∀ t, t < 1024 → S t = 0 ∨ ∃ i, i < 500 ∧ S t = nI (i + 1)
theorem ct_Fo0_size (hl : l.stackTraces = false) : mx_Ct l (pg_L sc) mY_Fo_size d 0 [.ref 28] M (mx_rI (M 28 2) M) := by
  refine mx_bd (n0 := 1) hl (by decide +kernel) rfl rfl rfl ?_
  exact mx_ret_i mo_Fo_size rfl 2 rfl trivial rfl ⟨rfl, rfl⟩
theorem ct_Fo0_positionOf (hl : l.stackTraces = false) {i : Nat} (hi : i < 500) : mx_Ct l (pg_L sc) mY_Fo_positionOf d 0 [.ref 28, .int (nI i)] M (mx_rI (M 29 i) M) := by
  refine mx_bd (n0 := 2) hl (by decide +kernel) rfl rfl rfl ?_
  exact mx_ret_i mo_Fo_positionOf rfl 4 rfl ⟨vp_in_nI hi (by decide), trivial⟩ rfl ⟨by rw [nI_clamp (by omega)], rfl⟩
theorem ct_Fo0_forget (hl : l.stackTraces = false) : mx_Ct l (pg_L sc) mY_Fo_forget (d + 1) 0 [.ref 28] M (mx_rV (mx_up (pg_fill M 30 1024 0) 28 2 0)) := by
  refine mx_bd (n0 := 1) hl (by decide +kernel) rfl rfl rfl ?_
  refine mx_cSv mo_Fo_forget 3 (As := [.ref 30, .int 0]) rfl (ct_fill_30 hl 0) rfl trivial rfl ks_Fo_18 kd_Ar_fill rfl rfl rfl ?_
  exact mx_ret_v mo_Fo_forget rfl 3 (M' := mx_up (pg_fill M 30 1024 0) 28 2 0) rfl trivial rfl ⟨rfl, rfl⟩
theorem ct_Fo0_isFreeOrHas (hl : l.stackTraces = false) (hS : fo_ok (M 30)) (p : Int32) {t : Nat} (ht : t < 1024) : mx_Ct l (pg_L sc) mY_Fo_isFreeOrHas d 0 [.ref 28, .int (nI t), .int p] M (mx_rI (if M 30 t = 0 ∨ M 29 ((M 30 t).toNatClampNeg - 1) = p then 1 else 0) M) := by
  have e : (nI t).toNatClampNeg = t := nI_clamp (by omega)
  have hv : vp_in (nI t) 1024 := vp_in_nI ht (by decide)
  refine mx_bd (n0 := 3) hl (by decide +kernel) rfl rfl rfl ?_
  refine mx_if mo_Fo_isFreeOrHas 4 (t := 26) (f := 9) rfl ⟨hv, trivial⟩ (fun h => ?_) (fun h => ?_)
  · rw [e] at h
    exact mx_ret_z mo_Fo_isFreeOrHas rfl 2 rfl trivial rfl (Or.inr rfl) ⟨by rw [if_pos (Or.inl h)]; rfl, rfl⟩
  · rw [e] at h
    obtain ⟨i, hi, ei⟩ := (hS t ht).resolve_left h
    have e2 : M 30 (nI t).toNatClampNeg - 1 = nI i := by rw [e, ei]; exact nI_pred i
    have e3 : (nI i).toNatClampNeg = i := nI_clamp (by omega)
    have hw : vp_in (M 30 (nI t).toNatClampNeg - 1) 500 := by rw [e2]; exact vp_in_nI hi (by decide)
    refine mx_if mo_Fo_isFreeOrHas 10 (t := 30) (f := 26) rfl ⟨hv, hw, trivial⟩ (fun (h2 : ¬ M 29 (M 30 (nI t).toNatClampNeg - 1).toNatClampNeg = p) => ?_) (fun (h2 : M 29 (M 30 (nI t).toNatClampNeg - 1).toNatClampNeg = p) => ?_)
    · rw [e2, e3] at h2
      exact mx_ret_z mo_Fo_isFreeOrHas rfl 1 rfl trivial rfl (Or.inl rfl) ⟨by rw [if_neg (by rw [ei, nI_clamp (by omega)]; rintro (q | q); exact nI_ne0 (by omega) (by omega) q; exact h2 q)]; rfl, rfl⟩
    · rw [e2, e3] at h2
      exact mx_ret_z mo_Fo_isFreeOrHas rfl 2 rfl trivial rfl (Or.inr rfl) ⟨by rw [if_pos (Or.inr (by rw [ei, nI_clamp (by omega)]; exact h2))]; rfl, rfl⟩
theorem ct_Fo0_slotFor (hl : l.stackTraces = false) (hS : fo_ok (M 30)) (p : Int32) : mx_Ct l (pg_L sc) mY_Fo_slotFor (d + 1) 0 [.ref 28, .int p] M (mx_rI (nI (hs_f (M 30) (M 29) p 1024 (fo_h p))) M) := by
  have loop : ∀ (m t : Nat), m ≤ 1024 → t < 1024 → hs_f (M 30) (M 29) p m t = hs_f (M 30) (M 29) p 1024 (fo_h p) → mx_E l (pg_L sc) mY_Fo_slotFor (d + 1) 0 (mx_rI (nI (hs_f (M 30) (M 29) p 1024 (fo_h p))) M) 13 [.ref 28, .int p, .int (nI t), .int (nI (1024 - m))] [] M := by
    intro m
    induction m with
    | zero =>
      intro t hm ht he
      refine mx_if mo_Fo_slotFor 2 (t := 43) (f := 20) rfl trivial (fun (h : nI 1024 ≤ nI (1024 - 0)) => ?_) (fun (h : ¬ nI 1024 ≤ nI (1024 - 0)) => ?_)
      · exact mx_ret_i mo_Fo_slotFor rfl 1 (v := nI t) rfl trivial rfl ⟨by rw [← he]; rfl, rfl⟩
      · exact absurd (nI_le (by omega) (by decide)) h
    | succ m ih =>
      intro t hm ht he
      refine mx_if mo_Fo_slotFor 2 (t := 43) (f := 20) rfl trivial (fun (h : nI 1024 ≤ nI (1024 - (m + 1))) => ?_) (fun h => ?_)
      · exact absurd h (nI_ge (by omega) (by decide))
      refine mx_cVi mo_Fo_slotFor 3 (As := [.int (nI t), .int p]) rfl (ct_Fo0_isFreeOrHas hl hS p ht) rfl trivial rfl rfl rfl kv_Fo_32 kd_Fo_isFreeOrHas rfl rfl rfl ?_
      rw [hs_f] at he
      by_cases hs : M 30 t = 0 ∨ M 29 ((M 30 t).toNatClampNeg - 1) = p
      · rw [if_pos hs] at he ⊢
        refine mx_if mo_Fo_slotFor 0 (t := 43) (f := 29) rfl trivial (fun h2 => ?_) (fun h2 => ?_)
        · exact mx_ret_i mo_Fo_slotFor rfl 1 (v := nI t) rfl trivial rfl ⟨by rw [← he], rfl⟩
        · exact absurd h2 (by decide)
      · rw [if_neg hs] at he ⊢
        refine mx_if mo_Fo_slotFor 0 (t := 43) (f := 29) rfl trivial (fun h2 => ?_) (fun h2 => ?_)
        · exact absurd rfl h2
        · refine mx_go mo_Fo_slotFor 8 (pc' := 13) (ls' := [.ref 28, .int p, .int ((nI t + 1) &&& 1023), .int (nI (1024 - (m + 1)) + 1)]) (st' := []) (M' := M) rfl trivial ?_
          rw [fo_nx ht, nI_1, show 1024 - (m + 1) + 1 = 1024 - m by omega]
          exact ih _ (by omega) (Nat.mod_lt _ (by decide)) he
  refine mx_bd (n0 := 2) hl (by decide +kernel) rfl rfl rfl ?_
  refine mx_go mo_Fo_slotFor 10 (pc' := 13) (ls' := [.ref 28, .int p, .int (fo_x p), .int (nI 0)]) (st' := []) (M' := M) rfl trivial ?_
  rw [(fo_hx p).1]
  have := loop 1024 (fo_h p) (Nat.le_refl _) (fo_hx p).2 rfl
  rw [Nat.sub_self] at this
  exact this
theorem ct_Fo0_numberOf (hl : l.stackTraces = false) (hS : fo_ok (M 30)) (p : Int32) : mx_Ct l (pg_L sc) mY_Fo_numberOf (d + 2) 0 [.ref 28, .int p] M (mx_rI (M 30 (hs_f (M 30) (M 29) p 1024 (fo_h p)) - 1) M) := by
  have ht := hs_lt (S := M 30) (P := M 29) (p := p) 1024 (fo_h p) (fo_hx p).2
  refine mx_bd (n0 := 2) hl (by decide +kernel) rfl rfl rfl ?_
  refine mx_cVi mo_Fo_numberOf 4 (As := [.int p]) (rest := [.ref 30]) rfl (ct_Fo0_slotFor hl hS p) rfl trivial rfl rfl rfl kv_Fo_28 kd_Fo_slotFor rfl rfl rfl ?_
  exact mx_ret_i mo_Fo_numberOf rfl 3 (v := M 30 (nI (hs_f (M 30) (M 29) p 1024 (fo_h p))).toNatClampNeg - 1) rfl ⟨vp_in_nI ht (by decide), trivial⟩ rfl ⟨by rw [nI_clamp (by omega)], rfl⟩
/-- a new position in the object -/
def fo0_in (M : mx_M) (n t : Nat) (p : Int32) : mx_M := mx_up (mx_up (mx_up M 29 n p) 28 2 (nI (n + 1))) 30 t (nI (n + 1))
theorem ct_Fo0_nwOld (hl : l.stackTraces = false) (hS : fo_ok (M 30)) (L p : Int32) (h0 : ¬ M 30 (hs_f (M 30) (M 29) p 1024 (fo_h p)) = 0) : mx_Ct l (pg_L sc) mY_Fo_numberWithin (d + 2) 0 [.ref 28, .int L, .int p] M (mx_rI (M 30 (hs_f (M 30) (M 29) p 1024 (fo_h p)) - 1) M) := by
  have ht := hs_lt (S := M 30) (P := M 29) (p := p) 1024 (fo_h p) (fo_hx p).2
  have hv : vp_in (nI (hs_f (M 30) (M 29) p 1024 (fo_h p))) 1024 := vp_in_nI ht (by decide)
  have e : (nI (hs_f (M 30) (M 29) p 1024 (fo_h p))).toNatClampNeg = hs_f (M 30) (M 29) p 1024 (fo_h p) := nI_clamp (by omega)
  refine mx_bd (n0 := 3) hl (by decide +kernel) rfl rfl rfl ?_
  refine mx_cVi mo_Fo_numberWithin 2 (As := [.int p]) rfl (ct_Fo0_slotFor hl hS p) rfl trivial rfl rfl rfl kv_Fo_28 kd_Fo_slotFor rfl rfl rfl ?_
  refine mx_if mo_Fo_numberWithin 5 (t := 65) (f := 15) rfl ⟨hv, trivial⟩ (fun h => ?_) (fun h => ?_)
  · exact mx_ret_i mo_Fo_numberWithin rfl 6 (v := M 30 (nI (hs_f (M 30) (M 29) p 1024 (fo_h p))).toNatClampNeg - 1) rfl ⟨hv, trivial⟩ rfl ⟨by rw [e], rfl⟩
  · rw [e] at h; exact absurd h h0
theorem ct_Fo0_nwFull (hl : l.stackTraces = false) (hS : fo_ok (M 30)) (p : Int32) {n L : Nat} (hn : M 28 2 = nI n) (h5 : n ≤ 500) (hL : L ≤ n) (h0 : M 30 (hs_f (M 30) (M 29) p 1024 (fo_h p)) = 0) : mx_Ct l (pg_L sc) mY_Fo_numberWithin (d + 2) 0 [.ref 28, .int (nI L), .int p] M (mx_rI (-1) M) := by
  have ht := hs_lt (S := M 30) (P := M 29) (p := p) 1024 (fo_h p) (fo_hx p).2
  have hv : vp_in (nI (hs_f (M 30) (M 29) p 1024 (fo_h p))) 1024 := vp_in_nI ht (by decide)
  have e : (nI (hs_f (M 30) (M 29) p 1024 (fo_h p))).toNatClampNeg = hs_f (M 30) (M 29) p 1024 (fo_h p) := nI_clamp (by omega)
  refine mx_bd (n0 := 3) hl (by decide +kernel) rfl rfl rfl ?_
  refine mx_cVi mo_Fo_numberWithin 2 (As := [.int p]) rfl (ct_Fo0_slotFor hl hS p) rfl trivial rfl rfl rfl kv_Fo_28 kd_Fo_slotFor rfl rfl rfl ?_
  refine mx_if mo_Fo_numberWithin 5 (t := 65) (f := 15) rfl ⟨hv, trivial⟩ (fun h => ?_) (fun h => ?_)
  · rw [e] at h; exact absurd h0 h
  refine mx_if mo_Fo_numberWithin 3 (t := 33) (f := 23) rfl trivial (fun (h : nI L ≤ M 28 2) => ?_) (fun (h : ¬ nI L ≤ M 28 2) => ?_)
  · exact mx_ret_i mo_Fo_numberWithin rfl 1 rfl trivial rfl ⟨rfl, rfl⟩
  · rw [hn] at h; exact absurd (nI_le hL (by omega)) h
theorem ct_Fo0_nwNew (hl : l.stackTraces = false) (hS : fo_ok (M 30)) (p : Int32) {n L : Nat} (hn : M 28 2 = nI n) (h5 : n < 500) (hL : n < L) (hL2 : L ≤ 500) (h0 : M 30 (hs_f (M 30) (M 29) p 1024 (fo_h p)) = 0) : mx_Ct l (pg_L sc) mY_Fo_numberWithin (d + 2) 0 [.ref 28, .int (nI L), .int p] M (mx_rI (nI n) (fo0_in M n (hs_f (M 30) (M 29) p 1024 (fo_h p)) p)) := by
  have ht := hs_lt (S := M 30) (P := M 29) (p := p) 1024 (fo_h p) (fo_hx p).2
  have hv : vp_in (nI (hs_f (M 30) (M 29) p 1024 (fo_h p))) 1024 := vp_in_nI ht (by decide)
  have e : (nI (hs_f (M 30) (M 29) p 1024 (fo_h p))).toNatClampNeg = hs_f (M 30) (M 29) p 1024 (fo_h p) := nI_clamp (by omega)
  have e2 : (nI n).toNatClampNeg = n := nI_clamp (by omega)
  refine mx_bd (n0 := 3) hl (by decide +kernel) rfl rfl rfl ?_
  refine mx_cVi mo_Fo_numberWithin 2 (As := [.int p]) rfl (ct_Fo0_slotFor hl hS p) rfl trivial rfl rfl rfl kv_Fo_28 kd_Fo_slotFor rfl rfl rfl ?_
  generalize hs_f (M 30) (M 29) p 1024 (fo_h p) = t at *
  refine mx_if mo_Fo_numberWithin 5 (t := 65) (f := 15) rfl ⟨hv, trivial⟩ (fun h => ?_) (fun h => ?_)
  · rw [e] at h; exact absurd h0 h
  refine mx_if mo_Fo_numberWithin 3 (t := 33) (f := 23) rfl trivial (fun (h : nI L ≤ M 28 2) => ?_) (fun (h : ¬ nI L ≤ M 28 2) => ?_)
  · rw [hn] at h; exact absurd h (nI_ge hL (by omega))
  refine mx_if mo_Fo_numberWithin 3 (t := 35) (f := 33) rfl trivial (fun (h : M 28 2 < nI 500) => ?_) (fun (h : ¬ M 28 2 < nI 500) => ?_)
  · refine mx_go mo_Fo_numberWithin 18 (pc' := 65) (ls' := [.ref 28, .int (nI L), .int p, .int (nI t)]) (st' := []) (M' := mx_up (mx_up (mx_up M 29 (M 28 2).toNatClampNeg p) 28 2 (M 28 2 + 1)) 30 (nI t).toNatClampNeg (M 28 2 + 1)) rfl ⟨by rw [hn]; exact vp_in_nI h5 (by decide), hv, trivial⟩ ?_
    rw [hn, e, e2, nI_1]
    refine mx_ret_i mo_Fo_numberWithin rfl 6 (v := fo0_in M n t p 30 (nI t).toNatClampNeg - 1) rfl ⟨hv, trivial⟩ rfl ⟨?_, rfl⟩
    rw [e]
    have : fo0_in M n t p 30 t = nI (n + 1) := by simp [fo0_in, mx_up]
    rw [this, nI_pred]
  · rw [hn] at h; exact absurd (nI_lt h5 (by decide)) h
theorem ct_Fo1_size (hl : l.stackTraces = false) : mx_Ct l (pg_L sc) mY_Fo_size d 0 [.ref 31] M (mx_rI (M 31 2) M) := by
  refine mx_bd (n0 := 1) hl (by decide +kernel) rfl rfl rfl ?_
  exact mx_ret_i mo_Fo_size rfl 2 rfl trivial rfl ⟨rfl, rfl⟩
theorem ct_Fo1_positionOf (hl : l.stackTraces = false) {i : Nat} (hi : i < 500) : mx_Ct l (pg_L sc) mY_Fo_positionOf d 0 [.ref 31, .int (nI i)] M (mx_rI (M 32 i) M) := by
  refine mx_bd (n0 := 2) hl (by decide +kernel) rfl rfl rfl ?_
  exact mx_ret_i mo_Fo_positionOf rfl 4 rfl ⟨vp_in_nI hi (by decide), trivial⟩ rfl ⟨by rw [nI_clamp (by omega)], rfl⟩
theorem ct_Fo1_forget (hl : l.stackTraces = false) : mx_Ct l (pg_L sc) mY_Fo_forget (d + 1) 0 [.ref 31] M (mx_rV (mx_up (pg_fill M 33 1024 0) 31 2 0)) := by
  refine mx_bd (n0 := 1) hl (by decide +kernel) rfl rfl rfl ?_
  refine mx_cSv mo_Fo_forget 3 (As := [.ref 33, .int 0]) rfl (ct_fill_33 hl 0) rfl trivial rfl ks_Fo_18 kd_Ar_fill rfl rfl rfl ?_
  exact mx_ret_v mo_Fo_forget rfl 3 (M' := mx_up (pg_fill M 33 1024 0) 31 2 0) rfl trivial rfl ⟨rfl, rfl⟩
theorem ct_Fo1_isFreeOrHas (hl : l.stackTraces = false) (hS : fo_ok (M 33)) (p : Int32) {t : Nat} (ht : t < 1024) : mx_Ct l (pg_L sc) mY_Fo_isFreeOrHas d 0 [.ref 31, .int (nI t), .int p] M (mx_rI (if M 33 t = 0 ∨ M 32 ((M 33 t).toNatClampNeg - 1) = p then 1 else 0) M) := by
  have e : (nI t).toNatClampNeg = t := nI_clamp (by omega)
  have hv : vp_in (nI t) 1024 := vp_in_nI ht (by decide)
  refine mx_bd (n0 := 3) hl (by decide +kernel) rfl rfl rfl ?_
  refine mx_if mo_Fo_isFreeOrHas 4 (t := 26) (f := 9) rfl ⟨hv, trivial⟩ (fun h => ?_) (fun h => ?_)
  · rw [e] at h
    exact mx_ret_z mo_Fo_isFreeOrHas rfl 2 rfl trivial rfl (Or.inr rfl) ⟨by rw [if_pos (Or.inl h)]; rfl, rfl⟩
  · rw [e] at h
    obtain ⟨i, hi, ei⟩ := (hS t ht).resolve_left h
    have e2 : M 33 (nI t).toNatClampNeg - 1 = nI i := by rw [e, ei]; exact nI_pred i
    have e3 : (nI i).toNatClampNeg = i := nI_clamp (by omega)
    have hw : vp_in (M 33 (nI t).toNatClampNeg - 1) 500 := by rw [e2]; exact vp_in_nI hi (by decide)
    refine mx_if mo_Fo_isFreeOrHas 10 (t := 30) (f := 26) rfl ⟨hv, hw, trivial⟩ (fun (h2 : ¬ M 32 (M 33 (nI t).toNatClampNeg - 1).toNatClampNeg = p) => ?_) (fun (h2 : M 32 (M 33 (nI t).toNatClampNeg - 1).toNatClampNeg = p) => ?_)
    · rw [e2, e3] at h2
      exact mx_ret_z mo_Fo_isFreeOrHas rfl 1 rfl trivial rfl (Or.inl rfl) ⟨by rw [if_neg (by rw [ei, nI_clamp (by omega)]; rintro (q | q); exact nI_ne0 (by omega) (by omega) q; exact h2 q)]; rfl, rfl⟩
    · rw [e2, e3] at h2
      exact mx_ret_z mo_Fo_isFreeOrHas rfl 2 rfl trivial rfl (Or.inr rfl) ⟨by rw [if_pos (Or.inr (by rw [ei, nI_clamp (by omega)]; exact h2))]; rfl, rfl⟩
theorem ct_Fo1_slotFor (hl : l.stackTraces = false) (hS : fo_ok (M 33)) (p : Int32) : mx_Ct l (pg_L sc) mY_Fo_slotFor (d + 1) 0 [.ref 31, .int p] M (mx_rI (nI (hs_f (M 33) (M 32) p 1024 (fo_h p))) M) := by
  have loop : ∀ (m t : Nat), m ≤ 1024 → t < 1024 → hs_f (M 33) (M 32) p m t = hs_f (M 33) (M 32) p 1024 (fo_h p) → mx_E l (pg_L sc) mY_Fo_slotFor (d + 1) 0 (mx_rI (nI (hs_f (M 33) (M 32) p 1024 (fo_h p))) M) 13 [.ref 31, .int p, .int (nI t), .int (nI (1024 - m))] [] M := by
    intro m
    induction m with
    | zero =>
      intro t hm ht he
      refine mx_if mo_Fo_slotFor 2 (t := 43) (f := 20) rfl trivial (fun (h : nI 1024 ≤ nI (1024 - 0)) => ?_) (fun (h : ¬ nI 1024 ≤ nI (1024 - 0)) => ?_)
      · exact mx_ret_i mo_Fo_slotFor rfl 1 (v := nI t) rfl trivial rfl ⟨by rw [← he]; rfl, rfl⟩
      · exact absurd (nI_le (by omega) (by decide)) h
    | succ m ih =>
      intro t hm ht he
      refine mx_if mo_Fo_slotFor 2 (t := 43) (f := 20) rfl trivial (fun (h : nI 1024 ≤ nI (1024 - (m + 1))) => ?_) (fun h => ?_)
      · exact absurd h (nI_ge (by omega) (by decide))
      refine mx_cVi mo_Fo_slotFor 3 (As := [.int (nI t), .int p]) rfl (ct_Fo1_isFreeOrHas hl hS p ht) rfl trivial rfl rfl rfl kv_Fo_32 kd_Fo_isFreeOrHas rfl rfl rfl ?_
      rw [hs_f] at he
      by_cases hs : M 33 t = 0 ∨ M 32 ((M 33 t).toNatClampNeg - 1) = p
      · rw [if_pos hs] at he ⊢
        refine mx_if mo_Fo_slotFor 0 (t := 43) (f := 29) rfl trivial (fun h2 => ?_) (fun h2 => ?_)
        · exact mx_ret_i mo_Fo_slotFor rfl 1 (v := nI t) rfl trivial rfl ⟨by rw [← he], rfl⟩
        · exact absurd h2 (by decide)
      · rw [if_neg hs] at he ⊢
        refine mx_if mo_Fo_slotFor 0 (t := 43) (f := 29) rfl trivial (fun h2 => ?_) (fun h2 => ?_)
        · exact absurd rfl h2
        · refine mx_go mo_Fo_slotFor 8 (pc' := 13) (ls' := [.ref 31, .int p, .int ((nI t + 1) &&& 1023), .int (nI (1024 - (m + 1)) + 1)]) (st' := []) (M' := M) rfl trivial ?_
          rw [fo_nx ht, nI_1, show 1024 - (m + 1) + 1 = 1024 - m by omega]
          exact ih _ (by omega) (Nat.mod_lt _ (by decide)) he
  refine mx_bd (n0 := 2) hl (by decide +kernel) rfl rfl rfl ?_
  refine mx_go mo_Fo_slotFor 10 (pc' := 13) (ls' := [.ref 31, .int p, .int (fo_x p), .int (nI 0)]) (st' := []) (M' := M) rfl trivial ?_
  rw [(fo_hx p).1]
  have := loop 1024 (fo_h p) (Nat.le_refl _) (fo_hx p).2 rfl
  rw [Nat.sub_self] at this
  exact this
theorem ct_Fo1_numberOf (hl : l.stackTraces = false) (hS : fo_ok (M 33)) (p : Int32) : mx_Ct l (pg_L sc) mY_Fo_numberOf (d + 2) 0 [.ref 31, .int p] M (mx_rI (M 33 (hs_f (M 33) (M 32) p 1024 (fo_h p)) - 1) M) := by
  have ht := hs_lt (S := M 33) (P := M 32) (p := p) 1024 (fo_h p) (fo_hx p).2
  refine mx_bd (n0 := 2) hl (by decide +kernel) rfl rfl rfl ?_
  refine mx_cVi mo_Fo_numberOf 4 (As := [.int p]) (rest := [.ref 33]) rfl (ct_Fo1_slotFor hl hS p) rfl trivial rfl rfl rfl kv_Fo_28 kd_Fo_slotFor rfl rfl rfl ?_
  exact mx_ret_i mo_Fo_numberOf rfl 3 (v := M 33 (nI (hs_f (M 33) (M 32) p 1024 (fo_h p))).toNatClampNeg - 1) rfl ⟨vp_in_nI ht (by decide), trivial⟩ rfl ⟨by rw [nI_clamp (by omega)], rfl⟩
/-- a new position in the object -/
def fo1_in (M : mx_M) (n t : Nat) (p : Int32) : mx_M := mx_up (mx_up (mx_up M 32 n p) 31 2 (nI (n + 1))) 33 t (nI (n + 1))
theorem ct_Fo1_nwOld (hl : l.stackTraces = false) (hS : fo_ok (M 33)) (L p : Int32) (h0 : ¬ M 33 (hs_f (M 33) (M 32) p 1024 (fo_h p)) = 0) : mx_Ct l (pg_L sc) mY_Fo_numberWithin (d + 2) 0 [.ref 31, .int L, .int p] M (mx_rI (M 33 (hs_f (M 33) (M 32) p 1024 (fo_h p)) - 1) M) := by
  have ht := hs_lt (S := M 33) (P := M 32) (p := p) 1024 (fo_h p) (fo_hx p).2
  have hv : vp_in (nI (hs_f (M 33) (M 32) p 1024 (fo_h p))) 1024 := vp_in_nI ht (by decide)
  have e : (nI (hs_f (M 33) (M 32) p 1024 (fo_h p))).toNatClampNeg = hs_f (M 33) (M 32) p 1024 (fo_h p) := nI_clamp (by omega)
  refine mx_bd (n0 := 3) hl (by decide +kernel) rfl rfl rfl ?_
  refine mx_cVi mo_Fo_numberWithin 2 (As := [.int p]) rfl (ct_Fo1_slotFor hl hS p) rfl trivial rfl rfl rfl kv_Fo_28 kd_Fo_slotFor rfl rfl rfl ?_
  refine mx_if mo_Fo_numberWithin 5 (t := 65) (f := 15) rfl ⟨hv, trivial⟩ (fun h => ?_) (fun h => ?_)
  · exact mx_ret_i mo_Fo_numberWithin rfl 6 (v := M 33 (nI (hs_f (M 33) (M 32) p 1024 (fo_h p))).toNatClampNeg - 1) rfl ⟨hv, trivial⟩ rfl ⟨by rw [e], rfl⟩
  · rw [e] at h; exact absurd h h0
theorem ct_Fo1_nwFull (hl : l.stackTraces = false) (hS : fo_ok (M 33)) (p : Int32) {n L : Nat} (hn : M 31 2 = nI n) (h5 : n ≤ 500) (hL : L ≤ n) (h0 : M 33 (hs_f (M 33) (M 32) p 1024 (fo_h p)) = 0) : mx_Ct l (pg_L sc) mY_Fo_numberWithin (d + 2) 0 [.ref 31, .int (nI L), .int p] M (mx_rI (-1) M) := by
  have ht := hs_lt (S := M 33) (P := M 32) (p := p) 1024 (fo_h p) (fo_hx p).2
  have hv : vp_in (nI (hs_f (M 33) (M 32) p 1024 (fo_h p))) 1024 := vp_in_nI ht (by decide)
  have e : (nI (hs_f (M 33) (M 32) p 1024 (fo_h p))).toNatClampNeg = hs_f (M 33) (M 32) p 1024 (fo_h p) := nI_clamp (by omega)
  refine mx_bd (n0 := 3) hl (by decide +kernel) rfl rfl rfl ?_
  refine mx_cVi mo_Fo_numberWithin 2 (As := [.int p]) rfl (ct_Fo1_slotFor hl hS p) rfl trivial rfl rfl rfl kv_Fo_28 kd_Fo_slotFor rfl rfl rfl ?_
  refine mx_if mo_Fo_numberWithin 5 (t := 65) (f := 15) rfl ⟨hv, trivial⟩ (fun h => ?_) (fun h => ?_)
  · rw [e] at h; exact absurd h0 h
  refine mx_if mo_Fo_numberWithin 3 (t := 33) (f := 23) rfl trivial (fun (h : nI L ≤ M 31 2) => ?_) (fun (h : ¬ nI L ≤ M 31 2) => ?_)
  · exact mx_ret_i mo_Fo_numberWithin rfl 1 rfl trivial rfl ⟨rfl, rfl⟩
  · rw [hn] at h; exact absurd (nI_le hL (by omega)) h
theorem ct_Fo1_nwNew (hl : l.stackTraces = false) (hS : fo_ok (M 33)) (p : Int32) {n L : Nat} (hn : M 31 2 = nI n) (h5 : n < 500) (hL : n < L) (hL2 : L ≤ 500) (h0 : M 33 (hs_f (M 33) (M 32) p 1024 (fo_h p)) = 0) : mx_Ct l (pg_L sc) mY_Fo_numberWithin (d + 2) 0 [.ref 31, .int (nI L), .int p] M (mx_rI (nI n) (fo1_in M n (hs_f (M 33) (M 32) p 1024 (fo_h p)) p)) := by
  have ht := hs_lt (S := M 33) (P := M 32) (p := p) 1024 (fo_h p) (fo_hx p).2
  have hv : vp_in (nI (hs_f (M 33) (M 32) p 1024 (fo_h p))) 1024 := vp_in_nI ht (by decide)
  have e : (nI (hs_f (M 33) (M 32) p 1024 (fo_h p))).toNatClampNeg = hs_f (M 33) (M 32) p 1024 (fo_h p) := nI_clamp (by omega)
  have e2 : (nI n).toNatClampNeg = n := nI_clamp (by omega)
  refine mx_bd (n0 := 3) hl (by decide +kernel) rfl rfl rfl ?_
  refine mx_cVi mo_Fo_numberWithin 2 (As := [.int p]) rfl (ct_Fo1_slotFor hl hS p) rfl trivial rfl rfl rfl kv_Fo_28 kd_Fo_slotFor rfl rfl rfl ?_
  generalize hs_f (M 33) (M 32) p 1024 (fo_h p) = t at *
  refine mx_if mo_Fo_numberWithin 5 (t := 65) (f := 15) rfl ⟨hv, trivial⟩ (fun h => ?_) (fun h => ?_)
  · rw [e] at h; exact absurd h0 h
  refine mx_if mo_Fo_numberWithin 3 (t := 33) (f := 23) rfl trivial (fun (h : nI L ≤ M 31 2) => ?_) (fun (h : ¬ nI L ≤ M 31 2) => ?_)
  · rw [hn] at h; exact absurd h (nI_ge hL (by omega))
  refine mx_if mo_Fo_numberWithin 3 (t := 35) (f := 33) rfl trivial (fun (h : M 31 2 < nI 500) => ?_) (fun (h : ¬ M 31 2 < nI 500) => ?_)
  · refine mx_go mo_Fo_numberWithin 18 (pc' := 65) (ls' := [.ref 31, .int (nI L), .int p, .int (nI t)]) (st' := []) (M' := mx_up (mx_up (mx_up M 32 (M 31 2).toNatClampNeg p) 31 2 (M 31 2 + 1)) 33 (nI t).toNatClampNeg (M 31 2 + 1)) rfl ⟨by rw [hn]; exact vp_in_nI h5 (by decide), hv, trivial⟩ ?_
    rw [hn, e, e2, nI_1]
    refine mx_ret_i mo_Fo_numberWithin rfl 6 (v := fo1_in M n t p 33 (nI t).toNatClampNeg - 1) rfl ⟨hv, trivial⟩ rfl ⟨?_, rfl⟩
    rw [e]
    have : fo1_in M n t p 33 t = nI (n + 1) := by simp [fo1_in, mx_up]
    rw [this, nI_pred]
  · rw [hn] at h; exact absurd (nI_lt h5 (by decide)) h
end FO
