/-! PegBoards$Reaching: run. -/
section RU
variable {l : Launch} {sc : Nat × (Nat → Int32)} {d : Nat} {M : mx_M}
theorem re_en_off {t i k c : Nat} (h1 : c ≠ 34) (h2 : c ≠ 35) (h3 : c ≠ 36) : re_en M t i k c = M c := by
  rw [re_en, mx_up_off h3, mx_up_off h2, mx_up_off h1]
theorem fo0_in_off {n t c : Nat} {p : Int32} (h1 : c ≠ 28) (h2 : c ≠ 29) (h3 : c ≠ 30) : fo0_in M n t p c = M c := by
  rw [fo0_in, mx_up_off h3, mx_up_off h1, mx_up_off h2]
theorem re_k_off {L i k c : Nat} (hc : c < 27 ∨ 37 < c ∨ c = 31 ∨ c = 32 ∨ c = 33) : re_k L i k M c = M c := by
  unfold re_k
  split
  · rfl
  split
  · split
    · rw [mx_up_off (by omega)]
    · rw [re_am_off (by omega) (by omega), re_en_off (by omega) (by omega) (by omega), fo0_in_off (by omega) (by omega) (by omega)]
  · rw [re_am_off (by omega) (by omega)]
/-- what a try leaves right: the table, its old places -/
theorem re_k_ok {L i k : Nat} (h : re_ok M L) : re_ok (re_k L i k M) L ∧ (M 28 2).toNatClampNeg ≤ (re_k L i k M 28 2).toNatClampNeg ∧ ∀ j, j < (M 28 2).toNatClampNeg → re_k L i k M 29 j = M 29 j := by
  have h0 := h
  obtain ⟨h1, h2, n, h3, h4, h5⟩ := h
  have hn : (M 28 2).toNatClampNeg = n := by rw [h4]; exact nI_clamp (by omega)
  unfold re_k
  split
  · exact ⟨h0, Nat.le_refl _, fun _ _ => rfl⟩
  split
  next hq hz =>
    split
    · refine ⟨⟨h1, Or.inr (by simp [mx_up]), n, h3, by rw [mx_up_off (by decide)]; exact h4, by rw [mx_up_off (by decide), mx_up_off (by decide)]; exact h5⟩, by rw [mx_up_off (by decide)]; exact Nat.le_refl _, fun j _ => by rw [mx_up_off (by decide)]⟩
    next hL =>
      rw [hn] at hL ⊢
      generalize pg_mk (M 29 i) (M 10 k) (M 9 k) = q at hq hz ⊢
      have hnew : ∀ j, j < n → ¬ M 29 j = q := by
        intro j hj e
        obtain ⟨k0, -, k2, -, k4⟩ := hs_find h5 q
        rw [k2] at hz
        rcases k4 with ⟨-, q1⟩ | ⟨i0, hi0, -, q2⟩
        · exact q1 j hj e
        · rw [q2] at hz; exact nI_ne0 (n := i0 + 1) (by omega) (by omega) hz
      have hadd := hs_add h5 (by omega) hnew
      have e29 : ∀ t, fo0_in M n t q 29 = upd (M 29) n q := fun t => by
        rw [fo0_in, mx_up_off (by decide), mx_up_off (by decide), mx_up_row]
      have e30 : ∀ t, fo0_in M n t q 30 = upd (M 30) t (nI (n + 1)) := fun t => by
        rw [fo0_in, mx_up_row, mx_up_off (by decide), mx_up_off (by decide)]
      have e28 : ∀ t, fo0_in M n t q 28 2 = nI (n + 1) := fun t => by
        rw [fo0_in, mx_up_off (by decide), mx_up_row]; simp [upd]
      refine ⟨⟨h1, ?_, n + 1, by omega, ?_, ?_⟩, ?_, fun j hj => ?_⟩
      · rw [re_am_off (by decide) (by decide), re_en_off (by decide) (by decide) (by decide), fo0_in_off (by decide) (by decide) (by decide)]; exact h2
      · rw [re_am_off (by decide) (by decide), re_en_off (by decide) (by decide) (by decide), e28]
      · rw [re_am_off (by decide) (by decide), re_en_off (by decide) (by decide) (by decide), re_am_off (by decide) (by decide), re_en_off (by decide) (by decide) (by decide), e29, e30]
        exact hadd
      · rw [re_am_off (by decide) (by decide), re_en_off (by decide) (by decide) (by decide), e28, nI_clamp (by omega)]; omega
      · rw [re_am_off (by decide) (by decide), re_en_off (by decide) (by decide) (by decide), e29]
        simp [upd, show j ≠ n by omega]
  · refine ⟨⟨h1, by rw [re_am_off (by decide) (by decide)]; exact h2, n, h3, by rw [re_am_off (by decide) (by decide)]; exact h4, by rw [re_am_off (by decide) (by decide), re_am_off (by decide) (by decide)]; exact h5⟩, by rw [re_am_off (by decide) (by decide)]; exact Nat.le_refl _, fun j _ => by rw [re_am_off (by decide) (by decide)]⟩
/-- the jumps from k on (m are left), from position i -/
def re_row (L i : Nat) : Nat → Nat → mx_M → mx_M
  | 0, _, M => M
  | m + 1, k, M => if M 27 6 = 0 then re_row L i m (k + 1) (re_k L i k M) else M
theorem ct_Re_goOnFrom (hl : l.stackTraces = false) {L i J : Nat} (hJ : J ≤ 120) (hs : M 5 5 = nI J) (hok : re_ok M L) (hi : i < (M 28 2).toNatClampNeg) : mx_Ct l (pg_L sc) mY_Re_goOnFrom (d + 3) 0 [.ref 27, .int (nI i), .ref 5, .int (nI L)] M (mx_rV (re_row L i J 0 M)) := by
  have hL5 : L ≤ 500 := hok.1
  have hi5 : i < 500 := by
    obtain ⟨-, -, n, h3, h4, -⟩ := hok
    rw [h4, nI_clamp (by omega)] at hi
    omega
  have loop : ∀ (m k : Nat) (M1 : mx_M), J - k = m → k ≤ J → re_ok M1 L → i < (M1 28 2).toNatClampNeg → M1 29 i = M 29 i → M1 5 5 = nI J → re_row L i m k M1 = re_row L i J 0 M → ∀ x y z : Value,
      mx_E l (pg_L sc) mY_Re_goOnFrom (d + 3) 0 (mx_rV (re_row L i J 0 M)) 13 [.ref 27, .int (nI i), .ref 5, .int (nI L), .int (M 29 i), .int (nI k), x, y, z] [] M1 := by
    intro m
    induction m with
    | zero =>
      intro k M1 hm hle hk1 hk2 hk3 hk4 he x y z
      have e : k = J := by omega
      subst e
      refine mx_cVi mo_Re_goOnFrom 2 (rest := [.int (nI k)]) rfl (ct_Ju_size hl) rfl trivial rfl rfl rfl kv_Re_57 kd_Ju_size rfl rfl rfl ?_
      rw [hk4]
      refine mx_if mo_Re_goOnFrom 0 (t := 121) (f := 22) rfl trivial (fun q => ?_) (fun q => ?_)
      · exact mx_ret_v mo_Re_goOnFrom rfl 0 rfl trivial rfl ⟨rfl, he⟩
      · exact absurd (nI_le (Nat.le_refl k) (by omega)) q
    | succ m ih =>
      intro k M1 hm hle hk1 hk2 hk3 hk4 he x y z
      refine mx_cVi mo_Re_goOnFrom 2 (rest := [.int (nI k)]) rfl (ct_Ju_size hl) rfl trivial rfl rfl rfl kv_Re_57 kd_Ju_size rfl rfl rfl ?_
      rw [hk4]
      refine mx_if mo_Re_goOnFrom 0 (t := 121) (f := 22) rfl trivial (fun q => ?_) (fun q => ?_)
      · exact absurd q (nI_ge (by omega) (by omega))
      rw [re_row] at he
      refine mx_if mo_Re_goOnFrom 2 (t := 121) (f := 29) rfl trivial (fun (q1 : ¬ M1 27 6 = 0) => ?_) (fun (q1 : M1 27 6 = 0) => ?_)
      · rw [if_neg q1] at he
        exact mx_ret_v mo_Re_goOnFrom rfl 0 rfl trivial rfl ⟨rfl, he⟩
      rw [if_pos q1] at he
      obtain ⟨r1, r2, r3⟩ := re_k_ok (i := i) (k := k) hk1
      have next : ∀ x y z : Value, mx_E l (pg_L sc) mY_Re_goOnFrom (d + 3) 0 (mx_rV (re_row L i J 0 M)) 115 [.ref 27, .int (nI i), .ref 5, .int (nI L), .int (M 29 i), .int (nI k), x, y, z] [] (re_k L i k M1) := by
        intro x y z
        refine mx_go mo_Re_goOnFrom 2 (pc' := 13) (ls' := [.ref 27, .int (nI i), .ref 5, .int (nI L), .int (M 29 i), .int (nI k + 1), x, y, z]) (st' := []) rfl trivial ?_
        rw [nI_1]
        exact ih (k + 1) _ (by omega) (by omega) r1 (by omega) (by rw [r3 i hk2]; exact hk3) (by rw [re_k_off (by omega)]; exact hk4) he _ _ _
      refine mx_cVi mo_Re_goOnFrom 3 (As := [.int (M 29 i), .int (nI k)]) (rest := []) rfl (ct_Ju_make hl _ (by omega)) rfl trivial rfl rfl rfl kv_Re_60 kd_Ju_make rfl rfl rfl ?_
      have hkeq : re_k L i k M1 = re_k L i k M1 := rfl
      unfold re_k at hkeq next
      rw [hk3] at next
      generalize pg_mk (M 29 i) (M1 10 k) (M1 9 k) = q at next ⊢
      refine mx_if mo_Re_goOnFrom 3 (t := 115) (f := 45) rfl trivial (fun (q2 : q = -1) => ?_) (fun (q2 : ¬ q = -1) => ?_)
      · rw [if_pos q2] at next
        exact next _ _ _
      rw [if_neg q2] at next
      refine mx_cVi mo_Re_goOnFrom 2 (rest := []) rfl (ct_Fo0_size hl) rfl trivial rfl rfl rfl kv_Re_45 kd_Fo_size rfl rfl rfl ?_
      have hfo := re_ok_fo hk1
      have hno := re_no_in hk1 q
      obtain ⟨-, -, n, h3, h4, h5⟩ := hk1
      have hn : (M1 28 2).toNatClampNeg = n := by rw [h4]; exact nI_clamp (by omega)
      rw [hn] at next hno
      rw [h4]
      refine mx_go mo_Re_goOnFrom 5 (pc' := 61) (ls' := [.ref 27, .int (nI i), .ref 5, .int (nI L), .int (M 29 i), .int (nI k), .int q, .int (nI n), z]) (st' := [.int q, .int (nI L), .ref 28]) (M' := M1) rfl trivial ?_
      have last : ∀ (M2 : mx_M) (j : Nat), j < 500 → M2 6 k = M1 6 k → M2 8 k = M1 8 k → (∀ x y z : Value, mx_E l (pg_L sc) mY_Re_goOnFrom (d + 3) 0 (mx_rV (re_row L i J 0 M)) 115 [.ref 27, .int (nI i), .ref 5, .int (nI L), .int (M 29 i), .int (nI k), x, y, z] [] (re_am M2 i j (M1 6 k) (M1 8 k))) →
          mx_E l (pg_L sc) mY_Re_goOnFrom (d + 3) 0 (mx_rV (re_row L i J 0 M)) 96 [.ref 27, .int (nI i), .ref 5, .int (nI L), .int (M 29 i), .int (nI k), .int q, .int (nI n), .int (nI j)] [] M2 := by
        intro M2 j hj e6 e8 nx
        refine mx_cVi mo_Re_goOnFrom 5 (As := [.int (nI k)]) (rest := [.int (nI j), .int (nI i), .ref 27]) rfl (ct_Ju_from hl (by omega)) rfl trivial rfl rfl rfl kv_Re_67 kd_Ju_from rfl rfl rfl ?_
        refine mx_cVi mo_Re_goOnFrom 2 (As := [.int (nI k)]) (rest := [.int (M2 6 k), .int (nI j), .int (nI i), .ref 27]) rfl (ct_Ju_to hl (by omega)) rfl trivial rfl rfl rfl kv_Re_70 kd_Ju_to rfl rfl rfl ?_
        refine mx_cVv mo_Re_goOnFrom 0 (As := [.int (nI i), .int (nI j), .int (M2 6 k), .int (M2 8 k)]) (rest := []) rfl (ct_Re_addMoves hl hi5 hj _ _) rfl trivial rfl rfl rfl kv_Re_73 kd_Re_addMoves rfl rfl rfl ?_
        rw [e6, e8]
        exact nx _ _ _
      rcases hno with ⟨hz, hm1⟩ | ⟨j, hj, hpj, hnj⟩
      · rw [if_pos hz] at next
        by_cases hfull : L ≤ n
        · rw [if_pos hfull] at next
          refine mx_cVi mo_Re_goOnFrom 0 (As := [.int (nI L), .int q]) (rest := []) rfl (ct_Fo0_nwFull hl hfo q h4 (by omega) hfull hz) rfl trivial rfl rfl rfl kv_Re_41 kd_Fo_numberWithin rfl rfl rfl ?_
          refine mx_if mo_Re_goOnFrom 3 (t := 80) (f := 72) rfl trivial (fun (q3 : ¬ (-1 : Int32) = -1) => absurd rfl q3) (fun q3 => ?_)
          exact mx_go mo_Re_goOnFrom 4 (pc' := 115) (ls' := [.ref 27, .int (nI i), .ref 5, .int (nI L), .int (M 29 i), .int (nI k), .int q, .int (nI n), .int (-1)]) (st' := []) (M' := mx_up M1 27 6 1) rfl ⟨Or.inr rfl, trivial⟩ (next _ _ _)
        · rw [if_neg hfull] at next
          refine mx_cVi mo_Re_goOnFrom 0 (As := [.int (nI L), .int q]) (rest := []) rfl (ct_Fo0_nwNew hl hfo q h4 (by omega) (by omega) (by omega) hz) rfl trivial rfl rfl rfl kv_Re_41 kd_Fo_numberWithin rfl rfl rfl ?_
          refine mx_if mo_Re_goOnFrom 3 (t := 80) (f := 72) rfl trivial (fun q3 => ?_) (fun (q3 : nI n = -1) => ?_)
          · refine mx_if mo_Re_goOnFrom 2 (t := 96) (f := 87) rfl trivial (fun q4 => absurd rfl q4) (fun q4 => ?_)
            refine mx_cVv mo_Re_goOnFrom 4 (As := [.int (nI n), .int (nI i), .int (nI k)]) (rest := []) rfl (ct_Re_enter hl (by omega)) rfl trivial rfl rfl rfl kv_Re_63 kd_Re_enter rfl rfl rfl ?_
            refine last _ n (by omega) ?_ ?_ next
            · rw [re_en_off (by decide) (by decide) (by decide), fo0_in_off (by decide) (by decide) (by decide)]
            · rw [re_en_off (by decide) (by decide) (by decide), fo0_in_off (by decide) (by decide) (by decide)]
          · have := nI_pos (n := n) (by omega)
            rw [q3] at this
            exact absurd (by decide) this
      · have hz : ¬ M1 30 (hs_f (M1 30) (M1 29) q 1024 (fo_h q)) = 0 := by
          intro hz
          rw [re_no, hz] at hnj
          have := nI_pos (n := j) (by omega)
          rw [← hnj] at this
          exact this (by decide)
        rw [if_neg hz, hnj, nI_clamp (by omega)] at next
        have hc := ct_Fo0_nwOld (sc := sc) (d := d) hl hfo (nI L) q hz
        rw [show M1 30 (hs_f (M1 30) (M1 29) q 1024 (fo_h q)) - 1 = nI j from hnj] at hc
        refine mx_cVi mo_Re_goOnFrom 0 (As := [.int (nI L), .int q]) (rest := []) rfl hc rfl trivial rfl rfl rfl kv_Re_41 kd_Fo_numberWithin rfl rfl rfl ?_
        refine mx_if mo_Re_goOnFrom 3 (t := 80) (f := 72) rfl trivial (fun q3 => ?_) (fun (q3 : nI j = -1) => ?_)
        · refine mx_if mo_Re_goOnFrom 2 (t := 96) (f := 87) rfl trivial (fun q4 => ?_) (fun (q4 : nI j = nI n) => ?_)
          · exact last M1 j (by omega) rfl rfl next
          · have := (nI_eq (by omega) (by omega)).mp q4
            omega
        · have := nI_pos (n := j) (by omega)
          rw [q3] at this
          exact absurd (by decide) this
  refine mx_bd (n0 := 4) hl (by decide +kernel) rfl rfl rfl ?_
  refine mx_cVi mo_Re_goOnFrom 3 (As := [.int (nI i)]) (rest := []) rfl (ct_Fo0_positionOf hl hi5) rfl trivial rfl rfl rfl kv_Re_53 kd_Fo_positionOf rfl rfl rfl ?_
  exact mx_go mo_Re_goOnFrom 3 (pc' := 13) (ls' := [.ref 27, .int (nI i), .ref 5, .int (nI L), .int (M 29 i), .int (nI 0), .null, .null, .null]) (st' := []) (M' := M) rfl trivial (loop J 0 M (by omega) (by omega) hok hi rfl hs rfl _ _ _)
end RU
