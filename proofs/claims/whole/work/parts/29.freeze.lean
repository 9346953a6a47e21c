/-! PegBoards.freeze. -/
section FZ
variable {l : Launch} {sc : Nat × (Nat → Int32)} {d : Nat} {M : mx_M}
theorem pg_nh_off {D : Nat → Bool} {c : Nat} (h1 : c ≠ 2) (h2 : c ≠ 3) (h3 : c ≠ 4) : ∀ p, pg_nh D M p c = M c := by
  intro p
  induction p with
  | zero => rfl
  | succ p ih =>
    rw [pg_nh]
    split
    · rw [mx_up_off h3, mx_up_off h2, mx_up_off h1, ih]
    · exact ih
/-- numbered; the jumps listed; the symmetries listed -/
def pe_f1 (M : mx_M) (D : Nat → Bool) : mx_M := mx_up (pg_nh D M 64) 1 4 1
def pe_f2 (A : mx_M) (N : Nat) : mx_M := if A 1 3 = 0 then ju_all pg_s1 pg_s2 4 A (N + 1) else ju_all pg_s3 pg_s4 6 A (N + 1)
def pe_f3 (B : mx_M) (N : Nat) : mx_M := sy_it (if B 1 3 = 0 then 4 else 6) N (mx_up B 11 3 (nI (N + 1))) (2 * (if B 1 3 = 0 then 4 else 6))
def pe_fz (M : mx_M) (D : Nat → Bool) (N : Nat) : mx_M := pe_f3 (pe_f2 (pe_f1 M D) N) N
theorem pe_f1_off {D : Nat → Bool} {c : Nat} (hc : c = 0 ∨ 4 < c) : pe_f1 M D c = M c := by
  rw [pe_f1, mx_up_off (by omega), pg_nh_off (by omega) (by omega) (by omega)]
theorem pe_f1_1 {D : Nat → Bool} : pe_f1 M D 1 = upd (M 1) 4 1 := by
  rw [pe_f1, mx_up_row, pg_nh_off (by decide) (by decide) (by decide)]
theorem pe_f2_off {N c : Nat} (hc : c < 5 ∨ 10 < c) : pe_f2 M N c = M c := by
  rw [pe_f2]
  split
  · rw [ju_all_off hc]
  · rw [ju_all_off hc]
theorem ct_Pe_freeze0 (hl : l.stackTraces = false) (h : pg_cb M = 0) : mx_Ct l (pg_L sc) mY_Pe_freeze (d + 4) 1 [.ref 0] M (mx_rA (.inr xIS) M) := by
  refine mx_bd (n0 := 1) hl (by decide +kernel) rfl rfl rfl ?_
  refine mx_cVi mo_Pe_freeze 2 (As := []) (rest := []) rfl (ct_Bo_canBeNumbered hl) rfl trivial rfl rfl rfl kv_Pe_83 kd_Bo_canBeNumbered rfl rfl rfl ?_
  refine mx_if mo_Pe_freeze 0 (t := 20) (f := 10) rfl trivial (fun q => absurd h q) (fun _ => ?_)
  exact mx_thr (n := 0) mo_Pe_freeze 0 (cls := xIS) (text := "the board is frozen or has no hole") rfl rfl trivial rfl rfl rfl rfl rfl tw_IS (by decide +kernel) ⟨rfl, rfl⟩
theorem ct_Pe_freeze1 (hl : l.stackTraces = false) {D : Nat → Bool} {N : Nat} (h : ¬ pg_cb M = 0) (hD : ∀ p, p < 64 → (M 2 p = -1 ↔ D p = false)) (hc : pg_n D 64 ≤ 20) (hN : N < 20) (h5 : M 1 5 = nI (N + 1)) (hJ : M 5 5 = 0) (hS : M 11 4 = 0) (ht : M 1 3 = 0 ∨ M 1 3 = 1) : mx_Ct l (pg_L sc) mY_Pe_freeze (d + 4) 1 [.ref 0] M (mx_rA (.inl (some (.int (pe_fz M D N 5 5)))) (pe_fz M D N)) := by
  refine mx_bd (n0 := 1) hl (by decide +kernel) rfl rfl rfl ?_
  refine mx_cVi mo_Pe_freeze 2 (As := []) (rest := []) rfl (ct_Bo_canBeNumbered hl) rfl trivial rfl rfl rfl kv_Pe_83 kd_Bo_canBeNumbered rfl rfl rfl ?_
  refine mx_if mo_Pe_freeze 0 (t := 20) (f := 10) rfl trivial (fun _ => ?_) (fun q => absurd q h)
  refine mx_cVv mo_Pe_freeze 2 (As := []) (rest := []) rfl (ct_Bo_numberHoles hl hD hc) rfl trivial rfl rfl rfl kv_Pe_89 kd_Bo_numberHoles rfl rfl rfl ?_
  change mx_E l (pg_L sc) mY_Pe_freeze (d + 4) 1 _ 27 [.ref 0] [] (pe_f1 M D)
  have a4 : ¬ pe_f1 M D 1 4 = 0 := by rw [pe_f1_1]; simp [upd]
  have a5 : pe_f1 M D 1 5 = nI (N + 1) := by rw [pe_f1_1]; simp [upd, h5]
  have a3 : pe_f1 M D 1 3 = 0 ∨ pe_f1 M D 1 3 = 1 := by rw [pe_f1_1]; simp [upd]; exact ht
  have aJ : pe_f1 M D 5 5 = nI 0 := by rw [pe_f1_off (by omega), hJ]; rfl
  have aS : pe_f1 M D 11 4 = 0 := by rw [pe_f1_off (by omega), hS]
  rw [pe_fz]
  generalize pe_f1 M D = A at a4 a5 a3 aJ aS ⊢
  refine mx_cVv mo_Pe_freeze 4 (As := [.ref 1]) (rest := []) rfl (ct_Ju_list (N := N + 1) (n := 0) hl (by omega) a4 a5 (by omega) aJ a3) rfl trivial rfl rfl rfl kv_Pe_92 kd_Ju_list rfl rfl rfl ?_
  change mx_E l (pg_L sc) mY_Pe_freeze (d + 4) 1 _ 38 [.ref 0] [] (pe_f2 A N)
  have b1 : pe_f2 A N 1 = A 1 := pe_f2_off (by omega)
  have b11 : pe_f2 A N 11 = A 11 := pe_f2_off (by omega)
  rw [← b1] at a4 a5 a3
  rw [← b11] at aS
  generalize pe_f2 A N = B at a4 a5 a3 aS ⊢
  refine mx_cVv mo_Pe_freeze 4 (As := [.ref 1]) (rest := []) rfl (ct_Sy_list (N := N) hl hN a4 a5 aS a3) rfl trivial rfl rfl rfl kv_Pe_96 kd_Sy_list rfl rfl rfl ?_
  change mx_E l (pg_L sc) mY_Pe_freeze (d + 4) 1 _ 49 [.ref 0] [] (pe_f3 B N)
  refine mx_cVi mo_Pe_freeze 2 (As := []) (rest := []) rfl (ct_Ju_size hl) rfl trivial rfl rfl rfl kv_Pe_97 kd_Ju_size rfl rfl rfl ?_
  exact mx_ret_i mo_Pe_freeze rfl 0 rfl trivial rfl ⟨rfl, rfl⟩
end FZ
