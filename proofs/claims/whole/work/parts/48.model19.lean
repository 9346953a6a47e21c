/-! PegBoardsModel.freeze. -/
section MJ
variable {l : Launch} {sc : Nat × (Nat → Int32)} {d : Nat} {M : mx_M}
theorem ct_Mo_freeze0 (hl : l.stackTraces = false) (h : ¬ M 41 2 = 0 ∨ M 41 3 = 0) : mx_Ct l (pg_L sc) mY_Mo_freeze d 0 [.ref 41] M (mx_rI 0 (mx_up M 41 0 1)) := by
  refine mx_bd (n0 := 1) hl (by decide +kernel) rfl rfl rfl ?_
  have fin : mx_E l (pg_L sc) mY_Mo_freeze d 0 (mx_rI 0 (mx_up M 41 0 1)) 15 [.ref 41, .null, .null, .null, .null, .null] [.ref 41] M := by
    refine mx_if mo_Mo_freeze 5 (t := 32) (f := 30) rfl trivial (fun (q : (1 : Int32) ≤ 0) => absurd q (by decide)) (fun _ => ?_)
    exact mx_ret_i mo_Mo_freeze rfl 1 rfl trivial rfl ⟨rfl, rfl⟩
  refine mx_if mo_Mo_freeze 3 (t := 15) (f := 8) rfl trivial (fun _ => fin) (fun (q : M 41 2 = 0) => ?_)
  refine mx_if mo_Mo_freeze 2 (t := 19) (f := 15) rfl trivial (fun (q2 : ¬ M 41 3 = 0) => ?_) (fun _ => fin)
  exact absurd h (fun c => c.elim (fun c => c q) q2)
def mo_fr (M : mx_M) (D : Nat → Bool) (t N : Nat) : mx_M := mo_fi (mo_ja (mo_nh D (mx_up (mx_up M 41 0 0) 41 2 1) 64) t N) t N (2 * t)
theorem ct_Mo_freeze1 (hl : l.stackTraces = false) {D : Nat → Bool} {N t : Nat} (hf : M 41 2 = 0) (hn0 : ¬ M 41 3 = 0) (hD : ∀ p, p < 64 → (M 42 p = 0 ↔ D p = false)) (hc : pg_n D 64 ≤ 20) (hN : N ≤ 20) (ht : t = 4 ∨ t = 6) (htt : (if M 41 1 = 0 then 4 else 6 : Int32) = nI t) (h3 : M 41 3 = nI N) (h8 : M 41 8 = 0) (h12 : M 41 12 = 0) :
    mx_Ct l (pg_L sc) mY_Mo_freeze (d + 3) 0 [.ref 41] M (mx_rI (mo_fr M D t N 41 8) (mo_fr M D t N)) := by
  refine mx_bd (n0 := 1) hl (by decide +kernel) rfl rfl rfl ?_
  refine mx_if mo_Mo_freeze 3 (t := 15) (f := 8) rfl trivial (fun (q : ¬ M 41 2 = 0) => absurd hf q) (fun _ => ?_)
  refine mx_if mo_Mo_freeze 2 (t := 19) (f := 15) rfl trivial (fun _ => ?_) (fun (q : M 41 3 = 0) => absurd q hn0)
  refine mx_if mo_Mo_freeze 4 (t := 32) (f := 30) rfl trivial (fun _ => ?_) (fun (q : ¬ (0 : Int32) ≤ 0) => absurd (by decide) q)
  generalize hA : mx_up (mx_up M 41 0 0) 41 2 1 = A
  have a1 : A 41 1 = M 41 1 := by rw [← hA]; rfl
  have a3 : A 41 3 = nI N := by rw [← hA]; exact h3
  have a8 : A 41 8 = 0 := by rw [← hA]; exact h8
  have a12 : A 41 12 = 0 := by rw [← hA]; exact h12
  have a42 : A 42 = M 42 := by rw [← hA]; rfl
  refine mx_go mo_Mo_freeze 7 (P := ((1 : Int32) = 0 ∨ (1 : Int32) = 1) ∧ True) (pc' := 41) (ls' := [.ref 41, .int (nI (pg_n D (8 * 0))), .int (nI 0), .null, .null, .null]) (st' := []) (M' := mo_nh D A (8 * 0)) (by rw [← hA]; rfl) ⟨Or.inr rfl, trivial⟩ ?_
  rw [mo_fr, hA]
  refine mo_fz1 (by rw [a42]; exact hD) hc (fun n r c x y => ?_) 8 0 (by omega) (by omega) _ _ _
  have b41 : mo_nh D A 64 41 = A 41 := mo_nh_off (by decide) (by decide) (by decide) 64
  generalize mo_nh D A 64 = B at b41 ⊢
  rw [← b41] at a1 a3 a8 a12
  refine mx_go mo_Mo_freeze 2 (pc' := 112) (ls' := [.ref 41, n, .int (nI 0), c, x, y]) (st' := []) (M' := mo_ja B t 0) rfl trivial ?_
  refine mo_fz2 (d := d + 1) hl hN ht (by rw [a1]; exact htt) a3 a8 (fun n r c x y => ?_) N 0 (by omega) (by omega) _ _ _ _
  have c1 : mo_ja B t N 41 1 = M 41 1 := by rw [mo_ja_41 (by decide)]; exact a1
  have c3 : mo_ja B t N 41 3 = nI N := by rw [mo_ja_41 (by decide)]; exact a3
  have c12 : mo_ja B t N 41 12 = 0 := by rw [mo_ja_41 (by decide)]; exact a12
  generalize mo_ja B t N = C at c1 c3 c12 ⊢
  refine mx_go mo_Mo_freeze 2 (pc' := 260) (ls' := [.ref 41, n, .int (nI 0), c, x, y]) (st' := []) (M' := mo_fi C t N 0) rfl trivial ?_
  refine mo_fz3 (d := d) hl hN ht (by rw [c1]; exact htt) c3 c12 (fun n r c x y => ?_) (2 * t) 0 (by omega) (by omega) _ _ _ _
  exact mx_ret_i mo_Mo_freeze rfl 2 rfl trivial rfl ⟨rfl, rfl⟩
end MJ
