/-! PegBoardsModel: freeze, the numbering. -/
section MF
variable {l : Launch} {sc : Nat × (Nat → Int32)} {d : Nat} {M : mx_M}
def mo_nh (D : Nat → Bool) (M : mx_M) : Nat → mx_M
  | 0 => M
  | p + 1 => if D p then mx_up (mx_up (mx_up (mo_nh D M p) 43 p (nI (pg_n D p))) 44 (pg_n D p) (nI (p / 8))) 45 (pg_n D p) (nI (p % 8)) else mo_nh D M p
theorem mo_nh_off {D : Nat → Bool} {c : Nat} (h1 : c ≠ 43) (h2 : c ≠ 44) (h3 : c ≠ 45) : ∀ p, mo_nh D M p c = M c := by
  intro p
  induction p with
  | zero => rfl
  | succ p ih =>
    rw [mo_nh]
    split
    · rw [mx_up_off h3, mx_up_off h2, mx_up_off h1, ih]
    · exact ih
theorem mo_fz1 {D : Nat → Bool} (hD : ∀ p, p < 64 → (M 42 p = 0 ↔ D p = false)) (hc : pg_n D 64 ≤ 20) {Q : mx_R → mx_M → Prop}
    (nx : ∀ n r c x y : Value, mx_E l (pg_L sc) mY_Mo_freeze d 0 Q 110 [.ref 41, n, r, c, x, y] [] (mo_nh D M 64)) :
    ∀ (m r : Nat), 8 - r = m → r ≤ 8 → ∀ c x y : Value, mx_E l (pg_L sc) mY_Mo_freeze d 0 Q 41 [.ref 41, .int (nI (pg_n D (8 * r))), .int (nI r), c, x, y] [] (mo_nh D M (8 * r)) := by
  have inner : ∀ (r : Nat), r < 8 → (∀ c x y : Value, mx_E l (pg_L sc) mY_Mo_freeze d 0 Q 104 [.ref 41, .int (nI (pg_n D (8 * r + 8))), .int (nI r), c, x, y] [] (mo_nh D M (8 * r + 8))) →
      ∀ (m c : Nat), 8 - c = m → c ≤ 8 → ∀ x y : Value, mx_E l (pg_L sc) mY_Mo_freeze d 0 Q 49 [.ref 41, .int (nI (pg_n D (8 * r + c))), .int (nI r), .int (nI c), x, y] [] (mo_nh D M (8 * r + c)) := by
    intro r hr nx2 m
    induction m with
    | zero =>
      intro c hm hle x y
      have e : c = 8 := by omega
      subst e
      exact mx_if mo_Mo_freeze 2 (t := 104) (f := 55) rfl trivial (fun _ => nx2 _ _ _) (fun (q : ¬ nI 8 ≤ nI 8) => absurd (nI_le (Nat.le_refl 8) (by decide)) q)
    | succ m ih =>
      intro c hm hle x y
      have ep : (8 * nI r + nI c) = nI (8 * r + c) := by rw [show (8 : Int32) = nI 8 from rfl, pk_mul, nI_add]
      have hv : vp_in (8 * nI r + nI c) 64 := by rw [ep]; exact vp_in_nI (by omega) (by decide)
      have e : (8 * nI r + nI c).toNatClampNeg = 8 * r + c := by rw [ep]; exact nI_clamp (by omega)
      have c42 : mo_nh D M (8 * r + c) 42 = M 42 := mo_nh_off (by decide) (by decide) (by decide) _
      have hI := ih (c + 1) (by omega) (by omega) x y
      refine mx_if mo_Mo_freeze 2 (t := 104) (f := 55) rfl trivial (fun (q : nI 8 ≤ nI c) => absurd q (nI_ge (by omega) (by decide))) (fun _ => ?_)
      refine mx_if mo_Mo_freeze 8 (t := 98) (f := 69) rfl ⟨hv, trivial⟩ (fun (q : mo_nh D M (8 * r + c) 42 (8 * nI r + nI c).toNatClampNeg = 0) => ?_) (fun (q : ¬ mo_nh D M (8 * r + c) 42 (8 * nI r + nI c).toNatClampNeg = 0) => ?_)
      · rw [e, c42, hD _ (by omega)] at q
        rw [show 8 * r + (c + 1) = 8 * r + c + 1 by omega, show pg_n D (8 * r + c + 1) = pg_n D (8 * r + c) by rw [pg_n, q]; rfl, show mo_nh D M (8 * r + c + 1) = mo_nh D M (8 * r + c) by rw [mo_nh, q]; rfl] at hI
        refine mx_go mo_Mo_freeze 2 (pc' := 49) (ls' := [.ref 41, .int (nI (pg_n D (8 * r + c))), .int (nI r), .int (nI c + 1), x, y]) (st' := []) rfl trivial ?_
        rw [nI_1]
        exact hI
      · rw [e, c42, hD _ (by omega)] at q
        have q : D (8 * r + c) = true := by cases hd : D (8 * r + c) with | true => rfl | false => exact absurd hd q
        have hlt : pg_n D (8 * r + c) < 20 := Nat.lt_of_lt_of_le (pg_n_lt (show 8 * r + c < 64 by omega) q) hc
        rw [show 8 * r + (c + 1) = 8 * r + c + 1 by omega, show pg_n D (8 * r + c + 1) = pg_n D (8 * r + c) + 1 by rw [pg_n, q]; rfl, show mo_nh D M (8 * r + c + 1) = mx_up (mx_up (mx_up (mo_nh D M (8 * r + c)) 43 (8 * r + c) (nI (pg_n D (8 * r + c)))) 44 (pg_n D (8 * r + c)) (nI ((8 * r + c) / 8))) 45 (pg_n D (8 * r + c)) (nI ((8 * r + c) % 8)) by rw [mo_nh, q]; rfl, show (8 * r + c) / 8 = r by omega, show (8 * r + c) % 8 = c by omega] at hI
        generalize mo_nh D M (8 * r + c) = B at hI ⊢
        generalize pg_n D (8 * r + c) = n at hI hlt ⊢
        have en : (nI n).toNatClampNeg = n := nI_clamp (by omega)
        have hvn : vp_in (nI n) 20 := vp_in_nI hlt (by decide)
        refine mx_go mo_Mo_freeze 22 (pc' := 49) (ls' := [.ref 41, .int (nI n + 1), .int (nI r), .int (nI c + 1), x, y]) (st' := []) (M' := mx_up (mx_up (mx_up B 43 (8 * nI r + nI c).toNatClampNeg (nI n)) 44 (nI n).toNatClampNeg (nI r)) 45 (nI n).toNatClampNeg (nI c)) rfl ⟨hv, hvn, hvn, trivial⟩ ?_
        rw [e, en, nI_1, nI_1]
        exact hI
  intro m
  induction m with
  | zero =>
    intro r hm hle c x y
    have e : r = 8 := by omega
    subst e
    exact mx_if mo_Mo_freeze 2 (t := 110) (f := 47) rfl trivial (fun _ => nx _ _ _ _ _) (fun (q : ¬ nI 8 ≤ nI 8) => absurd (nI_le (Nat.le_refl 8) (by decide)) q)
  | succ m ih =>
    intro r hm hle c x y
    refine mx_if mo_Mo_freeze 2 (t := 110) (f := 47) rfl trivial (fun (q : nI 8 ≤ nI r) => absurd q (nI_ge (by omega) (by decide))) (fun _ => ?_)
    refine mx_go mo_Mo_freeze 2 (pc' := 49) (ls' := [.ref 41, .int (nI (pg_n D (8 * r))), .int (nI r), .int (nI 0), x, y]) (st' := []) rfl trivial ?_
    refine inner r (by omega) (fun c x y => ?_) 8 0 (by omega) (by omega) x y
    refine mx_go mo_Mo_freeze 2 (pc' := 41) (ls' := [.ref 41, .int (nI (pg_n D (8 * r + 8))), .int (nI r + 1), c, x, y]) (st' := []) rfl trivial ?_
    rw [nI_1]
    exact ih (r + 1) (by omega) (by omega) c x y
end MF
