/-! PegBoardsModel: way, parity. -/
section MZ
variable {l : Launch} {sc : Nat × (Nat → Int32)} {d : Nat} {M : mx_M}
def mo_way (A : mx_M) (i : Int32) (w : Nat → Nat) (K : Nat) : Int32 := if A 57 (mo_s A (A 41 17)) = 0 then -1 else if ¬ i < 0 ∧ i < nI K then A 56 (w (K - 1 - i.toNatClampNeg)) else -1
def mo_wok (A : mx_M) (w : Nat → Nat) (K : Nat) : Prop := K < 500 ∧ (¬ A 57 (mo_s A (A 41 17)) = 0 → mo_no A (A 41 17) = w 0 ∧ (∀ m, m ≤ K → w m < 500) ∧ (∀ m, m < K → A 55 (w m) = nI (w (m + 1))) ∧ A 55 (w K) = -1)
theorem ct_Mo_way (hl : l.stackTraces = false) {J K : Nat} {w : Nat → Nat} (hJ : J ≤ 120) (hs : M 41 8 = nI J) (lim i : Int32) (hw : ¬ M 41 2 = 0 → ∀ L, 1 ≤ L → L ≤ 500 → lim = nI L → mo_wok (mo_go (mx_up M 41 0 0) L J).2 w K) :
    mx_Ct l (pg_L sc) mY_Mo_way (d + 3) 0 [.ref 41, .int lim, .int i] M (mx_rI (mo_rw M lim (mo_way (mo_go (mx_up M 41 0 0) lim.toNatClampNeg J).2 i w K, (mo_go (mx_up M 41 0 0) lim.toNatClampNeg J).2)).1 (mo_rw M lim (mo_way (mo_go (mx_up M 41 0 0) lim.toNatClampNeg J).2 i w K, (mo_go (mx_up M 41 0 0) lim.toNatClampNeg J).2)).2) := by
  refine mx_bd (n0 := 3) hl (by decide +kernel) rfl rfl rfl ?_
  refine mx_cVi mo_Mo_way 2 (As := [.int lim]) (rest := []) rfl (ct_Mo_cannot hl lim) rfl trivial rfl rfl rfl kv_Mo_139 kd_Mo_cannot rfl rfl rfl ?_
  rw [mo_rw]
  by_cases hc : mo_cc M lim = 0
  case neg =>
    rw [if_neg hc, if_neg hc]
    refine mx_if mo_Mo_way 0 (t := 10) (f := 8) rfl trivial (fun (q : (1 : Int32) = 0) => absurd q (by decide)) (fun _ => ?_)
    exact mx_ret_i mo_Mo_way rfl 1 rfl trivial rfl ⟨rfl, rfl⟩
  rw [if_pos hc, if_pos hc, hc]
  refine mx_if mo_Mo_way 0 (t := 10) (f := 8) rfl trivial (fun _ => ?_) (fun q => absurd rfl q)
  obtain ⟨hfz, L, h1, h5, rfl⟩ := mo_cc0 hc
  rw [nI_clamp (by omega)]
  have hs' : mx_up M 41 0 0 41 8 = nI J := hs
  refine mx_cVi mo_Mo_way 2 (As := [.int (nI L)]) (rest := []) rfl (ct_Mo_reach hl h1 h5 hJ hs') rfl trivial rfl rfl rfl kv_Mo_142 kd_Mo_reach rfl rfl rfl ?_
  have hk : mo_ok (mo_go (mx_up M 41 0 0) L J).2 L := (mo_ra_ok L 0 _ (mo_s0_ok h1 h5).1).1
  have hw := hw hfz L h1 h5 rfl
  generalize mo_go (mx_up M 41 0 0) L J = R at hk hw ⊢
  obtain ⟨rb, A⟩ := R
  dsimp only at hk hw ⊢
  obtain ⟨-, n, g2, g3, g4⟩ := hk
  obtain ⟨hK, hw⟩ := hw
  rw [mo_way]
  generalize (if rb = true then (1 : Int32) else 0) = rv
  refine mx_cVi mo_Mo_way 4 (As := [.int (A 41 17)]) (rest := []) rfl (ct_Mo_numberOf hl g4 (A 41 17)) rfl trivial rfl rfl rfl kv_Mo_136 kd_Mo_numberOf rfl rfl rfl ?_
  rcases mo_s_in g4 (A 41 17) with ⟨c2, -⟩ | ⟨j, hj, -, c2⟩
  · rw [if_pos c2, c2]
    refine mx_if mo_Mo_way 2 (t := 33) (f := 31) rfl trivial (fun (q : (0 : Int32) ≤ 0 - 1) => absurd q (by decide)) (fun _ => ?_)
    exact mx_ret_i mo_Mo_way rfl 1 rfl trivial rfl ⟨rfl, rfl⟩
  have hne : ¬ A 57 (mo_s A (A 41 17)) = 0 := by rw [c2]; exact nI_ne0 (by omega) (by omega)
  obtain ⟨w0, w1, w2, w3⟩ := hw hne
  rw [mo_no, c2, nI_pred, nI_clamp (by omega)] at w0
  rw [if_neg hne, c2, nI_pred, w0]
  refine mx_if mo_Mo_way 2 (t := 33) (f := 31) rfl trivial (fun _ => ?_) (fun (q : ¬ (0 : Int32) ≤ nI (w 0)) => absurd (nI_pos' (by have := w1 0 (by omega); omega)) q)
  generalize hv : (if ¬ i < 0 ∧ i < nI K then A 56 (w (K - 1 - i.toNatClampNeg)) else -1) = v
  have fin : ¬ (¬ i < 0 ∧ i < nI K) → ∀ z : Value, mx_E l (pg_L sc) mY_Mo_way (d + 3) 0 (mx_rI v A) 75 [.ref 41, .int (nI L), .int i, .int rv, .int (nI (w 0)), .int (nI K), z] [] A := by
    intro c z
    rw [if_neg c] at hv
    exact mx_ret_i mo_Mo_way rfl 1 rfl trivial rfl ⟨by rw [← hv]; rfl, rfl⟩
  have back : ∀ (t : Nat), t < K → v = A 56 (w (K - 1 - t)) → ∀ (r m : Nat), K - 1 - t - m = r → m ≤ K - 1 - t → mx_E l (pg_L sc) mY_Mo_way (d + 3) 0 (mx_rI v A) 83 [.ref 41, .int (nI L), .int (nI t), .int rv, .int (nI (w m)), .int (nI K), .int (nI (K - 1 - m))] [] A := by
    intro t ht hvt r
    induction r with
    | zero =>
      intro m hm hle
      have e : m = K - 1 - t := by omega
      have hwm := w1 m (by omega)
      have ev : (nI (w m)).toNatClampNeg = w m := nI_clamp (by omega)
      refine mx_if mo_Mo_way 2 (t := 104) (f := 89) rfl trivial (fun _ => ?_) (fun (q : ¬ nI (K - 1 - m) ≤ nI t) => absurd (nI_le (by omega) (by omega)) q)
      exact mx_ret_i mo_Mo_way rfl 4 (v := A 56 (nI (w m)).toNatClampNeg) rfl ⟨vp_in_nI (N := 500) hwm (by decide), trivial⟩ rfl ⟨by rw [ev, hvt, e], rfl⟩
    | succ r ih =>
      intro m hm hle
      have hwm := w1 m (by omega)
      have ev : (nI (w m)).toNatClampNeg = w m := nI_clamp (by omega)
      refine mx_if mo_Mo_way 2 (t := 104) (f := 89) rfl trivial (fun (q : nI (K - 1 - m) ≤ nI t) => absurd q (nI_ge (by omega) (by omega))) (fun _ => ?_)
      refine mx_go mo_Mo_way 7 (pc' := 83) (ls' := [.ref 41, .int (nI L), .int (nI t), .int rv, .int (A 55 (nI (w m)).toNatClampNeg), .int (nI K), .int (nI (K - 1 - m) + (-1))]) (st' := []) (M' := A) rfl ⟨vp_in_nI (N := 500) hwm (by decide), trivial⟩ ?_
      rw [ev, w2 m (by omega)]
      have e1 : nI (K - 1 - m) + (-1) = nI (K - 1 - (m + 1)) := by
        rw [show K - 1 - m = (K - 1 - (m + 1)) + 1 by omega, show ∀ x : Int32, x + (-1) = x - 1 from fun x => by rw [Int32.sub_eq_add_neg], nI_pred]
      rw [e1]
      exact ih (m + 1) (by omega) (by omega)
  have count : ∀ (r m : Nat), K - m = r → m ≤ K → mx_E l (pg_L sc) mY_Mo_way (d + 3) 0 (mx_rI v A) 40 [.ref 41, .int (nI L), .int i, .int rv, .int (nI (w 0)), .int (nI m), .int (nI (w m))] [] A := by
    intro r
    induction r with
    | zero =>
      intro m hm hle
      have e : m = K := by omega
      subst e
      have hwm := w1 m (by omega)
      have ev : (nI (w m)).toNatClampNeg = w m := nI_clamp (by omega)
      refine mx_if mo_Mo_way 4 (t := 65) (f := 50) rfl ⟨vp_in_nI (N := 500) hwm (by decide), trivial⟩ (fun _ => ?_) (fun (q : ¬ A 55 (nI (w m)).toNatClampNeg < 0) => ?_)
      · refine mx_if mo_Mo_way 1 (t := 75) (f := 69) rfl trivial (fun q => fin (fun c => c.1 q) _) (fun (q1 : ¬ i < 0) => ?_)
        refine mx_if mo_Mo_way 2 (t := 77) (f := 75) rfl trivial (fun (q2 : i < nI m) => ?_) (fun q2 => fin (fun c => q2 c.2) _)
        rw [if_pos ⟨q1, q2⟩] at hv
        obtain ⟨t, ht, rfl⟩ := nI_inJ (by omega) ⟨q1, q2⟩
        rw [nI_clamp (by omega)] at hv
        refine mx_go mo_Mo_way 4 (pc' := 83) (ls' := [.ref 41, .int (nI L), .int (nI t), .int rv, .int (nI (w 0)), .int (nI m), .int (nI m - 1)]) (st' := []) (M' := A) rfl trivial ?_
        have e1 : nI m - 1 = nI (m - 1 - 0) := by
          rw [show m = (m - 1 - 0) + 1 by omega, nI_pred]; rfl
        rw [e1]
        exact back t ht hv.symm (m - 1 - t) 0 (by omega) (by omega)
      · rw [ev, w3] at q; exact absurd (by decide) q
    | succ r ih =>
      intro m hm hle
      have hwm := w1 m (by omega)
      have ev : (nI (w m)).toNatClampNeg = w m := nI_clamp (by omega)
      refine mx_if mo_Mo_way 4 (t := 65) (f := 50) rfl ⟨vp_in_nI (N := 500) hwm (by decide), trivial⟩ (fun (q : A 55 (nI (w m)).toNatClampNeg < 0) => ?_) (fun _ => ?_)
      · rw [ev, w2 m (by omega)] at q
        exact absurd q (nI_pos (by have := w1 (m + 1) (by omega); omega))
      refine mx_go mo_Mo_way 7 (pc' := 40) (ls' := [.ref 41, .int (nI L), .int i, .int rv, .int (nI (w 0)), .int (nI m + 1), .int (A 55 (nI (w m)).toNatClampNeg)]) (st' := []) (M' := A) rfl ⟨vp_in_nI (N := 500) hwm (by decide), trivial⟩ ?_
      rw [ev, w2 m (by omega), nI_1]
      exact ih (m + 1) (by omega) (by omega)
  exact mx_go mo_Mo_way 4 (pc' := 40) (ls' := [.ref 41, .int (nI L), .int i, .int rv, .int (nI (w 0)), .int (nI 0), .int (nI (w 0))]) (st' := []) (M' := A) rfl trivial (count K 0 (by omega) (by omega))
end MZ
