/-! PegBoardsModel: reach, count, solve. -/
section MS
variable {l : Launch} {sc : Nat × (Nat → Int32)} {d : Nat} {M : mx_M}
def mo_e0 (M : mx_M) : mx_M := pg_fill (mx_up M 41 20 0) 57 1024 0
def mo_s0 (M : mx_M) : mx_M := mo_en (mo_e0 M) 0 (mo_s (mo_e0 M) (M 41 16)) (M 41 16) (-1) (-1)
theorem mo_e0_57 {t : Nat} (ht : t < 1024) : mo_e0 M 57 t = 0 := by
  simp [mo_e0, pg_fill, mx_row, ht]
theorem mo_e0_off {c : Nat} (h1 : c ≠ 41) (h2 : c ≠ 57) : mo_e0 M c = M c := by
  funext j
  simp [mo_e0, pg_fill, mx_row, h2, mx_up, h1]
theorem mo_e0_41 {j : Nat} (h : j ≠ 20) : mo_e0 M 41 j = M 41 j := by
  simp [mo_e0, pg_fill, mx_row, mx_up, h]
theorem mo_e0_f : mo_e0 M 41 20 = 0 := by
  simp [mo_e0, pg_fill, mx_row, mx_up]
theorem mo_e0_hs : hs_ok mo_h (mo_e0 M 57) (mo_e0 M 54) 0 := hs_nil (fun p => (mo_hx p).2) (fun _ ht => mo_e0_57 ht)
theorem mo_s0_ok {L : Nat} (h1 : 1 ≤ L) (h5 : L ≤ 500) : mo_ok (mo_s0 M) L ∧ mo_s0 M 41 20 = nI 1 ∧ mo_s0 M 54 0 = M 41 16 := by
  refine ⟨⟨h5, 1, h1, mo_en_f, ?_⟩, mo_en_f, ?_⟩
  · rw [mo_s0, mo_en_54, mo_en_57]
    exact hs_add mo_e0_hs (by decide) (fun i hi => absurd hi (Nat.not_lt_zero i))
  · rw [mo_s0, mo_en_54]; simp [upd]
theorem mo_s0_off {c : Nat} (hc : c < 41 ∨ 41 < c ∧ c < 54 ∨ 57 < c) : mo_s0 M c = M c := by
  rw [mo_s0, mo_en_off hc, mo_e0_off (by omega) (by omega)]
theorem mo_s0_41 {c : Nat} (hc : c ≠ 20) : mo_s0 M 41 c = M 41 c := by
  rw [mo_s0, mo_en_41 hc, mo_e0_41 hc]
def mo_go (M : mx_M) (L J : Nat) : Bool × mx_M := mo_ra L J L 0 (mo_s0 M)
theorem ct_Mo_reach (hl : l.stackTraces = false) {L J : Nat} (h1 : 1 ≤ L) (h5 : L ≤ 500) (hJ : J ≤ 120) (hs : M 41 8 = nI J) : mx_Ct l (pg_L sc) mY_Mo_reach (d + 2) 0 [.ref 41, .int (nI L)] M (mx_rI (if (mo_go M L J).1 then 1 else 0) (mo_go M L J).2) := by
  generalize hR : mo_go M L J = R
  have inner : ∀ (m k s : Nat) (M1 : mx_M) (z : Value), J - k = m → k ≤ J → s < (M1 41 20).toNatClampNeg → mo_ok M1 L → M1 41 8 = nI J →
      ((mo_row L s m k M1).1 = true → ∀ a b : Value, mx_E l (pg_L sc) mY_Mo_reach (d + 2) 0 (mx_rI (if R.1 then 1 else 0) R.2) 108 [.ref 41, .int (nI L), .int (nI s), a, b] [] (mo_row L s m k M1).2) → ((mo_row L s m k M1).1 = false → R = (false, (mo_row L s m k M1).2)) →
      mx_E l (pg_L sc) mY_Mo_reach (d + 2) 0 (mx_rI (if R.1 then 1 else 0) R.2) 49 [.ref 41, .int (nI L), .int (nI s), .int (nI k), z] [] M1 := by
    intro m
    induction m with
    | zero =>
      intro k s M1 z hm hk hsn hok h8 hnext _
      have e : k = J := by omega
      subst e
      refine mx_if mo_Mo_reach 3 (t := 108) (f := 57) rfl trivial (fun _ => hnext rfl _ _) (fun (q : ¬ M1 41 8 ≤ nI k) => ?_)
      rw [h8] at q
      exact absurd (nI_le (Nat.le_refl k) (by omega)) q
    | succ m ih =>
      intro k s M1 z hm hk hsn hok h8 hnext hstop
      obtain ⟨a1, a2, a3, a4, a5⟩ := mo_k_ok (s := s) (k := k) hok
      have hok0 := hok
      obtain ⟨-, n, g2, g3, g4⟩ := hok
      have hn : (M1 41 20).toNatClampNeg = n := by rw [g3]; exact nI_clamp (by omega)
      rw [hn] at hsn
      have es : (nI s).toNatClampNeg = s := nI_clamp (by omega)
      rw [mo_row] at hnext hstop
      have next : ∀ z : Value, (mo_k L s k M1).1 = true → mx_E l (pg_L sc) mY_Mo_reach (d + 2) 0 (mx_rI (if R.1 then 1 else 0) R.2) 102 [.ref 41, .int (nI L), .int (nI s), .int (nI k), z] [] (mo_k L s k M1).2 := by
        intro z hb
        rw [if_pos hb] at hnext hstop
        refine mx_go mo_Mo_reach 2 (pc' := 49) (ls' := [.ref 41, .int (nI L), .int (nI s), .int (nI k + 1), z]) (st' := []) rfl trivial ?_
        rw [nI_1]
        exact ih (k + 1) s _ z (by omega) (by omega) (by omega) a1 (by rw [a5 8 (by decide)]; exact h8) hnext hstop
      refine mx_if mo_Mo_reach 3 (t := 108) (f := 57) rfl trivial (fun (q : M1 41 8 ≤ nI k) => ?_) (fun _ => ?_)
      · rw [h8] at q
        exact absurd q (nI_ge (by omega) (by omega))
      refine mx_go mo_Mo_reach 6 (pc' := 65) (ls' := [.ref 41, .int (nI L), .int (nI s), .int (nI k), z]) (st' := [.int (nI k), .int (M1 54 (nI s).toNatClampNeg), .ref 41]) (M' := M1) rfl ⟨vp_in_nI (N := 500) (by omega) (by decide), trivial⟩ ?_
      rw [es]
      refine mx_cVi mo_Mo_reach 0 (As := [.int (M1 54 s), .int (nI k)]) (rest := []) rfl (ct_Mo_made hl (M1 54 s) (by omega)) rfl trivial rfl rfl rfl kv_Mo_123 kd_Mo_made rfl rfl rfl ?_
      change mx_E l (pg_L sc) mY_Mo_reach (d + 2) 0 _ 68 [.ref 41, .int (nI L), .int (nI s), .int (nI k), z] [.int (mo_q M1 s k)] M1
      unfold mo_k at next hnext hstop
      rw [hn] at next hnext hstop
      generalize mo_q M1 s k = q at next hnext hstop ⊢
      refine mx_if mo_Mo_reach 2 (t := 102) (f := 75) rfl trivial (fun (c1 : q < 0) => ?_) (fun (c1 : ¬ q < 0) => ?_)
      · rw [if_pos c1] at next
        exact next _ rfl
      rw [if_neg c1] at next hnext hstop
      refine mx_cVi mo_Mo_reach 2 (As := [.int q]) (rest := []) rfl (ct_Mo_numberOf hl g4 q) rfl trivial rfl rfl rfl kv_Mo_136 kd_Mo_numberOf rfl rfl rfl ?_
      rcases mo_s_in g4 q with ⟨c2, -⟩ | ⟨i, hi, -, c2⟩
      · rw [if_pos c2] at next hnext hstop
        rw [c2]
        refine mx_if mo_Mo_reach 0 (t := 102) (f := 84) rfl trivial (fun (c3 : (0 : Int32) ≤ 0 - 1) => absurd c3 (by decide)) (fun _ => ?_)
        refine mx_if mo_Mo_reach 3 (t := 94) (f := 92) rfl trivial (fun (c4 : ¬ M1 41 20 = nI L) => ?_) (fun (c4 : M1 41 20 = nI L) => ?_)
        · rw [g3, nI_eq (by omega) (by omega)] at c4
          rw [if_neg c4] at next
          refine mx_cVv mo_Mo_reach 4 (As := [.int q, .int (nI s), .int (nI k)]) (rest := []) rfl (ct_Mo_enter hl g4 (by omega) g3 q (nI s) (nI k)) rfl trivial rfl rfl rfl kv_Mo_132 kd_Mo_enter rfl rfl rfl ?_
          exact next _ rfl
        · rw [g3, nI_eq (by omega) (by omega)] at c4
          rw [if_pos c4, if_neg (show ¬ ((false, M1) : Bool × mx_M).1 = true from Bool.false_ne_true)] at hstop
          rw [hstop rfl]
          exact mx_ret_z mo_Mo_reach rfl 1 rfl trivial rfl (Or.inl rfl) ⟨rfl, rfl⟩
      · rw [if_neg (by rw [c2]; exact nI_ne0 (by omega) (by omega))] at next
        rw [c2, nI_pred]
        refine mx_if mo_Mo_reach 0 (t := 102) (f := 84) rfl trivial (fun _ => next _ rfl) (fun (c3 : ¬ (0 : Int32) ≤ nI i) => ?_)
        exact absurd (nI_pos' (by have := g4.1; omega)) c3
  have outer : ∀ (m s : Nat) (M1 : mx_M) (a b : Value), L - s = m → s ≤ L → mo_ok M1 L → M1 41 8 = nI J → mo_ra L J m s M1 = R →
      mx_E l (pg_L sc) mY_Mo_reach (d + 2) 0 (mx_rI (if R.1 then 1 else 0) R.2) 39 [.ref 41, .int (nI L), .int (nI s), a, b] [] M1 := by
    intro m
    induction m with
    | zero =>
      intro s M1 a b hm hsL hok h8 he
      obtain ⟨-, n, g2, g3, g4⟩ := hok
      rw [mo_ra] at he
      refine mx_if mo_Mo_reach 3 (t := 114) (f := 47) rfl trivial (fun _ => ?_) (fun (q : ¬ M1 41 20 ≤ nI s) => ?_)
      · rw [← he]
        exact mx_ret_z mo_Mo_reach rfl 1 rfl trivial rfl (Or.inr rfl) ⟨rfl, rfl⟩
      · rw [g3] at q
        exact absurd (nI_le (by omega) (by omega)) q
    | succ m ih =>
      intro s M1 a b hm hsL hok h8 he
      obtain ⟨a1, a2, a3, a4, a5⟩ := mo_row_ok (s := s) J 0 M1 hok
      have hok0 := hok
      obtain ⟨-, n, g2, g3, g4⟩ := hok
      have hn : (M1 41 20).toNatClampNeg = n := by rw [g3]; exact nI_clamp (by omega)
      rw [mo_ra] at he
      refine mx_if mo_Mo_reach 3 (t := 114) (f := 47) rfl trivial (fun (q : M1 41 20 ≤ nI s) => ?_) (fun (q : ¬ M1 41 20 ≤ nI s) => ?_)
      · rw [g3, nI_leI (by omega) (by omega)] at q
        rw [if_neg (by omega)] at he
        rw [← he]
        exact mx_ret_z mo_Mo_reach rfl 1 rfl trivial rfl (Or.inr rfl) ⟨rfl, rfl⟩
      · rw [g3, nI_leI (by omega) (by omega)] at q
        rw [if_pos (by omega)] at he
        refine mx_go mo_Mo_reach 2 (pc' := 49) (ls' := [.ref 41, .int (nI L), .int (nI s), .int (nI 0), b]) (st' := []) (M' := M1) rfl trivial ?_
        refine inner J 0 s M1 b (by omega) (by omega) (by omega) hok0 h8 (fun hb a b => ?_) (fun hb => ?_)
        · rw [if_pos hb] at he
          refine mx_go mo_Mo_reach 2 (pc' := 39) (ls' := [.ref 41, .int (nI L), .int (nI s + 1), a, b]) (st' := []) rfl trivial ?_
          rw [nI_1]
          exact ih (s + 1) _ a b (by omega) (by omega) a1 (by rw [a5 8 (by decide)]; exact h8) he
        · rw [hb] at he
          exact he.symm
  have fill : ∀ (m i : Nat) (a b : Value), 1024 - i = m → i ≤ 1024 → mx_E l (pg_L sc) mY_Mo_reach (d + 2) 0 (mx_rI (if R.1 then 1 else 0) R.2) 7 [.ref 41, .int (nI L), .int (nI i), a, b] [] (pg_fill (mx_up M 41 20 0) 57 i 0) := by
    intro m
    induction m with
    | zero =>
      intro i a b hm hi
      have e : i = 1024 := by omega
      subst e
      refine mx_if mo_Mo_reach 2 (t := 27) (f := 14) rfl trivial (fun _ => ?_) (fun h => absurd (nI_le (Nat.le_refl 1024) (by decide)) h)
      change mx_E l (pg_L sc) mY_Mo_reach (d + 2) 0 _ 27 _ _ (mo_e0 M)
      refine mx_go mo_Mo_reach 5 (pc' := 34) (ls' := [.ref 41, .int (nI L), .int (nI 1024), a, b]) (st' := [.int (-1), .int (-1), .int (mo_e0 M 41 16), .ref 41]) (M' := mo_e0 M) rfl trivial ?_
      rw [mo_e0_41 (by decide)]
      refine mx_cVv mo_Mo_reach 0 (As := [.int (M 41 16), .int (-1), .int (-1)]) (rest := []) rfl (ct_Mo_enter (n := 0) hl mo_e0_hs (by decide) (by rw [mo_e0_f]; rfl) (M 41 16) (-1) (-1)) rfl trivial rfl rfl rfl kv_Mo_132 kd_Mo_enter rfl rfl rfl ?_
      refine mx_go mo_Mo_reach 2 (pc' := 39) (ls' := [.ref 41, .int (nI L), .int (nI 0), a, b]) (st' := []) (M' := mo_s0 M) rfl trivial ?_
      exact outer L 0 _ a b (by omega) (by omega) (mo_s0_ok h1 h5).1 (by rw [mo_s0_41 (by decide)]; exact hs) hR
    | succ m ih =>
      intro i a b hm hi
      have e : (nI i).toNatClampNeg = i := nI_clamp (by omega)
      refine mx_if mo_Mo_reach 2 (t := 27) (f := 14) rfl trivial (fun (h : nI 1024 ≤ nI i) => absurd h (nI_ge (by omega) (by decide))) (fun h => ?_)
      refine mx_go mo_Mo_reach 7 (pc' := 7) (ls' := [.ref 41, .int (nI L), .int (nI i + 1), a, b]) (st' := []) (M' := mx_up (pg_fill (mx_up M 41 20 0) 57 i 0) 57 (nI i).toNatClampNeg 0) rfl ⟨vp_in_nI (N := 1024) (by omega) (by decide), trivial⟩ ?_
      rw [e, pg_fill_s, nI_1]
      exact ih (i + 1) a b (by omega) (by omega)
  refine mx_bd (n0 := 2) hl (by decide +kernel) rfl rfl rfl ?_
  refine mx_go mo_Mo_reach 5 (pc' := 7) (ls' := [.ref 41, .int (nI L), .int (nI 0), .null, .null]) (st' := []) (M' := mx_up M 41 20 0) rfl trivial ?_
  have := fill 1024 0 .null .null (by omega) (by omega)
  rw [pg_fill_0] at this
  exact this
end MS
