/-! PegBoardsModel: freeze, listing the jumps. -/
section MH
variable {l : Launch} {sc : Nat × (Nat → Int32)} {d : Nat} {M : mx_M}
theorem mo_fz2 (hl : l.stackTraces = false) {N t : Nat} (hN : N ≤ 20) (ht : t = 4 ∨ t = 6) (htt : (if M 41 1 = 0 then 4 else 6 : Int32) = nI t) (h3 : M 41 3 = nI N) (h8 : M 41 8 = 0) {Q : mx_R → mx_M → Prop}
    (nx : ∀ n r c x y : Value, mx_E l (pg_L sc) mY_Mo_freeze (d + 2) 0 Q 258 [.ref 41, n, r, c, x, y] [] (mo_ja M t N)) :
    ∀ (m h : Nat), N - h = m → h ≤ N → ∀ n c x y : Value, mx_E l (pg_L sc) mY_Mo_freeze (d + 2) 0 Q 112 [.ref 41, n, .int (nI h), c, x, y] [] (mo_ja M t h) := by
  intro m
  induction m with
  | zero =>
    intro h hm hle n c x y
    have e : h = N := by omega
    subst e
    refine mx_if mo_Mo_freeze 3 (t := 258) (f := 120) rfl trivial (fun _ => nx _ _ _ _ _) (fun (q : ¬ mo_ja M t h 41 3 ≤ nI h) => ?_)
    rw [mo_ja_41 (by decide), h3] at q; exact absurd (nI_le (Nat.le_refl h) (by omega)) q
  | succ m ih =>
    intro h hm hle n c x y
    have hI := ih (h + 1) (by omega) (by omega)
    rw [show mo_ja M t (h + 1) = mo_jd (mo_ja M t h) h t from rfl] at hI
    obtain ⟨n0, hn0, en0⟩ := mo_ja_8 (t := t) (by omega) h8 h
    have b1 : mo_ja M t h 41 1 = M 41 1 := mo_ja_41 (by decide) h
    have b3 : mo_ja M t h 41 3 = nI N := by rw [mo_ja_41 (by decide)]; exact h3
    generalize mo_ja M t h = B at hI en0 b1 b3 ⊢
    have eh : (nI h).toNatClampNeg = h := nI_clamp (by omega)
    have hvh : vp_in (nI h) 20 := vp_in_nI (by omega) (by decide)
    refine mx_if mo_Mo_freeze 3 (t := 258) (f := 120) rfl trivial (fun (q : B 41 3 ≤ nI h) => ?_) (fun _ => ?_)
    · rw [b3] at q; exact absurd q (nI_ge (by omega) (by omega))
    have inner : ∀ (m2 j : Nat), t - j = m2 → j ≤ t → ∀ x y : Value, mx_E l (pg_L sc) mY_Mo_freeze (d + 2) 0 Q 122 [.ref 41, n, .int (nI h), .int (nI j), x, y] [] (mo_jd B h j) := by
      intro m2
      induction m2 with
      | zero =>
        intro j hm2 hle2 x y
        have e : j = t := by omega
        subst e
        refine mx_cVi mo_Mo_freeze 2 (As := []) (rest := [.int (nI j)]) rfl (ct_Mo_turns hl) rfl trivial rfl rfl rfl kv_Mo_95 kd_Mo_turns rfl rfl rfl ?_
        rw [mo_jd_41 (by decide), b1, htt]
        refine mx_if mo_Mo_freeze 0 (t := 252) (f := 130) rfl trivial (fun _ => ?_) (fun q => absurd (nI_le (Nat.le_refl j) (by omega)) q)
        refine mx_go mo_Mo_freeze 2 (pc' := 112) (ls' := [.ref 41, n, .int (nI h + 1), .int (nI j), x, y]) (st' := []) rfl trivial ?_
        rw [nI_1]
        exact hI _ _ _ _
      | succ m2 ih2 =>
        intro j hm2 hle2 x y
        obtain ⟨n1, hn1, en1⟩ := mo_jd_8 (h := h) en0 j
        have next := ih2 (j + 1) (by omega) (by omega)
        rw [mo_jd] at next
        refine mx_cVi mo_Mo_freeze 2 (As := []) (rest := [.int (nI j)]) rfl (ct_Mo_turns hl) rfl trivial rfl rfl rfl kv_Mo_95 kd_Mo_turns rfl rfl rfl ?_
        rw [mo_jd_41 (by decide), b1, htt]
        refine mx_if mo_Mo_freeze 0 (t := 252) (f := 130) rfl trivial (fun q => absurd q (nI_ge (by omega) (by omega))) (fun _ => ?_)
        have edn : mo_dn (mo_jd B h j) (nI j) = mo_dn B (nI j) := by unfold mo_dn; rw [mo_jd_41 (by decide)]
        have ert : mo_rt (mo_jd B h j) (nI j) = mo_rt B (nI j) := by unfold mo_rt; rw [mo_jd_41 (by decide)]
        have hdn := fun d => ct_Mo_down (l := l) (sc := sc) (d := d) (M := mo_jd B h j) hl (nI j)
        have hrt := fun d => ct_Mo_right (l := l) (sc := sc) (d := d) (M := mo_jd B h j) hl (nI j)
        rw [edn] at hdn
        rw [ert] at hrt
        generalize mo_dn B (nI j) = a at next hdn
        generalize mo_rt B (nI j) = b at next hrt
        generalize mo_jd B h j = C at next hdn hrt en1 ⊢
        refine mx_go mo_Mo_freeze 7 (pc' := 139) (ls' := [.ref 41, n, .int (nI h), .int (nI j), x, y]) (st' := [.int (nI j), .ref 41, .int (C 44 (nI h).toNatClampNeg), .ref 41]) (M' := C) rfl ⟨hvh, trivial⟩ ?_
        rw [eh]
        refine mx_cVi mo_Mo_freeze 0 (As := [.int (nI j)]) (rest := [.int (C 44 h), .ref 41]) rfl (hdn _) rfl trivial rfl rfl rfl kv_Mo_103 kd_Mo_down rfl rfl rfl ?_
        refine mx_go mo_Mo_freeze 7 (pc' := 151) (ls' := [.ref 41, n, .int (nI h), .int (nI j), x, y]) (st' := [.int (nI j), .ref 41, .int (C 45 (nI h).toNatClampNeg), .int (C 44 h + a), .ref 41]) (M' := C) rfl ⟨hvh, trivial⟩ ?_
        rw [eh]
        refine mx_cVi mo_Mo_freeze 0 (As := [.int (nI j)]) (rest := [.int (C 45 h), .int (C 44 h + a), .ref 41]) rfl (hrt _) rfl trivial rfl rfl rfl kv_Mo_107 kd_Mo_right rfl rfl rfl ?_
        refine mx_cVi mo_Mo_freeze 1 (As := [.int (C 44 h + a), .int (C 45 h + b)]) (rest := []) rfl (ct_Mo_numberAt hl _ _) rfl trivial rfl rfl rfl kv_Mo_99 kd_Mo_numberAt rfl rfl rfl ?_
        unfold mo_j1 at next
        generalize mo_at C (C 44 h + a) (C 45 h + b) = u at next ⊢
        refine mx_go mo_Mo_freeze 9 (pc' := 170) (ls' := [.ref 41, n, .int (nI h), .int (nI j), .int u, y]) (st' := [.int (nI j), .ref 41, .int 2, .int (C 44 (nI h).toNatClampNeg), .ref 41]) (M' := C) rfl ⟨hvh, trivial⟩ ?_
        rw [eh]
        refine mx_cVi mo_Mo_freeze 0 (As := [.int (nI j)]) (rest := [.int 2, .int (C 44 h), .ref 41]) rfl (hdn _) rfl trivial rfl rfl rfl kv_Mo_103 kd_Mo_down rfl rfl rfl ?_
        refine mx_go mo_Mo_freeze 9 (pc' := 184) (ls' := [.ref 41, n, .int (nI h), .int (nI j), .int u, y]) (st' := [.int (nI j), .ref 41, .int 2, .int (C 45 (nI h).toNatClampNeg), .int (C 44 h + 2 * a), .ref 41]) (M' := C) rfl ⟨hvh, trivial⟩ ?_
        rw [eh]
        refine mx_cVi mo_Mo_freeze 0 (As := [.int (nI j)]) (rest := [.int 2, .int (C 45 h), .int (C 44 h + 2 * a), .ref 41]) rfl (hrt _) rfl trivial rfl rfl rfl kv_Mo_107 kd_Mo_right rfl rfl rfl ?_
        refine mx_cVi mo_Mo_freeze 2 (As := [.int (C 44 h + 2 * a), .int (C 45 h + 2 * b)]) (rest := []) rfl (ct_Mo_numberAt hl _ _) rfl trivial rfl rfl rfl kv_Mo_99 kd_Mo_numberAt rfl rfl rfl ?_
        generalize mo_at C (C 44 h + 2 * a) (C 45 h + 2 * b) = v at next ⊢
        have step : ∀ E : mx_M, (∀ x y : Value, mx_E l (pg_L sc) mY_Mo_freeze (d + 2) 0 Q 122 [.ref 41, n, .int (nI h), .int (nI (j + 1)), x, y] [] E) → mx_E l (pg_L sc) mY_Mo_freeze (d + 2) 0 Q 246 [.ref 41, n, .int (nI h), .int (nI j), .int u, .int v] [] E := by
          intro E hE
          refine mx_go mo_Mo_freeze 2 (pc' := 122) (ls' := [.ref 41, n, .int (nI h), .int (nI j + 1), .int u, .int v]) (st' := []) (M' := E) rfl trivial ?_
          rw [nI_1]
          exact hE _ _
        refine mx_if mo_Mo_freeze 2 (t := 246) (f := 199) rfl trivial (fun (q : u < 0) => ?_) (fun (q : ¬ u < 0) => ?_)
        · rw [if_pos q] at next; exact step _ next
        rw [if_neg q] at next
        refine mx_if mo_Mo_freeze 1 (t := 246) (f := 204) rfl trivial (fun (q : v < 0) => ?_) (fun (q : ¬ v < 0) => ?_)
        · rw [if_pos q] at next; exact step _ next
        rw [if_neg q] at next
        have hv8 : vp_in (C 41 8) 120 := by rw [en1]; exact vp_in_nI (by omega) (by decide)
        refine mx_go mo_Mo_freeze 24 (pc' := 246) (ls' := [.ref 41, n, .int (nI h), .int (nI j), .int u, .int v]) (st' := []) (M' := mo_jin C (C 41 8).toNatClampNeg (nI h) u v) rfl ⟨hv8, hv8, hv8, trivial⟩ ?_
        exact step _ next
    exact mx_go mo_Mo_freeze 2 (pc' := 122) (ls' := [.ref 41, n, .int (nI h), .int (nI 0), x, y]) (st' := []) (M' := B) rfl trivial (inner t 0 (by omega) (by omega) _ _)
end MH
