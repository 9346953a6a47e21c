/-! PegBoardsModel: freeze, whole. -/
section MI
variable {l : Launch} {sc : Nat × (Nat → Int32)} {d : Nat} {M : mx_M}
/-- one image tried -/
def mo_f1 (B : mx_M) (k t N : Nat) : mx_M := mo_y2 (mo_y1 B k t N) (B 41 12).toNatClampNeg (mo_g B k t N) N
def mo_f2 (B : mx_M) (k t N : Nat) : mx_M := if mo_al (mo_g B k t N) N = 0 then mo_f1 B k t N else mx_up (mo_f1 B k t N) 41 12 (B 41 12 + 1)
def mo_fi (M : mx_M) (t N : Nat) : Nat → mx_M
  | 0 => M
  | k + 1 => mo_f2 (mo_fi M t N k) k t N
theorem mo_f1_off {B : mx_M} {k t N c : Nat} (hc : c ≠ 49 ∧ c ≠ 50 ∧ c ≠ 51) : mo_f1 B k t N c = B c := by
  rw [mo_f1, mo_y2_off hc.1, mo_y1_off hc.2.1 hc.2.2]
theorem mo_f2_off {B : mx_M} {k t N c : Nat} (hc : c ≠ 41 ∧ c ≠ 49 ∧ c ≠ 50 ∧ c ≠ 51) : mo_f2 B k t N c = B c := by
  unfold mo_f2
  split
  · exact mo_f1_off hc.2
  · rw [mx_up_off hc.1, mo_f1_off hc.2]
theorem mo_f2_41 {B : mx_M} {k t N c : Nat} (hc : c ≠ 12) : mo_f2 B k t N 41 c = B 41 c := by
  unfold mo_f2
  split
  · rw [mo_f1_off (by decide)]
  · rw [mx_up_row, mo_f1_off (by decide)]; simp [upd, hc]
theorem mo_fi_41 {t N c : Nat} (hc : c ≠ 12) : ∀ k, mo_fi M t N k 41 c = M 41 c := by
  intro k
  induction k with
  | zero => rfl
  | succ k ih => rw [mo_fi, mo_f2_41 hc, ih]
theorem mo_fi_12 {t N : Nat} (h : M 41 12 = 0) : ∀ k, ∃ s, s ≤ k ∧ mo_fi M t N k 41 12 = nI s := by
  intro k
  induction k with
  | zero => exact ⟨0, by omega, h⟩
  | succ k ih =>
    obtain ⟨s, h1, h2⟩ := ih
    rw [mo_fi, mo_f2]
    split
    · exact ⟨s, by omega, by rw [mo_f1_off (by decide), h2]⟩
    · exact ⟨s + 1, by omega, by rw [mx_up_row, h2, nI_1]; simp [upd]⟩
theorem mo_fz3 (hl : l.stackTraces = false) {N t : Nat} (hN : N ≤ 20) (ht : t = 4 ∨ t = 6) (htt : (if M 41 1 = 0 then 4 else 6 : Int32) = nI t) (h3 : M 41 3 = nI N) (h12 : M 41 12 = 0) {Q : mx_R → mx_M → Prop}
    (nx : ∀ n r c x y : Value, mx_E l (pg_L sc) mY_Mo_freeze (d + 3) 0 Q 294 [.ref 41, n, r, c, x, y] [] (mo_fi M t N (2 * t))) :
    ∀ (m k : Nat), 2 * t - k = m → k ≤ 2 * t → ∀ n c x y : Value, mx_E l (pg_L sc) mY_Mo_freeze (d + 3) 0 Q 260 [.ref 41, n, .int (nI k), c, x, y] [] (mo_fi M t N k) := by
  have e2t : 2 * nI t = nI (2 * t) := by rw [show (2 : Int32) = nI 2 from rfl, pk_mul]
  intro m
  induction m with
  | zero =>
    intro k hm hle n c x y
    have e : k = 2 * t := by omega
    subst e
    refine mx_cVi mo_Mo_freeze 3 (As := []) (rest := [.int 2, .int (nI (2 * t))]) rfl (ct_Mo_turns hl) rfl trivial rfl rfl rfl kv_Mo_95 kd_Mo_turns rfl rfl rfl ?_
    rw [mo_fi_41 (by decide), htt]
    refine mx_if mo_Mo_freeze 1 (t := 294) (f := 270) rfl trivial (fun _ => nx _ _ _ _ _) (fun (q : ¬ 2 * nI t ≤ nI (2 * t)) => ?_)
    rw [e2t] at q; exact absurd (nI_le (Nat.le_refl _) (by omega)) q
  | succ m ih =>
    intro k hm hle n c x y
    have hI := ih (k + 1) (by omega) (by omega)
    rw [mo_fi, mo_f2] at hI
    obtain ⟨s, hs, es⟩ := mo_fi_12 (t := t) (N := N) h12 k
    have b1 : mo_fi M t N k 41 1 = M 41 1 := mo_fi_41 (by decide) k
    have b3 : mo_fi M t N k 41 3 = nI N := by rw [mo_fi_41 (by decide)]; exact h3
    generalize mo_fi M t N k = B at hI es b1 b3 ⊢
    refine mx_cVi mo_Mo_freeze 3 (As := []) (rest := [.int 2, .int (nI k)]) rfl (ct_Mo_turns hl) rfl trivial rfl rfl rfl kv_Mo_95 kd_Mo_turns rfl rfl rfl ?_
    rw [b1, htt]
    refine mx_if mo_Mo_freeze 1 (t := 294) (f := 270) rfl trivial (fun (q : 2 * nI t ≤ nI k) => ?_) (fun _ => ?_)
    · rw [e2t] at q; exact absurd q (nI_ge (by omega) (by omega))
    have hc := ct_Mo_isSymmetry (l := l) (sc := sc) (d := d) (M := B) (k := k) (t := t) (N := N) (im := s) hl (by omega) ht (by rw [b1]; exact htt) hN (by omega) b3 es
    rw [show mo_y2 (mo_y1 B k t N) s (mo_g B k t N) N = mo_f1 B k t N by rw [mo_f1, es, nI_clamp (by omega)]] at hc
    refine mx_cVi mo_Mo_freeze 2 (As := [.int (nI k)]) (rest := []) rfl hc rfl trivial rfl rfl rfl kv_Mo_110 kd_Mo_isSymmetry rfl rfl rfl ?_
    have c12 : mo_f1 B k t N 41 = B 41 := mo_f1_off (by decide)
    generalize mo_f1 B k t N = C at hI c12 ⊢
    have step : ∀ E : mx_M, (∀ n c x y : Value, mx_E l (pg_L sc) mY_Mo_freeze (d + 3) 0 Q 260 [.ref 41, n, .int (nI (k + 1)), c, x, y] [] E) → mx_E l (pg_L sc) mY_Mo_freeze (d + 3) 0 Q 288 [.ref 41, n, .int (nI k), c, x, y] [] E := by
      intro E hE
      refine mx_go mo_Mo_freeze 2 (pc' := 260) (ls' := [.ref 41, n, .int (nI k + 1), c, x, y]) (st' := []) (M' := E) rfl trivial ?_
      rw [nI_1]
      exact hE _ _ _ _
    refine mx_if mo_Mo_freeze 0 (t := 288) (f := 278) rfl trivial (fun q => ?_) (fun q => ?_)
    · rw [if_pos q] at hI; exact step _ hI
    · rw [if_neg q] at hI
      refine mx_go mo_Mo_freeze 6 (pc' := 288) (ls' := [.ref 41, n, .int (nI k), c, x, y]) (st' := []) (M' := mx_up C 41 12 (C 41 12 + 1)) rfl trivial ?_
      rw [c12]
      exact step _ hI
end MI
