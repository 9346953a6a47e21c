/-! PegBoards$Symmetries.list. -/
section SL
variable {l : Launch} {sc : Nat × (Nat → Int32)} {d : Nat} {M : mx_M}
def sy_hs (M : mx_M) (t k : Nat) : Nat → mx_M
  | 0 => M
  | h + 1 => if k < t then sy_tn (sy_hs M t k h) h (k % t) else sy_mi (sy_tn (sy_hs M t k h) h (k % t)) h
def sy_b (A : mx_M) (N : Nat) : mx_M := sy_mv A 25 (N + 1) (pg_mn (A 3) N - pg_mn (A 25) N)
def sy_c (B : mx_M) (N : Nat) : mx_M := sy_mv B 26 (N + 1) (pg_mn (B 4) N - pg_mn (B 26) N)
def sy_k1 (M : mx_M) (t k N : Nat) : mx_M := sy_ad (M 11 4).toNatClampNeg (N + 1) 0 (sy_c (sy_b (sy_hs M t k (N + 1)) N) N)
def sy_it (t N : Nat) (M : mx_M) : Nat → mx_M
  | 0 => M
  | k + 1 => sy_k1 (sy_it t N M k) t k N
theorem sy_tn_off {h m c : Nat} (h1 : c ≠ 25) (h2 : c ≠ 26) : sy_tn M h m c = M c := by
  rw [sy_tn, mx_up_off h2, mx_up_off h1]
theorem sy_mi_off {h c : Nat} (h1 : c ≠ 25) (h2 : c ≠ 26) : sy_mi M h c = M c := by
  rw [sy_mi, mx_up_off h2, mx_up_off h1]
theorem sy_hs_off {t k c : Nat} (h1 : c ≠ 25) (h2 : c ≠ 26) : ∀ h, sy_hs M t k h c = M c := by
  intro h
  induction h with
  | zero => rfl
  | succ h ih =>
    rw [sy_hs]
    split
    · rw [sy_tn_off h1 h2, ih]
    · rw [sy_mi_off h1 h2, sy_tn_off h1 h2, ih]
theorem sy_mv_off {k n c : Nat} {s : Int32} (h : c ≠ k) : sy_mv M k n s c = M c := if_neg h
theorem sy_ad_off {k c : Nat} (hc : c < 11 ∨ c = 12 ∨ 24 < c) (hk : k ≤ 12) : ∀ (m h : Nat) (M : mx_M), sy_ad k m h M c = M c := by
  intro m
  induction m with
  | zero => intro h M; rw [sy_ad, mx_up_off (by omega)]
  | succ m ih =>
    intro h M
    rw [sy_ad]
    split
    · rfl
    split
    · rfl
    · rw [ih, mx_up_off (by omega)]
theorem sy_ad_11 {k : Nat} : ∀ (m h : Nat) (M : mx_M), sy_ad k m h M 11 3 = M 11 3 := by
  intro m
  induction m with
  | zero => intro h M; simp [sy_ad, mx_up]
  | succ m ih =>
    intro h M
    rw [sy_ad]
    split
    · rfl
    split
    · rfl
    · rw [ih, mx_up_off (by omega)]
theorem sy_ad_n {k : Nat} (hk : k ≤ 12) : ∀ (m h : Nat) (M : mx_M), M 11 4 = nI k → 1 ≤ m → ∃ s, s ≤ 12 ∧ sy_ad k m h M 11 4 = nI s := by
  intro m
  induction m with
  | zero => intro h M _ h1; omega
  | succ m ih =>
    intro h M hs _
    rw [sy_ad]
    split
    · exact ⟨k, hk, hs⟩
    split
    · exact ⟨k, hk, hs⟩
    next h2 =>
      cases m with
      | zero => exact ⟨k + 1, by omega, by simp [sy_ad, mx_up]⟩
      | succ m => exact ih (h + 1) _ (by rw [mx_up_off (by omega)]; exact hs) (by omega)
theorem sy_k1_off {t k N c s : Nat} (hs : M 11 4 = nI s) (hs2 : s ≤ 12) (hc : c < 11 ∨ 26 < c) : sy_k1 M t k N c = M c := by
  rw [sy_k1, hs, nI_clamp (by omega), sy_ad_off (by omega) hs2, sy_c, sy_mv_off (by omega), sy_b, sy_mv_off (by omega), sy_hs_off (by omega) (by omega)]
theorem sy_k1_11 {t k N : Nat} : sy_k1 M t k N 11 3 = M 11 3 := by
  rw [sy_k1, sy_ad_11, sy_c, sy_mv_off (by decide), sy_b, sy_mv_off (by decide), sy_hs_off (by decide) (by decide)]
theorem sy_c_11 {t k N : Nat} : sy_c (sy_b (sy_hs M t k (N + 1)) N) N 11 = M 11 := by
  rw [sy_c, sy_mv_off (by decide), sy_b, sy_mv_off (by decide), sy_hs_off (by decide) (by decide)]
theorem sy_k1_n {t k N s : Nat} (hs : M 11 4 = nI s) (hs2 : s ≤ 12) : ∃ s', s' ≤ 12 ∧ sy_k1 M t k N 11 4 = nI s' := by
  rw [sy_k1, hs, nI_clamp (by omega)]
  exact sy_ad_n hs2 (N + 1) 0 _ (by rw [sy_c_11]; exact hs) (by omega)
theorem sy_it_inv {t N s : Nat} (hs : M 11 4 = nI s) (hs2 : s ≤ 12) : ∀ k, (∀ c, c < 11 ∨ 26 < c → sy_it t N M k c = M c) ∧ sy_it t N M k 11 3 = M 11 3 ∧ ∃ s', s' ≤ 12 ∧ sy_it t N M k 11 4 = nI s' := by
  intro k
  induction k with
  | zero => exact ⟨fun _ _ => rfl, rfl, s, hs2, hs⟩
  | succ k ih =>
    obtain ⟨h1, h2, s', h3, h4⟩ := ih
    refine ⟨fun c hc => ?_, ?_, ?_⟩
    · rw [sy_it, sy_k1_off h4 h3 hc, h1 c hc]
    · rw [sy_it, sy_k1_11, h2]
    · rw [sy_it]; exact sy_k1_n h4 h3
/-- one image: from the loop's head to its head -/
theorem sy_listK (hl : l.stackTraces = false) {Q : mx_R → mx_M → Prop} {t k N s : Nat} (ht0 : 4 ≤ t) (ht6 : t ≤ 6) (hk : k < 2 * t) (hN : N < 20) (hf : ¬ M 1 4 = 0) (hh : M 1 5 = nI (N + 1)) (h3 : M 11 3 = nI (N + 1)) (hs : M 11 4 = nI s) (hs2 : s ≤ 12) (htr : M 1 3 = 0 ∨ M 1 3 = 1)
    (kk : ∀ v : Value, mx_E l (pg_L sc) mY_Sy_list (d + 3) 0 Q 24 [.ref 11, .ref 1, .int (nI t), .int (nI (k + 1)), v] [] (sy_k1 M t k N)) : ∀ v : Value, mx_E l (pg_L sc) mY_Sy_list (d + 3) 0 Q 24 [.ref 11, .ref 1, .int (nI t), .int (nI k), v] [] M := by
  intro v0
  have e2t : 2 * nI t = nI (2 * t) := by rw [show (2 : Int32) = nI 2 from rfl, pk_mul]
  refine mx_if mo_Sy_list 4 (t := 129) (f := 31) rfl trivial (fun (q : 2 * nI t ≤ nI k) => ?_) (fun q => ?_)
  · rw [e2t] at q; exact absurd q (nI_ge hk (by omega))
  have rest : mx_E l (pg_L sc) mY_Sy_list (d + 3) 0 Q 70 [.ref 11, .ref 1, .int (nI t), .int (nI k), .int (nI (N + 1))] [] (sy_hs M t k (N + 1)) := by
    have a1 : ∀ c, c ≠ 25 → c ≠ 26 → sy_hs M t k (N + 1) c = M c := fun c h1 h2 => sy_hs_off h1 h2 _
    have hk1 : sy_k1 M t k N = sy_ad s (N + 1) 0 (sy_c (sy_b (sy_hs M t k (N + 1)) N) N) := by rw [sy_k1, hs, nI_clamp (by omega)]
    rw [hk1] at kk
    generalize sy_hs M t k (N + 1) = A at a1 kk ⊢
    have b1 : A 1 = M 1 := a1 1 (by decide) (by decide)
    have b11 : A 11 = M 11 := a1 11 (by decide) (by decide)
    refine mx_cVi mo_Sy_list 2 (rest := [.ref 11]) rfl (ct_Bo_leastRow (M := A) hl hN (by rw [b1]; exact hf) (by rw [b1]; exact hh)) rfl trivial rfl rfl rfl kv_Sy_47 kd_Bo_leastRow rfl rfl rfl ?_
    refine mx_go mo_Sy_list 4 (pc' := 83) (ls' := [.ref 11, .ref 1, .int (nI t), .int (nI k), .int (nI (N + 1))]) (st' := [.int (A 11 3), .ref 25, .int (pg_mn (A 3) N), .ref 11]) (M' := A) rfl trivial ?_
    rw [b11, h3]
    refine mx_cNi mo_Sy_list 0 (As := [.ref 25, .int (nI (N + 1))]) (rest := [.int (pg_mn (A 3) N), .ref 11]) rfl (ct_leastIn_25 hl hN) rfl trivial rfl kn_Sy_50 kd_Pe_leastIn rfl rfl rfl ?_
    refine mx_cVv mo_Sy_list 3 (As := [.int (pg_mn (A 3) N - pg_mn (A 25) N), .ref 25]) (rest := []) rfl (ct_Sy_moveBy25 (M := A) (n := N + 1) hl (by omega) (by rw [b11]; exact h3) _) rfl trivial rfl rfl rfl kv_Sy_54 kd_Sy_moveBy rfl rfl rfl ?_
    have a2 : ∀ c, c ≠ 25 → sy_b A N c = A c := fun c h1 => sy_mv_off h1
    show mx_E l (pg_L sc) mY_Sy_list (d + 3) 0 Q 94 [.ref 11, .ref 1, .int (nI t), .int (nI k), .int (nI (N + 1))] [] (sy_b A N)
    generalize sy_b A N = B at a2 kk ⊢
    have c1 : B 1 = M 1 := (a2 1 (by decide)).trans b1
    have c11 : B 11 = M 11 := (a2 11 (by decide)).trans b11
    refine mx_cVi mo_Sy_list 2 (rest := [.ref 11]) rfl (ct_Bo_leastColumn (M := B) hl hN (by rw [c1]; exact hf) (by rw [c1]; exact hh)) rfl trivial rfl rfl rfl kv_Sy_58 kd_Bo_leastColumn rfl rfl rfl ?_
    refine mx_go mo_Sy_list 4 (pc' := 107) (ls' := [.ref 11, .ref 1, .int (nI t), .int (nI k), .int (nI (N + 1))]) (st' := [.int (B 11 3), .ref 26, .int (pg_mn (B 4) N), .ref 11]) (M' := B) rfl trivial ?_
    rw [c11, h3]
    refine mx_cNi mo_Sy_list 0 (As := [.ref 26, .int (nI (N + 1))]) (rest := [.int (pg_mn (B 4) N), .ref 11]) rfl (ct_leastIn_26 hl hN) rfl trivial rfl kn_Sy_50 kd_Pe_leastIn rfl rfl rfl ?_
    refine mx_cVv mo_Sy_list 3 (As := [.int (pg_mn (B 4) N - pg_mn (B 26) N), .ref 26]) (rest := []) rfl (ct_Sy_moveBy26 (M := B) (n := N + 1) hl (by omega) (by rw [c11]; exact h3) _) rfl trivial rfl rfl rfl kv_Sy_54 kd_Sy_moveBy rfl rfl rfl ?_
    have a3 : ∀ c, c ≠ 26 → sy_c B N c = B c := fun c h1 => sy_mv_off h1
    show mx_E l (pg_L sc) mY_Sy_list (d + 3) 0 Q 118 [.ref 11, .ref 1, .int (nI t), .int (nI k), .int (nI (N + 1))] [] (sy_c B N)
    generalize sy_c B N = C at a3 kk ⊢
    have d11 : C 11 = M 11 := (a3 11 (by decide)).trans c11
    refine mx_cVv mo_Sy_list 2 (As := [.ref 1]) (rest := []) rfl (ct_Sy_addIfSameHoles (M := C) (k := s) (n := N + 1) hl (by omega) (by omega) hs2 (by rw [d11]; exact h3) (by rw [d11]; exact hs)) rfl trivial rfl rfl rfl kv_Sy_61 kd_Sy_addIfSameHoles rfl rfl rfl ?_
    refine mx_go mo_Sy_list 2 (pc' := 24) (ls' := [.ref 11, .ref 1, .int (nI t), .int (nI k + 1), .int (nI (N + 1))]) (st' := []) rfl trivial ?_
    rw [nI_1]
    exact kk _
  have inner : ∀ (m h : Nat), N + 1 - h = m → h ≤ N + 1 → mx_E l (pg_L sc) mY_Sy_list (d + 3) 0 Q 34 [.ref 11, .ref 1, .int (nI t), .int (nI k), .int (nI h)] [] (sy_hs M t k h) := by
    intro m
    induction m with
    | zero =>
      intro h hm hle
      have e : h = N + 1 := by omega
      subst e
      refine mx_if mo_Sy_list 3 (t := 70) (f := 43) rfl trivial (fun q1 => ?_) (fun (q1 : ¬ sy_hs M t k (N + 1) 11 3 ≤ nI (N + 1)) => ?_)
      · exact rest
      · rw [sy_hs_off (by decide) (by decide), h3] at q1; exact absurd (nI_le (Nat.le_refl _) (by omega)) q1
    | succ m ih =>
      intro h hm hle
      refine mx_if mo_Sy_list 3 (t := 70) (f := 43) rfl trivial (fun (q1 : sy_hs M t k h 11 3 ≤ nI h) => ?_) (fun q1 => ?_)
      · rw [sy_hs_off (by decide) (by decide), h3] at q1; exact absurd q1 (nI_ge (by omega) (by omega))
      refine mx_go mo_Sy_list 6 (pc' := 50) (ls' := [.ref 11, .ref 1, .int (nI t), .int (nI k), .int (nI h)]) (st' := [.int (nI k - nI k / nI t * nI t), .int (nI h), .ref 1, .ref 11]) (M' := sy_hs M t k h) rfl ⟨nI_ne0 (by omega) (by omega), trivial⟩ ?_
      rw [pk_rem (by omega) (by omega) (by omega)]
      have hI := ih (h + 1) (by omega) (by omega)
      rw [sy_hs] at hI
      have htr2 : sy_hs M t k h 1 3 = 0 ∨ sy_hs M t k h 1 3 = 1 := by rw [sy_hs_off (by decide) (by decide)]; exact htr
      refine mx_cVv mo_Sy_list 0 (As := [.ref 1, .int (nI h), .int (nI (k % t))]) (rest := []) rfl (ct_Sy_turn (M := sy_hs M t k h) hl (by omega) (by have := Nat.mod_lt k (show t > 0 by omega); omega) htr2) rfl trivial rfl rfl rfl kv_Sy_39 kd_Sy_turn rfl rfl rfl ?_
      refine mx_if mo_Sy_list 2 (t := 64) (f := 58) rfl trivial (fun (q2 : nI k < nI t) => ?_) (fun (q2 : ¬ nI k < nI t) => ?_)
      · rw [nI_ltI (by omega) (by omega)] at q2
        rw [if_pos q2] at hI
        refine mx_go mo_Sy_list 2 (pc' := 34) (ls' := [.ref 11, .ref 1, .int (nI t), .int (nI k), .int (nI h + 1)]) (st' := []) rfl trivial ?_
        rw [nI_1]; exact hI
      · rw [nI_ltI (by omega) (by omega)] at q2
        rw [if_neg q2] at hI
        refine mx_cVv mo_Sy_list 2 (As := [.int (nI h)]) (rest := []) rfl (ct_Sy_mirror hl (by omega)) rfl trivial rfl rfl rfl kv_Sy_43 kd_Sy_mirror rfl rfl rfl ?_
        refine mx_go mo_Sy_list 2 (pc' := 34) (ls' := [.ref 11, .ref 1, .int (nI t), .int (nI k), .int (nI h + 1)]) (st' := []) rfl trivial ?_
        rw [nI_1]; exact hI
  exact mx_go mo_Sy_list 2 (pc' := 34) (ls' := [.ref 11, .ref 1, .int (nI t), .int (nI k), .int (nI 0)]) (st' := []) (M' := M) rfl trivial (inner (N + 1) 0 (by omega) (by omega))
theorem ct_Sy_list (hl : l.stackTraces = false) {N : Nat} (hN : N < 20) (hf : ¬ M 1 4 = 0) (hh : M 1 5 = nI (N + 1)) (hs : M 11 4 = 0) (htr : M 1 3 = 0 ∨ M 1 3 = 1) :
    mx_Ct l (pg_L sc) mY_Sy_list (d + 3) 0 [.ref 11, .ref 1] M (mx_rV (sy_it (if M 1 3 = 0 then 4 else 6) N (mx_up M 11 3 (nI (N + 1))) (2 * (if M 1 3 = 0 then 4 else 6)))) := by
  have key : ∀ (t : Nat), 4 ≤ t → t ≤ 6 → ∀ v : Value, mx_E l (pg_L sc) mY_Sy_list (d + 3) 0 (mx_rV (sy_it t N (mx_up M 11 3 (nI (N + 1))) (2 * t))) 24 [.ref 11, .ref 1, .int (nI t), .int (nI 0), v] [] (mx_up M 11 3 (nI (N + 1))) := by
    intro t ht0 ht6
    have hs' : mx_up M 11 3 (nI (N + 1)) 11 4 = nI 0 := by simp [mx_up]; exact hs
    have loop : ∀ (m k : Nat), 2 * t - k = m → k ≤ 2 * t → ∀ v : Value, mx_E l (pg_L sc) mY_Sy_list (d + 3) 0 (mx_rV (sy_it t N (mx_up M 11 3 (nI (N + 1))) (2 * t))) 24 [.ref 11, .ref 1, .int (nI t), .int (nI k), v] [] (sy_it t N (mx_up M 11 3 (nI (N + 1))) k) := by
      intro m
      induction m with
      | zero =>
        intro k hm hle v
        have e : k = 2 * t := by omega
        subst e
        have e2t : 2 * nI t = nI (2 * t) := by rw [show (2 : Int32) = nI 2 from rfl, pk_mul]
        refine mx_if mo_Sy_list 4 (t := 129) (f := 31) rfl trivial (fun q => ?_) (fun (q : ¬ 2 * nI t ≤ nI (2 * t)) => ?_)
        · exact mx_ret_v mo_Sy_list rfl 0 rfl trivial rfl ⟨rfl, rfl⟩
        · rw [e2t] at q; exact absurd (nI_le (Nat.le_refl _) (by omega)) q
      | succ m ih =>
        intro k hm hle v
        obtain ⟨q1, q2, s', q3, q4⟩ := sy_it_inv (t := t) (N := N) hs' (by decide) k
        have r1 : sy_it t N (mx_up M 11 3 (nI (N + 1))) k 1 = M 1 := by rw [q1 1 (by omega), mx_up_off (by decide)]
        exact sy_listK hl ht0 ht6 (by omega) hN (by rw [r1]; exact hf) (by rw [r1]; exact hh) (by rw [q2]; simp [mx_up]) q4 q3 (by rw [r1]; exact htr) (ih (k + 1) (by omega) (by omega)) v
    exact loop (2 * t) 0 (by omega) (by omega)
  refine mx_bd (n0 := 2) hl (by decide +kernel) rfl rfl rfl ?_
  refine mx_cVi mo_Sy_list 1 rfl (ct_Bo_isTriangular hl htr) rfl trivial rfl rfl rfl kv_Sy_27 kd_Bo_isTriangular rfl rfl rfl ?_
  refine mx_if mo_Sy_list 0 (t := 12) (f := 7) rfl trivial (fun h => ?_) (fun h => ?_)
  · rw [if_pos h]
    refine mx_cVi mo_Sy_list 4 (rest := [.ref 11]) rfl (ct_Bo_holes hl) rfl trivial rfl rfl rfl kv_Sy_33 kd_Bo_holes rfl rfl rfl ?_
    rw [if_neg hf, hh]
    exact mx_go mo_Sy_list 3 (pc' := 24) (ls' := [.ref 11, .ref 1, .int (nI 4), .int (nI 0), .null]) (st' := []) (M' := mx_up M 11 3 (nI (N + 1))) rfl trivial (key 4 (by decide) (by decide) _)
  · rw [if_neg h]
    refine mx_cVi mo_Sy_list 5 (rest := [.ref 11]) rfl (ct_Bo_holes hl) rfl trivial rfl rfl rfl kv_Sy_33 kd_Bo_holes rfl rfl rfl ?_
    rw [if_neg hf, hh]
    exact mx_go mo_Sy_list 3 (pc' := 24) (ls' := [.ref 11, .ref 1, .int (nI 6), .int (nI 0), .null]) (st' := []) (M' := mx_up M 11 3 (nI (N + 1))) rfl trivial (key 6 (by decide) (by decide) _)
end SL
