/-! PegBoards$Reaching: run, the whole walk. -/
section RW
variable {l : Launch} {sc : Nat × (Nat → Int32)} {d : Nat} {M : mx_M}
theorem re_row_off {L i c : Nat} (hc : c < 27 ∨ 37 < c ∨ c = 31 ∨ c = 32 ∨ c = 33) : ∀ (m k : Nat) (M : mx_M), re_row L i m k M c = M c := by
  intro m
  induction m with
  | zero => intro k M; rfl
  | succ m ih =>
    intro k M
    rw [re_row]
    split
    · rw [ih, re_k_off hc]
    · rfl
theorem re_row_ok {L i : Nat} : ∀ (m k : Nat) (M : mx_M), re_ok M L → re_ok (re_row L i m k M) L ∧ (M 28 2).toNatClampNeg ≤ (re_row L i m k M 28 2).toNatClampNeg ∧ ∀ j, j < (M 28 2).toNatClampNeg → re_row L i m k M 29 j = M 29 j := by
  intro m
  induction m with
  | zero => intro k M h; exact ⟨h, Nat.le_refl _, fun _ _ => rfl⟩
  | succ m ih =>
    intro k M h
    rw [re_row]
    split
    · obtain ⟨a1, a2, a3⟩ := re_k_ok (i := i) (k := k) h
      obtain ⟨b1, b2, b3⟩ := ih (k + 1) _ a1
      exact ⟨b1, Nat.le_trans a2 b2, fun j hj => by rw [b3 j (by omega), a3 j hj]⟩
    · exact ⟨h, Nat.le_refl _, fun _ _ => rfl⟩
/-- the table emptied, and the start entered -/
def re_e0 (M : mx_M) : mx_M := mx_up (mx_up (pg_fill M 30 1024 0) 28 2 0) 27 6 0
def re_s0 (M : mx_M) (p : Int32) : mx_M := mx_up (mx_up (fo0_in (re_e0 M) 0 (hs_f (re_e0 M 30) (re_e0 M 29) p 1024 (fo_h p)) p) 36 0 0) 37 0 0
/-- the positions from i on (at most m of them) gone through -/
def re_all (L J : Nat) : Nat → Nat → mx_M → mx_M
  | 0, _, M => M
  | m + 1, i, M => if i < (M 28 2).toNatClampNeg then (if M 27 6 = 0 then re_all L J m (i + 1) (re_row L i J 0 M) else M) else M
theorem re_all_off {L J c : Nat} (hc : c < 27 ∨ 37 < c ∨ c = 31 ∨ c = 32 ∨ c = 33) : ∀ (m i : Nat) (M : mx_M), re_all L J m i M c = M c := by
  intro m
  induction m with
  | zero => intro i M; rfl
  | succ m ih =>
    intro i M
    rw [re_all]
    split
    · split
      · rw [ih, re_row_off hc]
      · rfl
    · rfl
theorem re_all_ok {L J : Nat} : ∀ (m i : Nat) (M : mx_M), re_ok M L → re_ok (re_all L J m i M) L ∧ (M 28 2).toNatClampNeg ≤ (re_all L J m i M 28 2).toNatClampNeg ∧ ∀ j, j < (M 28 2).toNatClampNeg → re_all L J m i M 29 j = M 29 j := by
  intro m
  induction m with
  | zero => intro i M h; exact ⟨h, Nat.le_refl _, fun _ _ => rfl⟩
  | succ m ih =>
    intro i M h
    rw [re_all]
    split
    · split
      · obtain ⟨a1, a2, a3⟩ := re_row_ok (i := i) J 0 M h
        obtain ⟨b1, b2, b3⟩ := ih (i + 1) _ a1
        exact ⟨b1, Nat.le_trans a2 b2, fun j hj => by rw [b3 j (by omega), a3 j hj]⟩
      · exact ⟨h, Nat.le_refl _, fun _ _ => rfl⟩
    · exact ⟨h, Nat.le_refl _, fun _ _ => rfl⟩
theorem re_e0_30 {t : Nat} (ht : t < 1024) : re_e0 M 30 t = 0 := by
  rw [re_e0, mx_up_off (by decide), mx_up_off (by decide)]
  simp [pg_fill, mx_row, ht]
theorem re_e0_28 : re_e0 M 28 2 = 0 := by
  rw [re_e0, mx_up_off (by decide), mx_up_row]
  simp [upd]
theorem re_e0_fo : fo_ok (re_e0 M 30) := fun t ht => Or.inl (re_e0_30 ht)
theorem re_s0_off {p : Int32} {c : Nat} (hc : c < 27 ∨ 37 < c ∨ c = 31 ∨ c = 32 ∨ c = 33 ∨ c = 34 ∨ c = 35) : re_s0 M p c = M c := by
  rw [re_s0, mx_up_off (by omega), mx_up_off (by omega), fo0_in_off (by omega) (by omega) (by omega), re_e0, mx_up_off (by omega), mx_up_off (by omega)]
  funext j
  simp [pg_fill, mx_row, show c ≠ 30 by omega]
theorem re_s0_ok {p : Int32} {L : Nat} (h1 : 1 ≤ L) (h5 : L ≤ 500) : re_ok (re_s0 M p) L ∧ re_s0 M p 28 2 = nI 1 ∧ re_s0 M p 29 0 = p ∧ re_s0 M p 27 6 = 0 ∧ re_s0 M p 36 0 = 0 ∧ re_s0 M p 37 0 = 0 := by
  have e28 : re_s0 M p 28 2 = nI 1 := by
    rw [re_s0, mx_up_off (by decide), mx_up_off (by decide), fo0_in, mx_up_off (by decide), mx_up_row]; simp [upd]
  have e29 : re_s0 M p 29 = upd (re_e0 M 29) 0 p := by
    rw [re_s0, mx_up_off (by decide), mx_up_off (by decide), fo0_in, mx_up_off (by decide), mx_up_off (by decide), mx_up_row]
  have e30 : re_s0 M p 30 = upd (re_e0 M 30) (hs_f (re_e0 M 30) (re_e0 M 29) p 1024 (fo_h p)) (nI (0 + 1)) := by
    rw [re_s0, mx_up_off (by decide), mx_up_off (by decide), fo0_in, mx_up_row, mx_up_off (by decide), mx_up_off (by decide)]
  have e27 : re_s0 M p 27 6 = 0 := by
    rw [re_s0, mx_up_off (by decide), mx_up_off (by decide), fo0_in_off (by decide) (by decide) (by decide), re_e0, mx_up_row]; simp [upd]
  refine ⟨⟨h5, Or.inl e27, 1, h1, e28, ?_⟩, e28, by rw [e29]; simp [upd], e27, ?_, ?_⟩
  · rw [e29, e30]
    exact hs_add (hs_nil (fun p => (fo_hx p).2) (fun t ht => re_e0_30 ht)) (by decide) (fun i hi => absurd hi (Nat.not_lt_zero i))
  · rw [re_s0, mx_up_off (by decide), mx_up_row]; simp [upd]
  · rw [re_s0, mx_up_row]; simp [upd]
theorem ct_Re_run (hl : l.stackTraces = false) {L J : Nat} (p : Int32) (h1 : 1 ≤ L) (h5 : L ≤ 500) (hJ : J ≤ 120) (hs : M 5 5 = nI J) : mx_Ct l (pg_L sc) mY_Re_run (d + 4) 0 [.ref 27, .ref 5, .int p, .int (nI L)] M (mx_rV (re_all L J L 0 (re_s0 M p))) := by
  have loop : ∀ (m i : Nat) (M1 : mx_M), L - i = m → i ≤ L → re_ok M1 L → M1 5 5 = nI J → re_all L J m i M1 = re_all L J L 0 (re_s0 M p) →
      mx_E l (pg_L sc) mY_Re_run (d + 4) 0 (mx_rV (re_all L J L 0 (re_s0 M p))) 39 [.ref 27, .ref 5, .int p, .int (nI L), .int (nI i)] [] M1 := by
    intro m
    induction m with
    | zero =>
      intro i M1 hm hle hk1 hk4 he
      have e : i = L := by omega
      subst e
      refine mx_if mo_Re_run 2 (t := 78) (f := 45) rfl trivial (fun q => ?_) (fun q => ?_)
      · exact mx_ret_v mo_Re_run rfl 0 rfl trivial rfl ⟨rfl, he⟩
      · exact absurd (nI_le (Nat.le_refl i) (by omega)) q
    | succ m ih =>
      intro i M1 hm hle hk1 hk4 he
      have hk0 := hk1
      obtain ⟨-, -, n, h3, h4, h5'⟩ := hk1
      have hn : (M1 28 2).toNatClampNeg = n := by rw [h4]; exact nI_clamp (by omega)
      rw [re_all, hn] at he
      refine mx_if mo_Re_run 2 (t := 78) (f := 45) rfl trivial (fun q => ?_) (fun q => ?_)
      · exact absurd q (nI_ge (by omega) (by omega))
      refine mx_cVi mo_Re_run 3 (rest := [.int (nI i)]) rfl (ct_Fo0_size hl) rfl trivial rfl rfl rfl kv_Re_45 kd_Fo_size rfl rfl rfl ?_
      rw [h4]
      refine mx_if mo_Re_run 0 (t := 78) (f := 57) rfl trivial (fun (q : nI n ≤ nI i) => ?_) (fun (q : ¬ nI n ≤ nI i) => ?_)
      · have hni : n ≤ i := by
          by_cases hc : n ≤ i
          · exact hc
          · exact absurd q (nI_ge (by omega) (by omega))
        rw [if_neg (by omega)] at he
        exact mx_ret_v mo_Re_run rfl 0 rfl trivial rfl ⟨rfl, he⟩
      have hin : i < n := by
        by_cases hc : i < n
        · exact hc
        · exact absurd (nI_le (by omega) (by omega)) q
      rw [if_pos hin] at he
      refine mx_if mo_Re_run 2 (t := 78) (f := 64) rfl trivial (fun (q1 : ¬ M1 27 6 = 0) => ?_) (fun (q1 : M1 27 6 = 0) => ?_)
      · rw [if_neg q1] at he
        exact mx_ret_v mo_Re_run rfl 0 rfl trivial rfl ⟨rfl, he⟩
      rw [if_pos q1] at he
      refine mx_cVv mo_Re_run 4 (As := [.int (nI i), .ref 5, .int (nI L)]) (rest := []) rfl (ct_Re_goOnFrom hl hJ hk4 hk0 (by omega)) rfl trivial rfl rfl rfl kv_Re_49 kd_Re_goOnFrom rfl rfl rfl ?_
      refine mx_go mo_Re_run 2 (pc' := 39) (ls' := [.ref 27, .ref 5, .int p, .int (nI L), .int (nI i + 1)]) (st' := []) rfl trivial ?_
      rw [nI_1]
      obtain ⟨a1, a2, a3⟩ := re_row_ok (i := i) J 0 M1 hk0
      exact ih (i + 1) _ (by omega) (by omega) a1 (by rw [re_row_off (by omega)]; exact hk4) he
  refine mx_bd (n0 := 4) hl (by decide +kernel) rfl rfl rfl ?_
  refine mx_cVv mo_Re_run 2 (As := []) (rest := []) rfl (ct_Fo0_forget hl) rfl trivial rfl rfl rfl kv_Re_34 kd_Fo_forget rfl rfl rfl ?_
  refine mx_go mo_Re_run 7 (pc' := 18) (ls' := [.ref 27, .ref 5, .int p, .int (nI L), .null]) (st' := [.int p, .int (nI L), .ref 28]) (M' := re_e0 M) rfl ⟨Or.inl rfl, trivial⟩ ?_
  have hz : re_e0 M 30 (hs_f (re_e0 M 30) (re_e0 M 29) p 1024 (fo_h p)) = 0 := re_e0_30 (hs_lt _ _ (fo_hx p).2)
  refine mx_cVi mo_Re_run 0 (As := [.int (nI L), .int p]) (rest := []) rfl (ct_Fo0_nwNew (n := 0) hl re_e0_fo p (by rw [re_e0_28]; rfl) (by omega) (by omega) (by omega) hz) rfl trivial rfl rfl rfl kv_Re_41 kd_Fo_numberWithin rfl rfl rfl ?_
  refine mx_go mo_Re_run 13 (pc' := 39) (ls' := [.ref 27, .ref 5, .int p, .int (nI L), .int (nI 0)]) (st' := []) (M' := re_s0 M p) rfl ⟨vp_in_nI (n := 0) (N := 500) (by decide) (by decide), vp_in_nI (n := 0) (N := 500) (by decide) (by decide), trivial⟩ ?_
  obtain ⟨a1, -⟩ := re_s0_ok (M := M) (p := p) h1 h5
  exact loop L 0 _ (by omega) (by omega) a1 (by rw [re_s0_off (by omega)]; exact hs) rfl
end RW
