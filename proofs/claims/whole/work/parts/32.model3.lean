/-! PegBoardsModel: its table and the reaching. -/
section MR
variable {l : Launch} {sc : Nat × (Nat → Int32)} {d : Nat} {M : mx_M}
def mo_x (p : Int32) : Int32 := (p * 37 + (p >>> ((9 : Int32) &&& 31))) &&& 1023
def mo_h (p : Int32) : Nat := (mo_x p).toNatClampNeg
theorem mo_hx (p : Int32) : mo_x p = nI (mo_h p) ∧ mo_h p < 1024 := by
  obtain ⟨j, hj, e⟩ := pk_andE (p * 37 + (p >>> ((9 : Int32) &&& 31))) (m := 1023) 10 (by decide)
  have e2 : mo_x p = nI j := e
  have e3 : mo_h p = j := by rw [mo_h, e2]; exact nI_clamp (by omega)
  rw [e3]
  exact ⟨e2, hj⟩
/-- the slot of a position -/
def mo_s (M : mx_M) (p : Int32) : Nat := hs_f (M 57) (M 54) p 1024 (mo_h p)
theorem mo_s_lt (p : Int32) : mo_s M p < 1024 := hs_lt _ _ (mo_hx p).2
theorem mo_s_in {n : Nat} (h : hs_ok mo_h (M 57) (M 54) n) (p : Int32) : (M 57 (mo_s M p) = 0 ∧ ∀ i, i < n → ¬ M 54 i = p) ∨ ∃ i, i < n ∧ M 54 i = p ∧ M 57 (mo_s M p) = nI (i + 1) := by
  obtain ⟨k, -, k2, -, k4⟩ := hs_find h p
  rw [mo_s, k2]
  exact k4
theorem ct_Mo_lookAt (hl : l.stackTraces = false) {n : Nat} (h : hs_ok mo_h (M 57) (M 54) n) (p : Int32) : mx_Ct l (pg_L sc) mY_Mo_lookAt d 0 [.ref 41, .int p] M (mx_rI (nI (mo_s M p)) M) := by
  have hT := mo_s_in h p
  have hn : n ≤ 500 := h.1
  have loop : ∀ (m t : Nat), t < 1024 → hs_f (M 57) (M 54) p m t = mo_s M p → mx_E l (pg_L sc) mY_Mo_lookAt d 0 (mx_rI (nI (mo_s M p)) M) 14 [.ref 41, .int p, .int (nI t)] [] M := by
    have stop : ∀ t, t < 1024 → t = mo_s M p → mx_E l (pg_L sc) mY_Mo_lookAt d 0 (mx_rI (nI (mo_s M p)) M) 14 [.ref 41, .int p, .int (nI t)] [] M := by
      intro t ht et
      have e : (nI t).toNatClampNeg = t := nI_clamp (by omega)
      have hv : vp_in (nI t) 1024 := vp_in_nI ht (by decide)
      have fin : mx_E l (pg_L sc) mY_Mo_lookAt d 0 (mx_rI (nI (mo_s M p)) M) 51 [.ref 41, .int p, .int (nI t)] [] M := mx_ret_i mo_Mo_lookAt rfl 1 (v := nI t) rfl trivial rfl ⟨by rw [et], rfl⟩
      rw [← et] at hT
      refine mx_if mo_Mo_lookAt 4 (t := 51) (f := 23) rfl ⟨hv, trivial⟩ (fun _ => fin) (fun (q : ¬ M 57 (nI t).toNatClampNeg ≤ 0) => ?_)
      rw [e] at q
      rcases hT with ⟨h1, -⟩ | ⟨i, hi, h1, h2⟩
      · exact absurd (by rw [h1]; decide) q
      · have e2 : M 57 (nI t).toNatClampNeg - 1 = nI i := by rw [e, h2]; exact nI_pred i
        have e3 : (nI i).toNatClampNeg = i := nI_clamp (by omega)
        have hw : vp_in (M 57 (nI t).toNatClampNeg - 1) 500 := by rw [e2]; exact vp_in_nI (by omega) (by decide)
        refine mx_if mo_Mo_lookAt 10 (t := 51) (f := 40) rfl ⟨hv, hw, trivial⟩ (fun _ => fin) (fun (q2 : ¬ M 54 (M 57 (nI t).toNatClampNeg - 1).toNatClampNeg = p) => ?_)
        rw [e2, e3] at q2
        exact absurd h1 q2
    intro m
    induction m with
    | zero => intro t ht he; exact stop t ht he
    | succ m ih =>
      intro t ht he
      rw [hs_f] at he
      by_cases hs : M 57 t = 0 ∨ M 54 ((M 57 t).toNatClampNeg - 1) = p
      · rw [if_pos hs] at he
        exact stop t ht he
      rw [if_neg hs] at he
      have e : (nI t).toNatClampNeg = t := nI_clamp (by omega)
      have hv : vp_in (nI t) 1024 := vp_in_nI ht (by decide)
      obtain ⟨i, hi, h2⟩ := (h.2.2.1 t ht).resolve_left (fun c => hs (Or.inl c))
      have e2 : M 57 (nI t).toNatClampNeg - 1 = nI i := by rw [e, h2]; exact nI_pred i
      have e3 : (nI i).toNatClampNeg = i := nI_clamp (by omega)
      have hw : vp_in (M 57 (nI t).toNatClampNeg - 1) 500 := by rw [e2]; exact vp_in_nI (by omega) (by decide)
      have e4 : (M 57 t).toNatClampNeg - 1 = i := by rw [h2, nI_clamp (by omega)]; omega
      refine mx_if mo_Mo_lookAt 4 (t := 51) (f := 23) rfl ⟨hv, trivial⟩ (fun (q : M 57 (nI t).toNatClampNeg ≤ 0) => ?_) (fun _ => ?_)
      · rw [e, h2] at q
        exact absurd q (nI_nle (by omega) (by omega))
      refine mx_if mo_Mo_lookAt 10 (t := 51) (f := 40) rfl ⟨hv, hw, trivial⟩ (fun (q2 : M 54 (M 57 (nI t).toNatClampNeg - 1).toNatClampNeg = p) => ?_) (fun _ => ?_)
      · rw [e2, e3] at q2
        exact absurd (Or.inr (by rw [e4]; exact q2)) hs
      refine mx_go mo_Mo_lookAt 7 (pc' := 14) (ls' := [.ref 41, .int p, .int ((nI t + 1) &&& 1023)]) (st' := []) (M' := M) rfl trivial ?_
      rw [fo_nx ht]
      exact ih _ (Nat.mod_lt _ (by decide)) he
  refine mx_bd (n0 := 2) hl (by decide +kernel) rfl rfl rfl ?_
  refine mx_go mo_Mo_lookAt 10 (pc' := 14) (ls' := [.ref 41, .int p, .int (mo_x p)]) (st' := []) (M' := M) rfl trivial ?_
  rw [(mo_hx p).1]
  exact loop 1024 (mo_h p) (mo_hx p).2 rfl
theorem ct_Mo_numberOf (hl : l.stackTraces = false) {n : Nat} (h : hs_ok mo_h (M 57) (M 54) n) (p : Int32) : mx_Ct l (pg_L sc) mY_Mo_numberOf (d + 1) 0 [.ref 41, .int p] M (mx_rI (M 57 (mo_s M p) - 1) M) := by
  refine mx_bd (n0 := 2) hl (by decide +kernel) rfl rfl rfl ?_
  refine mx_cVi mo_Mo_numberOf 4 (As := [.int p]) (rest := [.ref 57]) rfl (ct_Mo_lookAt hl h p) rfl trivial rfl rfl rfl kv_Mo_126 kd_Mo_lookAt rfl rfl rfl ?_
  have ht := mo_s_lt (M := M) p
  exact mx_ret_i mo_Mo_numberOf rfl 3 (v := M 57 (nI (mo_s M p)).toNatClampNeg - 1) rfl ⟨vp_in_nI ht (by decide), trivial⟩ rfl ⟨by rw [nI_clamp (by omega)], rfl⟩
def mo_en (M : mx_M) (n t : Nat) (p w j : Int32) : mx_M := mx_up (mx_up (mx_up (mx_up (mx_up M 57 t (nI (n + 1))) 54 n p) 55 n w) 56 n j) 41 20 (nI (n + 1))
theorem ct_Mo_enter (hl : l.stackTraces = false) {n : Nat} (h : hs_ok mo_h (M 57) (M 54) n) (hn : n < 500) (hf : M 41 20 = nI n) (p w j : Int32) : mx_Ct l (pg_L sc) mY_Mo_enter (d + 1) 0 [.ref 41, .int p, .int w, .int j] M (mx_rV (mo_en M n (mo_s M p) p w j)) := by
  refine mx_bd (n0 := 4) hl (by decide +kernel) rfl rfl rfl ?_
  refine mx_cVi mo_Mo_enter 4 (As := [.int p]) (rest := [.ref 57]) rfl (ct_Mo_lookAt hl h p) rfl trivial rfl rfl rfl kv_Mo_126 kd_Mo_lookAt rfl rfl rfl ?_
  have ht := mo_s_lt (M := M) p
  generalize mo_s M p = t at ht ⊢
  have e : (nI t).toNatClampNeg = t := nI_clamp (by omega)
  have en : (nI n).toNatClampNeg = n := nI_clamp (by omega)
  have hv : vp_in (M 41 20) 500 := by rw [hf]; exact vp_in_nI hn (by decide)
  refine mx_ret_v mo_Mo_enter rfl 29 (M' := mx_up (mx_up (mx_up (mx_up (mx_up M 57 (nI t).toNatClampNeg (M 41 20 + 1)) 54 (M 41 20).toNatClampNeg p) 55 (M 41 20).toNatClampNeg w) 56 (M 41 20).toNatClampNeg j) 41 20 (M 41 20 + 1)) rfl ⟨vp_in_nI ht (by decide), hv, hv, hv, trivial⟩ rfl ⟨rfl, ?_⟩
  rw [hf, e, en, nI_1]
  rfl
/-- jump k tried from position s -/
def mo_q (M : mx_M) (s k : Nat) : Int32 := mo_mk (M 54 s) (M 46 k) (M 47 k) (M 48 k)
def mo_k (L s k : Nat) (M : mx_M) : Bool × mx_M :=
  if mo_q M s k < 0 then (true, M) else if M 57 (mo_s M (mo_q M s k)) = 0 then
    (if (M 41 20).toNatClampNeg = L then (false, M) else (true, mo_en M (M 41 20).toNatClampNeg (mo_s M (mo_q M s k)) (mo_q M s k) (nI s) (nI k)))
  else (true, M)
def mo_row (L s : Nat) : Nat → Nat → mx_M → Bool × mx_M
  | 0, _, M => (true, M)
  | m + 1, k, M => if (mo_k L s k M).1 then mo_row L s m (k + 1) (mo_k L s k M).2 else (false, M)
def mo_ra (L J : Nat) : Nat → Nat → mx_M → Bool × mx_M
  | 0, _, M => (true, M)
  | m + 1, s, M => if s < (M 41 20).toNatClampNeg then (if (mo_row L s J 0 M).1 then mo_ra L J m (s + 1) (mo_row L s J 0 M).2 else (false, (mo_row L s J 0 M).2)) else (true, M)
def mo_ok (M : mx_M) (L : Nat) : Prop := L ≤ 500 ∧ ∃ n, n ≤ L ∧ M 41 20 = nI n ∧ hs_ok mo_h (M 57) (M 54) n
theorem mo_en_off {n t c : Nat} {p w j : Int32} (hc : c < 41 ∨ 41 < c ∧ c < 54 ∨ 57 < c) : mo_en M n t p w j c = M c := by
  rw [mo_en, mx_up_off (by omega), mx_up_off (by omega), mx_up_off (by omega), mx_up_off (by omega), mx_up_off (by omega)]
theorem mo_en_41 {n t c : Nat} {p w j : Int32} (hc : c ≠ 20) : mo_en M n t p w j 41 c = M 41 c := by
  rw [mo_en, mx_up_row, mx_up_off (by decide), mx_up_off (by decide), mx_up_off (by decide), mx_up_off (by decide)]
  simp [upd, hc]
theorem mo_en_f {n t : Nat} {p w j : Int32} : mo_en M n t p w j 41 20 = nI (n + 1) := by
  rw [mo_en, mx_up_row]; simp [upd]
theorem mo_en_54 {n t : Nat} {p w j : Int32} : mo_en M n t p w j 54 = upd (M 54) n p := by
  rw [mo_en, mx_up_off (by decide), mx_up_off (by decide), mx_up_off (by decide), mx_up_row, mx_up_off (by decide)]
theorem mo_en_57 {n t : Nat} {p w j : Int32} : mo_en M n t p w j 57 = upd (M 57) t (nI (n + 1)) := by
  rw [mo_en, mx_up_off (by decide), mx_up_off (by decide), mx_up_off (by decide), mx_up_off (by decide), mx_up_row]
theorem mo_k_ok {L s k : Nat} (h : mo_ok M L) : mo_ok (mo_k L s k M).2 L ∧ (M 41 20).toNatClampNeg ≤ ((mo_k L s k M).2 41 20).toNatClampNeg ∧ (∀ j, j < (M 41 20).toNatClampNeg → (mo_k L s k M).2 54 j = M 54 j) ∧ (∀ c, c < 41 ∨ 41 < c ∧ c < 54 ∨ 57 < c → (mo_k L s k M).2 c = M c) ∧ ∀ c, c ≠ 20 → (mo_k L s k M).2 41 c = M 41 c := by
  have h0 := h
  obtain ⟨h1, n, h2, h3, h4⟩ := h
  have hn : (M 41 20).toNatClampNeg = n := by rw [h3]; exact nI_clamp (by omega)
  unfold mo_k
  split
  · exact ⟨h0, Nat.le_refl _, fun _ _ => rfl, fun _ _ => rfl, fun _ _ => rfl⟩
  split
  next hq hz =>
    split
    · exact ⟨h0, Nat.le_refl _, fun _ _ => rfl, fun _ _ => rfl, fun _ _ => rfl⟩
    next hL =>
      rw [hn] at hL ⊢
      generalize mo_q M s k = q at hq hz ⊢
      have hnew : ∀ i, i < n → ¬ M 54 i = q := by
        rcases mo_s_in h4 q with ⟨-, q2⟩ | ⟨i, hi, -, q2⟩
        · exact q2
        · rw [q2] at hz; exact absurd hz (nI_ne0 (by omega) (by omega))
      have hadd := hs_add h4 (by omega) hnew
      dsimp only
      refine ⟨⟨h1, n + 1, by omega, ?_, ?_⟩, ?_, fun j hj => ?_, fun c hc => mo_en_off hc, fun c hc => mo_en_41 hc⟩
      · rw [mo_en_f]
      · rw [mo_en_54, mo_en_57]; exact hadd
      · rw [mo_en_f, nI_clamp (by omega)]; omega
      · rw [mo_en_54]; simp [upd, show j ≠ n by omega]
  · exact ⟨h0, Nat.le_refl _, fun _ _ => rfl, fun _ _ => rfl, fun _ _ => rfl⟩
theorem mo_row_ok {L s : Nat} : ∀ (m k : Nat) (M : mx_M), mo_ok M L → mo_ok (mo_row L s m k M).2 L ∧ (M 41 20).toNatClampNeg ≤ ((mo_row L s m k M).2 41 20).toNatClampNeg ∧ (∀ j, j < (M 41 20).toNatClampNeg → (mo_row L s m k M).2 54 j = M 54 j) ∧ (∀ c, c < 41 ∨ 41 < c ∧ c < 54 ∨ 57 < c → (mo_row L s m k M).2 c = M c) ∧ ∀ c, c ≠ 20 → (mo_row L s m k M).2 41 c = M 41 c := by
  intro m
  induction m with
  | zero => intro k M h; exact ⟨h, Nat.le_refl _, fun _ _ => rfl, fun _ _ => rfl, fun _ _ => rfl⟩
  | succ m ih =>
    intro k M h
    rw [mo_row]
    split
    · obtain ⟨a1, a2, a3, a4, a5⟩ := mo_k_ok (s := s) (k := k) h
      obtain ⟨b1, b2, b3, b4, b5⟩ := ih (k + 1) _ a1
      exact ⟨b1, Nat.le_trans a2 b2, fun j hj => by rw [b3 j (by omega), a3 j hj], fun c hc => by rw [b4 c hc, a4 c hc], fun c hc => by rw [b5 c hc, a5 c hc]⟩
    · exact ⟨h, Nat.le_refl _, fun _ _ => rfl, fun _ _ => rfl, fun _ _ => rfl⟩
theorem mo_ra_ok {L J : Nat} : ∀ (m s : Nat) (M : mx_M), mo_ok M L → mo_ok (mo_ra L J m s M).2 L ∧ (M 41 20).toNatClampNeg ≤ ((mo_ra L J m s M).2 41 20).toNatClampNeg ∧ (∀ j, j < (M 41 20).toNatClampNeg → (mo_ra L J m s M).2 54 j = M 54 j) ∧ (∀ c, c < 41 ∨ 41 < c ∧ c < 54 ∨ 57 < c → (mo_ra L J m s M).2 c = M c) ∧ ∀ c, c ≠ 20 → (mo_ra L J m s M).2 41 c = M 41 c := by
  intro m
  induction m with
  | zero => intro s M h; exact ⟨h, Nat.le_refl _, fun _ _ => rfl, fun _ _ => rfl, fun _ _ => rfl⟩
  | succ m ih =>
    intro s M h
    rw [mo_ra]
    split
    · obtain ⟨a1, a2, a3, a4, a5⟩ := mo_row_ok (s := s) J 0 M h
      split
      · obtain ⟨b1, b2, b3, b4, b5⟩ := ih (s + 1) _ a1
        exact ⟨b1, Nat.le_trans a2 b2, fun j hj => by rw [b3 j (by omega), a3 j hj], fun c hc => by rw [b4 c hc, a4 c hc], fun c hc => by rw [b5 c hc, a5 c hc]⟩
      · exact ⟨a1, a2, a3, a4, a5⟩
    · exact ⟨h, Nat.le_refl _, fun _ _ => rfl, fun _ _ => rfl, fun _ _ => rfl⟩
end MR
