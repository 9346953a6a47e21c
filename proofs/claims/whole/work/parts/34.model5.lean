/-! PegBoardsModel: what needs the reaching; images. -/
section MT
variable {l : Launch} {sc : Nat × (Nat → Int32)} {d : Nat} {M : mx_M}
def mo_cc (M : mx_M) (lim : Int32) : Int32 := if M 41 2 = 0 then 1 else if lim < 1 ∨ ¬ lim ≤ 500 then 2 else 0
theorem ct_Mo_cannot (hl : l.stackTraces = false) (lim : Int32) : mx_Ct l (pg_L sc) mY_Mo_cannot d 0 [.ref 41, .int lim] M (mx_rI (if mo_cc M lim = 0 then 0 else 1) (mx_up M 41 0 (mo_cc M lim))) := by
  refine mx_bd (n0 := 2) hl (by decide +kernel) rfl rfl rfl ?_
  have fin : ∀ c : Int32, mo_cc M lim = c → (c = 0 ∨ c = 1 ∨ c = 2) → mx_E l (pg_L sc) mY_Mo_cannot d 0 (mx_rI (if mo_cc M lim = 0 then 0 else 1) (mx_up M 41 0 (mo_cc M lim))) 29 [.ref 41, .int lim] [.int c, .ref 41] M := by
    intro c hc h
    rw [hc]
    refine mx_if mo_Mo_cannot 3 (t := 43) (f := 39) rfl trivial (fun (q : c ≤ 0) => ?_) (fun (q : ¬ c ≤ 0) => ?_)
    · rcases h with rfl | rfl | rfl
      · exact mx_ret_z mo_Mo_cannot rfl 1 rfl trivial rfl (Or.inl rfl) ⟨rfl, rfl⟩
      · exact absurd q (by decide)
      · exact absurd q (by decide)
    · rcases h with rfl | rfl | rfl
      · exact absurd (by decide) q
      · exact mx_ret_z mo_Mo_cannot rfl 2 rfl trivial rfl (Or.inr rfl) ⟨rfl, rfl⟩
      · exact mx_ret_z mo_Mo_cannot rfl 2 rfl trivial rfl (Or.inr rfl) ⟨rfl, rfl⟩
  refine mx_if mo_Mo_cannot 3 (t := 12) (f := 8) rfl trivial (fun (q : ¬ M 41 2 = 0) => ?_) (fun (q : M 41 2 = 0) => ?_)
  · have f2 : (lim < 1 ∨ ¬ lim ≤ 500) → mx_E l (pg_L sc) mY_Mo_cannot d 0 (mx_rI (if mo_cc M lim = 0 then 0 else 1) (mx_up M 41 0 (mo_cc M lim))) 24 [.ref 41, .int lim] [.ref 41] M := fun c =>
      mx_go mo_Mo_cannot 2 (pc' := 29) (ls' := [.ref 41, .int lim]) (st' := [.int 2, .ref 41]) (M' := M) rfl trivial (fin 2 (by rw [mo_cc, if_neg q, if_pos c]) (Or.inr (Or.inr rfl)))
    refine mx_if mo_Mo_cannot 2 (t := 24) (f := 17) rfl trivial (fun c => f2 (Or.inl c)) (fun (q1 : ¬ lim < 1) => ?_)
    refine mx_if mo_Mo_cannot 2 (t := 28) (f := 24) rfl trivial (fun (q2 : lim ≤ 500) => ?_) (fun c => f2 (Or.inr c))
    exact mx_go mo_Mo_cannot 1 (pc' := 29) (ls' := [.ref 41, .int lim]) (st' := [.int 0, .ref 41]) (M' := M) rfl trivial (fin 0 (by rw [mo_cc, if_neg q, if_neg (fun c => c.elim q1 (fun c => c q2))]) (Or.inl rfl))
  · exact mx_go mo_Mo_cannot 2 (pc' := 29) (ls' := [.ref 41, .int lim]) (st' := [.int 1, .ref 41]) (M' := M) rfl trivial (fin 1 (by rw [mo_cc, if_pos q]) (Or.inr (Or.inl rfl)))
def mo_rw (M : mx_M) (lim : Int32) (Z : Int32 × mx_M) : Int32 × mx_M := if mo_cc M lim = 0 then Z else (0, mx_up M 41 0 (mo_cc M lim))
theorem mo_cc0 {lim : Int32} (h : mo_cc M lim = 0) : ¬ M 41 2 = 0 ∧ ∃ L, 1 ≤ L ∧ L ≤ 500 ∧ lim = nI L := by
  unfold mo_cc at h
  by_cases c1 : M 41 2 = 0
  · rw [if_pos c1] at h; exact absurd h (by decide)
  rw [if_neg c1] at h
  by_cases c2 : lim < 1 ∨ ¬ lim ≤ 500
  · rw [if_pos c2] at h; exact absurd h (by decide)
  exact ⟨c1, pe_lim c2⟩
def mo_count (R : Bool × mx_M) : Int32 × mx_M := ((if R.1 then R.2 41 20 else -2), R.2)
theorem ct_Mo_count (hl : l.stackTraces = false) {J : Nat} (hJ : J ≤ 120) (hs : M 41 8 = nI J) (lim : Int32) : mx_Ct l (pg_L sc) mY_Mo_count (d + 3) 0 [.ref 41, .int lim] M (mx_rI (mo_rw M lim (mo_count (mo_go (mx_up M 41 0 0) lim.toNatClampNeg J))).1 (mo_rw M lim (mo_count (mo_go (mx_up M 41 0 0) lim.toNatClampNeg J))).2) := by
  refine mx_bd (n0 := 2) hl (by decide +kernel) rfl rfl rfl ?_
  refine mx_cVi mo_Mo_count 2 (As := [.int lim]) (rest := []) rfl (ct_Mo_cannot hl lim) rfl trivial rfl rfl rfl kv_Mo_139 kd_Mo_cannot rfl rfl rfl ?_
  rw [mo_rw]
  by_cases hc : mo_cc M lim = 0
  case neg =>
    rw [if_neg hc, if_neg hc]
    refine mx_if mo_Mo_count 0 (t := 10) (f := 8) rfl trivial (fun (q : (1 : Int32) = 0) => absurd q (by decide)) (fun _ => ?_)
    exact mx_ret_i mo_Mo_count rfl 1 rfl trivial rfl ⟨rfl, rfl⟩
  rw [if_pos hc, if_pos hc, hc]
  refine mx_if mo_Mo_count 0 (t := 10) (f := 8) rfl trivial (fun _ => ?_) (fun q => absurd rfl q)
  obtain ⟨hfz, L, h1, h5, rfl⟩ := mo_cc0 hc
  rw [nI_clamp (by omega)]
  have hs' : mx_up M 41 0 0 41 8 = nI J := hs
  refine mx_cVi mo_Mo_count 2 (As := [.int (nI L)]) (rest := []) rfl (ct_Mo_reach hl h1 h5 hJ hs') rfl trivial rfl rfl rfl kv_Mo_142 kd_Mo_reach rfl rfl rfl ?_
  have hk : mo_ok (mo_go (mx_up M 41 0 0) L J).2 L := (mo_ra_ok L 0 _ (mo_s0_ok h1 h5).1).1
  generalize mo_go (mx_up M 41 0 0) L J = R at hk ⊢
  rw [mo_count]
  by_cases hb : R.1 = true
  · rw [if_pos hb, if_pos hb]
    refine mx_if mo_Mo_count 0 (t := 25) (f := 18) rfl trivial (fun (q : (1 : Int32) = 0) => absurd q (by decide)) (fun _ => ?_)
    exact mx_ret_i mo_Mo_count rfl 3 rfl trivial rfl ⟨rfl, rfl⟩
  · rw [if_neg hb, if_neg hb]
    refine mx_if mo_Mo_count 0 (t := 25) (f := 18) rfl trivial (fun _ => ?_) (fun q => absurd rfl q)
    exact mx_ret_i mo_Mo_count rfl 1 rfl trivial rfl ⟨rfl, rfl⟩
def mo_solve (R : Bool × mx_M) : Int32 × mx_M := ((if R.2 57 (mo_s R.2 (R.2 41 17)) = 0 then (if R.1 then 0 else -2) else 1), R.2)
theorem ct_Mo_solve (hl : l.stackTraces = false) {J : Nat} (hJ : J ≤ 120) (hs : M 41 8 = nI J) (lim : Int32) : mx_Ct l (pg_L sc) mY_Mo_solve (d + 3) 0 [.ref 41, .int lim] M (mx_rI (mo_rw M lim (mo_solve (mo_go (mx_up M 41 0 0) lim.toNatClampNeg J))).1 (mo_rw M lim (mo_solve (mo_go (mx_up M 41 0 0) lim.toNatClampNeg J))).2) := by
  refine mx_bd (n0 := 2) hl (by decide +kernel) rfl rfl rfl ?_
  refine mx_cVi mo_Mo_solve 2 (As := [.int lim]) (rest := []) rfl (ct_Mo_cannot hl lim) rfl trivial rfl rfl rfl kv_Mo_139 kd_Mo_cannot rfl rfl rfl ?_
  rw [mo_rw]
  by_cases hc : mo_cc M lim = 0
  case neg =>
    rw [if_neg hc, if_neg hc]
    refine mx_if mo_Mo_solve 0 (t := 10) (f := 8) rfl trivial (fun (q : (1 : Int32) = 0) => absurd q (by decide)) (fun _ => ?_)
    exact mx_ret_i mo_Mo_solve rfl 1 rfl trivial rfl ⟨rfl, rfl⟩
  rw [if_pos hc, if_pos hc, hc]
  refine mx_if mo_Mo_solve 0 (t := 10) (f := 8) rfl trivial (fun _ => ?_) (fun q => absurd rfl q)
  obtain ⟨hfz, L, h1, h5, rfl⟩ := mo_cc0 hc
  rw [nI_clamp (by omega)]
  have hs' : mx_up M 41 0 0 41 8 = nI J := hs
  refine mx_cVi mo_Mo_solve 2 (As := [.int (nI L)]) (rest := []) rfl (ct_Mo_reach hl h1 h5 hJ hs') rfl trivial rfl rfl rfl kv_Mo_142 kd_Mo_reach rfl rfl rfl ?_
  have hk : mo_ok (mo_go (mx_up M 41 0 0) L J).2 L := (mo_ra_ok L 0 _ (mo_s0_ok h1 h5).1).1
  generalize mo_go (mx_up M 41 0 0) L J = R at hk ⊢
  rw [mo_solve]
  obtain ⟨-, n, g2, g3, g4⟩ := hk
  refine mx_cVi mo_Mo_solve 4 (As := [.int (R.2 41 17)]) (rest := []) rfl (ct_Mo_numberOf hl g4 (R.2 41 17)) rfl trivial rfl rfl rfl kv_Mo_136 kd_Mo_numberOf rfl rfl rfl ?_
  rcases mo_s_in g4 (R.2 41 17) with ⟨c2, -⟩ | ⟨i, hi, -, c2⟩
  · rw [if_pos c2, c2]
    refine mx_if mo_Mo_solve 0 (t := 31) (f := 27) rfl trivial (fun _ => ?_) (fun (q : ¬ (0 : Int32) - 1 < 0) => absurd (by decide) q)
    by_cases hb : R.1 = true
    · rw [if_pos hb, if_pos hb]
      refine mx_if mo_Mo_solve 1 (t := 39) (f := 35) rfl trivial (fun (q : (1 : Int32) = 0) => absurd q (by decide)) (fun _ => ?_)
      exact mx_ret_i mo_Mo_solve rfl 2 rfl trivial rfl ⟨rfl, rfl⟩
    · rw [if_neg hb, if_neg hb]
      refine mx_if mo_Mo_solve 1 (t := 39) (f := 35) rfl trivial (fun _ => ?_) (fun q => absurd rfl q)
      exact mx_ret_i mo_Mo_solve rfl 1 rfl trivial rfl ⟨rfl, rfl⟩
  · rw [if_neg (by rw [c2]; exact nI_ne0 (by omega) (by have := g4.1; omega)), c2, nI_pred]
    refine mx_if mo_Mo_solve 0 (t := 31) (f := 27) rfl trivial (fun (q : nI i < 0) => absurd q (nI_pos (by have := g4.1; omega))) (fun _ => ?_)
    exact mx_ret_i mo_Mo_solve rfl 2 (v := 1) rfl trivial rfl ⟨rfl, rfl⟩
/-- a position's image -/
def mo_im (g : Nat → Int32) (k : Nat) (p : Int32) : Nat → Int32
  | 0 => 0
  | h + 1 => mo_im g k p h + (mo_bit p (nI h) <<< (g (20 * k + h) &&& 31))
theorem ct_Mo_imaged (hl : l.stackTraces = false) {k N : Nat} (hk : k < 12) (hN : N ≤ 20) (hh : M 41 3 = nI N) (p : Int32) : mx_Ct l (pg_L sc) mY_Mo_imaged (d + 1) 0 [.ref 41, .int (nI k), .int p] M (mx_rI (mo_im (M 49) k p N) M) := by
  have loop : ∀ (m h : Nat), N - h = m → h ≤ N → mx_E l (pg_L sc) mY_Mo_imaged (d + 1) 0 (mx_rI (mo_im (M 49) k p N) M) 5 [.ref 41, .int (nI k), .int p, .int (mo_im (M 49) k p h), .int (nI h)] [] M := by
    intro m
    induction m with
    | zero =>
      intro h hm hle
      have e : h = N := by omega
      subst e
      refine mx_if mo_Mo_imaged 3 (t := 42) (f := 14) rfl trivial (fun _ => ?_) (fun (q : ¬ M 41 3 ≤ nI h) => ?_)
      · exact mx_ret_i mo_Mo_imaged rfl 1 rfl trivial rfl ⟨rfl, rfl⟩
      · rw [hh] at q; exact absurd (nI_le (Nat.le_refl h) (by omega)) q
    | succ m ih =>
      intro h hm hle
      refine mx_if mo_Mo_imaged 3 (t := 42) (f := 14) rfl trivial (fun (q : M 41 3 ≤ nI h) => ?_) (fun _ => ?_)
      · rw [hh] at q; exact absurd q (nI_ge (by omega) (by omega))
      refine mx_cSi mo_Mo_imaged 3 (As := [.int p, .int (nI h)]) (rest := [.int (mo_im (M 49) k p h)]) rfl (ct_Mo_bit hl p (nI h)) rfl trivial rfl ks_Mo_120 kd_Mo_bit rfl rfl rfl ?_
      have ei : 20 * nI k + nI h = nI (20 * k + h) := by rw [show (20 : Int32) = nI 20 from rfl, pk_mul, nI_add]
      have hv : vp_in (20 * nI k + nI h) 240 := by rw [ei]; exact vp_in_nI (by omega) (by decide)
      refine mx_go mo_Mo_imaged 13 (pc' := 5) (ls' := [.ref 41, .int (nI k), .int p, .int (mo_im (M 49) k p h + (mo_bit p (nI h) <<< (M 49 (20 * nI k + nI h).toNatClampNeg &&& 31))), .int (nI h + 1)]) (st' := []) (M' := M) rfl ⟨hv, trivial⟩ ?_
      rw [ei, nI_clamp (by omega), nI_1]
      exact ih (h + 1) (by omega) (by omega)
  refine mx_bd (n0 := 3) hl (by decide +kernel) rfl rfl rfl ?_
  exact mx_go mo_Mo_imaged 4 (pc' := 5) (ls' := [.ref 41, .int (nI k), .int p, .int 0, .int (nI 0)]) (st' := []) (M' := M) rfl trivial (loop N 0 (by omega) (by omega))
def mo_lo (g : Nat → Int32) (p : Int32) (N : Nat) : Nat → Int32
  | 0 => p
  | k + 1 => if mo_im g k p N < mo_lo g p N k then mo_im g k p N else mo_lo g p N k
theorem ct_Mo_leastOf (hl : l.stackTraces = false) {s N : Nat} (hs : s ≤ 12) (hN : N ≤ 20) (hss : M 41 12 = nI s) (hh : M 41 3 = nI N) (p : Int32) : mx_Ct l (pg_L sc) mY_Mo_leastOf (d + 2) 0 [.ref 41, .int p] M (mx_rI (mo_lo (M 49) p N s) M) := by
  have loop : ∀ (m k : Nat) (z : Value), s - k = m → k ≤ s → mx_E l (pg_L sc) mY_Mo_leastOf (d + 2) 0 (mx_rI (mo_lo (M 49) p N s) M) 4 [.ref 41, .int p, .int (mo_lo (M 49) p N k), .int (nI k), z] [] M := by
    intro m
    induction m with
    | zero =>
      intro k z hm hle
      have e : k = s := by omega
      subst e
      refine mx_if mo_Mo_leastOf 3 (t := 39) (f := 12) rfl trivial (fun _ => ?_) (fun (q : ¬ M 41 12 ≤ nI k) => ?_)
      · exact mx_ret_i mo_Mo_leastOf rfl 1 rfl trivial rfl ⟨rfl, rfl⟩
      · rw [hss] at q; exact absurd (nI_le (Nat.le_refl k) (by omega)) q
    | succ m ih =>
      intro k z hm hle
      refine mx_if mo_Mo_leastOf 3 (t := 39) (f := 12) rfl trivial (fun (q : M 41 12 ≤ nI k) => ?_) (fun _ => ?_)
      · rw [hss] at q; exact absurd q (nI_ge (by omega) (by omega))
      refine mx_cVi mo_Mo_leastOf 3 (As := [.int (nI k), .int p]) (rest := []) rfl (ct_Mo_imaged hl (by omega) hN hh p) rfl trivial rfl rfl rfl kv_Mo_152 kd_Mo_imaged rfl rfl rfl ?_
      have next : ∀ v : Int32, v = mo_lo (M 49) p N (k + 1) → mx_E l (pg_L sc) mY_Mo_leastOf (d + 2) 0 (mx_rI (mo_lo (M 49) p N s) M) 32 [.ref 41, .int p, .int (mo_lo (M 49) p N k), .int (nI k), .int (mo_im (M 49) k p N)] [.int v] M := by
        intro v hv
        refine mx_go mo_Mo_leastOf 3 (pc' := 4) (ls' := [.ref 41, .int p, .int v, .int (nI k + 1), .int (mo_im (M 49) k p N)]) (st' := []) (M' := M) rfl trivial ?_
        rw [hv, nI_1]
        exact ih (k + 1) _ (by omega) (by omega)
      rw [mo_lo] at next
      refine mx_if mo_Mo_leastOf 3 (t := 31) (f := 26) rfl trivial (fun (q : mo_lo (M 49) p N k ≤ mo_im (M 49) k p N) => ?_) (fun (q : ¬ mo_lo (M 49) p N k ≤ mo_im (M 49) k p N) => ?_)
      · exact mx_go mo_Mo_leastOf 1 (pc' := 32) (ls' := [.ref 41, .int p, .int (mo_lo (M 49) p N k), .int (nI k), .int (mo_im (M 49) k p N)]) (st' := [.int (mo_lo (M 49) p N k)]) (M' := M) rfl trivial (next _ (by rw [if_neg (Int32.not_lt.mpr q)]))
      · exact mx_go mo_Mo_leastOf 2 (pc' := 32) (ls' := [.ref 41, .int p, .int (mo_lo (M 49) p N k), .int (nI k), .int (mo_im (M 49) k p N)]) (st' := [.int (mo_im (M 49) k p N)]) (M' := M) rfl trivial (next _ (by rw [if_pos (Int32.not_le.mp q)]))
  refine mx_bd (n0 := 2) hl (by decide +kernel) rfl rfl rfl ?_
  exact mx_go mo_Mo_leastOf 4 (pc' := 4) (ls' := [.ref 41, .int p, .int p, .int (nI 0), .null]) (st' := []) (M' := M) rfl trivial (loop s 0 _ (by omega) (by omega))
def mo_least (M : mx_M) (p : Int32) (N s : Nat) : Int32 × mx_M := if ¬ p < 0 ∧ p < mo_all M then (if M 41 2 = 0 then (0, mx_up M 41 0 2) else (mo_lo (M 49) p N s, mx_up M 41 0 0)) else (0, mx_up M 41 0 1)
theorem ct_Mo_least (hl : l.stackTraces = false) {s N : Nat} (hy : ¬ M 41 2 = 0 → s ≤ 12 ∧ N ≤ 20 ∧ M 41 12 = nI s ∧ M 41 3 = nI N) (p : Int32) : mx_Ct l (pg_L sc) mY_Mo_least (d + 3) 0 [.ref 41, .int p] M (mx_rI (mo_least M p N s).1 (mo_least M p N s).2) := by
  refine mx_bd (n0 := 2) hl (by decide +kernel) rfl rfl rfl ?_
  refine mx_cVi mo_Mo_least 3 (As := [.int p]) (rest := [.ref 41]) rfl (ct_Mo_noPosition hl p) rfl trivial rfl rfl rfl kv_Mo_117 kd_Mo_noPosition rfl rfl rfl ?_
  rw [mo_least]
  by_cases c : ¬ p < 0 ∧ p < mo_all M
  · rw [if_pos c, if_pos c]
    refine mx_if mo_Mo_least 0 (t := 13) (f := 9) rfl trivial (fun _ => ?_) (fun q => absurd rfl q)
    refine mx_if mo_Mo_least 2 (t := 24) (f := 20) rfl trivial (fun (q : ¬ M 41 2 = 0) => ?_) (fun (q : M 41 2 = 0) => ?_)
    · rw [if_neg q]
      obtain ⟨y1, y2, y3, y4⟩ := hy q
      refine mx_if mo_Mo_least 4 (t := 39) (f := 35) rfl trivial (fun _ => ?_) (fun (q : ¬ (0 : Int32) ≤ 0) => absurd (by decide) q)
      refine mx_cVi mo_Mo_least 2 (As := [.int p]) (rest := []) rfl (ct_Mo_leastOf (M := mx_up M 41 0 0) hl y1 y2 y3 y4 p) rfl trivial rfl rfl rfl kv_Mo_158 kd_Mo_leastOf rfl rfl rfl ?_
      exact mx_ret_i mo_Mo_least rfl 0 rfl trivial rfl ⟨rfl, rfl⟩
    · rw [if_pos q]
      refine mx_if mo_Mo_least 5 (t := 39) (f := 35) rfl trivial (fun (q : (2 : Int32) ≤ 0) => absurd q (by decide)) (fun _ => ?_)
      exact mx_ret_i mo_Mo_least rfl 2 rfl trivial rfl ⟨rfl, rfl⟩
  · rw [if_neg c, if_neg c]
    refine mx_if mo_Mo_least 0 (t := 13) (f := 9) rfl trivial (fun (q : (1 : Int32) = 0) => absurd q (by decide)) (fun _ => ?_)
    refine mx_if mo_Mo_least 5 (t := 39) (f := 35) rfl trivial (fun (q : (1 : Int32) ≤ 0) => absurd q (by decide)) (fun _ => ?_)
    exact mx_ret_i mo_Mo_least rfl 2 rfl trivial rfl ⟨rfl, rfl⟩
def mo_image (M : mx_M) (k h : Int32) : Int32 × mx_M := if (¬ k < 0 ∧ k < M 41 12) ∧ ¬ M 41 2 = 0 ∧ ¬ h < 0 ∧ h < M 41 3 then (M 49 (20 * k + h).toNatClampNeg, mx_up M 41 0 0) else (0, mx_up M 41 0 1)
theorem ct_Mo_image (hl : l.stackTraces = false) {s N : Nat} (hs : s ≤ 12) (hN : N ≤ 20) (hss : M 41 12 = nI s) (hh : M 41 3 = nI N) (k h : Int32) : mx_Ct l (pg_L sc) mY_Mo_image (d + 1) 0 [.ref 41, .int k, .int h] M (mx_rI (mo_image M k h).1 (mo_image M k h).2) := by
  refine mx_bd (n0 := 3) hl (by decide +kernel) rfl rfl rfl ?_
  have fin : ¬ ((¬ k < 0 ∧ k < M 41 12) ∧ ¬ M 41 2 = 0 ∧ ¬ h < 0 ∧ h < M 41 3) → mx_E l (pg_L sc) mY_Mo_image (d + 1) 0 (mx_rI (mo_image M k h).1 (mo_image M k h).2) 21 [.ref 41, .int k, .int h] [.ref 41] M := by
    intro c
    rw [mo_image, if_neg c]
    refine mx_if mo_Mo_image 5 (t := 40) (f := 36) rfl trivial (fun (q : (1 : Int32) ≤ 0) => absurd q (by decide)) (fun _ => ?_)
    exact mx_ret_i mo_Mo_image rfl 2 rfl trivial rfl ⟨rfl, rfl⟩
  refine mx_if mo_Mo_image 2 (t := 21) (f := 5) rfl trivial (fun q => fin (fun c => c.1.1 q)) (fun (q1 : ¬ k < 0) => ?_)
  refine mx_if mo_Mo_image 3 (t := 21) (f := 13) rfl trivial (fun (q : M 41 12 ≤ k) => fin (fun c => Int32.not_le.mpr c.1.2 q)) (fun (q2 : ¬ M 41 12 ≤ k) => ?_)
  have q2 := Int32.not_le.mp q2
  refine mx_cVi mo_Mo_image 2 (As := [.int h]) (rest := [.ref 41]) rfl (ct_Mo_noHole hl h) rfl trivial rfl rfl rfl kv_Mo_161 kd_Mo_noHole rfl rfl rfl ?_
  by_cases c : ¬ M 41 2 = 0 ∧ ¬ h < 0 ∧ h < M 41 3
  · rw [if_pos c, mo_image, if_pos ⟨⟨q1, q2⟩, c⟩]
    refine mx_if mo_Mo_image 0 (t := 25) (f := 21) rfl trivial (fun _ => ?_) (fun q => absurd rfl q)
    refine mx_if mo_Mo_image 4 (t := 40) (f := 36) rfl trivial (fun _ => ?_) (fun (q : ¬ (0 : Int32) ≤ 0) => absurd (by decide) q)
    have c2 := c.2
    rw [hh] at c2
    rw [hss] at q2
    obtain ⟨i, hi, rfl⟩ := nI_inJ (by omega) c2
    obtain ⟨j, hj, rfl⟩ := nI_inJ (by omega) ⟨q1, q2⟩
    have hv : vp_in (20 * nI j + nI i) 240 := by rw [show (20 : Int32) = nI 20 from rfl, pk_mul, nI_add]; exact vp_in_nI (by omega) (by decide)
    exact mx_ret_i mo_Mo_image rfl 8 (v := M 49 (20 * nI j + nI i).toNatClampNeg) rfl ⟨hv, trivial⟩ rfl ⟨rfl, rfl⟩
  · rw [if_neg c]
    exact mx_if mo_Mo_image 0 (t := 25) (f := 21) rfl trivial (fun (q : (1 : Int32) = 0) => absurd q (by decide)) (fun _ => fin (fun c2 => c c2.2))
end MT
