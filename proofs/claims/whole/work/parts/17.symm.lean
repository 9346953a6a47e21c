/-! PegBoards$Symmetries. -/
section SY
variable {l : Launch} {sc : Nat × (Nat → Int32)} {d : Nat} {M : mx_M}
section
variable {LK : mx_L} {Y : mx_Y} {n : Nat} {Q : mx_R → mx_M → Prop} {fl : mx_F} {tab : mx_B} {pc : Nat} {ls st : List Value}
/-- a place of an array whose number isn't a literal -/
theorem mx_ial (hok : mx_ok Y fl tab) (k : Nat) {P : Prop} {pc' a n0 : Nat} {i : Int32} {ls' st' : List Value} {M' : mx_M} (h : mx_run fl LK tab k pc ls st M = some (P, pc', ls', .int i :: .ref a :: st', M')) (hP : P) (hd : tab.lookup pc' = some (.iaload, 1))
    (ha : LK.1[a]? = some (.inl n0)) (hi : vp_in i n0) (kk : mx_E l LK Y d n Q (pc' + 1) ls' (.int (M' a i.toNatClampNeg) :: st') M') : mx_E l LK Y d n Q pc ls st M := by
  refine mx_go hok k h hP (mx_st_ok hok (r := (some (vp_in i n0), pc' + 1, ls', .int (M' a i.toNatClampNeg) :: st', M')) ?_ (fun q hq => by cases hq; exact hi) kk)
  have hal : mx_al LK a = some n0 := by unfold mx_al; rw [ha]
  unfold mx_st
  rw [hd]
  show mx_i fl LK pc' .iaload ls' (.int i :: .ref a :: st') M' = _
  show (match mx_al LK a with
      | some n => some (some (vp_in i n), pc' + 1, ls', Value.int (M' a i.toNatClampNeg) :: st', M')
      | none => (match mx_ro LK a with
        | some (n, f) => some (some (vp_in i n), pc' + 1, ls', Value.int (f i.toNatClampNeg) :: st', M')
        | none => none)) = _
  rw [hal]
theorem mx_ias (hok : mx_ok Y fl tab) (k : Nat) {P : Prop} {pc' a n0 : Nat} {i v : Int32} {ls' st' : List Value} {M' : mx_M} (h : mx_run fl LK tab k pc ls st M = some (P, pc', ls', .int v :: .int i :: .ref a :: st', M')) (hP : P) (hd : tab.lookup pc' = some (.iastore, 1))
    (ha : LK.1[a]? = some (.inl n0)) (hi : vp_in i n0) (kk : mx_E l LK Y d n Q (pc' + 1) ls' st' (mx_up M' a i.toNatClampNeg v)) : mx_E l LK Y d n Q pc ls st M := by
  refine mx_go hok k h hP (mx_st_ok hok (r := (some (vp_in i n0), pc' + 1, ls', st', mx_up M' a i.toNatClampNeg v)) ?_ (fun q hq => by cases hq; exact hi) kk)
  have hal : mx_al LK a = some n0 := by unfold mx_al; rw [ha]
  unfold mx_st
  rw [hd]
  show (match mx_al LK a with
      | some n => some (some (vp_in i n), pc' + 1, ls', st', mx_up M' a i.toNatClampNeg v)
      | none => none) = _
  rw [hal]
end
theorem sy_tk : ∀ k : Nat, k < 12 → pg_c[13 + k]? = some (.inl 20)
  | 0, _ => rfl
  | 1, _ => rfl
  | 2, _ => rfl
  | 3, _ => rfl
  | 4, _ => rfl
  | 5, _ => rfl
  | 6, _ => rfl
  | 7, _ => rfl
  | 8, _ => rfl
  | 9, _ => rfl
  | 10, _ => rfl
  | 11, _ => rfl
  | k + 12, h => by omega
theorem sy_tr : ∀ k, k < 12 → ([13, 14, 15, 16, 17, 18, 19, 20, 21, 22, 23, 24] : List Nat)[k]? = some (13 + k) := by decide +kernel
theorem ct_Sy_holeOf (hl : l.stackTraces = false) {k h : Nat} (hk : k < 12) (hh : h < 20) : mx_Ct l (pg_L sc) mY_Sy_holeOf d 0 [.ref 11, .int (nI k), .int (nI h)] M (mx_rI (M (13 + k) h) M) := by
  have e : (nI k).toNatClampNeg = k := nI_clamp (by omega)
  have e2 : (nI h).toNatClampNeg = h := nI_clamp (by omega)
  refine mx_bd (n0 := 3) hl (by decide +kernel) rfl rfl rfl ?_
  refine mx_aal mo_Sy_holeOf 3 (a := 12) (i := nI k) (b := 13 + k) rfl trivial rfl rfl (vp_in_nI hk (by decide)) (by rw [e]; exact sy_tr k hk) ?_
  refine mx_ial mo_Sy_holeOf 1 (a := 13 + k) (i := nI h) rfl trivial rfl (sy_tk k hk) (vp_in_nI hh (by decide)) ?_
  exact mx_ret_i mo_Sy_holeOf rfl 0 rfl trivial rfl ⟨by rw [e2], rfl⟩
/-- a turn, so many times -/
def sy_t (t : Int32) : Nat → Int32 → Int32 → Int32 × Int32
  | 0, r, c => (r, c)
  | m + 1, r, c => sy_t t m (if t = 0 then c else r + c) (-r)
def sy_tn (M : mx_M) (h m : Nat) : mx_M := mx_up (mx_up M 25 h (sy_t (M 1 3) m (M 3 h) (M 4 h)).1) 26 h (sy_t (M 1 3) m (M 3 h) (M 4 h)).2
theorem ct_Sy_turn (hl : l.stackTraces = false) {h m : Nat} (hh : h < 20) (hm : m < 6) (ht : M 1 3 = 0 ∨ M 1 3 = 1) : mx_Ct l (pg_L sc) mY_Sy_turn (d + 1) 0 [.ref 11, .ref 1, .int (nI h), .int (nI m)] M (mx_rV (sy_tn M h m)) := by
  have e : (nI h).toNatClampNeg = h := nI_clamp (by omega)
  have hv : vp_in (nI h) 20 := vp_in_nI hh (by decide)
  have loop : ∀ (q i : Nat) (r c : Int32), m - i = q → i ≤ m → sy_t (M 1 3) q r c = sy_t (M 1 3) m (M 3 h) (M 4 h) → ∀ v : Value, mx_E l (pg_L sc) mY_Sy_turn (d + 1) 0 (mx_rV (sy_tn M h m)) 17 [.ref 11, .ref 1, .int (nI h), .int (nI m), .int r, .int c, .int (nI i), v] [] M := by
    intro q
    induction q with
    | zero =>
      intro i r c hq hi he v
      have e3 : i = m := by omega
      subst e3
      refine mx_if mo_Sy_turn 2 (t := 57) (f := 23) rfl trivial (fun h1 => ?_) (fun h1 => ?_)
      · refine mx_ret_v mo_Sy_turn rfl 10 (M' := mx_up (mx_up M 25 (nI h).toNatClampNeg r) 26 (nI h).toNatClampNeg c) rfl ⟨hv, hv, trivial⟩ rfl ⟨rfl, ?_⟩
        rw [e, sy_tn, ← he]
        rfl
      · exact absurd (nI_le (Nat.le_refl i) (by omega)) h1
    | succ q ih =>
      intro i r c hq hi he v
      refine mx_if mo_Sy_turn 2 (t := 57) (f := 23) rfl trivial (fun h1 => ?_) (fun h1 => ?_)
      · exact absurd h1 (nI_ge (by omega) (by omega))
      rw [sy_t] at he
      refine mx_cVi mo_Sy_turn 1 rfl (ct_Bo_isTriangular hl ht) rfl trivial rfl rfl rfl kv_Sy_27 kd_Bo_isTriangular rfl rfl rfl ?_
      refine mx_if mo_Sy_turn 0 (t := 38) (f := 30) rfl trivial (fun h2 => ?_) (fun h2 => ?_)
      · rw [if_pos h2] at he
        refine mx_go mo_Sy_turn 9 (pc' := 17) (ls' := [.ref 11, .ref 1, .int (nI h), .int (nI m), .int c, .int (-r), .int (nI i + 1), .int c]) (st' := []) (M' := M) rfl trivial ?_
        rw [nI_1]
        exact ih (i + 1) c (-r) (by omega) (by omega) he _
      · rw [if_neg h2] at he
        refine mx_go mo_Sy_turn 12 (pc' := 17) (ls' := [.ref 11, .ref 1, .int (nI h), .int (nI m), .int (r + c), .int (-r), .int (nI i + 1), .int (r + c)]) (st' := []) (M' := M) rfl trivial ?_
        rw [nI_1]
        exact ih (i + 1) (r + c) (-r) (by omega) (by omega) he _
  refine mx_bd (n0 := 4) hl (by decide +kernel) rfl rfl rfl ?_
  refine mx_cVi mo_Sy_turn 2 (As := [.int (nI h)]) rfl (ct_Bo_rowOf hl hh) rfl trivial rfl rfl rfl kv_Sy_65 kd_Bo_rowOf rfl rfl rfl ?_
  refine mx_cVi mo_Sy_turn 3 (As := [.int (nI h)]) rfl (ct_Bo_columnOf hl hh) rfl trivial rfl rfl rfl kv_Sy_69 kd_Bo_columnOf rfl rfl rfl ?_
  exact mx_go mo_Sy_turn 3 (pc' := 17) (ls' := [.ref 11, .ref 1, .int (nI h), .int (nI m), .int (M 3 h), .int (M 4 h), .int (nI 0), .null]) (st' := []) (M' := M) rfl trivial (loop m 0 _ _ (by omega) (by omega) rfl _)
def sy_mi (M : mx_M) (h : Nat) : mx_M := mx_up (mx_up M 25 h (M 26 h)) 26 h (M 25 h)
theorem ct_Sy_mirror (hl : l.stackTraces = false) {h : Nat} (hh : h < 20) : mx_Ct l (pg_L sc) mY_Sy_mirror d 0 [.ref 11, .int (nI h)] M (mx_rV (sy_mi M h)) := by
  have e : (nI h).toNatClampNeg = h := nI_clamp (by omega)
  have hv : vp_in (nI h) 20 := vp_in_nI hh (by decide)
  refine mx_bd (n0 := 2) hl (by decide +kernel) rfl rfl rfl ?_
  refine mx_ret_v mo_Sy_mirror rfl 18 (M' := mx_up (mx_up M 25 (nI h).toNatClampNeg (M 26 (nI h).toNatClampNeg)) 26 (nI h).toNatClampNeg (M 25 (nI h).toNatClampNeg)) rfl ⟨hv, hv, hv, hv, trivial⟩ rfl ⟨rfl, ?_⟩
  rw [e]
  rfl
/-- places below n moved -/
def sy_mv (M : mx_M) (k n : Nat) (s : Int32) : mx_M := mx_row M k (fun j => if j < n then M k j + s else M k j)
theorem sy_mv_0 {k : Nat} {s : Int32} : sy_mv M k 0 s = M := by
  funext a j
  by_cases ha : a = k
  · subst ha; simp [sy_mv, mx_row]
  · simp [sy_mv, mx_row, ha]
theorem sy_mv_s {k i : Nat} {s : Int32} : mx_up (sy_mv M k i s) k i (sy_mv M k i s k i + s) = sy_mv M k (i + 1) s := by
  funext a j
  by_cases ha : a = k
  · subst ha
    by_cases hj : j = i
    · subst hj; simp [mx_up, sy_mv, mx_row]
    · by_cases h2 : j < i
      · simp [mx_up, sy_mv, mx_row, hj, h2, Nat.lt_succ_of_lt h2]
      · simp [mx_up, sy_mv, mx_row, hj, h2, show ¬ j < i + 1 by omega]
  · simp [mx_up, sy_mv, mx_row, ha]
theorem ct_Sy_moveByK (hl : l.stackTraces = false) {k n : Nat} (hk : k ≠ 11) (hn : n ≤ 20) (hh : M 11 3 = nI n) (s : Int32)
    (hB : ∀ (j : Int32) (M0 : mx_M), mx_run mf_Sy (pg_L sc) mt_Sy_moveBy 9 10 [.ref 11, .int s, .ref k, .int j] [] M0 = some (vp_in j 20 ∧ vp_in j 20 ∧ True, 2, [.ref 11, .int s, .ref k, .int (j + 1)], [], mx_up M0 k j.toNatClampNeg (M0 k j.toNatClampNeg + s))) :
    mx_Ct l (pg_L sc) mY_Sy_moveBy d 0 [.ref 11, .int s, .ref k] M (mx_rV (sy_mv M k n s)) := by
  have h11 : ∀ i, sy_mv M k i s 11 3 = nI n := fun i => by rw [sy_mv, mx_row, if_neg (Ne.symm hk)]; exact hh
  have loop : ∀ (m i : Nat), n - i = m → i ≤ n → mx_E l (pg_L sc) mY_Sy_moveBy d 0 (mx_rV (sy_mv M k n s)) 2 [.ref 11, .int s, .ref k, .int (nI i)] [] (sy_mv M k i s) := by
    intro m
    induction m with
    | zero =>
      intro i hm hi
      have e : i = n := by omega
      subst e
      refine mx_if mo_Sy_moveBy 3 (t := 23) (f := 10) rfl trivial (fun (h : sy_mv M k i s 11 3 ≤ nI i) => ?_) (fun (h : ¬ sy_mv M k i s 11 3 ≤ nI i) => ?_)
      · exact mx_ret_v mo_Sy_moveBy rfl 0 rfl trivial rfl ⟨rfl, rfl⟩
      · rw [h11] at h; exact absurd (nI_le (Nat.le_refl i) (by omega)) h
    | succ m ih =>
      intro i hm hi
      have e : (nI i).toNatClampNeg = i := nI_clamp (by omega)
      have hv : vp_in (nI i) 20 := vp_in_nI (by omega) (by decide)
      refine mx_if mo_Sy_moveBy 3 (t := 23) (f := 10) rfl trivial (fun (h : sy_mv M k i s 11 3 ≤ nI i) => ?_) (fun h => ?_)
      · rw [h11] at h; exact absurd h (nI_ge (by omega) (by omega))
      · refine mx_go mo_Sy_moveBy 9 (hB (nI i) _) ⟨hv, hv, trivial⟩ ?_
        rw [e, sy_mv_s, nI_1]
        exact ih (i + 1) (by omega) (by omega)
  refine mx_bd (n0 := 3) hl (by decide +kernel) rfl rfl rfl ?_
  have := loop n 0 (by omega) (by omega)
  rw [sy_mv_0] at this
  exact mx_go mo_Sy_moveBy 2 (pc' := 2) (ls' := [.ref 11, .int s, .ref k, .int (nI 0)]) (st' := []) (M' := M) rfl trivial this
theorem ct_Sy_moveBy25 (hl : l.stackTraces = false) {n : Nat} (hn : n ≤ 20) (hh : M 11 3 = nI n) (s : Int32) : mx_Ct l (pg_L sc) mY_Sy_moveBy d 0 [.ref 11, .int s, .ref 25] M (mx_rV (sy_mv M 25 n s)) := ct_Sy_moveByK hl (by decide) hn hh s (fun _ _ => rfl)
theorem ct_Sy_moveBy26 (hl : l.stackTraces = false) {n : Nat} (hn : n ≤ 20) (hh : M 11 3 = nI n) (s : Int32) : mx_Ct l (pg_L sc) mY_Sy_moveBy d 0 [.ref 11, .int s, .ref 26] M (mx_rV (sy_mv M 26 n s)) := ct_Sy_moveByK hl (by decide) hn hh s (fun _ _ => rfl)
/-- the image laid into row k, from hole h on (m holes are left) -/
def sy_ad (k : Nat) : Nat → Nat → mx_M → mx_M
  | 0, _, M => mx_up M 11 4 (nI (k + 1))
  | m + 1, h, M => if pg_at M (M 25 h) (M 26 h) = -1 then M else if 12 ≤ k then M else sy_ad k m (h + 1) (mx_up M (13 + k) h (pg_at M (M 25 h) (M 26 h)))
theorem ct_Sy_addIfSameHoles (hl : l.stackTraces = false) {k n : Nat} (hn : n ≤ 20) (hn1 : 1 ≤ n) (hk : k ≤ 12) (hh : M 11 3 = nI n) (hs : M 11 4 = nI k) : mx_Ct l (pg_L sc) mY_Sy_addIfSameHoles (d + 2) 0 [.ref 11, .ref 1] M (mx_rV (sy_ad k n 0 M)) := by
  have loop : ∀ (m h : Nat) (M1 : mx_M), n - h = m → h ≤ n → M1 11 3 = nI n → M1 11 4 = nI k → sy_ad k m h M1 = sy_ad k n 0 M → ∀ v : Value, mx_E l (pg_L sc) mY_Sy_addIfSameHoles (d + 2) 0 (mx_rV (sy_ad k n 0 M)) 2 [.ref 11, .ref 1, .int (nI h), v] [] M1 := by
    intro m
    induction m with
    | zero =>
      intro h M1 hm hle h1 h2 he v
      have e : h = n := by omega
      subst e
      refine mx_if mo_Sy_addIfSameHoles 3 (t := 60) (f := 10) rfl trivial (fun (q : M1 11 3 ≤ nI h) => ?_) (fun (q : ¬ M1 11 3 ≤ nI h) => ?_)
      · refine mx_ret_v mo_Sy_addIfSameHoles rfl 6 (M' := mx_up M1 11 4 (M1 11 4 + 1)) rfl trivial rfl ⟨rfl, ?_⟩
        rw [← he, sy_ad, h2, nI_1]
      · rw [h1] at q; exact absurd (nI_le (Nat.le_refl h) (by omega)) q
    | succ m ih =>
      intro h M1 hm hle h1 h2 he v
      have e : (nI h).toNatClampNeg = h := nI_clamp (by omega)
      have hv : vp_in (nI h) 20 := vp_in_nI (by omega) (by decide)
      refine mx_if mo_Sy_addIfSameHoles 3 (t := 60) (f := 10) rfl trivial (fun (q : M1 11 3 ≤ nI h) => ?_) (fun q => ?_)
      · rw [h1] at q; exact absurd q (nI_ge (by omega) (by omega))
      refine mx_go mo_Sy_addIfSameHoles 9 (pc' := 23) (ls' := [.ref 11, .ref 1, .int (nI h), v]) (st' := [.int (M1 26 (nI h).toNatClampNeg), .int (M1 25 (nI h).toNatClampNeg), .ref 1]) (M' := M1) rfl ⟨hv, hv, trivial⟩ ?_
      rw [e]
      refine mx_cVi mo_Sy_addIfSameHoles 0 (As := [.int (M1 25 h), .int (M1 26 h)]) (rest := []) rfl (ct_Bo_numberAt hl _ _) rfl trivial rfl rfl rfl kv_Sy_72 kd_Bo_numberAt rfl rfl rfl ?_
      rw [sy_ad] at he
      generalize pg_at M1 (M1 25 h) (M1 26 h) = x at he ⊢
      refine mx_if mo_Sy_addIfSameHoles 3 (t := 41) (f := 32) rfl trivial (fun (q2 : x = -1) => ?_) (fun (q2 : ¬ x = -1) => ?_)
      · rw [if_pos q2] at he
        exact mx_ret_v mo_Sy_addIfSameHoles rfl 0 rfl trivial rfl ⟨rfl, he⟩
      rw [if_neg q2] at he
      refine mx_if mo_Sy_addIfSameHoles 3 (t := 42) (f := 41) rfl trivial (fun (q3 : M1 11 4 < nI 12) => ?_) (fun (q3 : ¬ M1 11 4 < nI 12) => ?_)
      · rw [h2, nI_ltI (by omega) (by decide)] at q3
        rw [if_neg (by omega)] at he
        have e4 : (M1 11 4).toNatClampNeg = k := by rw [h2]; exact nI_clamp (by omega)
        refine mx_aal mo_Sy_addIfSameHoles 4 (a := 12) (i := M1 11 4) (b := 13 + k) rfl trivial rfl rfl (by rw [h2]; exact vp_in_nI q3 (by decide)) (by rw [e4]; exact sy_tr k q3) ?_
        refine mx_ias mo_Sy_addIfSameHoles 2 (a := 13 + k) (i := nI h) (v := x) rfl trivial rfl (sy_tk k q3) hv ?_
        refine mx_go mo_Sy_addIfSameHoles 2 (pc' := 2) (ls' := [.ref 11, .ref 1, .int (nI h + 1), .int x]) (st' := []) rfl trivial ?_
        rw [e, nI_1]
        exact ih (h + 1) _ (by omega) (by omega) (by rw [mx_up_off (by omega)]; exact h1) (by rw [mx_up_off (by omega)]; exact h2) he _
      · rw [h2, nI_ltI (by omega) (by decide)] at q3
        rw [if_pos (by omega)] at he
        exact mx_ret_v mo_Sy_addIfSameHoles rfl 0 rfl trivial rfl ⟨rfl, he⟩
  refine mx_bd (n0 := 2) hl (by decide +kernel) rfl rfl rfl ?_
  exact mx_go mo_Sy_addIfSameHoles 2 (pc' := 2) (ls' := [.ref 11, .ref 1, .int (nI 0), .null]) (st' := []) (M' := M) rfl trivial (loop n 0 M (by omega) (by omega) hh hs rfl _)
/-- the image of a position by the row g of holes -/
def sy_im (g : Nat → Int32) (p : Int32) : Nat → Int32
  | 0 => 0
  | h + 1 => if pg_has p (nI h) = 0 then sy_im g p h else sy_im g p h ||| (1 <<< (g h &&& 31))
theorem ct_Sy_imageOf (hl : l.stackTraces = false) {k n : Nat} (hn : n ≤ 20) (hk : k < 12) (hh : M 11 3 = nI n) (p : Int32) : mx_Ct l (pg_L sc) mY_Sy_imageOf (d + 1) 0 [.ref 11, .int (nI k), .int p] M (mx_rI (sy_im (M (13 + k)) p n) M) := by
  have ek : (nI k).toNatClampNeg = k := nI_clamp (by omega)
  have loop : ∀ (m h : Nat), n - h = m → h ≤ n → mx_E l (pg_L sc) mY_Sy_imageOf (d + 1) 0 (mx_rI (sy_im (M (13 + k)) p n) M) 5 [.ref 11, .int (nI k), .int p, .int (sy_im (M (13 + k)) p h), .int (nI h)] [] M := by
    intro m
    induction m with
    | zero =>
      intro h hm hle
      have e : h = n := by omega
      subst e
      refine mx_if mo_Sy_imageOf 3 (t := 43) (f := 14) rfl trivial (fun (q : M 11 3 ≤ nI h) => ?_) (fun (q : ¬ M 11 3 ≤ nI h) => ?_)
      · exact mx_ret_i mo_Sy_imageOf rfl 1 rfl trivial rfl ⟨rfl, rfl⟩
      · rw [hh] at q; exact absurd (nI_le (Nat.le_refl h) (by omega)) q
    | succ m ih =>
      intro h hm hle
      have e : (nI h).toNatClampNeg = h := nI_clamp (by omega)
      have hv : vp_in (nI h) 20 := vp_in_nI (by omega) (by decide)
      refine mx_if mo_Sy_imageOf 3 (t := 43) (f := 14) rfl trivial (fun (q : M 11 3 ≤ nI h) => ?_) (fun q => ?_)
      · rw [hh] at q; exact absurd q (nI_ge (by omega) (by omega))
      refine mx_cNi mo_Sy_imageOf 2 (As := [.int p, .int (nI h)]) rfl (ct_Pe_contains hl p (nI h)) rfl trivial rfl kn_Sy_84 kd_Pe_contains rfl rfl rfl ?_
      have hI := ih (h + 1) (by omega) (by omega)
      rw [sy_im] at hI
      refine mx_if mo_Sy_imageOf 0 (t := 37) (f := 23) rfl trivial (fun q2 => ?_) (fun q2 => ?_)
      · rw [if_pos q2] at hI
        refine mx_go mo_Sy_imageOf 2 (pc' := 5) (ls' := [.ref 11, .int (nI k), .int p, .int (sy_im (M (13 + k)) p h), .int (nI h + 1)]) (st' := []) (M' := M) rfl trivial ?_
        rw [nI_1]; exact hI
      · rw [if_neg q2] at hI
        refine mx_aal mo_Sy_imageOf 5 (a := 12) (i := nI k) (b := 13 + k) rfl trivial rfl rfl (vp_in_nI hk (by decide)) (by rw [ek]; exact sy_tr k hk) ?_
        refine mx_ial mo_Sy_imageOf 1 (a := 13 + k) (i := nI h) rfl trivial rfl (sy_tk k hk) hv ?_
        rw [e]
        refine mx_go mo_Sy_imageOf 5 (pc' := 5) (ls' := [.ref 11, .int (nI k), .int p, .int (sy_im (M (13 + k)) p h ||| (1 <<< (M (13 + k) h &&& 31))), .int (nI h + 1)]) (st' := []) (M' := M) rfl trivial ?_
        rw [nI_1]; exact hI
  refine mx_bd (n0 := 3) hl (by decide +kernel) rfl rfl rfl ?_
  exact mx_go mo_Sy_imageOf 4 (pc' := 5) (ls' := [.ref 11, .int (nI k), .int p, .int 0, .int (nI 0)]) (st' := []) (M' := M) rfl trivial (loop n 0 (by omega) (by omega))
/-- the least among a position and its first k images -/
def sy_lo (M : mx_M) (p : Int32) (n : Nat) : Nat → Int32
  | 0 => p
  | k + 1 => if sy_im (M (13 + k)) p n < sy_lo M p n k then sy_im (M (13 + k)) p n else sy_lo M p n k
theorem ct_Sy_leastOf (hl : l.stackTraces = false) {s n : Nat} (hn : n ≤ 20) (hs : s ≤ 12) (hh : M 11 3 = nI n) (hss : M 11 4 = nI s) (p : Int32) : mx_Ct l (pg_L sc) mY_Sy_leastOf (d + 2) 0 [.ref 11, .int p] M (mx_rI (sy_lo M p n s) M) := by
  have loop : ∀ (m k : Nat), s - k = m → k ≤ s → mx_E l (pg_L sc) mY_Sy_leastOf (d + 2) 0 (mx_rI (sy_lo M p n s) M) 4 [.ref 11, .int p, .int (sy_lo M p n k), .int (nI k)] [] M := by
    intro m
    induction m with
    | zero =>
      intro k hm hle
      have e : k = s := by omega
      subst e
      refine mx_if mo_Sy_leastOf 3 (t := 29) (f := 12) rfl trivial (fun (q : M 11 4 ≤ nI k) => ?_) (fun (q : ¬ M 11 4 ≤ nI k) => ?_)
      · exact mx_ret_i mo_Sy_leastOf rfl 1 rfl trivial rfl ⟨rfl, rfl⟩
      · rw [hss] at q; exact absurd (nI_le (Nat.le_refl k) (by omega)) q
    | succ m ih =>
      intro k hm hle
      refine mx_if mo_Sy_leastOf 3 (t := 29) (f := 12) rfl trivial (fun (q : M 11 4 ≤ nI k) => ?_) (fun q => ?_)
      · rw [hss] at q; exact absurd q (nI_ge (by omega) (by omega))
      refine mx_cVi mo_Sy_leastOf 4 (As := [.int (nI k), .int p]) (rest := [.int (sy_lo M p n k)]) rfl (ct_Sy_imageOf hl hn (by omega) hh p) rfl trivial rfl rfl rfl kv_Sy_76 kd_Sy_imageOf rfl rfl rfl ?_
      refine mx_cSi mo_Sy_leastOf 0 (As := [.int (sy_lo M p n k), .int (sy_im (M (13 + k)) p n)]) rfl (ct_Ma_min hl _ _) rfl trivial rfl ks_Sy_79 kd_Ma_min rfl rfl rfl ?_
      refine mx_go mo_Sy_leastOf 3 (pc' := 4) (ls' := [.ref 11, .int p, .int (sy_lo M p n (k + 1)), .int (nI k + 1)]) (st' := []) (M' := M) rfl trivial ?_
      rw [nI_1]
      exact ih (k + 1) (by omega) (by omega)
  refine mx_bd (n0 := 2) hl (by decide +kernel) rfl rfl rfl ?_
  exact mx_go mo_Sy_leastOf 4 (pc' := 4) (ls' := [.ref 11, .int p, .int p, .int (nI 0)]) (st' := []) (M' := M) rfl trivial (loop s 0 (by omega) (by omega))
end SY
