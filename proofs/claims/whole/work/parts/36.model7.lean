/-! PegBoardsModel: find. -/
section MV
variable {l : Launch} {sc : Nat × (Nat → Int32)} {d : Nat} {M : mx_M}
def mo_mr (f : Nat → Int32) (s g : Int32) : Nat → Int32
  | 0 => 0
  | h + 1 => mo_mr f s g h + f h * (mo_bit g (nI h) - mo_bit s (nI h))
def mo_ft (f : Nat → Int32) (fr ov tt : Nat → Nat) (J H : Nat) (s g : Int32) : Int32 := if mo_hd f fr ov tt J = 0 then 0 else if mo_mr f s g H ≤ 0 then 0 else 1
theorem ct_Mo_fits (hl : l.stackTraces = false) {J H : Nat} {fr ov tt : Nat → Nat} (hj : mj_ok M J fr ov tt 8) (hH : H ≤ 8) (hh : M 41 3 = nI H) : mx_Ct l (pg_L sc) mY_Mo_fits (d + 1) 0 [.ref 41] M (mx_rI (mo_ft (M 53) fr ov tt J H (M 41 16) (M 41 17)) M) := by
  obtain ⟨hs, hn, hj⟩ := hj
  generalize hmr : mo_mr (M 53) (M 41 16) (M 41 17) H = mr
  have loop2 : ∀ (m k : Nat), J - k = m → k ≤ J → mx_E l (pg_L sc) mY_Mo_fits (d + 1) 0 (mx_rI (mo_ft (M 53) fr ov tt J H (M 41 16) (M 41 17)) M) 49 [.ref 41, .int mr, .int (mo_hd (M 53) fr ov tt k), .int (nI k)] [] M := by
    intro m
    induction m with
    | zero =>
      intro k hm hle
      have e : k = J := by omega
      subst e
      refine mx_if mo_Mo_fits 3 (t := 110) (f := 57) rfl trivial (fun _ => ?_) (fun (q : ¬ M 41 8 ≤ nI k) => ?_)
      · rw [mo_ft, hmr]
        refine mx_if mo_Mo_fits 1 (t := 122) (f := 114) rfl trivial (fun (q : mo_hd (M 53) fr ov tt k = 0) => ?_) (fun (q : ¬ mo_hd (M 53) fr ov tt k = 0) => ?_)
        · rw [if_pos q]
          exact mx_ret_z mo_Mo_fits rfl 1 rfl trivial rfl (Or.inl rfl) ⟨rfl, rfl⟩
        · rw [if_neg q]
          refine mx_if mo_Mo_fits 1 (t := 122) (f := 118) rfl trivial (fun (q : mr ≤ 0) => ?_) (fun (q : ¬ mr ≤ 0) => ?_)
          · rw [if_pos q]
            exact mx_ret_z mo_Mo_fits rfl 1 rfl trivial rfl (Or.inl rfl) ⟨rfl, rfl⟩
          · rw [if_neg q]
            exact mx_ret_z mo_Mo_fits rfl 2 rfl trivial rfl (Or.inr rfl) ⟨rfl, rfl⟩
      · rw [hs] at q; exact absurd (nI_le (Nat.le_refl k) (by omega)) q
    | succ m ih =>
      intro k hm hle
      obtain ⟨j1, j2, j3, j4, j5, j6⟩ := hj k (by omega)
      have ek : (nI k).toNatClampNeg = k := nI_clamp (by omega)
      have hv : vp_in (nI k) 120 := vp_in_nI (by omega) (by decide)
      refine mx_if mo_Mo_fits 3 (t := 110) (f := 57) rfl trivial (fun (q : M 41 8 ≤ nI k) => ?_) (fun _ => ?_)
      · rw [hs] at q; exact absurd q (nI_ge (by omega) (by omega))
      have next : ∀ v : Int32, v = mo_hd (M 53) fr ov tt (k + 1) → mx_E l (pg_L sc) mY_Mo_fits (d + 1) 0 (mx_rI (mo_ft (M 53) fr ov tt J H (M 41 16) (M 41 17)) M) 103 [.ref 41, .int mr, .int (mo_hd (M 53) fr ov tt k), .int (nI k)] [.int v] M := by
        intro v hv
        refine mx_go mo_Mo_fits 3 (pc' := 49) (ls' := [.ref 41, .int mr, .int v, .int (nI k + 1)]) (st' := []) (M' := M) rfl trivial ?_
        rw [hv, nI_1]
        exact ih (k + 1) (by omega) (by omega)
      rw [mo_hd] at next
      have bad : (0 : Int32) = (if mo_hd (M 53) fr ov tt k = 0 then 0 else if M 53 (tt k) ≤ M 53 (fr k) + M 53 (ov k) then 1 else 0) → mx_E l (pg_L sc) mY_Mo_fits (d + 1) 0 (mx_rI (mo_ft (M 53) fr ov tt J H (M 41 16) (M 41 17)) M) 102 [.ref 41, .int mr, .int (mo_hd (M 53) fr ov tt k), .int (nI k)] [] M := fun h =>
        mx_go mo_Mo_fits 1 (pc' := 103) (ls' := [.ref 41, .int mr, .int (mo_hd (M 53) fr ov tt k), .int (nI k)]) (st' := [.int 0]) (M' := M) rfl trivial (next 0 h)
      refine mx_if mo_Mo_fits 1 (t := 102) (f := 61) rfl trivial (fun (q : mo_hd (M 53) fr ov tt k = 0) => bad (by rw [if_pos q])) (fun (q : ¬ mo_hd (M 53) fr ov tt k = 0) => ?_)
      rw [if_neg q] at next bad
      have e1 : M 48 (nI k).toNatClampNeg = nI (tt k) := by rw [ek, j3]
      have e2 : M 46 (nI k).toNatClampNeg = nI (fr k) := by rw [ek, j1]
      have e3 : M 47 (nI k).toNatClampNeg = nI (ov k) := by rw [ek, j2]
      have w1 : vp_in (M 48 (nI k).toNatClampNeg) 8 := by rw [e1]; exact vp_in_nI j6 (by decide)
      have w2 : vp_in (M 46 (nI k).toNatClampNeg) 8 := by rw [e2]; exact vp_in_nI j4 (by decide)
      have w3 : vp_in (M 47 (nI k).toNatClampNeg) 8 := by rw [e3]; exact vp_in_nI j5 (by decide)
      have c1 : (nI (tt k)).toNatClampNeg = tt k := nI_clamp (by omega)
      have c2 : (nI (fr k)).toNatClampNeg = fr k := nI_clamp (by omega)
      have c3 : (nI (ov k)).toNatClampNeg = ov k := nI_clamp (by omega)
      refine mx_if mo_Mo_fits 22 (t := 102) (f := 98) rfl ⟨hv, w1, hv, w2, hv, w3, trivial⟩ (fun (q1 : M 53 (M 46 (nI k).toNatClampNeg).toNatClampNeg + M 53 (M 47 (nI k).toNatClampNeg).toNatClampNeg < M 53 (M 48 (nI k).toNatClampNeg).toNatClampNeg) => ?_) (fun (q1 : ¬ M 53 (M 46 (nI k).toNatClampNeg).toNatClampNeg + M 53 (M 47 (nI k).toNatClampNeg).toNatClampNeg < M 53 (M 48 (nI k).toNatClampNeg).toNatClampNeg) => ?_)
      · rw [e1, e2, e3, c1, c2, c3] at q1
        exact bad (by rw [if_neg (Int32.not_le.mpr q1)])
      · rw [e1, e2, e3, c1, c2, c3] at q1
        exact mx_go mo_Mo_fits 2 (pc' := 103) (ls' := [.ref 41, .int mr, .int (mo_hd (M 53) fr ov tt k), .int (nI k)]) (st' := [.int 1]) (M' := M) rfl trivial (next 1 (by rw [if_pos (Int32.not_lt.mp q1)]))
  have loop1 : ∀ (m h : Nat), H - h = m → h ≤ H → mx_E l (pg_L sc) mY_Mo_fits (d + 1) 0 (mx_rI (mo_ft (M 53) fr ov tt J H (M 41 16) (M 41 17)) M) 6 [.ref 41, .int (mo_mr (M 53) (M 41 16) (M 41 17) h), .int 1, .int (nI h)] [] M := by
    intro m
    induction m with
    | zero =>
      intro h hm hle
      have e : h = H := by omega
      subst e
      refine mx_if mo_Mo_fits 3 (t := 47) (f := 14) rfl trivial (fun _ => ?_) (fun (q : ¬ M 41 3 ≤ nI h) => ?_)
      · rw [hmr]
        exact mx_go mo_Mo_fits 2 (pc' := 49) (ls' := [.ref 41, .int mr, .int 1, .int (nI 0)]) (st' := []) (M' := M) rfl trivial (loop2 J 0 (by omega) (by omega))
      · rw [hh] at q; exact absurd (nI_le (Nat.le_refl h) (by omega)) q
    | succ m ih =>
      intro h hm hle
      have e : (nI h).toNatClampNeg = h := nI_clamp (by omega)
      have hv : vp_in (nI h) 8 := vp_in_nI (by omega) (by decide)
      refine mx_if mo_Mo_fits 3 (t := 47) (f := 14) rfl trivial (fun (q : M 41 3 ≤ nI h) => ?_) (fun _ => ?_)
      · rw [hh] at q; exact absurd q (nI_ge (by omega) (by omega))
      generalize ha : mo_mr (M 53) (M 41 16) (M 41 17) h = a
      refine mx_go mo_Mo_fits 8 (pc' := 26) (ls' := [.ref 41, .int a, .int 1, .int (nI h)]) (st' := [.int (nI h), .int (M 41 17), .int (M 53 (nI h).toNatClampNeg), .int a]) (M' := M) rfl ⟨hv, trivial⟩ ?_
      rw [e]
      refine mx_cSi mo_Mo_fits 0 (As := [.int (M 41 17), .int (nI h)]) (rest := [.int (M 53 h), .int a]) rfl (ct_Mo_bit hl _ _) rfl trivial rfl ks_Mo_120 kd_Mo_bit rfl rfl rfl ?_
      refine mx_cSi mo_Mo_fits 3 (As := [.int (M 41 16), .int (nI h)]) (rest := [.int (mo_bit (M 41 17) (nI h)), .int (M 53 h), .int a]) rfl (ct_Mo_bit hl _ _) rfl trivial rfl ks_Mo_120 kd_Mo_bit rfl rfl rfl ?_
      refine mx_go mo_Mo_fits 6 (pc' := 6) (ls' := [.ref 41, .int (a + M 53 h * (mo_bit (M 41 17) (nI h) - mo_bit (M 41 16) (nI h))), .int 1, .int (nI h + 1)]) (st' := []) (M' := M) rfl trivial ?_
      rw [nI_1, ← ha]
      exact ih (h + 1) (by omega) (by omega)
  refine mx_bd (n0 := 1) hl (by decide +kernel) rfl rfl rfl ?_
  exact mx_go mo_Mo_fits 6 (pc' := 6) (ls' := [.ref 41, .int 0, .int 1, .int (nI 0)]) (st' := []) (M' := M) rfl trivial (loop1 H 0 (by omega) (by omega))
/-- a trial of weights: the digits of x to base 3 -/
def mo_fl : Nat → Nat → mx_M → mx_M
  | 0, _, M => M
  | h + 1, x, M => mo_fl h (x / 3) (mx_up M 53 h (nI (x % 3)))
def mo_cp (A : mx_M) (H : Nat) : mx_M := mx_row A 52 (fun j => if j < H then A 53 j else A 52 j)
def mo_fd (fr ov tt : Nat → Nat) (J H : Nat) (s g : Int32) : Nat → Nat → mx_M → Int32 × mx_M
  | 0, _, M => (0, M)
  | m + 1, v, M => if mo_ft (mo_fl H v M 53) fr ov tt J H s g = 0 then mo_fd fr ov tt J H s g m (v + 1) (mo_fl H v M) else (1, mo_cp (mo_fl H v M) H)
theorem mo_fl_off {c : Nat} (hc : c ≠ 53) : ∀ (h x : Nat) (M : mx_M), mo_fl h x M c = M c := by
  intro h
  induction h with
  | zero => intro x M; rfl
  | succ h ih => intro x M; rw [mo_fl, ih, mx_up_off hc]
theorem mj_ok_off {A : mx_M} {n : Nat} {fr ov tt : Nat → Nat} {H : Nat} (hj : mj_ok M n fr ov tt H) (h5 : A 41 8 = M 41 8) (h6 : A 46 = M 46) (h7 : A 47 = M 47) (h8 : A 48 = M 48) : mj_ok A n fr ov tt H := by
  unfold mj_ok at hj ⊢
  rw [h5, h6, h7, h8]
  exact hj
def mo_find (M : mx_M) (fr ov tt : Nat → Nat) (J H : Nat) : Int32 × mx_M := if ¬ M 41 2 = 0 ∧ H ≤ 8 then mo_fd fr ov tt J H (M 41 16) (M 41 17) (3 ^ H) 0 (mx_up M 41 0 0) else (0, mx_up M 41 0 1)
theorem ct_Mo_find (hl : l.stackTraces = false) {J H : Nat} {fr ov tt : Nat → Nat} (hH : H ≤ 20) (hh : M 41 3 = nI H) (hj : H ≤ 8 → mj_ok M J fr ov tt 8) : mx_Ct l (pg_L sc) mY_Mo_find (d + 2) 0 [.ref 41] M (mx_rI (mo_find M fr ov tt J H).1 (mo_find M fr ov tt J H).2) := by
  refine mx_bd (n0 := 1) hl (by decide +kernel) rfl rfl rfl ?_
  rw [mo_find]
  have bad : ¬ (¬ M 41 2 = 0 ∧ H ≤ 8) → mx_E l (pg_L sc) mY_Mo_find (d + 2) 0 (mx_rI (if ¬ M 41 2 = 0 ∧ H ≤ 8 then mo_fd fr ov tt J H (M 41 16) (M 41 17) (3 ^ H) 0 (mx_up M 41 0 0) else (0, mx_up M 41 0 1)).1 (if ¬ M 41 2 = 0 ∧ H ≤ 8 then mo_fd fr ov tt J H (M 41 16) (M 41 17) (3 ^ H) 0 (mx_up M 41 0 0) else (0, mx_up M 41 0 1)).2) 17 [.ref 41, .null, .null, .null, .null] [.ref 41] M := by
    intro c
    rw [if_neg c]
    refine mx_if mo_Mo_find 5 (t := 34) (f := 32) rfl trivial (fun (q : (1 : Int32) ≤ 0) => absurd q (by decide)) (fun _ => ?_)
    exact mx_ret_z mo_Mo_find rfl 1 rfl trivial rfl (Or.inl rfl) ⟨rfl, rfl⟩
  refine mx_if mo_Mo_find 3 (t := 17) (f := 8) rfl trivial (fun (q : M 41 2 = 0) => bad (fun c => c.1 q)) (fun (q1 : ¬ M 41 2 = 0) => ?_)
  refine mx_if mo_Mo_find 3 (t := 21) (f := 17) rfl trivial (fun (q2 : M 41 3 ≤ nI 8) => ?_) (fun (q2 : ¬ M 41 3 ≤ nI 8) => bad (fun c => q2 (by rw [hh]; exact nI_le c.2 (by decide))))
  rw [hh, nI_leI (by omega) (by decide)] at q2
  rw [if_pos ⟨q1, q2⟩]
  have hj := hj q2
  refine mx_if mo_Mo_find 4 (t := 34) (f := 32) rfl trivial (fun _ => ?_) (fun (q : ¬ (0 : Int32) ≤ 0) => absurd (by decide) q)
  generalize hA0 : mx_up M 41 0 0 = A0
  have a3 : A0 41 3 = nI H := by rw [← hA0]; exact hh
  have aj : mj_ok A0 J fr ov tt 8 := by rw [← hA0]; exact mj_ok_off hj rfl rfl rfl rfl
  have a16 : A0 41 16 = M 41 16 := by rw [← hA0]; rfl
  have a17 : A0 41 17 = M 41 17 := by rw [← hA0]; rfl
  generalize M 41 16 = sb at a16 ⊢
  generalize M 41 17 = ge at a17 ⊢
  generalize hR : mo_fd fr ov tt J H sb ge (3 ^ H) 0 A0 = R
  have h3 : 3 ^ H ≤ 6561 := Nat.le_trans (Nat.pow_le_pow_right (by decide) q2) (by decide)
  have digits : ∀ (h x v : Nat) (B : mx_M) (k : Value → Prop), True → h ≤ H → x < 2 ^ 31 → (∀ y z : Value, mx_E l (pg_L sc) mY_Mo_find (d + 2) 0 (mx_rI R.1 R.2) 98 [.ref 41, .int (nI (3 ^ H)), .int (nI v), y, z] [] (mo_fl h x B)) →
      ∀ z : Int32, z + 1 = nI h → mx_E l (pg_L sc) mY_Mo_find (d + 2) 0 (mx_rI R.1 R.2) 73 [.ref 41, .int (nI (3 ^ H)), .int (nI v), .int (nI x), .int z] [] B := by
    intro h
    induction h with
    | zero =>
      intro x v B _ _ hh0 hx nx z hz
      have ez : z = -1 := by
        have : z = z + 1 - 1 := by rw [Int32.add_sub_cancel]
        rw [this, hz]; rfl
      subst ez
      exact mx_if mo_Mo_find 1 (t := 98) (f := 78) rfl trivial (fun _ => nx _ _) (fun (q : ¬ (-1 : Int32) < 0) => absurd (by decide) q)
    | succ h ih =>
      intro x v B kk _ hh0 hx nx z hz
      have ez : z = nI h := by
        have : z = z + 1 - 1 := by rw [Int32.add_sub_cancel]
        rw [this, hz, nI_pred]
      subst ez
      have e : (nI h).toNatClampNeg = h := nI_clamp (by omega)
      refine mx_if mo_Mo_find 1 (t := 98) (f := 78) rfl trivial (fun (q : nI h < 0) => absurd q (nI_pos (by omega))) (fun _ => ?_)
      refine mx_go mo_Mo_find 13 (pc' := 73) (ls' := [.ref 41, .int (nI (3 ^ H)), .int (nI v), .int (nI x / nI 3), .int (nI h + (-1))]) (st' := []) (M' := mx_up B 53 (nI h).toNatClampNeg (nI x - nI x / nI 3 * nI 3)) rfl ⟨by decide, vp_in_nI (N := 8) (by omega) (by decide), by decide, trivial⟩ ?_
      rw [e, pk_rem (by omega) (by decide) (by decide), pk_div (by omega) (by decide) (by decide)]
      exact ih (x / 3) v _ kk trivial (by omega) (Nat.lt_of_le_of_lt (Nat.div_le_self x 3) hx) nx _ (by rw [Int32.add_assoc, show (-1 : Int32) + 1 = 0 by decide, Int32.add_zero])
  have copy : ∀ (m h : Nat) (A : mx_M) (x y : Value), H - h = m → h ≤ H → A 41 3 = nI H → R = (1, mo_cp A H) → mx_E l (pg_L sc) mY_Mo_find (d + 2) 0 (mx_rI R.1 R.2) 108 [.ref 41, .int (nI (3 ^ H)), x, y, .int (nI h)] [] (mo_cp A h) := by
    intro m
    induction m with
    | zero =>
      intro h A x y hm hle ha he
      have e : h = H := by omega
      subst e
      refine mx_if mo_Mo_find 3 (t := 137) (f := 117) rfl trivial (fun _ => ?_) (fun (q : ¬ A 41 3 ≤ nI h) => ?_)
      · rw [he]
        exact mx_ret_z mo_Mo_find rfl 1 rfl trivial rfl (Or.inr rfl) ⟨rfl, rfl⟩
      · rw [ha] at q; exact absurd (nI_le (Nat.le_refl h) (by omega)) q
    | succ m ihm =>
      intro h A x y hm hle ha he
      have e : (nI h).toNatClampNeg = h := nI_clamp (by omega)
      refine mx_if mo_Mo_find 3 (t := 137) (f := 117) rfl trivial (fun (q : A 41 3 ≤ nI h) => ?_) (fun _ => ?_)
      · rw [ha] at q; exact absurd q (nI_ge (by omega) (by omega))
      refine mx_go mo_Mo_find 10 (pc' := 108) (ls' := [.ref 41, .int (nI (3 ^ H)), x, y, .int (nI h + 1)]) (st' := []) (M' := mx_up (mo_cp A h) 52 (nI h).toNatClampNeg (A 53 (nI h).toNatClampNeg)) rfl ⟨vp_in_nI (N := 8) (by omega) (by decide), vp_in_nI (N := 20) (by omega) (by decide), trivial⟩ ?_
      rw [e, nI_1, show mx_up (mo_cp A h) 52 h (A 53 h) = mo_cp A (h + 1) from ?_]
      · exact ihm (h + 1) A x y (by omega) (by omega) ha he
      · funext a j
        by_cases h52 : a = 52
        · subst h52
          by_cases hjh : j = h
          · subst hjh; simp [mo_cp, mx_up, mx_row]
          · by_cases hlt : j < h
            · simp [mo_cp, mx_up, mx_row, hjh, hlt, Nat.lt_succ_of_lt hlt]
            · simp [mo_cp, mx_up, mx_row, hjh, hlt, show ¬ j < h + 1 by omega]
        · simp [mo_cp, mx_up, mx_row, h52]
  have main : ∀ (m v : Nat) (A : mx_M) (x y : Value), 3 ^ H - v = m → v ≤ 3 ^ H → A 41 = A0 41 → mj_ok A J fr ov tt 8 → mo_fd fr ov tt J H sb ge m v A = R → mx_E l (pg_L sc) mY_Mo_find (d + 2) 0 (mx_rI R.1 R.2) 58 [.ref 41, .int (nI (3 ^ H)), .int (nI v), x, y] [] A := by
    intro m
    induction m with
    | zero =>
      intro v A x y hm hle hA hjA he
      have e : v = 3 ^ H := by omega
      refine mx_if mo_Mo_find 2 (t := 145) (f := 63) rfl trivial (fun _ => ?_) (fun (q : ¬ nI (3 ^ H) ≤ nI v) => ?_)
      · rw [← he]
        exact mx_ret_z mo_Mo_find rfl 1 rfl trivial rfl (Or.inl rfl) ⟨rfl, rfl⟩
      · rw [e] at q; exact absurd (nI_le (Nat.le_refl _) (by omega)) q
    | succ m ihm =>
      intro v A x y hm hle hA hjA he
      refine mx_if mo_Mo_find 2 (t := 145) (f := 63) rfl trivial (fun (q : nI (3 ^ H) ≤ nI v) => absurd q (nI_ge (by omega) (by omega))) (fun _ => ?_)
      refine mx_go mo_Mo_find 7 (pc' := 73) (ls' := [.ref 41, .int (nI (3 ^ H)), .int (nI v), .int (nI v), .int (A 41 3 - 1)]) (st' := []) (M' := A) rfl trivial ?_
      rw [hA, a3]
      refine digits H v v A (fun _ => True) trivial (Nat.le_refl H) (by omega) (fun y z => ?_) _ (Int32.sub_add_cancel _ _)
      rw [mo_fd] at he
      have hB : mo_fl H v A 41 = A0 41 := by rw [mo_fl_off (by decide), hA]
      have hjB : mj_ok (mo_fl H v A) J fr ov tt 8 := mj_ok_off hjA (by rw [mo_fl_off (by decide)]) (mo_fl_off (by decide) _ _ _) (mo_fl_off (by decide) _ _ _) (mo_fl_off (by decide) _ _ _)
      generalize mo_fl H v A = B at hB hjB he ⊢
      have hf := ct_Mo_fits (l := l) (sc := sc) (d := d) (M := B) hl hjB q2 (by rw [hB]; exact a3)
      rw [hB, a16, a17] at hf
      refine mx_cVi mo_Mo_find 1 (As := []) (rest := []) rfl hf rfl trivial rfl rfl rfl kv_Mo_171 kd_Mo_fits rfl rfl rfl ?_
      refine mx_if mo_Mo_find 0 (t := 139) (f := 105) rfl trivial (fun q => ?_) (fun q => ?_)
      · rw [if_pos q] at he
        refine mx_go mo_Mo_find 2 (pc' := 58) (ls' := [.ref 41, .int (nI (3 ^ H)), .int (nI v + 1), y, z]) (st' := []) (M' := B) rfl trivial ?_
        rw [nI_1]
        exact ihm (v + 1) B _ _ (by omega) (by omega) hB hjB he
      · rw [if_neg q] at he
        refine mx_go mo_Mo_find 2 (pc' := 108) (ls' := [.ref 41, .int (nI (3 ^ H)), .int (nI v), y, .int (nI 0)]) (st' := []) (M' := B) rfl trivial ?_
        have := copy H 0 B (.int (nI v)) y (by omega) (by omega) (by rw [hB]; exact a3) he.symm
        rw [show mo_cp B 0 = B from by funext a j; by_cases h52 : a = 52 <;> simp [mo_cp, mx_row, h52]] at this
        exact this
  have many : ∀ (m h : Nat), H - h = m → h ≤ H → mx_E l (pg_L sc) mY_Mo_find (d + 2) 0 (mx_rI R.1 R.2) 38 [.ref 41, .int (nI (3 ^ h)), .int (nI h), .null, .null] [] A0 := by
    intro m
    induction m with
    | zero =>
      intro h hm hle
      have e : h = H := by omega
      subst e
      refine mx_if mo_Mo_find 3 (t := 56) (f := 46) rfl trivial (fun _ => ?_) (fun (q : ¬ A0 41 3 ≤ nI h) => ?_)
      · exact mx_go mo_Mo_find 2 (pc' := 58) (ls' := [.ref 41, .int (nI (3 ^ h)), .int (nI 0), .null, .null]) (st' := []) (M' := A0) rfl trivial (main (3 ^ h) 0 A0 _ _ (Nat.sub_zero _) (Nat.zero_le _) rfl aj hR)
      · rw [a3] at q; exact absurd (nI_le (Nat.le_refl h) (by omega)) q
    | succ m ihm =>
      intro h hm hle
      refine mx_if mo_Mo_find 3 (t := 56) (f := 46) rfl trivial (fun (q : A0 41 3 ≤ nI h) => ?_) (fun _ => ?_)
      · rw [a3] at q; exact absurd q (nI_ge (by omega) (by omega))
      refine mx_go mo_Mo_find 6 (pc' := 38) (ls' := [.ref 41, .int (nI 3 * nI (3 ^ h)), .int (nI h + 1), .null, .null]) (st' := []) (M' := A0) rfl trivial ?_
      rw [pk_mul, nI_1, show 3 * 3 ^ h = 3 ^ (h + 1) by rw [Nat.pow_succ, Nat.mul_comm]]
      exact ihm (h + 1) (by omega) (by omega)
  exact mx_go mo_Mo_find 4 (pc' := 38) (ls' := [.ref 41, .int (nI (3 ^ 0)), .int (nI 0), .null, .null]) (st' := []) (M' := A0) (by rw [← hA0]; rfl) trivial (many H 0 (by omega) (by omega))
end MV
