/-! PegBoards$Weights: the search. -/
section WS
variable {l : Launch} {sc : Nat × (Nat → Int32)} {d : Nat} {M : mx_M}
def we_w (rec : Int32 → mx_M → Int32 × mx_M) (T : (Nat → Int32) → Int32) (h : Nat) (ld gn : Int32) : Nat → Nat → mx_M → Int32 × mx_M
  | 0, _, M => (0, M)
  | m + 1, w, M => if T (mx_up M 40 h (nI w) 40) = 0 then we_w rec T h ld gn m (w + 1) (mx_up M 40 h (nI w)) else
    if (rec (ld + nI w * gn) (mx_up M 40 h (nI w))).1 = 0 then we_w rec T h ld gn m (w + 1) (rec (ld + nI w * gn) (mx_up M 40 h (nI w))).2 else (1, (rec (ld + nI w * gn) (mx_up M 40 h (nI w))).2)
/-- Weights.tryFrom: J jumps, H holes -/
def we_tf (fr ov tt : Nat → Nat) (J H : Nat) (s g : Int32) : Nat → Nat → Int32 → mx_M → Int32 × mx_M
  | 0, _, _, M => (0, M)
  | k + 1, h, ld, M => if 0 < ld + 2 * pq_bc ((g &&& (s ^^^ (-1))) >>> (nI h &&& 31)) then (if H ≤ h then (1, M) else
    we_w (we_tf fr ov tt J H s g k (h + 1)) (fun f => we_try f fr ov tt h J 0) h ld (pg_has g (nI h) - pg_has s (nI h)) 3 0 M) else (0, M)
theorem we_w_off {rec : Int32 → mx_M → Int32 × mx_M} {T : (Nat → Int32) → Int32} {h : Nat} {ld gn : Int32} {c : Nat} (hc : c ≠ 40) (hr : ∀ x A, (rec x A).2 c = A c) : ∀ (m w : Nat) (M : mx_M), (we_w rec T h ld gn m w M).2 c = M c := by
  intro m
  induction m with
  | zero => intro w M; rfl
  | succ m ih =>
    intro w M
    rw [we_w]
    split
    · rw [ih, mx_up_off hc]
    · split
      · rw [ih, hr, mx_up_off hc]
      · show (rec _ _).2 c = _
        rw [hr, mx_up_off hc]
theorem we_tf_off {fr ov tt : Nat → Nat} {J H : Nat} {s g : Int32} {c : Nat} (hc : c ≠ 40) : ∀ (k h : Nat) (ld : Int32) (M : mx_M), (we_tf fr ov tt J H s g k h ld M).2 c = M c := by
  intro k
  induction k with
  | zero => intro h ld M; rfl
  | succ k ih =>
    intro h ld M
    rw [we_tf]
    split
    · split
      · rfl
      · exact we_w_off hc (fun x A => ih (h + 1) x A) 3 0 M
    · rfl
theorem we_has01 (p h : Int32) : pg_has p h = 0 ∨ pg_has p h = 1 := by
  unfold pg_has
  split
  · exact Or.inr rfl
  · exact Or.inl rfl
theorem ju_ok_off {A : mx_M} {n : Nat} {fr ov tt : Nat → Nat} {H : Nat} (hj : ju_ok M n fr ov tt H) (h5 : A 5 = M 5) (h6 : A 6 = M 6) (h7 : A 7 = M 7) (h8 : A 8 = M 8) : ju_ok A n fr ov tt H := by
  unfold ju_ok at hj ⊢
  rw [h5, h6, h7, h8]
  exact hj
theorem ct_We_tryFrom (hl : l.stackTraces = false) {J H : Nat} {fr ov tt : Nat → Nat} (hH : H ≤ 8) (s g : Int32) : ∀ (k h : Nat) (ld : Int32) (M : mx_M), H ≤ h + k → h ≤ H → ju_ok M J fr ov tt 8 → mx_Ct l (pg_L sc) mY_We_tryFrom (d + k + 2) 0 [.ref 38, .int (nI h), .int ld, .ref 5, .int (nI H), .int s, .int g] M (mx_rI (we_tf fr ov tt J H s g (k + 1) h ld M).1 (we_tf fr ov tt J H s g (k + 1) h ld M).2) := by
  intro k
  induction k with
  | zero =>
    intro h ld M hk hle hj
    have e : h = H := by omega
    subst e
    refine mx_bd (n0 := 7) hl (by decide +kernel) rfl rfl rfl ?_
    rw [we_tf]
    generalize hx : (g &&& (s ^^^ (-1))) >>> (nI h &&& 31) = x
    refine mx_go mo_We_tryFrom 8 (pc' := 11) (ls' := [.ref 38, .int (nI h), .int ld, .ref 5, .int (nI h), .int s, .int g, .int x, .null, .null]) (st' := []) (M' := M) (by rw [← hx]; rfl) trivial ?_
    refine mx_cSi mo_We_tryFrom 3 (As := [.int x]) (rest := [.int 2, .int ld]) rfl (ct_In_bitCount hl _) rfl trivial rfl ks_We_54 kd_In_bitCount rfl rfl rfl ?_
    refine mx_if mo_We_tryFrom 2 (t := 25) (f := 23) rfl trivial (fun (q : 0 < ld + 2 * pq_bc x) => ?_) (fun (q : ¬ 0 < ld + 2 * pq_bc x) => ?_)
    · rw [if_pos q, if_pos (Nat.le_refl h)]
      refine mx_if mo_We_tryFrom 2 (t := 37) (f := 31) rfl trivial (fun _ => ?_) (fun q => absurd (nI_le (Nat.le_refl h) (by omega)) q)
      exact mx_ret_z mo_We_tryFrom rfl 1 rfl trivial rfl (Or.inr rfl) ⟨rfl, rfl⟩
    · rw [if_neg q]
      exact mx_ret_z mo_We_tryFrom rfl 1 rfl trivial rfl (Or.inl rfl) ⟨rfl, rfl⟩
  | succ k ih =>
    intro h ld M hk hle hj
    refine mx_bd (n0 := 7) hl (by decide +kernel) rfl rfl rfl ?_
    rw [we_tf]
    generalize hx : (g &&& (s ^^^ (-1))) >>> (nI h &&& 31) = x
    refine mx_go mo_We_tryFrom 8 (pc' := 11) (ls' := [.ref 38, .int (nI h), .int ld, .ref 5, .int (nI H), .int s, .int g, .int x, .null, .null]) (st' := []) (M' := M) (by rw [← hx]; rfl) trivial ?_
    refine mx_cSi mo_We_tryFrom 3 (As := [.int x]) (rest := [.int 2, .int ld]) rfl (ct_In_bitCount hl _) rfl trivial rfl ks_We_54 kd_In_bitCount rfl rfl rfl ?_
    refine mx_if mo_We_tryFrom 2 (t := 25) (f := 23) rfl trivial (fun (q : 0 < ld + 2 * pq_bc x) => ?_) (fun (q : ¬ 0 < ld + 2 * pq_bc x) => ?_)
    · rw [if_pos q]
      by_cases hc : H ≤ h
      · rw [if_pos hc]
        refine mx_if mo_We_tryFrom 2 (t := 37) (f := 31) rfl trivial (fun _ => ?_) (fun q => absurd (nI_le hc (by omega)) q)
        exact mx_ret_z mo_We_tryFrom rfl 1 rfl trivial rfl (Or.inr rfl) ⟨rfl, rfl⟩
      rw [if_neg hc]
      refine mx_if mo_We_tryFrom 2 (t := 37) (f := 31) rfl trivial (fun q => absurd q (nI_ge (by omega) (by omega))) (fun _ => ?_)
      refine mx_if mo_We_tryFrom 2 (t := 39) (f := 37) rfl trivial (fun _ => ?_) (fun (q : ¬ nI h < nI 8) => absurd (Int32.not_le.mp (nI_ge (by omega) (by decide))) q)
      have hv : vp_in (nI h) 8 := vp_in_nI (by omega) (by decide)
      have ev : (nI h).toNatClampNeg = h := nI_clamp (by omega)
      generalize hres : we_w (we_tf fr ov tt J H s g (k + 1) (h + 1)) (fun f => we_try f fr ov tt h J 0) h ld (pg_has g (nI h) - pg_has s (nI h)) 3 0 M = res
      generalize hgn : pg_has g (nI h) - pg_has s (nI h) = gn at hres
      have loop : ∀ (m w : Nat) (M1 : mx_M), 3 - w = m → w ≤ 3 → ju_ok M1 J fr ov tt 8 → we_w (we_tf fr ov tt J H s g (k + 1) (h + 1)) (fun f => we_try f fr ov tt h J 0) h ld gn m w M1 = res →
          mx_E l (pg_L sc) mY_We_tryFrom (d + (k + 1) + 2) 0 (mx_rI res.1 res.2) 73 [.ref 38, .int (nI h), .int ld, .ref 5, .int (nI H), .int s, .int g, .int x, .int gn, .int (nI w)] [] M1 := by
        intro m
        induction m with
        | zero =>
          intro w M1 hm hw hj1 he
          have e : w = 3 := by omega
          subst e
          refine mx_if mo_We_tryFrom 2 (t := 128) (f := 79) rfl trivial (fun _ => ?_) (fun (q : ¬ (2 : Int32) < nI 3) => absurd (by decide) q)
          rw [← he]
          exact mx_ret_z mo_We_tryFrom rfl 1 rfl trivial rfl (Or.inl rfl) ⟨rfl, rfl⟩
        | succ m ihm =>
          intro w M1 hm hw hj1 he
          refine mx_if mo_We_tryFrom 2 (t := 128) (f := 79) rfl trivial (fun (q : nI 2 < nI w) => absurd (nI_le (by omega) (by decide)) (Int32.not_le.mpr q)) (fun _ => ?_)
          refine mx_go mo_We_tryFrom 8 (pc' := 90) (ls' := [.ref 38, .int (nI h), .int ld, .ref 5, .int (nI H), .int s, .int g, .int x, .int gn, .int (nI w)]) (st' := [.ref 5, .int (nI h), .ref 38]) (M' := mx_up M1 40 (nI h).toNatClampNeg (nI w)) rfl ⟨hv, trivial⟩ ?_
          rw [ev]
          have hj2 : ju_ok (mx_up M1 40 h (nI w)) J fr ov tt 8 := ju_ok_off hj1 (by rw [mx_up_off (by decide)]) (by rw [mx_up_off (by decide)]) (by rw [mx_up_off (by decide)]) (by rw [mx_up_off (by decide)])
          have next : ∀ A : mx_M, ju_ok A J fr ov tt 8 → we_w (we_tf fr ov tt J H s g (k + 1) (h + 1)) (fun f => we_try f fr ov tt h J 0) h ld gn m (w + 1) A = res → mx_E l (pg_L sc) mY_We_tryFrom (d + (k + 1) + 2) 0 (mx_rI res.1 res.2) 122 [.ref 38, .int (nI h), .int ld, .ref 5, .int (nI H), .int s, .int g, .int x, .int gn, .int (nI w)] [] A := by
            intro A hA heA
            refine mx_go mo_We_tryFrom 2 (pc' := 73) (ls' := [.ref 38, .int (nI h), .int ld, .ref 5, .int (nI H), .int s, .int g, .int x, .int gn, .int (nI w + 1)]) (st' := []) (M' := A) rfl trivial ?_
            rw [nI_1]
            exact ihm (w + 1) A (by omega) (by omega) hA heA
          rw [we_w] at he
          generalize mx_up M1 40 h (nI w) = A at hj2 he ⊢
          refine mx_cVi mo_We_tryFrom 0 (As := [.int (nI h), .ref 5]) (rest := []) rfl (ct_We_triedHold (d := d + k + 1) hl (by omega) hj2) rfl trivial rfl rfl rfl kv_We_59 kd_We_triedHold rfl rfl rfl ?_
          refine mx_if mo_We_tryFrom 0 (t := 122) (f := 96) rfl trivial (fun q => ?_) (fun q => ?_)
          · rw [if_pos q] at he
            exact next A hj2 he
          rw [if_neg q] at he
          refine mx_go mo_We_tryFrom 13 (pc' := 114) (ls' := [.ref 38, .int (nI h), .int ld, .ref 5, .int (nI H), .int s, .int g, .int x, .int gn, .int (nI w)]) (st' := [.int g, .int s, .int (nI H), .ref 5, .int (ld + nI w * gn), .int (nI h + 1), .ref 38]) (M' := A) rfl trivial ?_
          rw [nI_1]
          refine mx_cVi mo_We_tryFrom 0 (As := [.int (nI (h + 1)), .int (ld + nI w * gn), .ref 5, .int (nI H), .int s, .int g]) (rest := []) rfl (ih (h + 1) (ld + nI w * gn) A (by omega) (by omega) hj2) rfl trivial rfl rfl rfl kv_We_44 kd_We_tryFrom rfl rfl rfl ?_
          have hj3 : ju_ok (we_tf fr ov tt J H s g (k + 1) (h + 1) (ld + nI w * gn) A).2 J fr ov tt 8 := ju_ok_off hj2 (we_tf_off (by decide) _ _ _ _) (we_tf_off (by decide) _ _ _ _) (we_tf_off (by decide) _ _ _ _) (we_tf_off (by decide) _ _ _ _)
          generalize we_tf fr ov tt J H s g (k + 1) (h + 1) (ld + nI w * gn) A = r at hj3 he ⊢
          refine mx_if mo_We_tryFrom 0 (t := 122) (f := 120) rfl trivial (fun q1 => ?_) (fun q1 => ?_)
          · rw [if_pos q1] at he
            exact next _ hj3 he
          · rw [if_neg q1] at he
            rw [← he]
            exact mx_ret_z mo_We_tryFrom rfl 1 rfl trivial rfl (Or.inr rfl) ⟨rfl, rfl⟩
      refine mx_cNi mo_We_tryFrom 2 (As := [.int g, .int (nI h)]) (rest := []) rfl (ct_Pe_contains hl _ _) rfl trivial rfl kn_We_24 kd_Pe_contains rfl rfl rfl ?_
      have mid : ∀ a : Int32, a = pg_has g (nI h) → mx_E l (pg_L sc) mY_We_tryFrom (d + (k + 1) + 2) 0 (mx_rI res.1 res.2) 53 [.ref 38, .int (nI h), .int ld, .ref 5, .int (nI H), .int s, .int g, .int x, .null, .null] [.int a] M := by
        intro a ha
        refine mx_cNi mo_We_tryFrom 2 (As := [.int s, .int (nI h)]) (rest := [.int a]) rfl (ct_Pe_contains hl _ _) rfl trivial rfl kn_We_24 kd_Pe_contains rfl rfl rfl ?_
        refine mx_if mo_We_tryFrom 0 (t := 66) (f := 62) rfl trivial (fun q => ?_) (fun q => ?_)
        · refine mx_go mo_We_tryFrom 5 (pc' := 73) (ls' := [.ref 38, .int (nI h), .int ld, .ref 5, .int (nI H), .int s, .int g, .int x, .int (a - 0), .int (nI 0)]) (st' := []) (M' := M) rfl trivial ?_
          rw [ha, show (0 : Int32) = pg_has s (nI h) from q.symm, hgn]
          exact loop 3 0 M (by omega) (by omega) hj hres
        · refine mx_go mo_We_tryFrom 6 (pc' := 73) (ls' := [.ref 38, .int (nI h), .int ld, .ref 5, .int (nI H), .int s, .int g, .int x, .int (a - 1), .int (nI 0)]) (st' := []) (M' := M) rfl trivial ?_
          rw [ha, show (1 : Int32) = pg_has s (nI h) from ((we_has01 s (nI h)).resolve_left q).symm, hgn]
          exact loop 3 0 M (by omega) (by omega) hj hres
      refine mx_if mo_We_tryFrom 0 (t := 52) (f := 48) rfl trivial (fun q => ?_) (fun q => ?_)
      · exact mx_go mo_We_tryFrom 1 (pc' := 53) (ls' := [.ref 38, .int (nI h), .int ld, .ref 5, .int (nI H), .int s, .int g, .int x, .null, .null]) (st' := [.int 0]) (M' := M) rfl trivial (mid 0 q.symm)
      · exact mx_go mo_We_tryFrom 2 (pc' := 53) (ls' := [.ref 38, .int (nI h), .int ld, .ref 5, .int (nI H), .int s, .int g, .int x, .null, .null]) (st' := [.int 1]) (M' := M) rfl trivial (mid 1 ((we_has01 g (nI h)).resolve_left q).symm)
    · rw [if_neg q]
      exact mx_ret_z mo_We_tryFrom rfl 1 rfl trivial rfl (Or.inl rfl) ⟨rfl, rfl⟩
theorem wc_We_48 : Cond.methodLink "PegBoards$Weights" 48 arraycopyName ∈ mx_WS ∧ Cond.native arraycopyName ∈ mx_WS ∧ Cond.static arraycopyName ∈ mx_WS ∧ Cond.initialized "java/lang/System" ∈ mx_WS := by decide +kernel
/-- Weights.search -/
def we_sr (r : Int32 × mx_M) (H : Nat) : mx_M := if r.1 = 0 then r.2 else mx_row r.2 39 (va_cpy (r.2 40) (r.2 39) 0 0 H)
theorem ct_We_search (hl : l.stackTraces = false) {J H : Nat} {fr ov tt : Nat → Nat} (hH : H ≤ 8) (s g : Int32) (hj : ju_ok M J fr ov tt 8) : mx_Ct l (pg_L sc) mY_We_search (d + 11) 0 [.ref 38, .ref 5, .int (nI H), .int s, .int g] M (mx_rI (if (we_tf fr ov tt J H s g 9 0 0 M).1 = 0 then 0 else 1) (we_sr (we_tf fr ov tt J H s g 9 0 0 M) H)) := by
  refine mx_bd (n0 := 5) hl (by decide +kernel) rfl rfl rfl ?_
  refine mx_cVi mo_We_search 7 (As := [.int (nI 0), .int 0, .ref 5, .int (nI H), .int s, .int g]) (rest := []) rfl (ct_We_tryFrom hl hH s g 8 0 0 M (by omega) (by omega) hj) rfl trivial rfl rfl rfl kv_We_44 kd_We_tryFrom rfl rfl rfl ?_
  show mx_E l (pg_L sc) mY_We_search (d + 11) 0 _ _ _ [.int (we_tf fr ov tt J H s g 9 0 0 M).1] (we_tf fr ov tt J H s g 9 0 0 M).2
  generalize we_tf fr ov tt J H s g 9 0 0 M = r
  refine mx_if mo_We_search 0 (t := 16) (f := 14) rfl trivial (fun (q : ¬ r.1 = 0) => ?_) (fun (q : r.1 = 0) => ?_)
  · refine mx_cpy mo_We_search 7 (idx := 48) (a0 := 40) (a1 := 39) (sp := 0) (dp := 0) (cn := nI H) (rest := []) rfl trivial rfl wc_We_48 rfl rfl rfl (by decide) (by decide) (nI_pos (by omega)) ?_ ?_ ?_
    · rw [nI_clamp (by omega)]; show 0 + H ≤ 8; omega
    · rw [nI_clamp (by omega)]; show 0 + H ≤ 20; omega
    · rw [nI_clamp (by omega)]
      exact mx_ret_z mo_We_search rfl 1 rfl trivial rfl (Or.inr rfl) ⟨by rw [if_neg q]; rfl, by rw [we_sr, if_neg q]; rfl⟩
  · exact mx_ret_z mo_We_search rfl 1 rfl trivial rfl (Or.inl rfl) ⟨by rw [if_pos q]; rfl, by rw [we_sr, if_pos q]⟩
end WS
