/-! PegBoardsModel: moves. -/
section MX
variable {l : Launch} {sc : Nat × (Nat → Int32)} {d : Nat} {M : mx_M}
def mo_lv (c : Int32) (N J : Nat) (M : mx_M) : Nat → mx_M
  | 0 => M
  | s + 1 => if mo_pg (mo_lv c N J M s 54 s) N = c then mo_sp s (mo_lv c N J M s) J else mo_lv c N J M s
theorem mo_lv_off {c : Int32} {N J a : Nat} (ha : a ≠ 58) : ∀ s, mo_lv c N J M s a = M a := by
  intro s
  induction s with
  | zero => rfl
  | succ s ih =>
    rw [mo_lv]
    split
    · rw [mo_sp_off ha, ih]
    · exact ih
def mo_mo (N J n : Nat) : Nat → mx_M → mx_M
  | 0, M => M
  | c + 1, M => mo_mo N J n c (mo_lv (nI (c + 1)) N J M n)
theorem mo_mo_off {N J n a : Nat} (ha : a ≠ 58) : ∀ c M, mo_mo N J n c M a = M a := by
  intro c
  induction c with
  | zero => intro M; rfl
  | succ c ih => intro M; rw [mo_mo, ih, mo_lv_off ha]
def mo_mn (f : Nat → Int32) (g : Nat) : Nat → Int32
  | 0 => 1000
  | h + 1 => if mo_mn f g h ≤ f (21 * g + h) then mo_mn f g h else f (21 * g + h)
/-- the table before the spreading, and behind it -/
def mo_t0 (A : mx_M) (n : Nat) : mx_M := mx_up (pg_fill A 58 (21 * n) 1000) 58 20 0
def mo_t1 (A : mx_M) (N J n c : Nat) : mx_M := mo_mo N J n c (mo_t0 A n)
theorem mo_t1_off {A : mx_M} {N J n c a : Nat} (ha : a ≠ 58) : mo_t1 A N J n c a = A a := by
  rw [mo_t1, mo_mo_off ha, mo_t0, mx_up_off ha]
  funext j
  simp [pg_fill, mx_row, ha]
def mo_moves (R : Bool × mx_M) (N J c : Nat) : Int32 × mx_M := if R.1 then ((if R.2 57 (mo_s R.2 (R.2 41 17)) = 0 then -1 else mo_mn (mo_t1 R.2 N J (R.2 41 20).toNatClampNeg c 58) (mo_no R.2 (R.2 41 17)) 21), mo_t1 R.2 N J (R.2 41 20).toNatClampNeg c) else (-2, R.2)
theorem ct_Mo_moves (hl : l.stackTraces = false) {J N c : Nat} {fr ov tt : Nat → Nat} (hj : ¬ M 41 2 = 0 → mj_ok M J fr ov tt 20) (hJ : J ≤ 120) (hs : M 41 8 = nI J) (lim : Int32) (hN : N ≤ 20) (hh : M 41 3 = nI N) (hc20 : c ≤ 20) (hpg : mo_pg (M 41 16) N = nI c)
    (hcl : ¬ M 41 2 = 0 → ∀ L, 1 ≤ L → L ≤ 500 → (mo_go (mx_up M 41 0 0) L J).1 = true → ∀ s k, s < ((mo_go (mx_up M 41 0 0) L J).2 41 20).toNatClampNeg → k < J → ¬ mo_q (mo_go (mx_up M 41 0 0) L J).2 s k < 0 → ¬ (mo_go (mx_up M 41 0 0) L J).2 57 (mo_s (mo_go (mx_up M 41 0 0) L J).2 (mo_q (mo_go (mx_up M 41 0 0) L J).2 s k)) = 0) :
    mx_Ct l (pg_L sc) mY_Mo_moves (d + 3) 0 [.ref 41, .int lim] M (mx_rI (mo_rw M lim (mo_moves (mo_go (mx_up M 41 0 0) lim.toNatClampNeg J) N J c)).1 (mo_rw M lim (mo_moves (mo_go (mx_up M 41 0 0) lim.toNatClampNeg J) N J c)).2) := by
  refine mx_bd (n0 := 2) hl (by decide +kernel) rfl rfl rfl ?_
  refine mx_cVi mo_Mo_moves 2 (As := [.int lim]) (rest := []) rfl (ct_Mo_cannot hl lim) rfl trivial rfl rfl rfl kv_Mo_139 kd_Mo_cannot rfl rfl rfl ?_
  rw [mo_rw]
  by_cases hc : mo_cc M lim = 0
  case neg =>
    rw [if_neg hc, if_neg hc]
    refine mx_if mo_Mo_moves 0 (t := 10) (f := 8) rfl trivial (fun (q : (1 : Int32) = 0) => absurd q (by decide)) (fun _ => ?_)
    exact mx_ret_i mo_Mo_moves rfl 1 rfl trivial rfl ⟨rfl, rfl⟩
  rw [if_pos hc, if_pos hc, hc]
  refine mx_if mo_Mo_moves 0 (t := 10) (f := 8) rfl trivial (fun _ => ?_) (fun q => absurd rfl q)
  obtain ⟨hfz, L, h1, h5, rfl⟩ := mo_cc0 hc
  rw [nI_clamp (by omega)]
  have hs' : mx_up M 41 0 0 41 8 = nI J := hs
  refine mx_cVi mo_Mo_moves 2 (As := [.int (nI L)]) (rest := []) rfl (ct_Mo_reach hl h1 h5 hJ hs') rfl trivial rfl rfl rfl kv_Mo_142 kd_Mo_reach rfl rfl rfl ?_
  have hk : mo_ok (mo_go (mx_up M 41 0 0) L J).2 L := (mo_ra_ok L 0 _ (mo_s0_ok h1 h5).1).1
  have hcl := hcl hfz L h1 h5
  obtain ⟨-, -, -, o4, o5⟩ := mo_ra_ok (J := J) L 0 _ (mo_s0_ok (M := mx_up M 41 0 0) h1 h5).1
  have r3 : (mo_go (mx_up M 41 0 0) L J).2 41 3 = nI N := by rw [mo_go, o5 3 (by decide), mo_s0_41 (by decide)]; exact hh
  have r16 : (mo_go (mx_up M 41 0 0) L J).2 41 16 = M 41 16 := by rw [mo_go, o5 16 (by decide), mo_s0_41 (by decide)]; rfl
  have rj : mj_ok (mo_go (mx_up M 41 0 0) L J).2 J fr ov tt 20 := mj_ok_off (hj hfz) (by rw [mo_go, o5 8 (by decide), mo_s0_41 (by decide)]; rfl) (by rw [mo_go, o4 46 (by omega), mo_s0_off (by omega)]; rfl) (by rw [mo_go, o4 47 (by omega), mo_s0_off (by omega)]; rfl) (by rw [mo_go, o4 48 (by omega), mo_s0_off (by omega)]; rfl)
  clear o4 o5
  generalize mo_go (mx_up M 41 0 0) L J = R at hk hcl r3 r16 rj ⊢
  obtain ⟨rb, A⟩ := R
  dsimp only at hk hcl r3 r16 rj ⊢
  rw [mo_moves]
  cases rb with
  | false =>
    rw [if_neg Bool.false_ne_true, if_neg Bool.false_ne_true]
    refine mx_if mo_Mo_moves 0 (t := 21) (f := 18) rfl trivial (fun q => absurd rfl q) (fun _ => ?_)
    exact mx_ret_i mo_Mo_moves rfl 1 rfl trivial rfl ⟨rfl, rfl⟩
  | true =>
    rw [if_pos rfl, if_pos rfl]
    have hcl := hcl rfl
    refine mx_if mo_Mo_moves 0 (t := 21) (f := 18) rfl trivial (fun _ => ?_) (fun (q : (1 : Int32) = 0) => absurd q (by decide))
    obtain ⟨-, n, g2, g3, g4⟩ := hk
    have hn : (A 41 20).toNatClampNeg = n := by rw [g3]; exact nI_clamp (by omega)
    rw [hn] at hcl
    dsimp only
    rw [hn]
    generalize hQ : mx_rI (if A 57 (mo_s A (A 41 17)) = 0 then -1 else mo_mn (mo_t1 A N J n c 58) (mo_no A (A 41 17)) 21) (mo_t1 A N J n c) = Q
    -- the least of the goal's 21
    have last : ∀ (g : Nat), g < n → ∀ (m h : Nat), 21 - h = m → h ≤ 21 → Q = mx_rI (mo_mn (mo_t1 A N J n c 58) g 21) (mo_t1 A N J n c) → mx_E l (pg_L sc) mY_Mo_moves (d + 3) 0 Q 127 [.ref 41, .int (nI L), .int (nI g), .int (mo_mn (mo_t1 A N J n c 58) g h), .int (nI h)] [] (mo_t1 A N J n c) := by
      intro g hg m
      generalize mo_t1 A N J n c = T
      induction m with
      | zero =>
        intro h hm hle hq
        have e : h = 21 := by omega
        subst e
        refine mx_if mo_Mo_moves 2 (t := 177) (f := 134) rfl trivial (fun _ => ?_) (fun (q : ¬ nI 21 ≤ nI 21) => absurd (nI_le (Nat.le_refl 21) (by decide)) q)
        refine mx_if mo_Mo_moves 1 (t := 185) (f := 181) rfl trivial (fun _ => ?_) (fun (q : ¬ (0 : Int32) ≤ nI g) => absurd (nI_pos' (by omega)) q)
        rw [hq]
        exact mx_ret_i mo_Mo_moves rfl 1 rfl trivial rfl ⟨rfl, rfl⟩
      | succ m ih =>
        intro h hm hle hq
        have hv : vp_in (nI 21 * nI g + nI h) 10500 := by rw [pk_mul, nI_add]; exact vp_in_nI (by omega) (by decide)
        have es : (nI 21 * nI g + nI h).toNatClampNeg = 21 * g + h := by rw [pk_mul, nI_add]; exact nI_clamp (by omega)
        refine mx_if mo_Mo_moves 2 (t := 177) (f := 134) rfl trivial (fun (q : nI 21 ≤ nI h) => absurd q (nI_ge (by omega) (by decide))) (fun _ => ?_)
        refine mx_if mo_Mo_moves 1 (t := 177) (f := 138) rfl trivial (fun (q : nI g < 0) => absurd q (nI_pos (by omega))) (fun _ => ?_)
        have next : ∀ v : Int32, v = mo_mn (T 58) g (h + 1) → mx_E l (pg_L sc) mY_Mo_moves (d + 3) 0 Q 170 [.ref 41, .int (nI L), .int (nI g), .int (mo_mn (T 58) g h), .int (nI h)] [.int v] T := by
          intro v hv
          refine mx_go mo_Mo_moves 3 (pc' := 127) (ls' := [.ref 41, .int (nI L), .int (nI g), .int v, .int (nI h + 1)]) (st' := []) (M' := T) rfl trivial ?_
          rw [hv, nI_1]
          exact ih (h + 1) (by omega) (by omega) hq
        rw [mo_mn] at next
        refine mx_if mo_Mo_moves 9 (t := 169) (f := 154) rfl ⟨hv, trivial⟩ (fun (q : mo_mn (T 58) g h ≤ T 58 (nI 21 * nI g + nI h).toNatClampNeg) => ?_) (fun (q : ¬ mo_mn (T 58) g h ≤ T 58 (nI 21 * nI g + nI h).toNatClampNeg) => ?_)
        · rw [es] at q
          exact mx_go mo_Mo_moves 1 (pc' := 170) (ls' := [.ref 41, .int (nI L), .int (nI g), .int (mo_mn (T 58) g h), .int (nI h)]) (st' := [.int (mo_mn (T 58) g h)]) (M' := T) rfl trivial (next _ (by rw [if_pos q]))
        · rw [es] at q
          refine mx_go mo_Mo_moves 9 (pc' := 170) (ls' := [.ref 41, .int (nI L), .int (nI g), .int (mo_mn (T 58) g h), .int (nI h)]) (st' := [.int (T 58 (nI 21 * nI g + nI h).toNatClampNeg)]) (M' := T) rfl ⟨hv, trivial⟩ ?_
          exact next _ (by rw [es, if_neg q])
    have tail : ∀ x y z : Value, mx_E l (pg_L sc) mY_Mo_moves (d + 3) 0 Q 111 [.ref 41, .int (nI L), x, y, z] [] (mo_t1 A N J n c) := by
      intro x y z
      have t57 : mo_t1 A N J n c 57 = A 57 := mo_t1_off (by decide)
      have t54 : mo_t1 A N J n c 54 = A 54 := mo_t1_off (by decide)
      have t41 : mo_t1 A N J n c 41 = A 41 := mo_t1_off (by decide)
      have hT : hs_ok mo_h (mo_t1 A N J n c 57) (mo_t1 A N J n c 54) n := by rw [t57, t54]; exact g4
      have eS : ∀ p, mo_s (mo_t1 A N J n c) p = mo_s A p := fun p => by unfold mo_s; rw [t57, t54]
      have hnum := ct_Mo_numberOf (l := l) (sc := sc) (d := d + 1) hl hT (A 41 17)
      rw [eS, t57] at hnum
      refine mx_go mo_Mo_moves 3 (pc' := 116) (ls' := [.ref 41, .int (nI L), x, y, z]) (st' := [.int (mo_t1 A N J n c 41 17), .ref 41]) (M' := mo_t1 A N J n c) rfl trivial ?_
      rw [t41]
      refine mx_cVi mo_Mo_moves 0 (As := [.int (A 41 17)]) (rest := []) rfl hnum rfl trivial rfl rfl rfl kv_Mo_136 kd_Mo_numberOf rfl rfl rfl ?_
      rcases mo_s_in g4 (A 41 17) with ⟨c2, -⟩ | ⟨i, hi, -, c2⟩
      · rw [if_pos c2] at hQ
        rw [c2]
        refine mx_if mo_Mo_moves 7 (t := 177) (f := 134) rfl trivial (fun (q : nI 21 ≤ nI 0) => absurd q (by decide)) (fun _ => ?_)
        refine mx_if mo_Mo_moves 1 (t := 177) (f := 138) rfl trivial (fun _ => ?_) (fun (q : ¬ (0 : Int32) - 1 < 0) => absurd (by decide) q)
        refine mx_if mo_Mo_moves 1 (t := 185) (f := 181) rfl trivial (fun (q : (0 : Int32) ≤ 0 - 1) => absurd q (by decide)) (fun _ => ?_)
        rw [← hQ]
        exact mx_ret_i mo_Mo_moves rfl 2 rfl trivial rfl ⟨rfl, rfl⟩
      · rw [if_neg (by rw [c2]; exact nI_ne0 (by omega) (by omega)), mo_no, c2, nI_pred, nI_clamp (by omega)] at hQ
        rw [c2, nI_pred]
        exact mx_go mo_Mo_moves 5 (pc' := 127) (ls' := [.ref 41, .int (nI L), .int (nI i), .int 1000, .int (nI 0)]) (st' := []) (M' := mo_t1 A N J n c) rfl trivial (last i hi 21 0 (by omega) (by omega) hQ.symm)
    -- the positions of one number of pegs
    have level : ∀ (e : Nat) (T : mx_M), e + 1 ≤ c → (∀ a, a ≠ 58 → T a = A a) → (∀ y z : Value, mx_E l (pg_L sc) mY_Mo_moves (d + 3) 0 Q 105 [.ref 41, .int (nI L), .int (nI (e + 1)), y, z] [] (mo_lv (nI (e + 1)) N J T n)) →
        ∀ (m s : Nat), n - s = m → s ≤ n → ∀ z : Value, mx_E l (pg_L sc) mY_Mo_moves (d + 3) 0 Q 72 [.ref 41, .int (nI L), .int (nI (e + 1)), .int (nI s), z] [] (mo_lv (nI (e + 1)) N J T s) := by
      intro e T he hT nx m
      induction m with
      | zero =>
        intro s hm hle z
        have es : s = n := by omega
        subst es
        refine mx_if mo_Mo_moves 3 (t := 105) (f := 80) rfl trivial (fun _ => nx _ _) (fun (q : ¬ mo_lv (nI (e + 1)) N J T s 41 20 ≤ nI s) => ?_)
        rw [mo_lv_off (by decide), hT 41 (by decide), g3] at q
        exact absurd (nI_le (Nat.le_refl s) (by omega)) q
      | succ m ih =>
        intro s hm hle z
        have hB : ∀ a, a ≠ 58 → mo_lv (nI (e + 1)) N J T s a = A a := fun a ha => by rw [mo_lv_off ha, hT a ha]
        have next : mx_E l (pg_L sc) mY_Mo_moves (d + 3) 0 Q 99 [.ref 41, .int (nI L), .int (nI (e + 1)), .int (nI s), z] [] (mo_lv (nI (e + 1)) N J T (s + 1)) := by
          refine mx_go mo_Mo_moves 2 (pc' := 72) (ls' := [.ref 41, .int (nI L), .int (nI (e + 1)), .int (nI s + 1), z]) (st' := []) rfl trivial ?_
          rw [nI_1]
          exact ih (s + 1) (by omega) (by omega) z
        rw [mo_lv] at next
        generalize mo_lv (nI (e + 1)) N J T s = B at hB next ⊢
        have ess : (nI s).toNatClampNeg = s := nI_clamp (by omega)
        refine mx_if mo_Mo_moves 3 (t := 105) (f := 80) rfl trivial (fun (q : B 41 20 ≤ nI s) => ?_) (fun _ => ?_)
        · rw [hB 41 (by decide), g3] at q; exact absurd q (nI_ge (by omega) (by omega))
        refine mx_go mo_Mo_moves 5 (pc' := 87) (ls' := [.ref 41, .int (nI L), .int (nI (e + 1)), .int (nI s), z]) (st' := [.int (B 54 (nI s).toNatClampNeg), .ref 41]) (M' := B) rfl ⟨vp_in_nI (N := 500) (by omega) (by decide), trivial⟩ ?_
        rw [ess]
        refine mx_cVi mo_Mo_moves 0 (As := [.int (B 54 s)]) (rest := []) rfl (ct_Mo_pegs hl hN (by rw [hB 41 (by decide)]; exact r3) (B 54 s)) rfl trivial rfl rfl rfl kv_Mo_145 kd_Mo_pegs rfl rfl rfl ?_
        refine mx_if mo_Mo_moves 1 (t := 99) (f := 94) rfl trivial (fun (q : ¬ mo_pg (B 54 s) N = nI (e + 1)) => ?_) (fun (q : mo_pg (B 54 s) N = nI (e + 1)) => ?_)
        · rw [if_neg q] at next; exact next
        · rw [if_pos q] at next
          have hjB : mj_ok B J fr ov tt 20 := mj_ok_off rj (by rw [hB 41 (by decide)]) (hB 46 (by decide)) (hB 47 (by decide)) (hB 48 (by decide))
          have hclB : ∀ k, k < J → ¬ mo_q B s k < 0 → ¬ B 57 (mo_s B (mo_q B s k)) = 0 := by
            have e1 : ∀ k, mo_q B s k = mo_q A s k := fun k => by unfold mo_q; rw [hB 54 (by decide), hB 46 (by decide), hB 47 (by decide), hB 48 (by decide)]
            have e2 : ∀ p, mo_s B p = mo_s A p := fun p => by unfold mo_s; rw [hB 54 (by decide), hB 57 (by decide)]
            intro k hk
            rw [e1, e2, hB 57 (by decide)]
            exact hcl s k (by omega) hk
          refine mx_cVv mo_Mo_moves 2 (As := [.int (nI s)]) (rest := []) rfl (ct_Mo_spread hl hjB (by rw [hB 57 (by decide), hB 54 (by decide)]; exact g4) (by omega) hclB) rfl trivial rfl rfl rfl kv_Mo_148 kd_Mo_spread rfl rfl rfl ?_
          exact next
    have outer : ∀ (e : Nat) (T : mx_M), e ≤ c → (∀ a, a ≠ 58 → T a = A a) → mo_mo N J n e T = mo_t1 A N J n c → ∀ y z : Value, mx_E l (pg_L sc) mY_Mo_moves (d + 3) 0 Q 66 [.ref 41, .int (nI L), .int (nI e), y, z] [] T := by
      intro e
      induction e with
      | zero =>
        intro T he hT hq y z
        rw [mo_mo] at hq
        subst hq
        exact mx_if mo_Mo_moves 1 (t := 111) (f := 70) rfl trivial (fun _ => tail _ _ _) (fun (q : ¬ nI 0 ≤ 0) => absurd (by decide) q)
      | succ e ih =>
        intro T he hT hq y z
        rw [mo_mo] at hq
        refine mx_if mo_Mo_moves 1 (t := 111) (f := 70) rfl trivial (fun (q : nI (e + 1) ≤ 0) => absurd q (nI_nle (by omega) (by omega))) (fun _ => ?_)
        refine mx_go mo_Mo_moves 2 (pc' := 72) (ls' := [.ref 41, .int (nI L), .int (nI (e + 1)), .int (nI 0), z]) (st' := []) (M' := T) rfl trivial ?_
        refine level e T he hT (fun y z => ?_) n 0 (by omega) (by omega) z
        refine mx_go mo_Mo_moves 2 (pc' := 66) (ls' := [.ref 41, .int (nI L), .int (nI (e + 1) + (-1)), y, z]) (st' := []) rfl trivial ?_
        rw [show nI (e + 1) + (-1) = nI e by rw [show ∀ x : Int32, x + (-1) = x - 1 from fun x => by rw [Int32.sub_eq_add_neg], nI_pred]]
        exact ih _ (by omega) (fun a ha => by rw [mo_lv_off ha, hT a ha]) hq y z
    have fill : ∀ (m i : Nat), 21 * n - i = m → i ≤ 21 * n → ∀ y z : Value, mx_E l (pg_L sc) mY_Mo_moves (d + 3) 0 Q 23 [.ref 41, .int (nI L), .int (nI i), y, z] [] (pg_fill A 58 i 1000) := by
      intro m
      have f41 : ∀ i, pg_fill A 58 i 1000 41 = A 41 := fun i => by funext j; simp [pg_fill, mx_row]
      have e21 : nI 21 * nI n = nI (21 * n) := pk_mul 21 n
      induction m with
      | zero =>
        intro i hm hle y z
        have e : i = 21 * n := by omega
        subst e
        refine mx_if mo_Mo_moves 5 (t := 49) (f := 34) rfl trivial (fun _ => ?_) (fun (q : ¬ nI 21 * pg_fill A 58 (21 * n) 1000 41 20 ≤ nI (21 * n)) => ?_)
        · refine mx_go mo_Mo_moves 8 (pc' := 62) (ls' := [.ref 41, .int (nI L), .int (nI (21 * n)), y, z]) (st' := [.int (mo_t0 A n 41 16), .ref 41]) (M' := mo_t0 A n) rfl ⟨vp_in_nI (n := 20) (N := 10500) (by decide) (by decide), trivial⟩ ?_
          have o : ∀ a, a ≠ 58 → mo_t0 A n a = A a := fun a ha => by
            rw [mo_t0, mx_up_off ha]; funext j; simp [pg_fill, mx_row, ha]
          rw [o 41 (by decide), r16]
          refine mx_cVi mo_Mo_moves 0 (As := [.int (M 41 16)]) (rest := []) rfl (ct_Mo_pegs hl hN (by rw [o 41 (by decide)]; exact r3) (M 41 16)) rfl trivial rfl rfl rfl kv_Mo_145 kd_Mo_pegs rfl rfl rfl ?_
          rw [hpg]
          exact mx_go mo_Mo_moves 1 (pc' := 66) (ls' := [.ref 41, .int (nI L), .int (nI c), y, z]) (st' := []) (M' := mo_t0 A n) rfl trivial (outer c _ (Nat.le_refl c) o rfl _ _)
        · rw [f41, g3, e21] at q; exact absurd (nI_le (Nat.le_refl _) (by omega)) q
      | succ m ih =>
        intro i hm hle y z
        have e : (nI i).toNatClampNeg = i := nI_clamp (by omega)
        refine mx_if mo_Mo_moves 5 (t := 49) (f := 34) rfl trivial (fun (q : nI 21 * pg_fill A 58 i 1000 41 20 ≤ nI i) => ?_) (fun _ => ?_)
        · rw [f41, g3, e21] at q; exact absurd q (nI_ge (by omega) (by omega))
        refine mx_go mo_Mo_moves 7 (pc' := 23) (ls' := [.ref 41, .int (nI L), .int (nI i + 1), y, z]) (st' := []) (M' := mx_up (pg_fill A 58 i 1000) 58 (nI i).toNatClampNeg 1000) rfl ⟨vp_in_nI (N := 10500) (by omega) (by decide), trivial⟩ ?_
        rw [e, pg_fill_s, nI_1]
        exact ih (i + 1) (by omega) (by omega) y z
    refine mx_go mo_Mo_moves 2 (pc' := 23) (ls' := [.ref 41, .int (nI L), .int (nI 0), .null, .null]) (st' := []) (M' := A) rfl trivial ?_
    have := fill (21 * n) 0 (by omega) (by omega) .null .null
    rw [pg_fill_0] at this
    exact this
end MX
