/-! The calls that reach, and the law's loop. -/
section LV
variable {l : Launch} {Lx : Nat} {xs : Nat → Int32} {n : Nat} {M M1 M2 : mx_M} {Q : mx_R → mx_M → Prop} {i : Nat}
theorem fa_go {L J c : Nat} (hc : 41 ≤ c) : pe_go M L J c = M c := pe_go_off (by omega)
theorem lz_count (hl : l.stackTraces = false) (hI : IV M M) (i1 : vp_in (nI i + 1) Lx) (kk : ∀ M2, IV M2 M2 → lwK l Lx xs n Q i 1156 M2) : lwK l Lx xs (n + 2) Q i 516 M := by
  obtain ⟨D, N, J, S, fr, ov, tt, im, sa, ga, h⟩ := hI
  intro v5 v6
  obtain ⟨h1, g, hI2, h60⟩ := st_gen (f := fun B => mo_rw B (lwA xs i) (mo_count (mo_go (mx_up B 41 0 0) (lwA xs i).toNatClampNeg J))) (G := fun t b => ag (pe_rw M (lwA xs i) (pe_count (pe_go M (lwA xs i).toNatClampNeg J))).1 xIS xIA t b) (A' := (pe_rw M (lwA xs i) (pe_count (pe_go M (lwA xs i).toNatClampNeg J))).2) (M1 := wrM (pe_rw M (lwA xs i) (pe_count (pe_go M (lwA xs i).toNatClampNeg J))).1 (pe_rw M (lwA xs i) (pe_count (pe_go M (lwA xs i).toNatClampNeg J))).2) h (fun B hB => op_count hB _) (fun c hc _ => fa_rw (fa_go hc)) (fun B c hc => fb_rw (fun y => fb_goL y hc) hc) (fun c hc => wrM_off hc)
  exact mx_En (n := n + 2) (by omega) (ls_count hl i1 (wr_count hl _ (ct_Pe_count (d := 22) hl h.j120 h.j h.f _) g) (ct_Mo_count (d := 26) hl h.j120 h1.j2 _) rfl (hb_of g h60) (kk _ hI2) v5 v6)
theorem lz_solve (hl : l.stackTraces = false) (hI : IV M M) (i1 : vp_in (nI i + 1) Lx) (kk : ∀ M2, IV M2 M2 → lwK l Lx xs n Q i 1156 M2) : lwK l Lx xs (n + 2) Q i 572 M := by
  obtain ⟨D, N, J, S, fr, ov, tt, im, sa, ga, h⟩ := hI
  intro v5 v6
  obtain ⟨h1, g, hI2, h60⟩ := st_gen (f := fun B => mo_rw B (lwA xs i) (mo_solve (mo_go (mx_up B 41 0 0) (lwA xs i).toNatClampNeg J))) (G := fun t b => ag (pe_rw M (lwA xs i) (pe_solve (pe_go M (lwA xs i).toNatClampNeg J))).1 xIS xIA t b) (A' := (pe_rw M (lwA xs i) (pe_solve (pe_go M (lwA xs i).toNatClampNeg J))).2) (M1 := wrM (pe_rw M (lwA xs i) (pe_solve (pe_go M (lwA xs i).toNatClampNeg J))).1 (pe_rw M (lwA xs i) (pe_solve (pe_go M (lwA xs i).toNatClampNeg J))).2) h (fun B hB => op_solve hB _) (fun c hc _ => fa_rw (fa_go hc)) (fun B c hc => fb_rw (fun y => fb_goL y hc) hc) (fun c hc => wrM_off hc)
  exact mx_En (n := n + 2) (by omega) (ls_solve hl i1 (wr_solve hl _ (ct_Pe_solve (d := 22) hl h.j120 h.j h.f _) g) (ct_Mo_solve (d := 26) hl h.j120 h1.j2 _) rfl (hb_of g h60) (kk _ hI2) v5 v6)
theorem lz_classes (hl : l.stackTraces = false) (hI : IV M M) (i1 : vp_in (nI i + 1) Lx) (kk : ∀ M2, IV M2 M2 → lwK l Lx xs n Q i 1156 M2) : lwK l Lx xs (n + 2) Q i 752 M := by
  obtain ⟨D, N, J, S, fr, ov, tt, im, sa, ga, h⟩ := hI
  intro v5 v6
  obtain ⟨h1, g, hI2, h60⟩ := st_gen (f := fun B => mo_rw B (lwA xs i) (mo_classes (mo_go (mx_up B 41 0 0) (lwA xs i).toNatClampNeg J) N S)) (G := fun t b => ag (pe_rw M (lwA xs i) (pe_classes (pe_go M (lwA xs i).toNatClampNeg J) N S)).1 xIS xIA t b) (A' := (pe_rw M (lwA xs i) (pe_classes (pe_go M (lwA xs i).toNatClampNeg J) N S)).2) (M1 := wrM (pe_rw M (lwA xs i) (pe_classes (pe_go M (lwA xs i).toNatClampNeg J) N S)).1 (pe_rw M (lwA xs i) (pe_classes (pe_go M (lwA xs i).toNatClampNeg J) N S)).2) h (fun B hB => op_classes hB _) (fun c hc _ => fa_rw (fa_classes (fa_go hc) hc)) (fun B c hc => fb_rw (fun y => fb_classes (fb_goL y hc) hc) hc) (fun c hc => wrM_off hc)
  exact mx_En (n := n + 2) (by omega) (ls_classes hl i1 (wr_classes hl _ (ct_Pe_classes (d := 22) hl h.j120 h.j h.f _ (fun u => ⟨h.n20, h.s12, (h.fz u).1, h.s⟩)) g) (ct_Mo_classes (d := 26) hl h.j120 h1.j2 _ h.n20 (fun _ => ⟨h.s12, h1.s2, h1.n2⟩)) rfl (hb_of g h60) (kk _ hI2) v5 v6)
theorem lz_moves (hl : l.stackTraces = false) (hI : IV M M) (i1 : vp_in (nI i + 1) Lx) (kk : ∀ M2, IV M2 M2 → lwK l Lx xs n Q i 1156 M2) : lwK l Lx xs (n + 2) Q i 696 M := by
  obtain ⟨D, N, J, S, fr, ov, tt, im, sa, ga, h⟩ := hI
  intro v5 v6
  have c20 : pc sa ≤ 20 := Nat.le_trans (pc_N h.ab) h.n20
  obtain ⟨h1, g, hI2, h60⟩ := st_gen (f := fun B => mo_rw B (lwA xs i) (mo_moves (mo_go (mx_up B 41 0 0) (lwA xs i).toNatClampNeg J) N J (pc sa))) (G := fun t b => ag (pe_rw M (lwA xs i) (pe_moves (pe_go M (lwA xs i).toNatClampNeg J))).1 xIS xIA t b) (A' := (pe_rw M (lwA xs i) (pe_moves (pe_go M (lwA xs i).toNatClampNeg J))).2) (M1 := wrM (pe_rw M (lwA xs i) (pe_moves (pe_go M (lwA xs i).toNatClampNeg J))).1 (pe_rw M (lwA xs i) (pe_moves (pe_go M (lwA xs i).toNatClampNeg J))).2) h (fun B hB => op_moves hB _) (fun c hc _ => fa_rw (fa_go hc)) (fun B c hc => fb_rw (fun y => fb_moves (fb_goL y hc) hc) hc) (fun c hc => wrM_off hc)
  have hpg : mo_pg (wrM (pe_rw M (lwA xs i) (pe_moves (pe_go M (lwA xs i).toNatClampNeg J))).1 (pe_rw M (lwA xs i) (pe_moves (pe_go M (lwA xs i).toNatClampNeg J))).2 41 16) N = nI (pc sa) := by
    rw [h1.a2]
    exact pg_pc h.ab h.n20
  exact mx_En (n := n + 2) (by omega) (ls_moves hl i1 (wr_moves hl _ (ct_Pe_moves (d := 22) hl h.j120 h.j h.f _) g) (ct_Mo_moves (d := 26) hl (fun _ => (ju_of h1 (fun _ => h.n20)).2) h.j120 h1.j2 _ h.n20 h1.n2 c20 hpg (fun _ L q1 q5 hr => mv_cl (iv_up h1 0) q1 q5 hr)) rfl (hb_of g h60) (kk _ hI2) v5 v6)
theorem cw_Pe {D : Nat → Bool} {N J S sa ga : Nat} {fr ov tt : Nat → Nat} {im : Nat → Nat → Nat} {sc : Nat × (Nat → Int32)} {d : Nat} (hl : l.stackTraces = false) (h : iv M M D N J S fr ov tt im sa ga) (lim j : Int32) :
    mx_Ct l (pg_L sc) mY_Pe_way (d + 6) 2 [.ref 0, .int lim, .int j] M (mx_rA (pe_rw M lim (.inl (some (.int (pe_wv (pe_go M lim.toNatClampNeg J) (M 0 5) (M 0 6) j))), pe_go M lim.toNatClampNeg J)).1 (pe_rw M lim (.inl (some (.int (pe_wv (pe_go M lim.toNatClampNeg J) (M 0 5) (M 0 6) j))), pe_go M lim.toNatClampNeg J)).2) := by
  refine ct_Pe_way hl h.j120 h.j h.f lim j _ (fun u L h1 h5 e => ?_)
  subst e
  rw [nI_clamp (by omega), h.a, h.g]
  obtain ⟨n, r, P0, v, _⟩ := rr_go h h1 h5
  have hS := re_ok_fo (pe_go_ok (M := M) (J := J) h1 h5)
  unfold pe_wv
  by_cases c : re_no (pe_go M L J) (nI ga) = -1 ∨ j < 0 ∨ pq_bc (nI sa) - pq_bc (nI ga) ≤ j
  · rw [if_pos c]
    exact re_jw0 hl hS _ _ _ c
  · rw [if_neg c]
    obtain ⟨b, j', K, q1, q2, q3, q4, q5, q6, q7, q8⟩ := way_pe v r P0 c
    subst q2
    rw [q1, q3, nI_clamp (by omega), nI_clamp (by omega), nI_clamp (by omega)]
    exact re_jw1 (w := wa (pe_go M L J) b) hl hS (nI sa) (nI ga) q1 q3 q4 q5 q7 q8
theorem lz_way (hl : l.stackTraces = false) (hI : IV M M) (i1 : vp_in (nI i + 1) Lx) (i2 : vp_in (nI i + 2) Lx) (kk : ∀ M2, IV M2 M2 → lwK l Lx xs n Q i 1156 M2) : lwK l Lx xs (n + 2) Q i 628 M := by
  obtain ⟨D, N, J, S, fr, ov, tt, im, sa, ga, h⟩ := hI
  intro v5 v6
  have cA := cw_Pe (sc := (Lx, xs)) (d := 22) hl h (lwA xs i) (lwB xs i)
  obtain ⟨h1, g, hI2, h60⟩ := st_gen (f := fun B => mo_rw B (lwA xs i) (mo_way (mo_go (mx_up B 41 0 0) (lwA xs i).toNatClampNeg J).2 (lwB xs i) (wb (mo_go (mx_up B 41 0 0) (lwA xs i).toNatClampNeg J).2 (mo_no (mo_go (mx_up B 41 0 0) (lwA xs i).toNatClampNeg J).2 (nI ga))) (pc sa - pc ga), (mo_go (mx_up B 41 0 0) (lwA xs i).toNatClampNeg J).2)) (G := fun t b => ag (pe_rw M (lwA xs i) (.inl (some (.int (pe_wv (pe_go M (lwA xs i).toNatClampNeg J) (M 0 5) (M 0 6) (lwB xs i)))), pe_go M (lwA xs i).toNatClampNeg J)).1 xIS xIA t b) (A' := (pe_rw M (lwA xs i) (.inl (some (.int (pe_wv (pe_go M (lwA xs i).toNatClampNeg J) (M 0 5) (M 0 6) (lwB xs i)))), pe_go M (lwA xs i).toNatClampNeg J)).2) (M1 := wrM (pe_rw M (lwA xs i) (.inl (some (.int (pe_wv (pe_go M (lwA xs i).toNatClampNeg J) (M 0 5) (M 0 6) (lwB xs i)))), pe_go M (lwA xs i).toNatClampNeg J)).1 (pe_rw M (lwA xs i) (.inl (some (.int (pe_wv (pe_go M (lwA xs i).toNatClampNeg J) (M 0 5) (M 0 6) (lwB xs i)))), pe_go M (lwA xs i).toNatClampNeg J)).2) h (fun B hB => op_way hB _ _) (fun c hc _ => fa_rw (fa_go hc)) (fun B c hc => fb_rw (fun y => fb_goL y hc) hc) (fun c hc => wrM_off hc)
  refine mx_En (n := n + 2) (by omega) (ls_way hl i1 i2 (wr_way hl _ _ cA g) (ct_Mo_way (d := 26) hl h.j120 h1.j2 _ _ (fun _ L q1 q5 e => ?_)) rfl (hb_of g h60) (kk _ hI2) v5 v6)
  obtain ⟨n, r, P0, v, _⟩ := rr_go (iv_up h1 0) q1 q5
  have eL : (lwA xs i).toNatClampNeg = L := by rw [e, nI_clamp (by omega)]
  have w := (way_eq v r P0 0).2
  rw [eL] at w ⊢
  exact w
theorem lw_end {Lx i : Nat} (h1 : Lx < 2 ^ 30) (h2 : i < 2 ^ 30) : nI Lx - 3 < nI i ↔ Lx < i + 3 := by
  rw [Int32.lt_iff_toInt_lt, nI_toInt (by omega)]
  have := pk_sub_toInt (a := Lx) (b := 3) h1 (by decide)
  have e : (nI Lx - 3).toInt = (Lx : Int) - 3 := this
  rw [e]
  omega
set_option maxRecDepth 8000 in
theorem lw_loop (hl : l.stackTraces = false) (hQ : ∀ M, Q (.inl (some (.int 1))) M) (hL : Lx ≤ 1536) : ∀ (m i : Nat) (M : mx_M), i ≤ 1600 → Lx ≤ i + 3 * m → IV M M → lwK l Lx xs (2 * m) Q i 23 M := by
  have hend : ∀ (k i : Nat) (M : mx_M), lwK l Lx xs k Q i 1162 M := fun k i M v5 v6 => mx_ret_z mL_head rfl 1 rfl trivial rfl (Or.inr rfl) (hQ _)
  intro m
  induction m with
  | zero =>
    intro i M hi hm hI v5 v6
    exact mx_if mL_head 5 (t := 1162) (f := 32) rfl trivial (fun _ => hend _ i M v5 v6) (fun q => absurd ((lw_end (by omega) (by omega)).mpr (by omega)) q)
  | succ m ih =>
    intro i M hi hm hI v5 v6
    refine mx_if mL_head 5 (t := 1162) (f := 32) rfl trivial (fun _ => hend _ i M v5 v6) (fun (q : ¬ nI Lx - 3 < nI i) => ?_)
    rw [lw_end (by omega) (by omega)] at q
    have i0 : vp_in (nI i) Lx := vp_in_nI (by omega) (by omega)
    have i1 : vp_in (nI i + 1) Lx := by rw [nI_1]; exact vp_in_nI (by omega) (by omega)
    have i2 : vp_in (nI i + 2) Lx := by rw [show nI i + 2 = nI (i + 2) from nI_add i 2]; exact vp_in_nI (by omega) (by omega)
    have kk : ∀ M2, IV M2 M2 → lwK l Lx xs (2 * m) Q i 1156 M2 := by
      intro M2 hI2 v5 v6
      have := ih (i + 3) M2 (by omega) (by omega) hI2 v5 v6
      rw [← show nI i + 3 = nI (i + 3) from nI_add i 3] at this
      exact mx_go mL_head 2 rfl trivial this
    refine mx_ts mL_head 5 rfl ⟨i0, trivial⟩ rfl ?_ ?_
    · intro q1 q2
      generalize (xs (nI i).toNatClampNeg &&& Int8.toInt32 (Int8.ofInt 31)).toInt = z at q1 q2 ⊢
      have : z = 0 ∨ z = 1 ∨ z = 2 ∨ z = 3 ∨ z = 4 ∨ z = 5 ∨ z = 6 ∨ z = 7 ∨ z = 8 ∨ z = 9 ∨ z = 10 ∨ z = 11 ∨ z = 12 ∨ z = 13 ∨ z = 14 ∨ z = 15 ∨ z = 16 ∨ z = 17 ∨ z = 18 := by omega
      rcases this with rfl | rfl | rfl | rfl | rfl | rfl | rfl | rfl | rfl | rfl | rfl | rfl | rfl | rfl | rfl | rfl | rfl | rfl | rfl
      · exact ⟨89, 128, rfl, rfl, lz_clear hl i1 kk v5 v6⟩
      · exact ⟨128, 167, rfl, rfl, lz_hole hl hI i1 i2 kk v5 v6⟩
      · exact ⟨196, 235, rfl, rfl, lz_freeze hl hI kk v5 v6⟩
      · exact ⟨240, 279, rfl, rfl, lz_at hl hI i1 i2 kk v5 v6⟩
      · exact ⟨277, 316, rfl, rfl, lz_jump hl hI i1 i2 kk v5 v6⟩
      · exact ⟨345, 384, rfl, rfl, lz_place hl hI i1 i2 kk v5 v6⟩
      · exact ⟨409, 448, rfl, rfl, lz_after hl hI i1 i2 kk v5 v6⟩
      · exact ⟨477, 516, rfl, rfl, lz_count hl hI i1 kk v5 v6⟩
      · exact ⟨533, 572, rfl, rfl, lz_solve hl hI i1 kk v5 v6⟩
      · exact ⟨589, 628, rfl, rfl, lz_way hl hI i1 i2 kk v5 v6⟩
      · exact ⟨657, 696, rfl, rfl, lz_moves hl hI i1 kk v5 v6⟩
      · exact ⟨713, 752, rfl, rfl, lz_classes hl hI i1 kk v5 v6⟩
      · exact ⟨769, 808, rfl, rfl, lz_symmetries hl hI kk v5 v6⟩
      · exact ⟨782, 821, rfl, rfl, lz_image hl hI i1 i2 kk v5 v6⟩
      · exact ⟨850, 889, rfl, rfl, lz_least hl hI i1 kk v5 v6⟩
      · exact ⟨906, 945, rfl, rfl, lz_parity hl hI i1 kk v5 v6⟩
      · exact ⟨962, 1001, rfl, rfl, lz_weight hl hI i1 i2 kk v5 v6⟩
      · exact ⟨1010, 1049, rfl, rfl, lz_weights hl hI i1 kk v5 v6⟩
      · exact ⟨1066, 1105, rfl, rfl, lz_find hl hI kk v5 v6⟩
    · intro _
      exact ⟨1156, rfl, mx_En (n := 2 * m) (by omega) (kk M hI v5 v6)⟩
end LV
