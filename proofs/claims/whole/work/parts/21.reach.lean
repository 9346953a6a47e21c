/-! PegBoards$Reaching: the small methods, and going on from one position. -/
section RE
variable {l : Launch} {sc : Nat × (Nat → Int32)} {d : Nat} {M : mx_M}
theorem ct_Re_size (hl : l.stackTraces = false) : mx_Ct l (pg_L sc) mY_Re_size (d + 1) 0 [.ref 27] M (mx_rI (M 28 2) M) := by
  refine mx_bd (n0 := 1) hl (by decide +kernel) rfl rfl rfl ?_
  refine mx_cVi mo_Re_size 2 rfl (ct_Fo0_size hl) rfl trivial rfl rfl rfl kv_Re_45 kd_Fo_size rfl rfl rfl ?_
  exact mx_ret_i mo_Re_size rfl 0 rfl trivial rfl ⟨rfl, rfl⟩
def re_no (M : mx_M) (p : Int32) : Int32 := M 30 (hs_f (M 30) (M 29) p 1024 (fo_h p)) - 1
theorem ct_Re_has (hl : l.stackTraces = false) (hS : fo_ok (M 30)) (p : Int32) : mx_Ct l (pg_L sc) mY_Re_has (d + 3) 0 [.ref 27, .int p] M (mx_rI (if re_no M p = -1 then 0 else 1) M) := by
  refine mx_bd (n0 := 2) hl (by decide +kernel) rfl rfl rfl ?_
  refine mx_cVi mo_Re_has 3 (As := [.int p]) rfl (ct_Fo0_numberOf hl hS p) rfl trivial rfl rfl rfl kv_Re_81 kd_Fo_numberOf rfl rfl rfl ?_
  refine mx_if mo_Re_has 1 (t := 16) (f := 12) rfl trivial (fun (h : re_no M p = -1) => ?_) (fun (h : ¬ re_no M p = -1) => ?_)
  · exact mx_ret_z mo_Re_has rfl 1 rfl trivial rfl (Or.inl rfl) ⟨by rw [if_pos h]; rfl, rfl⟩
  · exact mx_ret_z mo_Re_has rfl 2 rfl trivial rfl (Or.inr rfl) ⟨by rw [if_neg h]; rfl, rfl⟩
theorem ct_Re_fewestMoves (hl : l.stackTraces = false) (hS : fo_ok (M 30)) (p : Int32) (hn : re_no M p = -1 ∨ ∃ i, i < 500 ∧ re_no M p = nI i) : mx_Ct l (pg_L sc) mY_Re_fewestMoves (d + 3) 0 [.ref 27, .int p] M (mx_rI (if re_no M p = -1 then -1 else M 36 (re_no M p).toNatClampNeg) M) := by
  refine mx_bd (n0 := 2) hl (by decide +kernel) rfl rfl rfl ?_
  refine mx_cVi mo_Re_fewestMoves 3 (As := [.int p]) rfl (ct_Fo0_numberOf hl hS p) rfl trivial rfl rfl rfl kv_Re_81 kd_Fo_numberOf rfl rfl rfl ?_
  change mx_E l (pg_L sc) mY_Re_fewestMoves (d + 3) 0 _ 8 [.ref 27, .int p, .null] [.int (re_no M p)] M
  refine mx_if mo_Re_fewestMoves 3 (t := 18) (f := 14) rfl trivial (fun (h : ¬ re_no M p = -1) => ?_) (fun (h : re_no M p = -1) => ?_)
  · obtain ⟨i, hi, ei⟩ := hn.resolve_left h
    refine mx_ret_i mo_Re_fewestMoves rfl 4 (v := M 36 (re_no M p).toNatClampNeg) rfl ⟨by rw [ei]; exact vp_in_nI hi (by decide), trivial⟩ rfl ⟨by rw [if_neg h], rfl⟩
  · exact mx_ret_i mo_Re_fewestMoves rfl 2 rfl trivial rfl ⟨by rw [if_pos h]; rfl, rfl⟩
def re_en (M : mx_M) (t i k : Nat) : mx_M := mx_up (mx_up (mx_up M 34 t (nI i)) 35 t (nI k)) 36 t 20
theorem ct_Re_enter (hl : l.stackTraces = false) {t i k : Nat} (ht : t < 500) : mx_Ct l (pg_L sc) mY_Re_enter d 0 [.ref 27, .int (nI t), .int (nI i), .int (nI k)] M (mx_rV (re_en M t i k)) := by
  have hv : vp_in (nI t) 500 := vp_in_nI ht (by decide)
  have e : (nI t).toNatClampNeg = t := nI_clamp (by omega)
  refine mx_bd (n0 := 4) hl (by decide +kernel) rfl rfl rfl ?_
  refine mx_ret_v mo_Re_enter rfl 15 (M' := mx_up (mx_up (mx_up M 34 (nI t).toNatClampNeg (nI i)) 35 (nI t).toNatClampNeg (nI k)) 36 (nI t).toNatClampNeg 20) rfl ⟨hv, hv, hv, trivial⟩ rfl ⟨rfl, ?_⟩
  rw [e]
  rfl
def re_th (M : mx_M) (a : Nat) (f : Int32) : Int32 := M 36 a + (if pg_has (M 37 a) f = 0 then 1 else 0)
def re_m1 (M : mx_M) (b : Nat) (x : Int32) : mx_M := if M 36 b ≤ x then M else mx_up (mx_up M 36 b x) 37 b 0
def re_m2 (M : mx_M) (b : Nat) (x g : Int32) : mx_M := if x = M 36 b then mx_up M 37 b (M 37 b ||| (1 <<< (g &&& 31))) else M
/-- Reaching.addMoves -/
def re_am (M : mx_M) (a b : Nat) (f g : Int32) : mx_M := re_m2 (re_m1 M b (re_th M a f)) b (re_th M a f) g
theorem ct_Re_addMoves (hl : l.stackTraces = false) {a b : Nat} (ha : a < 500) (hb : b < 500) (f g : Int32) : mx_Ct l (pg_L sc) mY_Re_addMoves (d + 1) 0 [.ref 27, .int (nI a), .int (nI b), .int f, .int g] M (mx_rV (re_am M a b f g)) := by
  have hva : vp_in (nI a) 500 := vp_in_nI ha (by decide)
  have hvb : vp_in (nI b) 500 := vp_in_nI hb (by decide)
  have ea : (nI a).toNatClampNeg = a := nI_clamp (by omega)
  have eb : (nI b).toNatClampNeg = b := nI_clamp (by omega)
  have tail2 : ∀ (x : Int32) (M1 : mx_M), re_m2 M1 b x g = re_am M a b f g → mx_E l (pg_L sc) mY_Re_addMoves (d + 1) 0 (mx_rV (re_am M a b f g)) 53 [.ref 27, .int (nI a), .int (nI b), .int f, .int g, .int x] [] M1 := by
    intro x M1 he
    unfold re_m2 at he
    refine mx_if mo_Re_addMoves 5 (t := 77) (f := 64) rfl ⟨hvb, trivial⟩ (fun (q : ¬ x = M1 36 (nI b).toNatClampNeg) => ?_) (fun (q : x = M1 36 (nI b).toNatClampNeg) => ?_)
    · rw [eb] at q
      rw [if_neg q] at he
      exact mx_ret_v mo_Re_addMoves rfl 0 rfl trivial rfl ⟨rfl, he⟩
    · rw [eb] at q
      rw [if_pos q] at he
      refine mx_ret_v mo_Re_addMoves rfl 10 (M' := mx_up M1 37 (nI b).toNatClampNeg (M1 37 (nI b).toNatClampNeg ||| (1 <<< (g &&& 31)))) rfl ⟨hvb, hvb, trivial⟩ rfl ⟨rfl, ?_⟩
      rw [eb]; exact he
  have tail1 : ∀ x : Int32, x = re_th M a f → mx_E l (pg_L sc) mY_Re_addMoves (d + 1) 0 (mx_rV (re_am M a b f g)) 27 [.ref 27, .int (nI a), .int (nI b), .int f, .int g, .int x] [] M := by
    intro x hx
    refine mx_if mo_Re_addMoves 5 (t := 53) (f := 38) rfl ⟨hvb, trivial⟩ (fun (q : M 36 (nI b).toNatClampNeg ≤ x) => ?_) (fun (q : ¬ M 36 (nI b).toNatClampNeg ≤ x) => ?_)
    · rw [eb] at q
      exact tail2 x M (by rw [re_am, ← hx, re_m1, if_pos q])
    · rw [eb] at q
      refine mx_go mo_Re_addMoves 10 (pc' := 53) (ls' := [.ref 27, .int (nI a), .int (nI b), .int f, .int g, .int x]) (st' := []) (M' := mx_up (mx_up M 36 (nI b).toNatClampNeg x) 37 (nI b).toNatClampNeg 0) rfl ⟨hvb, hvb, trivial⟩ ?_
      rw [eb]
      exact tail2 x _ (by rw [re_am, ← hx, re_m1, if_neg q])
  refine mx_bd (n0 := 5) hl (by decide +kernel) rfl rfl rfl ?_
  refine mx_go mo_Re_addMoves 9 (pc' := 13) (ls' := [.ref 27, .int (nI a), .int (nI b), .int f, .int g, .null]) (st' := [.int f, .int (M 37 (nI a).toNatClampNeg), .int (M 36 (nI a).toNatClampNeg)]) (M' := M) rfl ⟨hva, hva, trivial⟩ ?_
  rw [ea]
  refine mx_cNi mo_Re_addMoves 0 (As := [.int (M 37 a), .int f]) (rest := [.int (M 36 a)]) rfl (ct_Pe_contains hl _ _) rfl trivial rfl kn_Re_77 kd_Pe_contains rfl rfl rfl ?_
  refine mx_if mo_Re_addMoves 0 (t := 23) (f := 19) rfl trivial (fun q => ?_) (fun q => ?_)
  · refine mx_go mo_Re_addMoves 3 (pc' := 27) (ls' := [.ref 27, .int (nI a), .int (nI b), .int f, .int g, .int (M 36 a + 1)]) (st' := []) (M' := M) rfl trivial ?_
    exact tail1 _ (by rw [re_th, if_pos q])
  · refine mx_go mo_Re_addMoves 4 (pc' := 27) (ls' := [.ref 27, .int (nI a), .int (nI b), .int f, .int g, .int (M 36 a + 0)]) (st' := []) (M' := M) rfl trivial ?_
    exact tail1 _ (by rw [re_th, if_neg q])
theorem re_am_off {a b c : Nat} {f g : Int32} (h1 : c ≠ 36) (h2 : c ≠ 37) : re_am M a b f g c = M c := by
  have q1 : ∀ x, re_m1 M b x c = M c := fun x => by
    unfold re_m1
    split
    · rfl
    · rw [mx_up_off h2, mx_up_off h1]
  unfold re_am re_m2
  split
  · rw [mx_up_off h2, q1]
  · rw [q1]
/-- jump k tried from position i, at most L positions -/
def re_k (L i k : Nat) (M : mx_M) : mx_M :=
  if pg_mk (M 29 i) (M 10 k) (M 9 k) = -1 then M else
  if M 30 (hs_f (M 30) (M 29) (pg_mk (M 29 i) (M 10 k) (M 9 k)) 1024 (fo_h (pg_mk (M 29 i) (M 10 k) (M 9 k)))) = 0 then
    (if L ≤ (M 28 2).toNatClampNeg then mx_up M 27 6 1 else
      re_am (re_en (fo0_in M (M 28 2).toNatClampNeg (hs_f (M 30) (M 29) (pg_mk (M 29 i) (M 10 k) (M 9 k)) 1024 (fo_h (pg_mk (M 29 i) (M 10 k) (M 9 k)))) (pg_mk (M 29 i) (M 10 k) (M 9 k))) (M 28 2).toNatClampNeg i k) i (M 28 2).toNatClampNeg (M 6 k) (M 8 k))
  else re_am M i (re_no M (pg_mk (M 29 i) (M 10 k) (M 9 k))).toNatClampNeg (M 6 k) (M 8 k)
/-- the table is right, and has room -/
def re_ok (M : mx_M) (L : Nat) : Prop := L ≤ 500 ∧ (M 27 6 = 0 ∨ M 27 6 = 1) ∧ ∃ n, n ≤ L ∧ M 28 2 = nI n ∧ hs_ok fo_h (M 30) (M 29) n
theorem re_ok_fo {L : Nat} (h : re_ok M L) : fo_ok (M 30) := by
  obtain ⟨h1, -, n, h2, -, h3⟩ := h
  intro t ht
  rcases h3.2.2.1 t ht with q | ⟨i, hi, q⟩
  · exact Or.inl q
  · exact Or.inr ⟨i, by omega, q⟩
theorem re_no_in {L : Nat} (h : re_ok M L) (p : Int32) : (M 30 (hs_f (M 30) (M 29) p 1024 (fo_h p)) = 0 ∧ re_no M p = -1) ∨ ∃ i, i < (M 28 2).toNatClampNeg ∧ M 29 i = p ∧ re_no M p = nI i := by
  obtain ⟨h1, -, n, h2, h3, h4⟩ := h
  obtain ⟨k, -, k2, -, k4⟩ := hs_find h4 p
  have hn : n ≤ 500 := h4.1
  rcases k4 with ⟨q1, -⟩ | ⟨i, hi, q1, q2⟩
  · refine Or.inl ⟨by rw [k2]; exact q1, ?_⟩
    rw [re_no, k2, q1]; decide
  · refine Or.inr ⟨i, by rw [h3, nI_clamp (by omega)]; exact hi, q1, ?_⟩
    rw [re_no, k2, q2, nI_pred]
end RE
