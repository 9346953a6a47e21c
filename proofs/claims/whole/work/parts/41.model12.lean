/-! PegBoardsModel: parity. -/
section MP2
variable {l : Launch} {sc : Nat × (Nat → Int32)} {d : Nat} {M : mx_M}
def mo_pc (x : Nat → Int32) (t p : Int32) : Nat → Int32
  | 0 => 0
  | h + 1 => if mo_bit p (nI h) = 1 then (if x h = t then mo_pc x t p h else mo_pc x t p h + 1) else mo_pc x t p h
def mo_r2 (x : Int32) : Int32 := x - x / 2 * 2
def mo_pr (f g : Nat → Int32) (p : Int32) (N : Nat) : Int32 :=
  8 * mo_r2 (mo_pc (fun h => pg_r3 (f h + g h)) 2 p N) + 4 * mo_r2 (mo_pc (fun h => pg_r3 (f h + g h)) 0 p N) + 2 * mo_r2 (mo_pc (fun h => pg_r3 (f h - g h + 9)) 2 p N) + mo_r2 (mo_pc (fun h => pg_r3 (f h - g h + 9)) 0 p N)
def mo_parity (M : mx_M) (p : Int32) (N : Nat) : Int32 × mx_M := if ¬ p < 0 ∧ p < mo_all M then ((if M 41 1 = 0 then mo_pr (M 44) (M 45) p N else -1), mx_up M 41 0 0) else (0, mx_up M 41 0 1)
theorem ct_Mo_parity (hl : l.stackTraces = false) {N : Nat} (hN : N ≤ 20) (hh : M 41 3 = nI N) (p : Int32) : mx_Ct l (pg_L sc) mY_Mo_parity (d + 1) 0 [.ref 41, .int p] M (mx_rI (mo_parity M p N).1 (mo_parity M p N).2) := by
  refine mx_bd (n0 := 2) hl (by decide +kernel) rfl rfl rfl ?_
  refine mx_cVi mo_Mo_parity 3 (As := [.int p]) (rest := [.ref 41]) rfl (ct_Mo_noPosition hl p) rfl trivial rfl rfl rfl kv_Mo_117 kd_Mo_noPosition rfl rfl rfl ?_
  rw [mo_parity]
  by_cases c : ¬ p < 0 ∧ p < mo_all M
  case neg =>
    rw [if_neg c, if_neg c]
    refine mx_if mo_Mo_parity 0 (t := 13) (f := 9) rfl trivial (fun (q : (1 : Int32) = 0) => absurd q (by decide)) (fun _ => ?_)
    refine mx_if mo_Mo_parity 5 (t := 26) (f := 24) rfl trivial (fun (q : (1 : Int32) ≤ 0) => absurd q (by decide)) (fun _ => ?_)
    exact mx_ret_i mo_Mo_parity rfl 1 rfl trivial rfl ⟨rfl, rfl⟩
  rw [if_pos c, if_pos c]
  refine mx_if mo_Mo_parity 0 (t := 13) (f := 9) rfl trivial (fun _ => ?_) (fun q => absurd rfl q)
  refine mx_if mo_Mo_parity 4 (t := 26) (f := 24) rfl trivial (fun _ => ?_) (fun (q : ¬ (0 : Int32) ≤ 0) => absurd (by decide) q)
  refine mx_if mo_Mo_parity 2 (t := 35) (f := 33) rfl trivial (fun (q : M 41 1 = 0) => ?_) (fun (q : ¬ M 41 1 = 0) => ?_)
  case refine_2 =>
    rw [if_neg q]
    exact mx_ret_i mo_Mo_parity rfl 1 rfl trivial rfl ⟨rfl, rfl⟩
  rw [if_pos q]
  generalize hA : mx_up M 41 0 (Int32.ofInt 0) = A
  have a3 : A 41 3 = nI N := by rw [← hA]; exact hh
  have e44 : M 44 = A 44 := by rw [← hA]; rfl
  have e45 : M 45 = A 45 := by rw [← hA]; rfl
  have hA0 : mx_up M 41 0 0 = A := hA
  rw [e44, e45, hA0]
  clear hA hA0 e44 e45
  generalize hX : (fun h => pg_r3 (A 44 h + A 45 h)) = X
  generalize hZ : (fun h => pg_r3 (A 44 h - A 45 h + 9)) = Z
  have hXi : ∀ h, pg_r3 (A 44 h + A 45 h) = X h := fun h => by rw [← hX]
  have hZi : ∀ h, pg_r3 (A 44 h - A 45 h + 9) = Z h := fun h => by rw [← hZ]
  rw [mo_pr, hX, hZ]
  have loop : ∀ (m h : Nat), N - h = m → h ≤ N → ∀ x y : Value, mx_E l (pg_L sc) mY_Mo_parity (d + 1) 0 (mx_rI (8 * mo_r2 (mo_pc X 2 p N) + 4 * mo_r2 (mo_pc X 0 p N) + 2 * mo_r2 (mo_pc Z 2 p N) + mo_r2 (mo_pc Z 0 p N)) A) 48 [.ref 41, .int p, .int (mo_pc X 2 p h), .int (mo_pc X 0 p h), .int (mo_pc Z 2 p h), .int (mo_pc Z 0 p h), .int (nI h), x, y] [] A := by
    intro m
    induction m with
    | zero =>
      intro h hm hle x y
      have e : h = N := by omega
      subst e
      refine mx_if mo_Mo_parity 3 (t := 174) (f := 57) rfl trivial (fun _ => ?_) (fun (q : ¬ A 41 3 ≤ nI h) => ?_)
      · exact mx_ret_i mo_Mo_parity rfl 21 (v := 8 * mo_r2 (mo_pc X 2 p h) + 4 * mo_r2 (mo_pc X 0 p h) + 2 * mo_r2 (mo_pc Z 2 p h) + mo_r2 (mo_pc Z 0 p h)) rfl ⟨by decide, by decide, by decide, by decide, trivial⟩ rfl ⟨rfl, rfl⟩
      · rw [a3] at q; exact absurd (nI_le (Nat.le_refl h) (by omega)) q
    | succ m ih =>
      intro h hm hle x y
      have e : (nI h).toNatClampNeg = h := nI_clamp (by omega)
      have hv : vp_in (nI h) 20 := vp_in_nI (by omega) (by decide)
      refine mx_if mo_Mo_parity 3 (t := 174) (f := 57) rfl trivial (fun (q : A 41 3 ≤ nI h) => ?_) (fun _ => ?_)
      · rw [a3] at q; exact absurd q (nI_ge (by omega) (by omega))
      have hI := ih (h + 1) (by omega) (by omega)
      have u1 : ∀ (x : Nat → Int32) (t : Int32), mo_pc x t p (h + 1) = (if mo_bit p (nI h) = 1 then (if x h = t then mo_pc x t p h else mo_pc x t p h + 1) else mo_pc x t p h) := fun _ _ => rfl
      rw [u1, u1, u1, u1] at hI
      refine mx_cSi mo_Mo_parity 2 (As := [.int p, .int (nI h)]) (rest := []) rfl (ct_Mo_bit hl p (nI h)) rfl trivial rfl ks_Mo_120 kd_Mo_bit rfl rfl rfl ?_
      generalize mo_pc X 2 p h = a at hI ⊢
      generalize mo_pc X 0 p h = b at hI ⊢
      generalize mo_pc Z 2 p h = cc at hI ⊢
      generalize mo_pc Z 0 p h = dd at hI ⊢
      have next : ∀ a' b' c' d' : Int32, ∀ x y : Value, (if mo_bit p (nI h) = 1 then (if X h = 2 then a else a + 1) else a) = a' → (if mo_bit p (nI h) = 1 then (if X h = 0 then b else b + 1) else b) = b' → (if mo_bit p (nI h) = 1 then (if Z h = 2 then cc else cc + 1) else cc) = c' → (if mo_bit p (nI h) = 1 then (if Z h = 0 then dd else dd + 1) else dd) = d' → mx_E l (pg_L sc) mY_Mo_parity (d + 1) 0 (mx_rI (8 * mo_r2 (mo_pc X 2 p N) + 4 * mo_r2 (mo_pc X 0 p N) + 2 * mo_r2 (mo_pc Z 2 p N) + mo_r2 (mo_pc Z 0 p N)) A) 168 [.ref 41, .int p, .int a', .int b', .int c', .int d', .int (nI h), x, y] [] A := by
        intro a' b' c' d' x y ha hb hc hd
        rw [ha, hb, hc, hd] at hI
        refine mx_go mo_Mo_parity 2 (pc' := 48) (ls' := [.ref 41, .int p, .int a', .int b', .int c', .int d', .int (nI h + 1), x, y]) (st' := []) (M' := A) rfl trivial ?_
        rw [nI_1]
        exact hI x y
      refine mx_if mo_Mo_parity 1 (t := 168) (f := 67) rfl trivial (fun (q : ¬ mo_bit p (nI h) = 1) => ?_) (fun (q : mo_bit p (nI h) = 1) => ?_)
      · exact next _ _ _ _ _ _ (if_neg q) (if_neg q) (if_neg q) (if_neg q)
      rw [if_pos q, if_pos q, if_pos q, if_pos q] at next
      refine mx_go mo_Mo_parity 26 (pc' := 108) (ls' := [.ref 41, .int p, .int a, .int b, .int cc, .int dd, .int (nI h), .int (pg_r3 (A 44 (nI h).toNatClampNeg + A 45 (nI h).toNatClampNeg)), .int (pg_r3 (A 44 (nI h).toNatClampNeg - A 45 (nI h).toNatClampNeg + 9))]) (st' := []) (M' := A) rfl ⟨hv, hv, by decide, hv, hv, by decide, trivial⟩ ?_
      rw [e, hXi, hZi]
      generalize X h = X0 at next ⊢
      generalize Z h = Z0 at next ⊢
      have s4 : ∀ a' b' c' : Int32, (if X0 = 2 then a else a + 1) = a' → (if X0 = 0 then b else b + 1) = b' → (if Z0 = 2 then cc else cc + 1) = c' → mx_E l (pg_L sc) mY_Mo_parity (d + 1) 0 (mx_rI (8 * mo_r2 (mo_pc X 2 p N) + 4 * mo_r2 (mo_pc X 0 p N) + 2 * mo_r2 (mo_pc Z 2 p N) + mo_r2 (mo_pc Z 0 p N)) A) 152 [.ref 41, .int p, .int a', .int b', .int c', .int dd, .int (nI h), .int X0, .int Z0] [] A := by
        intro a' b' c' ha hb hc
        refine mx_if mo_Mo_parity 1 (t := 162) (f := 157) rfl trivial (fun (r : ¬ Z0 = 0) => ?_) (fun (r : Z0 = 0) => ?_)
        · exact mx_go mo_Mo_parity 4 (pc' := 168) (ls' := [.ref 41, .int p, .int a', .int b', .int c', .int (dd + 1), .int (nI h), .int X0, .int Z0]) (st' := []) (M' := A) rfl trivial (next _ _ _ _ _ _ ha hb hc (if_neg r))
        · exact mx_go mo_Mo_parity 3 (pc' := 168) (ls' := [.ref 41, .int p, .int a', .int b', .int c', .int dd, .int (nI h), .int X0, .int Z0]) (st' := []) (M' := A) rfl trivial (next _ _ _ _ _ _ ha hb hc (if_pos r))
      have s3 : ∀ a' b' : Int32, (if X0 = 2 then a else a + 1) = a' → (if X0 = 0 then b else b + 1) = b' → mx_E l (pg_L sc) mY_Mo_parity (d + 1) 0 (mx_rI (8 * mo_r2 (mo_pc X 2 p N) + 4 * mo_r2 (mo_pc X 0 p N) + 2 * mo_r2 (mo_pc Z 2 p N) + mo_r2 (mo_pc Z 0 p N)) A) 135 [.ref 41, .int p, .int a', .int b', .int cc, .int dd, .int (nI h), .int X0, .int Z0] [] A := by
        intro a' b' ha hb
        refine mx_if mo_Mo_parity 2 (t := 146) (f := 141) rfl trivial (fun (r : ¬ Z0 = 2) => ?_) (fun (r : Z0 = 2) => ?_)
        · exact mx_go mo_Mo_parity 4 (pc' := 152) (ls' := [.ref 41, .int p, .int a', .int b', .int (cc + 1), .int dd, .int (nI h), .int X0, .int Z0]) (st' := []) (M' := A) rfl trivial (s4 _ _ _ ha hb (if_neg r))
        · exact mx_go mo_Mo_parity 3 (pc' := 152) (ls' := [.ref 41, .int p, .int a', .int b', .int cc, .int dd, .int (nI h), .int X0, .int Z0]) (st' := []) (M' := A) rfl trivial (s4 _ _ _ ha hb (if_pos r))
      have s2 : ∀ a' : Int32, (if X0 = 2 then a else a + 1) = a' → mx_E l (pg_L sc) mY_Mo_parity (d + 1) 0 (mx_rI (8 * mo_r2 (mo_pc X 2 p N) + 4 * mo_r2 (mo_pc X 0 p N) + 2 * mo_r2 (mo_pc Z 2 p N) + mo_r2 (mo_pc Z 0 p N)) A) 122 [.ref 41, .int p, .int a', .int b, .int cc, .int dd, .int (nI h), .int X0, .int Z0] [] A := by
        intro a' ha
        refine mx_if mo_Mo_parity 1 (t := 131) (f := 127) rfl trivial (fun (r : ¬ X0 = 0) => ?_) (fun (r : X0 = 0) => ?_)
        · exact mx_go mo_Mo_parity 4 (pc' := 135) (ls' := [.ref 41, .int p, .int a', .int (b + 1), .int cc, .int dd, .int (nI h), .int X0, .int Z0]) (st' := []) (M' := A) rfl trivial (s3 _ _ ha (if_neg r))
        · exact mx_go mo_Mo_parity 3 (pc' := 135) (ls' := [.ref 41, .int p, .int a', .int b, .int cc, .int dd, .int (nI h), .int X0, .int Z0]) (st' := []) (M' := A) rfl trivial (s3 _ _ ha (if_pos r))
      refine mx_if mo_Mo_parity 2 (t := 118) (f := 114) rfl trivial (fun (r : ¬ X0 = 2) => ?_) (fun (r : X0 = 2) => ?_)
      · exact mx_go mo_Mo_parity 4 (pc' := 122) (ls' := [.ref 41, .int p, .int (a + 1), .int b, .int cc, .int dd, .int (nI h), .int X0, .int Z0]) (st' := []) (M' := A) rfl trivial (s2 _ (if_neg r))
      · exact mx_go mo_Mo_parity 3 (pc' := 122) (ls' := [.ref 41, .int p, .int a, .int b, .int cc, .int dd, .int (nI h), .int X0, .int Z0]) (st' := []) (M' := A) rfl trivial (s2 _ (if_pos r))
  exact mx_go mo_Mo_parity 10 (pc' := 48) (ls' := [.ref 41, .int p, .int 0, .int 0, .int 0, .int 0, .int (nI 0), .null, .null]) (st' := []) (M' := A) rfl trivial (loop N 0 (by omega) (by omega) _ _)
end MP2
