/-! PegBoardsModel: pegs, spread. -/
section MW
variable {l : Launch} {sc : Nat × (Nat → Int32)} {d : Nat} {M : mx_M}
def mo_pg (p : Int32) : Nat → Int32
  | 0 => 0
  | h + 1 => mo_pg p h + mo_bit p (nI h)
theorem ct_Mo_pegs (hl : l.stackTraces = false) {N : Nat} (hN : N ≤ 20) (hh : M 41 3 = nI N) (p : Int32) : mx_Ct l (pg_L sc) mY_Mo_pegs (d + 1) 0 [.ref 41, .int p] M (mx_rI (mo_pg p N) M) := by
  have loop : ∀ (m h : Nat), N - h = m → h ≤ N → mx_E l (pg_L sc) mY_Mo_pegs (d + 1) 0 (mx_rI (mo_pg p N) M) 4 [.ref 41, .int p, .int (mo_pg p h), .int (nI h)] [] M := by
    intro m
    induction m with
    | zero =>
      intro h hm hle
      have e : h = N := by omega
      subst e
      refine mx_if mo_Mo_pegs 3 (t := 26) (f := 12) rfl trivial (fun _ => ?_) (fun (q : ¬ M 41 3 ≤ nI h) => ?_)
      · exact mx_ret_i mo_Mo_pegs rfl 1 rfl trivial rfl ⟨rfl, rfl⟩
      · rw [hh] at q; exact absurd (nI_le (Nat.le_refl h) (by omega)) q
    | succ m ih =>
      intro h hm hle
      refine mx_if mo_Mo_pegs 3 (t := 26) (f := 12) rfl trivial (fun (q : M 41 3 ≤ nI h) => ?_) (fun _ => ?_)
      · rw [hh] at q; exact absurd q (nI_ge (by omega) (by omega))
      refine mx_cSi mo_Mo_pegs 3 (As := [.int p, .int (nI h)]) (rest := [.int (mo_pg p h)]) rfl (ct_Mo_bit hl p (nI h)) rfl trivial rfl ks_Mo_120 kd_Mo_bit rfl rfl rfl ?_
      refine mx_go mo_Mo_pegs 4 (pc' := 4) (ls' := [.ref 41, .int p, .int (mo_pg p h + mo_bit p (nI h)), .int (nI h + 1)]) (st' := []) (M' := M) rfl trivial ?_
      rw [nI_1]
      exact ih (h + 1) (by omega) (by omega)
  refine mx_bd (n0 := 2) hl (by decide +kernel) rfl rfl rfl ?_
  exact mx_go mo_Mo_pegs 4 (pc' := 4) (ls' := [.ref 41, .int p, .int 0, .int (nI 0)]) (st' := []) (M' := M) rfl trivial (loop N 0 (by omega) (by omega))
/-- one of the 21 ways to come to position s, gone on by a jump of the peg in hole f to place a of the table -/
def mo_i1 (s a : Nat) (f : Int32) (h : Nat) (B : mx_M) : mx_M := mx_up B 58 a (if B 58 a ≤ B 58 (21 * s + h) + (if nI h = f then 0 else 1) then B 58 a else B 58 (21 * s + h) + (if nI h = f then 0 else 1))
def mo_i (s a : Nat) (f : Int32) (M : mx_M) : Nat → mx_M
  | 0 => M
  | h + 1 => mo_i1 s a f h (mo_i s a f M h)
theorem mo_i_off {s a : Nat} {f : Int32} {c : Nat} (hc : c ≠ 58) : ∀ h, mo_i s a f M h c = M c := by
  intro h
  induction h with
  | zero => rfl
  | succ h ih => rw [mo_i, mo_i1, mx_up_off hc, ih]
/-- the number of a position that was found -/
def mo_no (M : mx_M) (p : Int32) : Nat := (M 57 (mo_s M p) - 1).toNatClampNeg
def mo_sk (s k : Nat) (B : mx_M) : mx_M := if mo_q B s k < 0 then B else mo_i s (21 * mo_no B (mo_q B s k) + (B 48 k).toNatClampNeg) (B 46 k) B 21
def mo_sp (s : Nat) (M : mx_M) : Nat → mx_M
  | 0 => M
  | k + 1 => mo_sk s k (mo_sp s M k)
theorem mo_sk_off {s k c : Nat} (hc : c ≠ 58) : mo_sk s k M c = M c := by
  unfold mo_sk
  split
  · rfl
  · exact mo_i_off hc 21
theorem mo_sp_off {s c : Nat} (hc : c ≠ 58) : ∀ k, mo_sp s M k c = M c := by
  intro k
  induction k with
  | zero => rfl
  | succ k ih => rw [mo_sp, mo_sk_off hc, ih]
theorem ct_Mo_spread (hl : l.stackTraces = false) {J s n : Nat} {fr ov tt : Nat → Nat} (hj : mj_ok M J fr ov tt 20) (hn : hs_ok mo_h (M 57) (M 54) n) (hsn : s < n) (hcl : ∀ k, k < J → ¬ mo_q M s k < 0 → ¬ M 57 (mo_s M (mo_q M s k)) = 0) : mx_Ct l (pg_L sc) mY_Mo_spread (d + 2) 0 [.ref 41, .int (nI s)] M (mx_rV (mo_sp s M J)) := by
  obtain ⟨hs, hJ, hj⟩ := hj
  have hn5 : n ≤ 500 := hn.1
  have loop : ∀ (m k : Nat), J - k = m → k ≤ J → ∀ x y z w : Value, mx_E l (pg_L sc) mY_Mo_spread (d + 2) 0 (mx_rV (mo_sp s M J)) 2 [.ref 41, .int (nI s), .int (nI k), x, y, z, w] [] (mo_sp s M k) := by
    intro m
    induction m with
    | zero =>
      intro k hm hle x y z w
      have e : k = J := by omega
      subst e
      refine mx_if mo_Mo_spread 3 (t := 127) (f := 10) rfl trivial (fun _ => ?_) (fun (q : ¬ mo_sp s M k 41 8 ≤ nI k) => ?_)
      · exact mx_ret_v mo_Mo_spread rfl 0 rfl trivial rfl ⟨rfl, rfl⟩
      · rw [mo_sp_off (by decide), hs] at q; exact absurd (nI_le (Nat.le_refl k) (by omega)) q
    | succ m ih =>
      intro k hm hle x y z w
      obtain ⟨j1, j2, j3, j4, j5, j6⟩ := hj k (by omega)
      have hB : ∀ c, c ≠ 58 → mo_sp s M k c = M c := fun c hc => mo_sp_off hc k
      have next : ∀ x y z w : Value, mx_E l (pg_L sc) mY_Mo_spread (d + 2) 0 (mx_rV (mo_sp s M J)) 121 [.ref 41, .int (nI s), .int (nI k), x, y, z, w] [] (mo_sk s k (mo_sp s M k)) := by
        intro x y z w
        refine mx_go mo_Mo_spread 2 (pc' := 2) (ls' := [.ref 41, .int (nI s), .int (nI k + 1), x, y, z, w]) (st' := []) rfl trivial ?_
        rw [nI_1]
        exact ih (k + 1) (by omega) (by omega) x y z w
      have hcl := hcl k (by omega)
      have hnB : hs_ok mo_h (mo_sp s M k 57) (mo_sp s M k 54) n := by rw [hB 57 (by decide), hB 54 (by decide)]; exact hn
      have eq : mo_q M s k = mo_q (mo_sp s M k) s k := by unfold mo_q; rw [hB 54 (by decide), hB 46 (by decide), hB 47 (by decide), hB 48 (by decide)]
      have es : ∀ p, mo_s M p = mo_s (mo_sp s M k) p := fun p => by unfold mo_s; rw [hB 54 (by decide), hB 57 (by decide)]
      have b8 : mo_sp s M k 41 8 = nI J := by rw [hB 41 (by decide)]; exact hs
      have b46 : mo_sp s M k 46 k = nI (fr k) := by rw [hB 46 (by decide)]; exact j1
      have b48 : mo_sp s M k 48 k = nI (tt k) := by rw [hB 48 (by decide)]; exact j3
      rw [eq, es, ← hB 57 (by decide)] at hcl
      generalize mo_sp s M k = B at next hcl hnB b8 b46 b48 ⊢
      have ek : (nI k).toNatClampNeg = k := nI_clamp (by omega)
      have ess : (nI s).toNatClampNeg = s := nI_clamp (by omega)
      refine mx_if mo_Mo_spread 3 (t := 127) (f := 10) rfl trivial (fun (q : B 41 8 ≤ nI k) => ?_) (fun _ => ?_)
      · rw [b8] at q; exact absurd q (nI_ge (by omega) (by omega))
      refine mx_go mo_Mo_spread 6 (pc' := 18) (ls' := [.ref 41, .int (nI s), .int (nI k), x, y, z, w]) (st' := [.int (nI k), .int (B 54 (nI s).toNatClampNeg), .ref 41]) (M' := B) rfl ⟨vp_in_nI (N := 500) (by omega) (by decide), trivial⟩ ?_
      rw [ess]
      refine mx_cVi mo_Mo_spread 0 (As := [.int (B 54 s), .int (nI k)]) (rest := []) rfl (ct_Mo_made hl (B 54 s) (by omega)) rfl trivial rfl rfl rfl kv_Mo_123 kd_Mo_made rfl rfl rfl ?_
      change mx_E l (pg_L sc) mY_Mo_spread (d + 2) 0 _ 21 [.ref 41, .int (nI s), .int (nI k), x, y, z, w] [.int (mo_q B s k)] B
      unfold mo_sk at next
      generalize mo_q B s k = q at next hcl ⊢
      refine mx_if mo_Mo_spread 2 (t := 121) (f := 26) rfl trivial (fun (c1 : q < 0) => ?_) (fun (c1 : ¬ q < 0) => ?_)
      · rw [if_pos c1] at next
        exact next _ _ _ _
      rw [if_neg c1] at next
      refine mx_cVi mo_Mo_spread 3 (As := [.int q]) (rest := [.int 21]) rfl (ct_Mo_numberOf hl hnB q) rfl trivial rfl rfl rfl kv_Mo_136 kd_Mo_numberOf rfl rfl rfl ?_
      rcases mo_s_in hnB q with ⟨c2, -⟩ | ⟨i, hi, -, c2⟩
      · exact absurd c2 (hcl c1)
      have eno : mo_no B q = i := by rw [mo_no, c2, nI_pred, nI_clamp (by omega)]
      rw [eno, b48, b46, nI_clamp (by omega)] at next
      rw [c2, nI_pred]
      refine mx_go mo_Mo_spread 9 (pc' := 46) (ls' := [.ref 41, .int (nI s), .int (nI k), .int q, .int (nI 21 * nI i + B 48 (nI k).toNatClampNeg), .int (nI 0), w]) (st' := []) (M' := B) rfl ⟨vp_in_nI (N := 120) (by omega) (by decide), trivial⟩ ?_
      rw [ek, b48, pk_mul, nI_add]
      have ha : 21 * i + tt k < 10500 := by omega
      generalize 21 * i + tt k = a at next ha ⊢
      have hva : vp_in (nI a) 10500 := vp_in_nI ha (by decide)
      have ea : (nI a).toNatClampNeg = a := nI_clamp (by omega)
      have inner : ∀ (m2 h : Nat), 21 - h = m2 → h ≤ 21 → ∀ w : Value, mx_E l (pg_L sc) mY_Mo_spread (d + 2) 0 (mx_rV (mo_sp s M J)) 46 [.ref 41, .int (nI s), .int (nI k), .int q, .int (nI a), .int (nI h), w] [] (mo_i s a (nI (fr k)) B h) := by
        intro m2
        induction m2 with
        | zero =>
          intro h hm2 hle2 w
          have e : h = 21 := by omega
          subst e
          exact mx_if mo_Mo_spread 2 (t := 121) (f := 53) rfl trivial (fun _ => next _ _ _ _) (fun (q : ¬ nI 21 ≤ nI 21) => absurd (nI_le (Nat.le_refl 21) (by decide)) q)
        | succ m2 ih2 =>
          intro h hm2 hle2 w
          have c46 : mo_i s a (nI (fr k)) B h 46 k = nI (fr k) := by rw [mo_i_off (by decide)]; exact b46
          have nx2 : ∀ v x2 : Int32, mx_up (mo_i s a (nI (fr k)) B h) 58 a v = mo_i s a (nI (fr k)) B (h + 1) → mx_E l (pg_L sc) mY_Mo_spread (d + 2) 0 (mx_rV (mo_sp s M J)) 114 [.ref 41, .int (nI s), .int (nI k), .int q, .int (nI a), .int (nI h), .int x2] [.int v, .int (nI a), .ref 58] (mo_i s a (nI (fr k)) B h) := by
            intro v x2 hv
            refine mx_go mo_Mo_spread 3 (pc' := 46) (ls' := [.ref 41, .int (nI s), .int (nI k), .int q, .int (nI a), .int (nI h + 1), .int x2]) (st' := []) (M' := mx_up (mo_i s a (nI (fr k)) B h) 58 (nI a).toNatClampNeg v) rfl ⟨hva, trivial⟩ ?_
            rw [ea, hv, nI_1]
            exact ih2 (h + 1) (by omega) (by omega) _
          rw [mo_i, mo_i1] at nx2
          generalize mo_i s a (nI (fr k)) B h = C at c46 nx2 ⊢
          have hvs : vp_in (nI 21 * nI s + nI h) 10500 := by rw [pk_mul, nI_add]; exact vp_in_nI (by omega) (by decide)
          have es2 : (nI 21 * nI s + nI h).toNatClampNeg = 21 * s + h := by rw [pk_mul, nI_add]; exact nI_clamp (by omega)
          refine mx_if mo_Mo_spread 2 (t := 121) (f := 53) rfl trivial (fun (q : nI 21 ≤ nI h) => absurd q (nI_ge (by omega) (by decide))) (fun _ => ?_)
          have fin : ∀ x2 : Int32, x2 = C 58 (21 * s + h) + (if nI h = nI (fr k) then 0 else 1) → mx_E l (pg_L sc) mY_Mo_spread (d + 2) 0 (mx_rV (mo_sp s M J)) 84 [.ref 41, .int (nI s), .int (nI k), .int q, .int (nI a), .int (nI h), .int x2] [] C := by
            intro x2 hx2
            rw [← hx2] at nx2
            refine mx_if mo_Mo_spread 8 (t := 107) (f := 102) rfl ⟨hva, trivial⟩ (fun (c : C 58 (nI a).toNatClampNeg ≤ x2) => ?_) (fun (c : ¬ C 58 (nI a).toNatClampNeg ≤ x2) => ?_)
            · rw [ea] at c
              rw [if_pos c] at nx2
              refine mx_go mo_Mo_spread 4 (pc' := 114) (ls' := [.ref 41, .int (nI s), .int (nI k), .int q, .int (nI a), .int (nI h), .int x2]) (st' := [.int (C 58 (nI a).toNatClampNeg), .int (nI a), .ref 58]) (M' := C) rfl ⟨hva, trivial⟩ ?_
              rw [ea]
              exact nx2 _ _ rfl
            · rw [ea] at c
              rw [if_neg c] at nx2
              exact mx_go mo_Mo_spread 2 (pc' := 114) (ls' := [.ref 41, .int (nI s), .int (nI k), .int q, .int (nI a), .int (nI h), .int x2]) (st' := [.int x2, .int (nI a), .ref 58]) (M' := C) rfl trivial (nx2 _ _ rfl)
          refine mx_if mo_Mo_spread 13 (t := 80) (f := 76) rfl ⟨hvs, vp_in_nI (N := 120) (by omega) (by decide), trivial⟩ (fun (c : ¬ nI h = C 46 (nI k).toNatClampNeg) => ?_) (fun (c : nI h = C 46 (nI k).toNatClampNeg) => ?_)
          · rw [ek, c46] at c
            refine mx_go mo_Mo_spread 3 (pc' := 84) (ls' := [.ref 41, .int (nI s), .int (nI k), .int q, .int (nI a), .int (nI h), .int (C 58 (nI 21 * nI s + nI h).toNatClampNeg + 1)]) (st' := []) (M' := C) rfl trivial ?_
            exact fin _ (by rw [es2, if_neg c])
          · rw [ek, c46] at c
            refine mx_go mo_Mo_spread 4 (pc' := 84) (ls' := [.ref 41, .int (nI s), .int (nI k), .int q, .int (nI a), .int (nI h), .int (C 58 (nI 21 * nI s + nI h).toNatClampNeg + 0)]) (st' := []) (M' := C) rfl trivial ?_
            exact fin _ (by rw [es2, if_pos c])
      exact inner 21 0 (by omega) (by omega) w
  refine mx_bd (n0 := 2) hl (by decide +kernel) rfl rfl rfl ?_
  exact mx_go mo_Mo_spread 2 (pc' := 2) (ls' := [.ref 41, .int (nI s), .int (nI 0), .null, .null, .null, .null]) (st' := []) (M' := M) rfl trivial (loop J 0 (by omega) (by omega) _ _ _ _)
end MW
