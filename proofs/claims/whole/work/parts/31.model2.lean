/-! PegBoardsModel: jumps, positions, and its table. -/
section MP
variable {l : Launch} {sc : Nat × (Nat → Int32)} {d : Nat} {M : mx_M}
theorem ct_Mo_symmetries (hl : l.stackTraces = false) : mx_Ct l (pg_L sc) mY_Mo_symmetries d 0 [.ref 41] M (mx_rI (M 41 12) (mx_up M 41 0 0)) := by
  refine mx_bd (n0 := 1) hl (by decide +kernel) rfl rfl rfl ?_
  exact mx_ret_i mo_Mo_symmetries rfl 5 rfl trivial rfl ⟨rfl, rfl⟩
theorem ct_Mo_noHole (hl : l.stackTraces = false) (k : Int32) : mx_Ct l (pg_L sc) mY_Mo_noHole d 0 [.ref 41, .int k] M (mx_rI (if ¬ M 41 2 = 0 ∧ ¬ k < 0 ∧ k < M 41 3 then 0 else 1) M) := by
  refine mx_bd (n0 := 2) hl (by decide +kernel) rfl rfl rfl ?_
  have fin : ¬ (¬ M 41 2 = 0 ∧ ¬ k < 0 ∧ k < M 41 3) → mx_E l (pg_L sc) mY_Mo_noHole d 0 (mx_rI (if ¬ M 41 2 = 0 ∧ ¬ k < 0 ∧ k < M 41 3 then 0 else 1) M) 19 [.ref 41, .int k] [] M := fun c => mx_ret_z mo_Mo_noHole rfl 2 rfl trivial rfl (Or.inr rfl) ⟨by rw [if_neg c]; rfl, rfl⟩
  refine mx_if mo_Mo_noHole 2 (t := 19) (f := 7) rfl trivial (fun (q : M 41 2 = 0) => fin (fun c => c.1 q)) (fun (q0 : ¬ M 41 2 = 0) => ?_)
  refine mx_if mo_Mo_noHole 1 (t := 19) (f := 11) rfl trivial (fun q => fin (fun c => c.2.1 q)) (fun q => ?_)
  refine mx_if mo_Mo_noHole 3 (t := 23) (f := 19) rfl trivial (fun q1 => ?_) (fun q1 => fin (fun c => q1 c.2.2))
  exact mx_ret_z mo_Mo_noHole rfl 1 rfl trivial rfl (Or.inl rfl) ⟨by rw [if_pos ⟨q0, q, q1⟩]; rfl, rfl⟩
def mo_jump (M : mx_M) (k w : Int32) : Int32 × mx_M := if (¬ k < 0 ∧ k < M 41 8) ∧ ¬ w < 0 ∧ w ≤ 2 then ((if w = 0 then M 46 k.toNatClampNeg else if w = 1 then M 47 k.toNatClampNeg else M 48 k.toNatClampNeg), mx_up M 41 0 0) else (0, mx_up M 41 0 1)
theorem ct_Mo_jump (hl : l.stackTraces = false) {J : Nat} (hJ : J ≤ 120) (hs : M 41 8 = nI J) (k w : Int32) : mx_Ct l (pg_L sc) mY_Mo_jump (d + 1) 0 [.ref 41, .int k, .int w] M (mx_rI (mo_jump M k w).1 (mo_jump M k w).2) := by
  refine mx_bd (n0 := 3) hl (by decide +kernel) rfl rfl rfl ?_
  refine mx_cVi mo_Mo_jump 3 (As := [.int k]) (rest := [.ref 41]) rfl (ct_Mo_noJump hl k) rfl trivial rfl rfl rfl kv_Mo_114 kd_Mo_noJump rfl rfl rfl ?_
  rw [mo_jump]
  have fin : ¬ ((¬ k < 0 ∧ k < M 41 8) ∧ ¬ w < 0 ∧ w ≤ 2) → mx_E l (pg_L sc) mY_Mo_jump (d + 1) 0 (mx_rI (if (¬ k < 0 ∧ k < M 41 8) ∧ ¬ w < 0 ∧ w ≤ 2 then (((if w = 0 then M 46 k.toNatClampNeg else if w = 1 then M 47 k.toNatClampNeg else M 48 k.toNatClampNeg), mx_up M 41 0 0) : Int32 × mx_M) else (0, mx_up M 41 0 1)).1 (if (¬ k < 0 ∧ k < M 41 8) ∧ ¬ w < 0 ∧ w ≤ 2 then (((if w = 0 then M 46 k.toNatClampNeg else if w = 1 then M 47 k.toNatClampNeg else M 48 k.toNatClampNeg), mx_up M 41 0 0) : Int32 × mx_M) else (0, mx_up M 41 0 1)).2) 18 [.ref 41, .int k, .int w] [.ref 41] M := by
    intro c
    rw [if_neg c]
    refine mx_if mo_Mo_jump 5 (t := 37) (f := 33) rfl trivial (fun (q : (1 : Int32) ≤ 0) => absurd q (by decide)) (fun _ => ?_)
    exact mx_ret_i mo_Mo_jump rfl 2 rfl trivial rfl ⟨rfl, rfl⟩
  by_cases c : ¬ k < 0 ∧ k < M 41 8
  · rw [if_pos c]
    refine mx_if mo_Mo_jump 0 (t := 18) (f := 9) rfl trivial (fun q => absurd rfl q) (fun _ => ?_)
    refine mx_if mo_Mo_jump 1 (t := 18) (f := 13) rfl trivial (fun q => fin (fun c => c.2.1 q)) (fun (q1 : ¬ w < 0) => ?_)
    refine mx_if mo_Mo_jump 2 (t := 22) (f := 18) rfl trivial (fun (q2 : w ≤ 2) => ?_) (fun q2 => fin (fun c => q2 c.2.2))
    rw [if_pos ⟨c, q1, q2⟩]
    rw [hs] at c
    obtain ⟨j, hj, rfl⟩ := nI_inJ (by omega) c
    have hv : vp_in (nI j) 120 := vp_in_nI (by omega) (by decide)
    refine mx_if mo_Mo_jump 4 (t := 37) (f := 33) rfl trivial (fun _ => ?_) (fun (q : ¬ (0 : Int32) ≤ 0) => absurd (by decide) q)
    refine mx_if mo_Mo_jump 1 (t := 50) (f := 41) rfl trivial (fun (q3 : ¬ w = 0) => ?_) (fun (q3 : w = 0) => ?_)
    · rw [if_neg q3]
      refine mx_if mo_Mo_jump 2 (t := 64) (f := 55) rfl trivial (fun (q4 : ¬ w = 1) => ?_) (fun (q4 : w = 1) => ?_)
      · rw [if_neg q4]
        exact mx_ret_i mo_Mo_jump rfl 4 (v := M 48 (nI j).toNatClampNeg) rfl ⟨hv, trivial⟩ rfl ⟨rfl, rfl⟩
      · rw [if_pos q4]
        exact mx_ret_i mo_Mo_jump rfl 5 (v := M 47 (nI j).toNatClampNeg) rfl ⟨hv, trivial⟩ rfl ⟨rfl, rfl⟩
    · rw [if_pos q3]
      exact mx_ret_i mo_Mo_jump rfl 5 (v := M 46 (nI j).toNatClampNeg) rfl ⟨hv, trivial⟩ rfl ⟨rfl, rfl⟩
  · rw [if_neg c]
    exact mx_if mo_Mo_jump 0 (t := 18) (f := 9) rfl trivial (fun _ => fin (fun c2 => c c2.1)) (fun (q : (1 : Int32) = 0) => absurd q (by decide))
def mo_place (M : mx_M) (b p : Int32) : mx_M := if ¬ p < 0 ∧ p < mo_all M then (if b = 0 then mx_up (mx_up (mx_up M 41 0 0) 41 16 p) 41 17 (M 41 17) else mx_up (mx_up (mx_up M 41 0 0) 41 16 (M 41 16)) 41 17 p) else mx_up M 41 0 1
theorem ct_Mo_place (hl : l.stackTraces = false) (b p : Int32) : mx_Ct l (pg_L sc) mY_Mo_place (d + 1) 0 [.ref 41, .int b, .int p] M (mx_rV (mo_place M b p)) := by
  refine mx_bd (n0 := 3) hl (by decide +kernel) rfl rfl rfl ?_
  refine mx_cVi mo_Mo_place 3 (As := [.int p]) (rest := [.ref 41]) rfl (ct_Mo_noPosition hl p) rfl trivial rfl rfl rfl kv_Mo_117 kd_Mo_noPosition rfl rfl rfl ?_
  rw [mo_place]
  by_cases c : ¬ p < 0 ∧ p < mo_all M
  · rw [if_pos c, if_pos c]
    refine mx_if mo_Mo_place 0 (t := 13) (f := 9) rfl trivial (fun _ => ?_) (fun q => absurd rfl q)
    refine mx_if mo_Mo_place 4 (t := 25) (f := 24) rfl trivial (fun _ => ?_) (fun (q : ¬ (0 : Int32) ≤ 0) => absurd (by decide) q)
    refine mx_if mo_Mo_place 2 (t := 37) (f := 30) rfl trivial (fun (q : b = 0) => ?_) (fun (q : ¬ b = 0) => ?_)
    · rw [if_pos q]
      refine mx_if mo_Mo_place 4 (t := 50) (f := 46) rfl trivial (fun _ => ?_) (fun (q2 : ¬ b = 0) => absurd q q2)
      exact mx_ret_v mo_Mo_place rfl 3 (M' := mx_up (mx_up (mx_up M 41 0 0) 41 16 p) 41 17 (M 41 17)) rfl trivial rfl ⟨rfl, rfl⟩
    · rw [if_neg q]
      refine mx_if mo_Mo_place 6 (t := 50) (f := 46) rfl trivial (fun (q2 : b = 0) => absurd q2 q) (fun _ => ?_)
      exact mx_ret_v mo_Mo_place rfl 3 (M' := mx_up (mx_up (mx_up M 41 0 0) 41 16 (M 41 16)) 41 17 p) rfl trivial rfl ⟨rfl, rfl⟩
  · rw [if_neg c, if_neg c]
    refine mx_if mo_Mo_place 0 (t := 13) (f := 9) rfl trivial (fun (q : (1 : Int32) = 0) => absurd q (by decide)) (fun _ => ?_)
    refine mx_if mo_Mo_place 5 (t := 25) (f := 24) rfl trivial (fun (q : (1 : Int32) ≤ 0) => absurd q (by decide)) (fun _ => ?_)
    exact mx_ret_v mo_Mo_place rfl 0 rfl trivial rfl ⟨rfl, rfl⟩
def mo_bit (p h : Int32) : Int32 := (p >>> (h &&& 31)) &&& 1
theorem ct_Mo_bit (hl : l.stackTraces = false) (p h : Int32) : mx_Ct l (pg_L sc) mY_Mo_bit d 0 [.int p, .int h] M (mx_rI (mo_bit p h) M) := by
  refine mx_bd (n0 := 2) hl (by decide +kernel) rfl rfl rfl ?_
  exact mx_ret_i mo_Mo_bit rfl 5 rfl trivial rfl ⟨rfl, rfl⟩
def mo_mk (p f o t : Int32) : Int32 := if mo_bit p f + mo_bit p o < 2 then -1 else if mo_bit p t = 1 then -1 else p - (1 <<< (f &&& 31)) - (1 <<< (o &&& 31)) + (1 <<< (t &&& 31))
theorem ct_Mo_made (hl : l.stackTraces = false) (p : Int32) {k : Nat} (hk : k < 120) : mx_Ct l (pg_L sc) mY_Mo_made (d + 1) 0 [.ref 41, .int p, .int (nI k)] M (mx_rI (mo_mk p (M 46 k) (M 47 k) (M 48 k)) M) := by
  have hv : vp_in (nI k) 120 := vp_in_nI hk (by decide)
  have e : (nI k).toNatClampNeg = k := nI_clamp (by omega)
  refine mx_bd (n0 := 3) hl (by decide +kernel) rfl rfl rfl ?_
  refine mx_go mo_Mo_made 5 (pc' := 7) (ls' := [.ref 41, .int p, .int (nI k)]) (st' := [.int (M 46 (nI k).toNatClampNeg), .int p]) (M' := M) rfl ⟨hv, trivial⟩ ?_
  rw [e]
  refine mx_cSi mo_Mo_made 0 (As := [.int p, .int (M 46 k)]) (rest := []) rfl (ct_Mo_bit hl p _) rfl trivial rfl ks_Mo_120 kd_Mo_bit rfl rfl rfl ?_
  refine mx_go mo_Mo_made 5 (pc' := 17) (ls' := [.ref 41, .int p, .int (nI k)]) (st' := [.int (M 47 (nI k).toNatClampNeg), .int p, .int (mo_bit p (M 46 k))]) (M' := M) rfl ⟨hv, trivial⟩ ?_
  rw [e]
  refine mx_cSi mo_Mo_made 0 (As := [.int p, .int (M 47 k)]) (rest := [.int (mo_bit p (M 46 k))]) rfl (ct_Mo_bit hl p _) rfl trivial rfl ks_Mo_120 kd_Mo_bit rfl rfl rfl ?_
  rw [mo_mk]
  refine mx_if mo_Mo_made 2 (t := 39) (f := 25) rfl trivial (fun (q : mo_bit p (M 46 k) + mo_bit p (M 47 k) < 2) => ?_) (fun (q : ¬ mo_bit p (M 46 k) + mo_bit p (M 47 k) < 2) => ?_)
  · rw [if_pos q]
    exact mx_ret_i mo_Mo_made rfl 1 rfl trivial rfl ⟨rfl, rfl⟩
  rw [if_neg q]
  refine mx_go mo_Mo_made 5 (pc' := 32) (ls' := [.ref 41, .int p, .int (nI k)]) (st' := [.int (M 48 (nI k).toNatClampNeg), .int p]) (M' := M) rfl ⟨hv, trivial⟩ ?_
  rw [e]
  refine mx_cSi mo_Mo_made 0 (As := [.int p, .int (M 48 k)]) (rest := []) rfl (ct_Mo_bit hl p _) rfl trivial rfl ks_Mo_120 kd_Mo_bit rfl rfl rfl ?_
  refine mx_if mo_Mo_made 1 (t := 41) (f := 39) rfl trivial (fun (q : ¬ mo_bit p (M 48 k) = 1) => ?_) (fun (q : mo_bit p (M 48 k) = 1) => ?_)
  · rw [if_neg q]
    refine mx_ret_i mo_Mo_made rfl 22 (v := p - (1 <<< (M 46 (nI k).toNatClampNeg &&& 31)) - (1 <<< (M 47 (nI k).toNatClampNeg &&& 31)) + (1 <<< (M 48 (nI k).toNatClampNeg &&& 31))) rfl ⟨hv, hv, hv, trivial⟩ rfl ⟨by rw [e], rfl⟩
  · rw [if_pos q]
    exact mx_ret_i mo_Mo_made rfl 1 rfl trivial rfl ⟨rfl, rfl⟩
def mo_after (M : mx_M) (p k : Int32) : Int32 × mx_M := if ¬ k < 0 ∧ k < M 41 8 then (if ¬ p < 0 ∧ p < mo_all M then (mo_mk p (M 46 k.toNatClampNeg) (M 47 k.toNatClampNeg) (M 48 k.toNatClampNeg), mx_up M 41 0 0) else (0, mx_up M 41 0 2)) else (0, mx_up M 41 0 1)
theorem ct_Mo_after (hl : l.stackTraces = false) {J : Nat} (hJ : J ≤ 120) (hs : M 41 8 = nI J) (p k : Int32) : mx_Ct l (pg_L sc) mY_Mo_after (d + 2) 0 [.ref 41, .int p, .int k] M (mx_rI (mo_after M p k).1 (mo_after M p k).2) := by
  refine mx_bd (n0 := 3) hl (by decide +kernel) rfl rfl rfl ?_
  refine mx_cVi mo_Mo_after 3 (As := [.int k]) (rest := [.ref 41]) rfl (ct_Mo_noJump hl k) rfl trivial rfl rfl rfl kv_Mo_114 kd_Mo_noJump rfl rfl rfl ?_
  rw [mo_after]
  by_cases c : ¬ k < 0 ∧ k < M 41 8
  · rw [if_pos c, if_pos c]
    refine mx_if mo_Mo_after 0 (t := 13) (f := 9) rfl trivial (fun _ => ?_) (fun q => absurd rfl q)
    refine mx_cVi mo_Mo_after 2 (As := [.int p]) (rest := [.ref 41]) rfl (ct_Mo_noPosition hl p) rfl trivial rfl rfl rfl kv_Mo_117 kd_Mo_noPosition rfl rfl rfl ?_
    by_cases c2 : ¬ p < 0 ∧ p < mo_all M
    · rw [if_pos c2, if_pos c2]
      rw [hs] at c
      obtain ⟨j, hj, rfl⟩ := nI_inJ (by omega) c
      refine mx_if mo_Mo_after 0 (t := 25) (f := 21) rfl trivial (fun _ => ?_) (fun q => absurd rfl q)
      refine mx_if mo_Mo_after 4 (t := 40) (f := 36) rfl trivial (fun _ => ?_) (fun (q : ¬ (0 : Int32) ≤ 0) => absurd (by decide) q)
      refine mx_cVi mo_Mo_after 3 (As := [.int p, .int (nI j)]) (rest := []) rfl (ct_Mo_made hl p (by omega)) rfl trivial rfl rfl rfl kv_Mo_123 kd_Mo_made rfl rfl rfl ?_
      exact mx_ret_i mo_Mo_after rfl 0 rfl trivial rfl ⟨by rw [nI_clamp (by omega)]; rfl, rfl⟩
    · rw [if_neg c2, if_neg c2]
      refine mx_if mo_Mo_after 0 (t := 25) (f := 21) rfl trivial (fun (q : (1 : Int32) = 0) => absurd q (by decide)) (fun _ => ?_)
      refine mx_if mo_Mo_after 5 (t := 40) (f := 36) rfl trivial (fun (q : (2 : Int32) ≤ 0) => absurd q (by decide)) (fun _ => ?_)
      exact mx_ret_i mo_Mo_after rfl 2 rfl trivial rfl ⟨rfl, rfl⟩
  · rw [if_neg c, if_neg c]
    refine mx_if mo_Mo_after 0 (t := 13) (f := 9) rfl trivial (fun (q : (1 : Int32) = 0) => absurd q (by decide)) (fun _ => ?_)
    refine mx_if mo_Mo_after 5 (t := 40) (f := 36) rfl trivial (fun (q : (1 : Int32) ≤ 0) => absurd q (by decide)) (fun _ => ?_)
    exact mx_ret_i mo_Mo_after rfl 2 rfl trivial rfl ⟨rfl, rfl⟩
def mo_weight (M : mx_M) (h w : Int32) : mx_M := if ¬ M 41 2 = 0 ∧ ¬ h < 0 ∧ h < M 41 3 then (if w < 0 ∨ ¬ w ≤ 60 then mx_up M 41 0 2 else mx_up (mx_up M 41 0 0) 52 h.toNatClampNeg w) else mx_up M 41 0 1
theorem ct_Mo_weight (hl : l.stackTraces = false) {N : Nat} (hN : N ≤ 20) (hs : M 41 3 = nI N) (h w : Int32) : mx_Ct l (pg_L sc) mY_Mo_weight (d + 1) 0 [.ref 41, .int h, .int w] M (mx_rV (mo_weight M h w)) := by
  refine mx_bd (n0 := 3) hl (by decide +kernel) rfl rfl rfl ?_
  refine mx_cVi mo_Mo_weight 3 (As := [.int h]) (rest := [.ref 41]) rfl (ct_Mo_noHole hl h) rfl trivial rfl rfl rfl kv_Mo_161 kd_Mo_noHole rfl rfl rfl ?_
  rw [mo_weight]
  by_cases c : ¬ M 41 2 = 0 ∧ ¬ h < 0 ∧ h < M 41 3
  · rw [if_pos c, if_pos c]
    refine mx_if mo_Mo_weight 0 (t := 13) (f := 9) rfl trivial (fun _ => ?_) (fun q => absurd rfl q)
    have fin : (w < 0 ∨ ¬ w ≤ 60) → mx_E l (pg_L sc) mY_Mo_weight (d + 1) 0 (mx_rV (if w < 0 ∨ ¬ w ≤ 60 then mx_up M 41 0 2 else mx_up (mx_up M 41 0 0) 52 h.toNatClampNeg w)) 23 [.ref 41, .int h, .int w] [.ref 41] M := by
      intro q
      rw [if_pos q]
      refine mx_if mo_Mo_weight 5 (t := 45) (f := 38) rfl trivial (fun _ => ?_) (fun (q : (2 : Int32) = 0) => absurd q (by decide))
      exact mx_ret_v mo_Mo_weight rfl 0 rfl trivial rfl ⟨rfl, rfl⟩
    refine mx_if mo_Mo_weight 1 (t := 23) (f := 17) rfl trivial (fun q1 => fin (Or.inl q1)) (fun (q1 : ¬ w < 0) => ?_)
    refine mx_if mo_Mo_weight 2 (t := 27) (f := 23) rfl trivial (fun (q2 : w ≤ 60) => ?_) (fun (q2 : ¬ w ≤ 60) => fin (Or.inr q2))
    rw [if_neg (fun c => c.elim q1 (fun c => c q2))]
    have c2 := c.2
    rw [hs] at c2
    obtain ⟨j, hj, rfl⟩ := nI_inJ (by omega) c2
    refine mx_if mo_Mo_weight 4 (t := 45) (f := 38) rfl trivial (fun q => absurd rfl q) (fun _ => ?_)
    exact mx_ret_v mo_Mo_weight rfl 5 (M' := mx_up (mx_up M 41 0 0) 52 (nI j).toNatClampNeg w) rfl ⟨vp_in_nI (N := 20) (by omega) (by decide), trivial⟩ rfl ⟨rfl, rfl⟩
  · rw [if_neg c, if_neg c]
    refine mx_if mo_Mo_weight 0 (t := 13) (f := 9) rfl trivial (fun (q : (1 : Int32) = 0) => absurd q (by decide)) (fun _ => ?_)
    refine mx_if mo_Mo_weight 5 (t := 45) (f := 38) rfl trivial (fun _ => ?_) (fun (q : (1 : Int32) = 0) => absurd q (by decide))
    exact mx_ret_v mo_Mo_weight rfl 0 rfl trivial rfl ⟨rfl, rfl⟩
end MP
