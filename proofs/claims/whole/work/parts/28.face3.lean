/-! PegBoards: the rest of its face. -/
section FC
variable {l : Launch} {sc : Nat × (Nat → Int32)} {d n n' : Nat} {M : mx_M}
def pe_H (M : mx_M) : Int32 := if M 1 4 = 0 then 0 else M 1 5
def pe_image (M : mx_M) (k h : Int32) : mx_R := if ¬ k < 0 ∧ k < M 11 4 then (if ¬ h < 0 ∧ h < pe_H M then .inl (some (.int (M (13 + k.toNatClampNeg) h.toNatClampNeg))) else .inr xIO) else .inr xIO
theorem ct_Pe_image (hl : l.stackTraces = false) {s N : Nat} (hs : s ≤ 12) (hss : M 11 4 = nI s) (hN : N ≤ 20) (hH : pe_H M = nI N) (k h : Int32) : mx_Ct l (pg_L sc) mY_Pe_image (d + 2) 2 [.ref 0, .int k, .int h] M (mx_rA (pe_image M k h) M) := by
  refine mx_bd (n0 := 3) hl (by decide +kernel) rfl rfl rfl ?_
  rw [pe_image, hss, hH]
  have fin : ¬ (¬ k < 0 ∧ k < nI s) → mx_E l (pg_L sc) mY_Pe_image (d + 2) 2 (mx_rA (if ¬ k < 0 ∧ k < nI s then (if ¬ h < 0 ∧ h < nI N then .inl (some (.int (M (13 + k.toNatClampNeg) h.toNatClampNeg))) else .inr xIO) else .inr xIO) M) 15 [.ref 0, .int k, .int h] [] M :=
    fun q => mx_thr (n := 1) mo_Pe_image 0 (cls := xIO) (text := "no such symmetry") rfl rfl trivial rfl rfl rfl rfl rfl tw_IO (by decide +kernel) ⟨by rw [if_neg q], rfl⟩
  refine mx_if mo_Pe_image 1 (t := 15) (f := 4) rfl trivial (fun q => fin (fun c => c.1 q)) (fun (q : ¬ k < 0) => ?_)
  refine mx_cVi mo_Pe_image 3 (As := []) (rest := [.int k]) rfl (ct_Sy_size hl) rfl trivial rfl rfl rfl kv_Pe_151 kd_Sy_size rfl rfl rfl ?_
  rw [hss]
  refine mx_if mo_Pe_image 0 (t := 25) (f := 15) rfl trivial (fun (q2 : k < nI s) => ?_) (fun (q2 : ¬ k < nI s) => fin (fun c => q2 c.2))
  rw [if_pos ⟨q, q2⟩]
  obtain ⟨j, hj, rfl⟩ := nI_inJ (by omega) ⟨q, q2⟩
  have hrh := ct_Pe_requireHole (l := l) (sc := sc) (d := d) (M := M) hl h
  rw [show (if M 1 4 = 0 then 0 else M 1 5) = nI N from hH] at hrh
  refine mx_cVr (n := 1) (n' := 1) mo_Pe_image 2 (As := [.int h]) (rest := []) rfl hrh rfl trivial rfl rfl rfl kv_Pe_154 kd_Pe_requireHole rfl rfl rfl (fun q => ?_) (fun q => ⟨by rw [if_neg q], rfl⟩)
  rw [if_pos q]
  obtain ⟨i, hi, rfl⟩ := nI_inJ (by omega) q
  rw [nI_clamp (by omega), nI_clamp (by omega)]
  refine mx_cVi mo_Pe_image 4 (As := [.int (nI j), .int (nI i)]) (rest := []) rfl (ct_Sy_holeOf hl (by omega) (by omega)) rfl trivial rfl rfl rfl kv_Pe_157 kd_Sy_holeOf rfl rfl rfl ?_
  exact mx_ret_i mo_Pe_image rfl 0 rfl trivial rfl ⟨rfl, rfl⟩
def pe_least (M : mx_M) (p : Int32) (N s : Nat) : mx_R := if p &&& (pe_all M ^^^ (-1)) = 0 then (if ¬ M 1 4 = 0 then .inl (some (.int (sy_lo M p N s))) else .inr xIS) else .inr xIA
theorem ct_Pe_least (hl : l.stackTraces = false) {s N : Nat} (hf : M 1 4 = 0 ∨ M 1 4 = 1) (hy : ¬ M 1 4 = 0 → N ≤ 20 ∧ s ≤ 12 ∧ M 11 3 = nI N ∧ M 11 4 = nI s) (p : Int32) : mx_Ct l (pg_L sc) mY_Pe_least (d + 3) 2 [.ref 0, .int p] M (mx_rA (pe_least M p N s) M) := by
  refine mx_bd (n0 := 2) hl (by decide +kernel) rfl rfl rfl ?_
  rw [pe_least]
  refine mx_cVr (n := 1) (n' := 1) mo_Pe_least 2 (As := [.int p]) (rest := []) rfl (ct_Pe_requirePosition hl p) rfl trivial rfl rfl rfl kv_Pe_123 kd_Pe_requirePosition rfl rfl rfl (fun q => ?_) (fun q => ⟨by rw [if_neg q], rfl⟩)
  rw [if_pos q]
  refine mx_cVr (n := 0) (n' := 1) mo_Pe_least 1 (As := []) (rest := []) rfl (ct_Pe_requireFrozen (d := d + 1) hl hf) rfl trivial rfl rfl rfl kv_Pe_160 kd_Pe_requireFrozen rfl rfl rfl (fun q => ?_) (fun q => ⟨by rw [if_neg q], rfl⟩)
  rw [if_pos q]
  obtain ⟨y1, y2, y3, y4⟩ := hy q
  refine mx_cVi mo_Pe_least 3 (As := [.int p]) (rest := []) rfl (ct_Sy_leastOf hl y1 y2 y3 y4 p) rfl trivial rfl rfl rfl kv_Pe_163 kd_Sy_leastOf rfl rfl rfl ?_
  exact mx_ret_i mo_Pe_least rfl 0 rfl trivial rfl ⟨rfl, rfl⟩
def pe_parity (M : mx_M) (p : Int32) (N : Nat) : mx_R := if p &&& (pe_all M ^^^ (-1)) = 0 then .inl (some (.int (if M 1 3 = 0 then pg_cls (M 3) (M 4) p N else -1))) else .inr xIA
theorem ct_Pe_parity (hl : l.stackTraces = false) {N : Nat} (ht : M 1 3 = 0 ∨ M 1 3 = 1) (hN : N ≤ 20) (hH : pe_H M = nI N) (p : Int32) : mx_Ct l (pg_L sc) mY_Pe_parity (d + 3) 1 [.ref 0, .int p] M (mx_rA (pe_parity M p N) M) := by
  refine mx_bd (n0 := 2) hl (by decide +kernel) rfl rfl rfl ?_
  rw [pe_parity]
  refine mx_cVr (n := 0) (n' := 1) mo_Pe_parity 2 (As := [.int p]) (rest := []) rfl (ct_Pe_requirePosition hl p) rfl trivial rfl rfl rfl kv_Pe_123 kd_Pe_requirePosition rfl rfl rfl (fun q => ?_) (fun q => ⟨by rw [if_neg q], rfl⟩)
  rw [if_pos q]
  refine mx_cVi mo_Pe_parity 2 (As := []) (rest := []) rfl (ct_Bo_isTriangular hl ht) rfl trivial rfl rfl rfl kv_Pe_166 kd_Bo_isTriangular rfl rfl rfl ?_
  refine mx_if mo_Pe_parity 0 (t := 19) (f := 15) rfl trivial (fun q => ?_) (fun q => ?_)
  · rw [if_pos q]
    refine mx_cVi mo_Pe_parity 3 (As := [.int p]) (rest := []) rfl (ct_Bo_classOf hl p hN hH) rfl trivial rfl rfl rfl kv_Pe_169 kd_Bo_classOf rfl rfl rfl ?_
    exact mx_ret_i mo_Pe_parity rfl 0 rfl trivial rfl ⟨rfl, rfl⟩
  · exact mx_ret_i mo_Pe_parity rfl 2 (v := -1) rfl trivial rfl ⟨by rw [if_neg q], rfl⟩
def pe_weight (M : mx_M) (h w : Int32) : mx_R × mx_M := if ¬ h < 0 ∧ h < pe_H M then (if w < 0 ∨ ¬ w ≤ 60 then (.inr xIA, M) else (.inl none, mx_up M 39 h.toNatClampNeg w)) else (.inr xIO, M)
theorem ct_Pe_weight (hl : l.stackTraces = false) {N : Nat} (hN : N ≤ 20) (hH : pe_H M = nI N) (h w : Int32) : mx_Ct l (pg_L sc) mY_Pe_weight (d + 2) 2 [.ref 0, .int h, .int w] M (mx_rA (pe_weight M h w).1 (pe_weight M h w).2) := by
  refine mx_bd (n0 := 3) hl (by decide +kernel) rfl rfl rfl ?_
  rw [pe_weight, hH]
  have hrh := ct_Pe_requireHole (l := l) (sc := sc) (d := d) (M := M) hl h
  rw [show (if M 1 4 = 0 then 0 else M 1 5) = nI N from hH] at hrh
  refine mx_cVr (n := 1) (n' := 1) mo_Pe_weight 2 (As := [.int h]) (rest := []) rfl hrh rfl trivial rfl rfl rfl kv_Pe_154 kd_Pe_requireHole rfl rfl rfl (fun q => ?_) (fun q => ⟨by rw [if_neg q], by rw [if_neg q]⟩)
  rw [if_pos q]
  obtain ⟨i, hi, rfl⟩ := nI_inJ (by omega) q
  rw [nI_clamp (by omega)]
  have fin : (w < 0 ∨ ¬ w ≤ 60) → mx_E l (pg_L sc) mY_Pe_weight (d + 1 + 1) 1 (mx_rA (if w < 0 ∨ ¬ w ≤ 60 then ((.inr xIA, M) : mx_R × mx_M) else (.inl none, mx_up M 39 i w)).1 (if w < 0 ∨ ¬ w ≤ 60 then ((.inr xIA, M) : mx_R × mx_M) else (.inl none, mx_up M 39 i w)).2) 15 [.ref 0, .int (nI i), .int w] [] M := by
    intro q
    rw [if_pos q]
    exact mx_thr (n := 0) mo_Pe_weight 0 (cls := xIA) (text := "no such weight") rfl rfl trivial rfl rfl rfl rfl rfl tw_IA (by decide +kernel) ⟨rfl, rfl⟩
  refine mx_if mo_Pe_weight 1 (t := 15) (f := 9) rfl trivial (fun q1 => fin (Or.inl q1)) (fun (q1 : ¬ w < 0) => ?_)
  refine mx_if mo_Pe_weight 2 (t := 25) (f := 15) rfl trivial (fun (q2 : w ≤ 60) => ?_) (fun (q2 : ¬ w ≤ 60) => fin (Or.inr q2))
  rw [if_neg (fun c => c.elim q1 (fun c => c q2))]
  refine mx_cVv mo_Pe_weight 4 (As := [.int (nI i), .int w]) (rest := []) rfl (ct_We_put hl w (by omega)) rfl trivial rfl rfl rfl kv_Pe_174 kd_We_put rfl rfl rfl ?_
  exact mx_ret_v mo_Pe_weight rfl 0 rfl trivial rfl ⟨rfl, rfl⟩
def pe_weights (M : mx_M) (fr ov tt : Nat → Nat) (J : Nat) (w : Int32) : mx_R :=
  if w = 0 then .inl (some (.int (we_hold (M 39) fr ov tt J 0))) else if w = 1 then .inl (some (.int (we_sum (M 39) (M 0 5) 20))) else if w = 2 then .inl (some (.int (we_sum (M 39) (M 0 6) 20))) else
  if w < 0 then .inr xIO else if ¬ w - 3 < 0 ∧ w - 3 < pe_H M then .inl (some (.int (M 39 (w - 3).toNatClampNeg))) else .inr xIO
theorem we_hold01 {f : Nat → Int32} {fr ov tt : Nat → Nat} : ∀ m k, we_hold f fr ov tt m k = 0 ∨ we_hold f fr ov tt m k = 1 := by
  intro m
  induction m with
  | zero => intro k; exact Or.inr rfl
  | succ m ih =>
    intro k
    rw [we_hold]
    split
    · first | exact Or.inl rfl | exact ih _
    · first | exact ih _ | exact Or.inl rfl
theorem ct_Pe_weights (hl : l.stackTraces = false) {N J : Nat} {fr ov tt : Nat → Nat} (hN : N ≤ 20) (hH : pe_H M = nI N) (hj : ju_ok M J fr ov tt 20) (w : Int32) : mx_Ct l (pg_L sc) mY_Pe_weights (d + 2) 2 [.ref 0, .int w] M (mx_rA (pe_weights M fr ov tt J w) M) := by
  refine mx_bd (n0 := 2) hl (by decide +kernel) rfl rfl rfl ?_
  rw [pe_weights, hH]
  refine mx_ts mo_Pe_weights 1 (x := w) rfl trivial rfl (fun h1 h2 => ?_) (fun h => ?_)
  · rcases i3_of h1 h2 with rfl | rfl | rfl
    · refine ⟨27, 28, rfl, rfl, ?_⟩
      rw [if_pos rfl]
      refine mx_cVi mo_Pe_weights 4 (As := [.ref 5]) (rest := []) rfl (ct_We_hold hl hj) rfl trivial rfl rfl rfl kv_Pe_178 kd_We_hold rfl rfl rfl ?_
      have h01 := we_hold01 (f := M 39) (fr := fr) (ov := ov) (tt := tt) J 0
      refine mx_if mo_Pe_weights 0 (t := 46) (f := 42) rfl trivial (fun q => ?_) (fun q => ?_)
      · exact mx_ret_i mo_Pe_weights rfl 1 (v := 0) rfl trivial rfl ⟨by rw [show we_hold (M 39) fr ov tt J 0 = 0 from q], rfl⟩
      · exact mx_ret_i mo_Pe_weights rfl 2 (v := 1) rfl trivial rfl ⟨by rw [h01.resolve_left q], rfl⟩
    · refine ⟨47, 48, rfl, rfl, ?_⟩
      rw [if_neg (by decide), if_pos rfl]
      refine mx_cVi mo_Pe_weights 4 (As := [.int (M 0 5)]) (rest := []) rfl (ct_We_sumOf hl (M 0 5)) rfl trivial rfl rfl rfl kv_Pe_182 kd_We_sumOf rfl rfl rfl ?_
      exact mx_ret_i mo_Pe_weights rfl 0 rfl trivial rfl ⟨rfl, rfl⟩
    · refine ⟨59, 60, rfl, rfl, ?_⟩
      rw [if_neg (by decide), if_neg (by decide), if_pos rfl]
      refine mx_cVi mo_Pe_weights 4 (As := [.int (M 0 6)]) (rest := []) rfl (ct_We_sumOf hl (M 0 6)) rfl trivial rfl rfl rfl kv_Pe_182 kd_We_sumOf rfl rfl rfl ?_
      exact mx_ret_i mo_Pe_weights rfl 0 rfl trivial rfl ⟨rfl, rfl⟩
  · obtain ⟨h1, h2, h3⟩ := i3_no h
    refine ⟨72, rfl, ?_⟩
    rw [if_neg h1, if_neg h2, if_neg h3]
    refine mx_if mo_Pe_weights 1 (t := 86) (f := 76) rfl trivial (fun (q : (0 : Int32) ≤ w) => ?_) (fun (q : ¬ (0 : Int32) ≤ w) => ?_)
    · rw [if_neg (Int32.not_lt.mpr q)]
      have hrh := ct_Pe_requireHole (l := l) (sc := sc) (d := d) (M := M) hl (w - 3)
      rw [show (if M 1 4 = 0 then 0 else M 1 5) = nI N from hH] at hrh
      refine mx_cVr (n := 1) (n' := 1) mo_Pe_weights 4 (As := [.int (w - 3)]) (rest := []) rfl hrh rfl trivial rfl rfl rfl kv_Pe_154 kd_Pe_requireHole rfl rfl rfl (fun q => ?_) (fun q => ⟨by rw [if_neg q], rfl⟩)
      rw [if_pos q]
      obtain ⟨i, hi, ei⟩ := nI_inJ (by omega) q
      refine mx_go mo_Pe_weights 5 (pc' := 100) (ls' := [.ref 0, .int w]) (st' := [.int (w - 3), .ref 38]) (M' := M) rfl trivial ?_
      rw [ei, nI_clamp (by omega)]
      refine mx_cVi mo_Pe_weights 0 (As := [.int (nI i)]) (rest := []) rfl (ct_We_of hl (by omega)) rfl trivial rfl rfl rfl kv_Pe_187 kd_We_of rfl rfl rfl ?_
      exact mx_ret_i mo_Pe_weights rfl 0 rfl trivial rfl ⟨rfl, rfl⟩
    · rw [if_pos (Int32.not_le.mp q)]
      exact mx_thr (n := 1) mo_Pe_weights 0 (cls := xIO) (text := "less than 0") rfl rfl trivial rfl rfl rfl rfl rfl tw_IO (by decide +kernel) ⟨rfl, rfl⟩
def pe_find (M : mx_M) (fr ov tt : Nat → Nat) (J H : Nat) : mx_R × mx_M :=
  if ¬ M 1 4 = 0 then (if H ≤ 8 then (.inl (some (.int (if (we_tf fr ov tt J H (M 0 5) (M 0 6) 9 0 0 M).1 = 0 then 0 else 1))), we_sr (we_tf fr ov tt J H (M 0 5) (M 0 6) 9 0 0 M) H) else (.inr xIS, M)) else (.inr xIS, M)
theorem ct_Pe_find (hl : l.stackTraces = false) {H J : Nat} {fr ov tt : Nat → Nat} (hN : H ≤ 20) (hf : M 1 4 = 0 ∨ M 1 4 = 1) (hH : pe_H M = nI H) (hj : H ≤ 8 → ju_ok M J fr ov tt 8) : mx_Ct l (pg_L sc) mY_Pe_find (d + 12) 2 [.ref 0] M (mx_rA (pe_find M fr ov tt J H).1 (pe_find M fr ov tt J H).2) := by
  refine mx_bd (n0 := 1) hl (by decide +kernel) rfl rfl rfl ?_
  rw [pe_find]
  refine mx_cVr (n := 1) (n' := 1) mo_Pe_find 1 (As := []) (rest := []) rfl (ct_Pe_requireFrozen (d := d + 10) hl hf) rfl trivial rfl rfl rfl kv_Pe_160 kd_Pe_requireFrozen rfl rfl rfl (fun q => ?_) (fun q => ⟨by rw [if_neg q], by rw [if_neg q]⟩)
  rw [if_pos q]
  have hh : ∀ d, mx_Ct l (pg_L sc) mY_Bo_holes d 0 [.ref 1] M (mx_rI (nI H) M) := fun d => by
    have := ct_Bo_holes (l := l) (sc := sc) (d := d) (M := M) hl
    rw [show (if M 1 4 = 0 then 0 else M 1 5) = nI H from hH] at this
    exact this
  refine mx_cVi mo_Pe_find 2 (As := []) (rest := []) rfl (hh _) rfl trivial rfl rfl rfl kv_Pe_190 kd_Bo_holes rfl rfl rfl ?_
  refine mx_if mo_Pe_find 1 (t := 26) (f := 16) rfl trivial (fun (q1 : nI H ≤ nI 8) => ?_) (fun (q1 : ¬ nI H ≤ nI 8) => ?_)
  · rw [nI_leI (by omega) (by decide)] at q1
    rw [if_pos q1]
    refine mx_cVi mo_Pe_find 6 (As := []) (rest := [.ref 5, .ref 38]) rfl (hh _) rfl trivial rfl rfl rfl kv_Pe_190 kd_Bo_holes rfl rfl rfl ?_
    refine mx_cVi mo_Pe_find 4 (As := [.ref 5, .int (nI H), .int (M 0 5), .int (M 0 6)]) (rest := []) rfl (ct_We_search hl q1 (M 0 5) (M 0 6) (hj q1)) rfl trivial rfl rfl rfl kv_Pe_195 kd_We_search rfl rfl rfl ?_
    refine mx_ret_z mo_Pe_find rfl 0 rfl trivial rfl ?_ ⟨rfl, rfl⟩
    split
    · exact Or.inl rfl
    · exact Or.inr rfl
  · rw [nI_leI (by omega) (by decide)] at q1
    rw [if_neg q1]
    exact mx_thr (n := 0) mo_Pe_find 0 (cls := xIS) (text := "too many holes to try weights") rfl rfl trivial rfl rfl rfl rfl rfl tw_IS (by decide +kernel) ⟨rfl, rfl⟩
end FC
