/-! PegBoardsModel: classes. -/
section MC2
variable {l : Launch} {sc : Nat × (Nat → Int32)} {d : Nat} {M : mx_M}
def mo_cn (A : mx_M) (v : Int32) (n : Nat) : mx_M := mx_up (mx_up A 59 n v) 41 26 (nI (n + 1))
def mo_cs (A : mx_M) (g : Nat → Int32) : Nat → mx_M
  | 0 => mx_up A 41 26 0
  | s + 1 => if ∃ i, i < s ∧ g i = g s then mo_cs A g s else mo_cn (mo_cs A g s) (g s) (le_c g s)
theorem mo_cs_off {A : mx_M} {g : Nat → Int32} {c : Nat} (h1 : c ≠ 41) (h2 : c ≠ 59) : ∀ s, mo_cs A g s c = A c := by
  intro s
  induction s with
  | zero => rw [mo_cs, mx_up_off h1]
  | succ s ih =>
    rw [mo_cs]
    split
    · exact ih
    · rw [mo_cn, mx_up_off h1, mx_up_off h2, ih]
theorem mo_cs_41 {A : mx_M} {g : Nat → Int32} {c : Nat} (h1 : c ≠ 26) : ∀ s, mo_cs A g s 41 c = A 41 c := by
  intro s
  induction s with
  | zero => rw [mo_cs, mx_up_row]; simp [upd, h1]
  | succ s ih =>
    rw [mo_cs]
    split
    · exact ih
    · rw [mo_cn, mx_up_row, mx_up_off (by decide)]; simp [upd, h1, ih]
theorem mo_cs_ok {A : mx_M} {g : Nat → Int32} : ∀ s, le_c g s ≤ s ∧ mo_cs A g s 41 26 = nI (le_c g s) ∧ ∀ p, (∃ i, i < le_c g s ∧ mo_cs A g s 59 i = p) ↔ ∃ i, i < s ∧ g i = p := by
  intro s
  induction s with
  | zero =>
    refine ⟨Nat.le_refl _, by rw [mo_cs, mx_up_row]; simp [upd, le_c]; rfl, fun p => ?_⟩
    constructor
    · rintro ⟨i, hi, -⟩; exact absurd hi (Nat.not_lt_zero i)
    · rintro ⟨i, hi, -⟩; exact absurd hi (Nat.not_lt_zero i)
  | succ s ih =>
    obtain ⟨a1, a2, a3⟩ := ih
    rw [mo_cs, le_c]
    by_cases hx : ∃ i, i < s ∧ g i = g s
    · rw [if_pos hx, if_pos hx]
      refine ⟨by omega, a2, fun p => ?_⟩
      rw [Nat.add_zero, a3 p]
      constructor
      · rintro ⟨i, hi, e⟩; exact ⟨i, by omega, e⟩
      · rintro ⟨i, hi, e⟩
        by_cases hin : i = s
        · subst hin
          obtain ⟨j, hj, ej⟩ := hx
          exact ⟨j, hj, by rw [ej, e]⟩
        · exact ⟨i, by omega, e⟩
    · rw [if_neg hx, if_neg hx]
      have e59 : mo_cn (mo_cs A g s) (g s) (le_c g s) 59 = upd (mo_cs A g s 59) (le_c g s) (g s) := by
        rw [mo_cn, mx_up_off (by decide), mx_up_row]
      refine ⟨by omega, by rw [mo_cn, mx_up_row]; simp [upd], fun p => ?_⟩
      rw [e59]
      constructor
      · rintro ⟨i, hi, e⟩
        by_cases hin : i = le_c g s
        · subst hin
          simp [upd] at e
          exact ⟨s, by omega, e⟩
        · simp [upd, hin] at e
          obtain ⟨i', hi', e'⟩ := (a3 p).mp ⟨i, by omega, e⟩
          exact ⟨i', by omega, e'⟩
      · rintro ⟨i, hi, e⟩
        by_cases hin : i = s
        · subst hin
          exact ⟨le_c g i, by omega, by simp [upd, e]⟩
        · obtain ⟨i', hi', e'⟩ := (a3 p).mpr ⟨i, by omega, e⟩
          exact ⟨i', by omega, by simp [upd, show i' ≠ le_c g s by omega, e']⟩
def mo_classes (R : Bool × mx_M) (N s : Nat) : Int32 × mx_M := if R.1 then (nI (le_c (fun i => mo_lo (R.2 49) (R.2 54 i) N s) (R.2 41 20).toNatClampNeg), mo_cs R.2 (fun i => mo_lo (R.2 49) (R.2 54 i) N s) (R.2 41 20).toNatClampNeg) else (-2, R.2)
theorem ct_Mo_classes (hl : l.stackTraces = false) {J N s : Nat} (hJ : J ≤ 120) (hs : M 41 8 = nI J) (lim : Int32) (hN : N ≤ 20) (hy : ¬ M 41 2 = 0 → s ≤ 12 ∧ M 41 12 = nI s ∧ M 41 3 = nI N) :
    mx_Ct l (pg_L sc) mY_Mo_classes (d + 3) 0 [.ref 41, .int lim] M (mx_rI (mo_rw M lim (mo_classes (mo_go (mx_up M 41 0 0) lim.toNatClampNeg J) N s)).1 (mo_rw M lim (mo_classes (mo_go (mx_up M 41 0 0) lim.toNatClampNeg J) N s)).2) := by
  refine mx_bd (n0 := 2) hl (by decide +kernel) rfl rfl rfl ?_
  refine mx_cVi mo_Mo_classes 2 (As := [.int lim]) (rest := []) rfl (ct_Mo_cannot hl lim) rfl trivial rfl rfl rfl kv_Mo_139 kd_Mo_cannot rfl rfl rfl ?_
  rw [mo_rw]
  by_cases hc : mo_cc M lim = 0
  case neg =>
    rw [if_neg hc, if_neg hc]
    refine mx_if mo_Mo_classes 0 (t := 10) (f := 8) rfl trivial (fun (q : (1 : Int32) = 0) => absurd q (by decide)) (fun _ => ?_)
    exact mx_ret_i mo_Mo_classes rfl 1 rfl trivial rfl ⟨rfl, rfl⟩
  rw [if_pos hc, if_pos hc, hc]
  refine mx_if mo_Mo_classes 0 (t := 10) (f := 8) rfl trivial (fun _ => ?_) (fun q => absurd rfl q)
  obtain ⟨hfz, L, h1, h5, rfl⟩ := mo_cc0 hc
  rw [nI_clamp (by omega)]
  have hs' : mx_up M 41 0 0 41 8 = nI J := hs
  refine mx_cVi mo_Mo_classes 2 (As := [.int (nI L)]) (rest := []) rfl (ct_Mo_reach hl h1 h5 hJ hs') rfl trivial rfl rfl rfl kv_Mo_142 kd_Mo_reach rfl rfl rfl ?_
  have hk : mo_ok (mo_go (mx_up M 41 0 0) L J).2 L := (mo_ra_ok L 0 _ (mo_s0_ok h1 h5).1).1
  obtain ⟨y1, y2, y3⟩ := hy hfz
  obtain ⟨-, -, -, o4, o5⟩ := mo_ra_ok (J := J) L 0 _ (mo_s0_ok (M := mx_up M 41 0 0) h1 h5).1
  have r3 : (mo_go (mx_up M 41 0 0) L J).2 41 3 = nI N := by rw [mo_go, o5 3 (by decide), mo_s0_41 (by decide)]; exact y3
  have r12 : (mo_go (mx_up M 41 0 0) L J).2 41 12 = nI s := by rw [mo_go, o5 12 (by decide), mo_s0_41 (by decide)]; exact y2
  clear o4 o5
  generalize mo_go (mx_up M 41 0 0) L J = R at hk r3 r12 ⊢
  obtain ⟨rb, A⟩ := R
  dsimp only at hk r3 r12 ⊢
  rw [mo_classes]
  cases rb with
  | false =>
    rw [if_neg Bool.false_ne_true, if_neg Bool.false_ne_true]
    refine mx_if mo_Mo_classes 0 (t := 21) (f := 18) rfl trivial (fun q => absurd rfl q) (fun _ => ?_)
    exact mx_ret_i mo_Mo_classes rfl 1 rfl trivial rfl ⟨rfl, rfl⟩
  | true =>
    rw [if_pos rfl, if_pos rfl]
    refine mx_if mo_Mo_classes 0 (t := 21) (f := 18) rfl trivial (fun _ => ?_) (fun (q : (1 : Int32) = 0) => absurd q (by decide))
    obtain ⟨-, n, g2, g3, -⟩ := hk
    have hn : (A 41 20).toNatClampNeg = n := by rw [g3]; exact nI_clamp (by omega)
    dsimp only
    rw [hn]
    generalize hg : (fun i => mo_lo (A 49) (A 54 i) N s) = g
    have hgi : ∀ i, mo_lo (A 49) (A 54 i) N s = g i := fun i => by rw [← hg]
    have loop : ∀ (m t : Nat), n - t = m → t ≤ n → ∀ x y z : Value, mx_E l (pg_L sc) mY_Mo_classes (d + 3) 0 (mx_rI (nI (le_c g n)) (mo_cs A g n)) 28 [.ref 41, .int (nI L), .int (nI t), x, y, z] [] (mo_cs A g t) := by
      intro m
      induction m with
      | zero =>
        intro t hm hle x y z
        have e : t = n := by omega
        subst e
        obtain ⟨-, a2, -⟩ := mo_cs_ok (A := A) (g := g) t
        refine mx_if mo_Mo_classes 3 (t := 122) (f := 36) rfl trivial (fun _ => ?_) (fun (q : ¬ mo_cs A g t 41 20 ≤ nI t) => ?_)
        · exact mx_ret_i mo_Mo_classes rfl 2 (v := mo_cs A g t 41 26) rfl trivial rfl ⟨by rw [a2], rfl⟩
        · rw [mo_cs_41 (by decide), g3] at q; exact absurd (nI_le (Nat.le_refl t) (by omega)) q
      | succ m ih =>
        intro t hm hle x y z
        obtain ⟨a1, a2, a3⟩ := mo_cs_ok (A := A) (g := g) t
        have et : (nI t).toNatClampNeg = t := nI_clamp (by omega)
        have next : ∀ x y z : Value, mx_E l (pg_L sc) mY_Mo_classes (d + 3) 0 (mx_rI (nI (le_c g n)) (mo_cs A g n)) 116 [.ref 41, .int (nI L), .int (nI t), x, y, z] [] (mo_cs A g (t + 1)) := by
          intro x y z
          refine mx_go mo_Mo_classes 2 (pc' := 28) (ls' := [.ref 41, .int (nI L), .int (nI t + 1), x, y, z]) (st' := []) rfl trivial ?_
          rw [nI_1]
          exact ih (t + 1) (by omega) (by omega) x y z
        rw [mo_cs] at next
        have b49 : mo_cs A g t 49 = A 49 := mo_cs_off (by decide) (by decide) t
        have b54 : mo_cs A g t 54 = A 54 := mo_cs_off (by decide) (by decide) t
        have b20 : mo_cs A g t 41 20 = nI n := by rw [mo_cs_41 (by decide)]; exact g3
        have b12 : mo_cs A g t 41 12 = nI s := by rw [mo_cs_41 (by decide)]; exact r12
        have b3 : mo_cs A g t 41 3 = nI N := by rw [mo_cs_41 (by decide)]; exact r3
        generalize mo_cs A g t = B at a2 a3 next b49 b54 b20 b12 b3 ⊢
        refine mx_if mo_Mo_classes 3 (t := 122) (f := 36) rfl trivial (fun (q : B 41 20 ≤ nI t) => ?_) (fun _ => ?_)
        · rw [b20] at q; exact absurd q (nI_ge (by omega) (by omega))
        refine mx_go mo_Mo_classes 5 (pc' := 43) (ls' := [.ref 41, .int (nI L), .int (nI t), x, y, z]) (st' := [.int (B 54 (nI t).toNatClampNeg), .ref 41]) (M' := B) rfl ⟨vp_in_nI (N := 500) (by omega) (by decide), trivial⟩ ?_
        rw [et]
        refine mx_cVi mo_Mo_classes 0 (As := [.int (B 54 t)]) (rest := []) rfl (ct_Mo_leastOf hl y1 hN b12 b3 (B 54 t)) rfl trivial rfl rfl rfl kv_Mo_158 kd_Mo_leastOf rfl rfl rfl ?_
        rw [b49, b54, hgi]
        -- is it among the kinds
        have yes : (∃ i, i < t ∧ g i = g t) → ∀ z : Value, mx_E l (pg_L sc) mY_Mo_classes (d + 3) 0 (mx_rI (nI (le_c g n)) (mo_cs A g n)) 91 [.ref 41, .int (nI L), .int (nI t), .int (g t), .int 1, z] [] B := by
          intro c z
          rw [if_pos c] at next
          exact mx_if mo_Mo_classes 1 (t := 116) (f := 96) rfl trivial (fun _ => next _ _ _) (fun (q : (1 : Int32) = 0) => absurd q (by decide))
        have no : ¬ (∃ i, i < t ∧ g i = g t) → ∀ z : Value, mx_E l (pg_L sc) mY_Mo_classes (d + 3) 0 (mx_rI (nI (le_c g n)) (mo_cs A g n)) 91 [.ref 41, .int (nI L), .int (nI t), .int (g t), .int 0, z] [] B := by
          intro c z
          rw [if_neg c] at next
          refine mx_if mo_Mo_classes 1 (t := 116) (f := 96) rfl trivial (fun q => absurd rfl q) (fun _ => ?_)
          refine mx_go mo_Mo_classes 12 (pc' := 116) (ls' := [.ref 41, .int (nI L), .int (nI t), .int (g t), .int 0, z]) (st' := []) (M' := mx_up (mx_up B 59 (B 41 26).toNatClampNeg (g t)) 41 26 (B 41 26 + 1)) rfl ⟨by rw [a2]; exact vp_in_nI (N := 500) (by omega) (by decide), trivial⟩ ?_
          rw [a2, nI_clamp (by omega), nI_1]
          exact next _ _ _
        have look : ∀ (m2 k : Nat), le_c g t - k = m2 → k ≤ le_c g t → (∀ j, j < k → ¬ B 59 j = g t) → mx_E l (pg_L sc) mY_Mo_classes (d + 3) 0 (mx_rI (nI (le_c g n)) (mo_cs A g n)) 53 [.ref 41, .int (nI L), .int (nI t), .int (g t), .int 0, .int (nI k)] [] B := by
          intro m2
          induction m2 with
          | zero =>
            intro k hm2 hle2 hno
            have e : k = le_c g t := by omega
            refine mx_if mo_Mo_classes 3 (t := 91) (f := 62) rfl trivial (fun _ => ?_) (fun (q : ¬ B 41 26 ≤ nI k) => ?_)
            · refine no (fun c => ?_) _
              obtain ⟨i, hi, ei⟩ := (a3 (g t)).mpr c
              exact hno i (by omega) ei
            · rw [a2, e] at q; exact absurd (nI_le (Nat.le_refl _) (by omega)) q
          | succ m2 ih2 =>
            intro k hm2 hle2 hno
            have ek : (nI k).toNatClampNeg = k := nI_clamp (by omega)
            refine mx_if mo_Mo_classes 3 (t := 91) (f := 62) rfl trivial (fun (q : B 41 26 ≤ nI k) => ?_) (fun _ => ?_)
            · rw [a2] at q; exact absurd q (nI_ge (by omega) (by omega))
            refine mx_if mo_Mo_classes 1 (t := 91) (f := 67) rfl trivial (fun q => absurd rfl q) (fun _ => ?_)
            refine mx_if mo_Mo_classes 5 (t := 82) (f := 78) rfl ⟨vp_in_nI (N := 500) (by omega) (by decide), trivial⟩ (fun (q : ¬ B 59 (nI k).toNatClampNeg = g t) => ?_) (fun (q : B 59 (nI k).toNatClampNeg = g t) => ?_)
            · rw [ek] at q
              refine mx_go mo_Mo_classes 4 (pc' := 53) (ls' := [.ref 41, .int (nI L), .int (nI t), .int (g t), .int 0, .int (nI k + 1)]) (st' := []) (M' := B) rfl trivial ?_
              rw [nI_1]
              refine ih2 (k + 1) (by omega) (by omega) (fun j hj => ?_)
              by_cases hjk : j = k
              · rw [hjk]; exact q
              · exact hno j (by omega)
            · rw [ek] at q
              have hc : ∃ i, i < t ∧ g i = g t := (a3 (g t)).mp ⟨k, by omega, q⟩
              refine mx_go mo_Mo_classes 5 (pc' := 53) (ls' := [.ref 41, .int (nI L), .int (nI t), .int (g t), .int 1, .int (nI k + 1)]) (st' := []) (M' := B) rfl trivial ?_
              refine mx_if mo_Mo_classes 3 (t := 91) (f := 62) rfl trivial (fun _ => yes hc _) (fun _ => ?_)
              exact mx_if mo_Mo_classes 1 (t := 91) (f := 67) rfl trivial (fun _ => yes hc _) (fun (q : (1 : Int32) = 0) => absurd q (by decide))
        exact mx_go mo_Mo_classes 5 (pc' := 53) (ls' := [.ref 41, .int (nI L), .int (nI t), .int (g t), .int 0, .int (nI 0)]) (st' := []) (M' := B) rfl trivial (look (le_c g t) 0 (by omega) (by omega) (fun j hj => absurd hj (Nat.not_lt_zero j)))
    exact mx_go mo_Mo_classes 5 (pc' := 28) (ls' := [.ref 41, .int (nI L), .int (nI 0), .null, .null, .null]) (st' := []) (M' := mo_cs A g 0) rfl trivial (loop n 0 (by omega) (by omega) _ _ _)
end MC2
