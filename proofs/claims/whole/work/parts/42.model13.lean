/-! PegBoardsModel: isSymmetry. -/
section MQ2
variable {l : Launch} {sc : Nat × (Nat → Int32)} {d : Nat} {M : mx_M}
/-- where hole h comes to -/
def mo_z (M : mx_M) (k t h : Nat) : Int32 × Int32 := if k < t then sy_t (M 41 1) (k % t) (M 44 h) (M 45 h) else ((sy_t (M 41 1) (k % t) (M 44 h) (M 45 h)).2, (sy_t (M 41 1) (k % t) (M 44 h) (M 45 h)).1)
def mo_m9 (f : Nat → Int32) : Nat → Int32
  | 0 => 99
  | h + 1 => if mo_m9 f h ≤ f h then mo_m9 f h else f h
def mo_y1 (M : mx_M) (k t : Nat) : Nat → mx_M
  | 0 => M
  | h + 1 => mx_up (mx_up (mo_y1 M k t h) 50 h (mo_z M k t h).1) 51 h (mo_z M k t h).2
theorem mo_y1_off {k t c : Nat} (h1 : c ≠ 50) (h2 : c ≠ 51) : ∀ h, mo_y1 M k t h c = M c := by
  intro h
  induction h with
  | zero => rfl
  | succ h ih => rw [mo_y1, mx_up_off h2, mx_up_off h1, ih]
theorem mo_y1_at {k t : Nat} : ∀ h j, j < h → mo_y1 M k t h 50 j = (mo_z M k t j).1 ∧ mo_y1 M k t h 51 j = (mo_z M k t j).2 := by
  intro h
  induction h with
  | zero => intro j hj; exact absurd hj (Nat.not_lt_zero j)
  | succ h ih =>
    intro j hj
    rw [mo_y1]
    by_cases e : j = h
    · subst e; simp [mx_up]
    · have := ih j (by omega)
      simp [mx_up, e, this]
def mo_y2 (B : mx_M) (im : Nat) (g : Nat → Int32) : Nat → mx_M
  | 0 => B
  | h + 1 => mx_up (mo_y2 B im g h) 49 (20 * im + h) (g h)
theorem mo_y2_off {B : mx_M} {im c : Nat} {g : Nat → Int32} (h1 : c ≠ 49) : ∀ h, mo_y2 B im g h c = B c := by
  intro h
  induction h with
  | zero => rfl
  | succ h ih => rw [mo_y2, mx_up_off h1, ih]
def mo_al (g : Nat → Int32) : Nat → Int32
  | 0 => 1
  | h + 1 => if mo_al g h = 0 then 0 else if g h < 0 then 0 else 1
theorem mo_al01 {g : Nat → Int32} : ∀ h, mo_al g h = 0 ∨ mo_al g h = 1 := by
  intro h
  cases h with
  | zero => exact Or.inr rfl
  | succ h =>
    rw [mo_al]
    split
    · exact Or.inl rfl
    · split
      · exact Or.inl rfl
      · exact Or.inr rfl
def mo_g (M : mx_M) (k t N h : Nat) : Int32 := mo_at M ((mo_z M k t h).1 - mo_m9 (fun j => (mo_z M k t j).1) N + mo_m9 (M 44) N) ((mo_z M k t h).2 - mo_m9 (fun j => (mo_z M k t j).2) N + mo_m9 (M 45) N)
/-- the second loop: are all images holes -/
theorem mo_is2 (hl : l.stackTraces = false) {B : mx_M} {k t N im : Nat} (hN : N ≤ 20) (him : im < 12) (hB3 : B 41 3 = nI N) (hB12 : B 41 12 = nI im) {z1 z2 : Nat → Int32} (hz : ∀ j, j < N → B 50 j = z1 j ∧ B 51 j = z2 j) {tp lf ot ol : Int32} :
    ∀ (m h : Nat), N - h = m → h ≤ N → ∀ x y u : Value, mx_E l (pg_L sc) mY_Mo_isSymmetry (d + 2) 0 (mx_rI (mo_al (fun h => mo_at B (z1 h - tp + ot) (z2 h - lf + ol)) N) (mo_y2 B im (fun h => mo_at B (z1 h - tp + ot) (z2 h - lf + ol)) N)) 247 [.ref 41, .int (nI k), .int (nI t), .int tp, .int lf, .int ot, .int ol, .int (mo_al (fun h => mo_at B (z1 h - tp + ot) (z2 h - lf + ol)) h), .int (nI h), x, y, u] [] (mo_y2 B im (fun h => mo_at B (z1 h - tp + ot) (z2 h - lf + ol)) h) := by
  generalize hg : (fun h => mo_at B (z1 h - tp + ot) (z2 h - lf + ol)) = g
  have hgi : ∀ h, mo_at B (z1 h - tp + ot) (z2 h - lf + ol) = g h := fun h => by rw [← hg]
  intro m
  induction m with
  | zero =>
    intro h hm hle x y u
    have e : h = N := by omega
    subst e
    refine mx_if mo_Mo_isSymmetry 3 (t := 327) (f := 256) rfl trivial (fun _ => ?_) (fun (q : ¬ mo_y2 B im g h 41 3 ≤ nI h) => ?_)
    · exact mx_ret_z mo_Mo_isSymmetry rfl 1 rfl trivial rfl (mo_al01 h) ⟨rfl, rfl⟩
    · rw [mo_y2_off (by decide), hB3] at q; exact absurd (nI_le (Nat.le_refl h) (by omega)) q
  | succ m ih =>
    intro h hm hle x y u
    have e : (nI h).toNatClampNeg = h := nI_clamp (by omega)
    have hv : vp_in (nI h) 20 := vp_in_nI (by omega) (by decide)
    obtain ⟨e1, e2⟩ := hz h (by omega)
    have hI := ih (h + 1) (by omega) (by omega)
    rw [show mo_y2 B im g (h + 1) = mx_up (mo_y2 B im g h) 49 (20 * im + h) (g h) from rfl] at hI
    have c41 : mo_y2 B im g h 41 = B 41 := mo_y2_off (by decide) h
    have c50 : mo_y2 B im g h 50 = B 50 := mo_y2_off (by decide) h
    have c51 : mo_y2 B im g h 51 = B 51 := mo_y2_off (by decide) h
    have cat : ∀ r c, mo_at (mo_y2 B im g h) r c = mo_at B r c := fun r c => by unfold mo_at; rw [mo_y2_off (by decide), mo_y2_off (by decide)]
    generalize mo_y2 B im g h = C at hI c41 c50 c51 cat ⊢
    refine mx_if mo_Mo_isSymmetry 3 (t := 327) (f := 256) rfl trivial (fun (q : C 41 3 ≤ nI h) => ?_) (fun _ => ?_)
    · rw [c41, hB3] at q; exact absurd q (nI_ge (by omega) (by omega))
    refine mx_go mo_Mo_isSymmetry 17 (pc' := 282) (ls' := [.ref 41, .int (nI k), .int (nI t), .int tp, .int lf, .int ot, .int ol, .int (mo_al g h), .int (nI h), x, y, u]) (st' := [.int (C 51 (nI h).toNatClampNeg - lf + ol), .int (C 50 (nI h).toNatClampNeg - tp + ot), .ref 41]) (M' := C) rfl ⟨hv, hv, trivial⟩ ?_
    rw [e, c50, c51, e1, e2]
    refine mx_cVi mo_Mo_isSymmetry 0 (As := [.int (z1 h - tp + ot), .int (z2 h - lf + ol)]) (rest := []) rfl (ct_Mo_numberAt hl _ _) rfl trivial rfl rfl rfl kv_Mo_99 kd_Mo_numberAt rfl rfl rfl ?_
    rw [cat, hgi]
    have hvi : vp_in (20 * C 41 12 + nI h) 240 := by rw [c41, hB12, show (20 : Int32) = nI 20 from rfl, pk_mul, nI_add]; exact vp_in_nI (by omega) (by decide)
    have ei : (20 * C 41 12 + nI h).toNatClampNeg = 20 * im + h := by rw [c41, hB12, show (20 : Int32) = nI 20 from rfl, pk_mul, nI_add]; exact nI_clamp (by omega)
    refine mx_go mo_Mo_isSymmetry 11 (pc' := 304) (ls' := [.ref 41, .int (nI k), .int (nI t), .int tp, .int lf, .int ot, .int ol, .int (mo_al g h), .int (nI h), .int (g h), y, u]) (st' := []) (M' := mx_up C 49 (20 * C 41 12 + nI h).toNatClampNeg (g h)) rfl ⟨hvi, trivial⟩ ?_
    rw [ei]
    generalize mx_up C 49 (20 * im + h) (g h) = E at hI ⊢
    have next : ∀ v : Int32, v = mo_al g (h + 1) → mx_E l (pg_L sc) mY_Mo_isSymmetry (d + 2) 0 (mx_rI (mo_al g N) (mo_y2 B im g N)) 319 [.ref 41, .int (nI k), .int (nI t), .int tp, .int lf, .int ot, .int ol, .int (mo_al g h), .int (nI h), .int (g h), y, u] [.int v] E := by
      intro v hv
      refine mx_go mo_Mo_isSymmetry 3 (pc' := 247) (ls' := [.ref 41, .int (nI k), .int (nI t), .int tp, .int lf, .int ot, .int ol, .int v, .int (nI h + 1), .int (g h), y, u]) (st' := []) (M' := E) rfl trivial ?_
      rw [hv, nI_1]
      exact hI _ _ _
    rw [mo_al] at next
    have bad : (0 : Int32) = (if mo_al g h = 0 then 0 else if g h < 0 then 0 else 1) → mx_E l (pg_L sc) mY_Mo_isSymmetry (d + 2) 0 (mx_rI (mo_al g N) (mo_y2 B im g N)) 318 [.ref 41, .int (nI k), .int (nI t), .int tp, .int lf, .int ot, .int ol, .int (mo_al g h), .int (nI h), .int (g h), y, u] [] E := fun c =>
      mx_go mo_Mo_isSymmetry 1 (pc' := 319) (ls' := [.ref 41, .int (nI k), .int (nI t), .int tp, .int lf, .int ot, .int ol, .int (mo_al g h), .int (nI h), .int (g h), y, u]) (st' := [.int 0]) (M' := E) rfl trivial (next 0 c)
    refine mx_if mo_Mo_isSymmetry 1 (t := 318) (f := 309) rfl trivial (fun (q : mo_al g h = 0) => bad (by rw [if_pos q])) (fun (q : ¬ mo_al g h = 0) => ?_)
    rw [if_neg q] at next bad
    refine mx_if mo_Mo_isSymmetry 1 (t := 318) (f := 314) rfl trivial (fun (q : g h < 0) => bad (by rw [if_pos q])) (fun (q : ¬ g h < 0) => ?_)
    exact mx_go mo_Mo_isSymmetry 2 (pc' := 319) (ls' := [.ref 41, .int (nI k), .int (nI t), .int tp, .int lf, .int ot, .int ol, .int (mo_al g h), .int (nI h), .int (g h), y, u]) (st' := [.int 1]) (M' := E) rfl trivial (next 1 (by rw [if_neg q]))
end MQ2
