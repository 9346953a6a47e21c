/-! The calls that neither freeze nor reach: the class in A, the model in B. -/
section OP
def IV (A B : mx_M) : Prop := ∃ (D : Nat → Bool) (N J S : Nat) (fr ov tt : Nat → Nat) (im : Nat → Nat → Nat) (sa ga : Nat), iv A B D N J S fr ov tt im sa ga
/-- the class answers or refuses as the model does: th its code, b its answer -/
def ag (r : mx_R) (x1 x2 : String) (th b : Int32) : Prop := (r = .inl (some (.int b)) ∧ th = 0) ∨ (r = .inr x1 ∧ th = 1) ∨ (r = .inr x2 ∧ th = 2)
def agv (r : mx_R) (x1 x2 : String) (th : Int32) : Prop := (r = .inl none ∧ th = 0) ∨ (r = .inr x1 ∧ th = 1) ∨ (r = .inr x2 ∧ th = 2)
def ag1 (r : mx_R) (x1 : String) (th b : Int32) : Prop := (r = .inl (some (.int b)) ∧ th = 0) ∨ (r = .inr x1 ∧ th = 1)
def agv1 (r : mx_R) (x1 : String) (th : Int32) : Prop := (r = .inl none ∧ th = 0) ∨ (r = .inr x1 ∧ th = 1)
variable {A B A' B' : mx_M} {D : Nat → Bool} {N J S sa ga : Nat} {fr ov tt : Nat → Nat} {im : Nat → Nat → Nat}
theorem pg_n0 : ∀ p, pg_n (fun _ => false) p = 0
  | 0 => rfl
  | p + 1 => by rw [pg_n, pg_n0 p]; rfl
theorem iv_up (h : iv A B D N J S fr ov tt im sa ga) (v : Int32) : iv A (mx_up B 41 0 v) D N J S fr ov tt im sa ga :=
  iv_cong h (fun _ _ => rfl) (fun c hc _ => mx_up_off (by omega)) (fun c hc => by simp only [mx_up]; rw [if_pos trivial, if_neg (by omega)])
theorem op_clear {t : Int32} (ht : t = 0 ∨ t = 1) : IV (pe_clear A t) (mo_clear B t) := by
  refine ⟨fun _ => false, 0, 0, 0, id, id, id, fun _ => id, 0, 0, ?_⟩
  refine iv.mk' ?iv_t ?iv_t2 ?iv_f ?iv_f2 ?iv_n ?iv_n2 ?iv_nD ?iv_n20 ?iv_d ?iv_d2 ?iv_j ?iv_j2 ?iv_j120 ?iv_jk ?iv_jk2 ?iv_jb ?iv_s ?iv_s2 ?iv_s12 ?iv_sk ?iv_si ?iv_un ?iv_fz ?iv_nb ?iv_rc ?iv_a ?iv_a2 ?iv_ab ?iv_g ?iv_g2 ?iv_gb ?iv_w
  case iv_t => simpa [pe_clear, mx_up, pg_fill, mx_row, pg_wipe] using ht
  case iv_t2 => simp [pe_clear, mx_up, pg_fill, mx_row, pg_wipe, mo_clear, mo_cl]
  case iv_f => simp [pe_clear, mx_up, pg_fill, mx_row, pg_wipe]
  case iv_f2 => simp [pe_clear, mx_up, pg_fill, mx_row, pg_wipe, mo_clear, mo_cl]
  case iv_n => simp [pe_clear, mx_up, pg_fill, mx_row, pg_wipe, nI_0]
  case iv_n2 => simp [mx_up, pg_fill, mx_row, mo_clear, mo_cl, nI_0]
  case iv_nD => exact (pg_n0 64).symm
  case iv_n20 => omega
  case iv_d => intro p hp; simp [pe_clear, mx_up, pg_fill, mx_row, pg_wipe, hp]
  case iv_d2 => intro p hp; simp [mx_up, pg_fill, mx_row, mo_clear, mo_cl, hp]
  case iv_j => simp [pe_clear, mx_up, pg_fill, mx_row, pg_wipe, nI_0]
  case iv_j2 => simp [mx_up, pg_fill, mx_row, mo_clear, mo_cl, nI_0]
  case iv_j120 => omega
  case iv_jk => intro k hk; omega
  case iv_jk2 => intro k hk; omega
  case iv_jb => intro k hk; omega
  case iv_s => simp [pe_clear, mx_up, pg_fill, mx_row, pg_wipe, nI_0]
  case iv_s2 => simp [mx_up, pg_fill, mx_row, mo_clear, mo_cl, nI_0]
  case iv_s12 => omega
  case iv_sk => intro k h hk; omega
  case iv_si => intro k h h' hk; omega
  case iv_un => intro _; exact ⟨rfl, rfl, rfl, rfl⟩
  case iv_fz => intro h; simp [pe_clear, mx_up, pg_fill, mx_row, pg_wipe] at h
  case iv_nb => intro h; simp [pe_clear, mx_up, pg_fill, mx_row, pg_wipe] at h
  case iv_rc => intro h; simp [pe_clear, mx_up, pg_fill, mx_row, pg_wipe] at h
  case iv_a => simp [pe_clear, mx_up, nI_0]
  case iv_a2 => simp [mx_up, pg_fill, mx_row, mo_clear, mo_cl, nI_0]
  case iv_ab => decide
  case iv_g => simp [pe_clear, mx_up, nI_0]
  case iv_g2 => simp [mx_up, pg_fill, mx_row, mo_clear, mo_cl, nI_0]
  case iv_gb => decide
  case iv_w => intro j hj; simp [pe_clear, mx_up, pg_fill, mx_row, pg_wipe, mo_clear, mo_cl, hj]
/-- how many are drawn when one more is -/
theorem pg_n_new {D : Nat → Bool} {q : Nat} (hq : D q = false) : ∀ p, pg_n (fun x => if x = q then true else D x) p = pg_n D p + (if q < p then 1 else 0)
  | 0 => rfl
  | p + 1 => by
    rw [pg_n, pg_n, pg_n_new hq p]
    by_cases e : p = q
    · subst e
      simp [hq]
    · simp only [if_neg e]
      by_cases c : q < p
      · rw [if_pos c, if_pos (show q < p + 1 by omega)]; omega
      · rw [if_neg c, if_neg (show ¬ q < p + 1 by omega)]; omega
theorem op_hole (h : iv A B D N J S fr ov tt im sa ga) (r c : Int32) : ag (pe_hole A r c).1 xIA xIS ((mo_hole B r c).2 41 0) (mo_hole B r c).1 ∧ IV (pe_hole A r c).2 (mo_hole B r c).2 := by
  unfold pe_hole mo_hole
  by_cases h1 : pg_in r c = 0
  · rw [if_pos h1, if_pos h1]
    exact ⟨Or.inr (Or.inl ⟨rfl, rfl⟩), _, _, _, _, _, _, _, _, _, _, iv_up h 1⟩
  · rw [if_neg h1, if_neg h1]
    obtain ⟨i, j, hi, hj, rfl, rfl⟩ := pg_in_s h1
    rw [show (nI i * 8 + nI j).toNatClampNeg = i * 8 + j from by rw [pg_ix, nI_clamp (by omega)]]
    generalize hq : i * 8 + j = q
    have q64 : q < 64 := by omega
    have hc : pg_cd A q = 0 ↔ (¬ B 41 2 = 0 ∨ ¬ B 42 q = 0 ∨ B 41 3 = 20) := by
      unfold pg_cd
      rw [h.f2, h.n, h.n2]
      have e20 : (20 : Int32) ≤ nI N ↔ nI N = 20 := by
        have := h.n20
        show nI 20 ≤ nI N ↔ nI N = nI 20
        rw [nI_leI (by omega) (by omega), nI_eq (by omega) (by omega)]
        omega
      rw [h.d2 q q64]
      have hd := h.d q q64
      by_cases z1 : A 1 4 = 0
      · by_cases z2 : (20 : Int32) ≤ nI N
        · simp [z1, z2, e20.mp z2]
        · by_cases z3 : D q = false
          · have z4 := hd.mpr z3
            have z5 : ¬ nI N = 20 := fun y => z2 (e20.mpr y)
            simp [z1, z2, z3, z4, z5]
          · have z4 : ¬ A 2 q = -1 := fun y => z3 (hd.mp y)
            simp [z1, z2, z3, z4]
      · simp [z1]
    by_cases c1 : pg_cd A q = 0
    · rw [if_pos c1, if_pos (hc.mp c1)]
      exact ⟨Or.inr (Or.inr ⟨rfl, rfl⟩), _, _, _, _, _, _, _, _, _, _, iv_up (iv_up h 0) 2⟩
    · have c2 := fun y => c1 (hc.mpr y)
      rw [if_neg c1, if_neg c2]
      have u0 : A 1 4 = 0 := Classical.byContradiction (fun y => c2 (Or.inl (by rw [h.f2]; exact y)))
      have Dq : D q = false := (h.d2 q q64).mp (Classical.byContradiction (fun y => c2 (Or.inr (Or.inl y))))
      have N19 : N < 20 := by
        have := h.n20
        have e : ¬ N = 20 := fun y => c2 (Or.inr (Or.inr (by rw [h.n2, y]; rfl)))
        omega
      obtain ⟨eJ, eS, ea, eg⟩ := h.un u0
      refine ⟨Or.inl ⟨by rw [h.n, h.n2], rfl⟩, fun x => if x = q then true else D x, N + 1, J, S, fr, ov, tt, im, sa, ga, ?_⟩
      subst eJ eS ea eg
      refine iv.mk' ?iv_t ?iv_t2 ?iv_f ?iv_f2 ?iv_n ?iv_n2 ?iv_nD ?iv_n20 ?iv_d ?iv_d2 ?iv_j ?iv_j2 ?iv_j120 ?iv_jk ?iv_jk2 ?iv_jb ?iv_s ?iv_s2 ?iv_s12 ?iv_sk ?iv_si ?iv_un ?iv_fz ?iv_nb ?iv_rc ?iv_a ?iv_a2 ?iv_ab ?iv_g ?iv_g2 ?iv_gb ?iv_w
      case iv_t => simpa [mx_up] using h.t
      case iv_t2 => simpa [mx_up] using h.t2
      case iv_f => simpa [mx_up] using h.f
      case iv_f2 => simpa [mx_up] using h.f2
      case iv_n => simp [mx_up, h.n, nI_1]
      case iv_n2 => simp [mx_up, h.n2, nI_1]
      case iv_nD => rw [pg_n_new Dq, if_pos q64, ← h.nD]
      case iv_n20 => omega
      case iv_d =>
        intro p hp
        by_cases e : p = q
        · subst e; simp [mx_up]
        · simpa [mx_up, e] using h.d p hp
      case iv_d2 =>
        intro p hp
        by_cases e : p = q
        · subst e; simp [mx_up]
        · simpa [mx_up, e] using h.d2 p hp
      case iv_j => simpa [mx_up] using h.j
      case iv_j2 => simpa [mx_up] using h.j2
      case iv_j120 => omega
      case iv_jk => intro k hk; omega
      case iv_jk2 => intro k hk; omega
      case iv_jb => intro k hk; omega
      case iv_s => simpa [mx_up] using h.s
      case iv_s2 => simpa [mx_up] using h.s2
      case iv_s12 => omega
      case iv_sk => intro k h hk; omega
      case iv_si => intro k h h' hk; omega
      case iv_un => intro _; exact ⟨rfl, rfl, rfl, rfl⟩
      case iv_fz => intro y; simp [mx_up, u0] at y
      case iv_nb => intro y; simp [mx_up, u0] at y
      case iv_rc => intro y; simp [mx_up, u0] at y
      case iv_a => simpa [mx_up] using h.a
      case iv_a2 => simpa [mx_up] using h.a2
      case iv_ab => exact Nat.two_pow_pos _
      case iv_g => simpa [mx_up] using h.g
      case iv_g2 => simpa [mx_up] using h.g2
      case iv_gb => exact Nat.two_pow_pos _
      case iv_w => intro j hj; simpa [mx_up] using h.w j hj
theorem op_at (h : iv A B D N J S fr ov tt im sa ga) (r c : Int32) : pg_at A r c = (if B 41 2 = 0 then -1 else mo_at B r c) := by
  unfold pg_at mo_at
  rw [h.f2]
  by_cases u : A 1 4 = 0
  · rw [if_pos u, if_pos u]
  · rw [if_neg u, if_neg u]
    by_cases h1 : pg_in r c = 0
    · rw [if_pos h1, if_pos h1]
    · rw [if_neg h1, if_neg h1]
      obtain ⟨i, j, hi, hj, rfl, rfl⟩ := pg_in_s h1
      rw [show (nI i * 8 + nI j).toNatClampNeg = i * 8 + j from by rw [pg_ix, nI_clamp (by omega)]]
      generalize hq : i * 8 + j = q
      have q64 : q < 64 := by omega
      cases e : D q
      · rw [if_pos ((h.d2 q q64).mpr e)]
        exact (h.d q q64).mpr e
      · rw [if_neg (fun y => by have := (h.d2 q q64).mp y; rw [e] at this; cases this)]
        obtain ⟨e1, e2⟩ := h.nb u q q64 e
        rw [e1, e2]
theorem op_sym (h : iv A B D N J S fr ov tt im sa ga) : A 11 4 = B 41 12 := by rw [h.s, h.s2]
theorem op_jump (h : iv A B D N J S fr ov tt im sa ga) (k w : Int32) : ag1 (pe_jump A k w) xIO ((mo_jump B k w).2 41 0) (mo_jump B k w).1 ∧ IV A (mo_jump B k w).2 := by
  unfold pe_jump mo_jump
  rw [h.j, h.j2]
  by_cases hk : ¬ k < 0 ∧ k < nI J
  · have hJ := h.j120
    obtain ⟨j, hj, rfl⟩ := nI_inJ (by omega) hk
    rw [if_pos hk, nI_clamp (by omega)]
    obtain ⟨e1, e2, e3, _⟩ := h.jk j hj
    obtain ⟨g1, g2, g3⟩ := h.jk2 j hj
    rw [e1, e2, e3, g1, g2, g3]
    by_cases w0 : w = 0
    · subst w0
      rw [if_pos rfl, if_pos ⟨hk, by decide, by decide⟩]
      exact ⟨Or.inl ⟨rfl, rfl⟩, _, _, _, _, _, _, _, _, _, _, iv_up h 0⟩
    · by_cases w1 : w = 1
      · subst w1
        rw [if_neg (by decide), if_pos rfl, if_pos ⟨hk, by decide, by decide⟩]
        exact ⟨Or.inl ⟨rfl, rfl⟩, _, _, _, _, _, _, _, _, _, _, iv_up h 0⟩
      · by_cases w2 : w = 2
        · subst w2
          rw [if_neg (by decide), if_neg (by decide), if_pos rfl, if_pos ⟨hk, by decide, by decide⟩]
          exact ⟨Or.inl ⟨rfl, rfl⟩, _, _, _, _, _, _, _, _, _, _, iv_up h 0⟩
        · rw [if_neg w0, if_neg w1, if_neg w2, if_neg (fun y => by rcases w3_of y.2.1 y.2.2 with e | e | e <;> contradiction)]
          exact ⟨Or.inr ⟨rfl, rfl⟩, _, _, _, _, _, _, _, _, _, _, iv_up h 1⟩
  · rw [if_neg hk, if_neg (fun y => hk y.1)]
    exact ⟨Or.inr ⟨rfl, rfl⟩, _, _, _, _, _, _, _, _, _, _, iv_up h 1⟩
theorem op_after (h : iv A B D N J S fr ov tt im sa ga) (p k : Int32) : ag (pe_after A p k) xIO xIA ((mo_after B p k).2 41 0) (mo_after B p k).1 ∧ IV A (mo_after B p k).2 := by
  unfold pe_after mo_after
  rw [h.j, h.j2]
  by_cases hk : ¬ k < 0 ∧ k < nI J
  · have hJ := h.j120
    obtain ⟨j, hj, rfl⟩ := nI_inJ (by omega) hk
    rw [if_pos hk, if_pos hk, nI_clamp (by omega)]
    obtain ⟨e1, e2, e3, e4, e5⟩ := h.jk j hj
    obtain ⟨g1, g2, g3⟩ := h.jk2 j hj
    obtain ⟨b1, b2, b3, b4, b5, b6⟩ := h.jb j hj
    rw [e4, e5, g1, g2, g3]
    have n20 := h.n20
    by_cases hp : p &&& (pe_all A ^^^ (-1)) = 0
    · rw [if_pos hp, if_pos ((iv_posI h p).mp hp)]
      obtain ⟨a, ha, rfl⟩ := (iv_pos h p).1.mp hp
      have a20 : a < 2 ^ 20 := Nat.lt_of_lt_of_le ha (Nat.pow_le_pow_right (by decide) (iv_H20 h))
      rw [jm_pg a20 (by omega) (by omega) (by omega) b4 b5 b6, jm_mo a20 (by omega) (by omega) (by omega) b4 b5 b6]
      exact ⟨Or.inl ⟨rfl, rfl⟩, _, _, _, _, _, _, _, _, _, _, iv_up h 0⟩
    · rw [if_neg hp, if_neg (fun y => hp ((iv_posI h p).mpr y))]
      exact ⟨Or.inr (Or.inr ⟨rfl, rfl⟩), _, _, _, _, _, _, _, _, _, _, iv_up h 2⟩
  · rw [if_neg hk, if_neg hk]
    exact ⟨Or.inr (Or.inl ⟨rfl, rfl⟩), _, _, _, _, _, _, _, _, _, _, iv_up h 1⟩
end OP
