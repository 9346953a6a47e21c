/-! Freezing, first: the numbers of the holes. -/
section FN
variable {A B : mx_M} {D : Nat → Bool}
/-- numbered: both alike -/
def nu (A B : mx_M) (D : Nat → Bool) : Prop := (A 1 4 = 1) ∧ (∀ q, q < 64 → D q = true → A 2 q = nI (pg_n D q) ∧ B 43 q = nI (pg_n D q) ∧ ¬ B 42 q = 0) ∧ (∀ q, q < 64 → D q = false → A 2 q = -1 ∧ B 42 q = 0) ∧ (∀ q, q < 64 → D q = true → A 3 (pg_n D q) = nI (q / 8) ∧ A 4 (pg_n D q) = nI (q % 8) ∧ B 44 (pg_n D q) = nI (q / 8) ∧ B 45 (pg_n D q) = nI (q % 8))
theorem nu.f {A B : mx_M} {D : Nat → Bool} (h : nu A B D) : A 1 4 = 1 := h.1
theorem nu.o {A B : mx_M} {D : Nat → Bool} (h : nu A B D) : ∀ q, q < 64 → D q = true → A 2 q = nI (pg_n D q) ∧ B 43 q = nI (pg_n D q) ∧ ¬ B 42 q = 0 := h.2.1
theorem nu.x {A B : mx_M} {D : Nat → Bool} (h : nu A B D) : ∀ q, q < 64 → D q = false → A 2 q = -1 ∧ B 42 q = 0 := h.2.2.1
theorem nu.r {A B : mx_M} {D : Nat → Bool} (h : nu A B D) : ∀ q, q < 64 → D q = true → A 3 (pg_n D q) = nI (q / 8) ∧ A 4 (pg_n D q) = nI (q % 8) ∧ B 44 (pg_n D q) = nI (q / 8) ∧ B 45 (pg_n D q) = nI (q % 8) := h.2.2.2
theorem nu.mk' {A B : mx_M} {D : Nat → Bool} (f_ : A 1 4 = 1) (o_ : ∀ q, q < 64 → D q = true → A 2 q = nI (pg_n D q) ∧ B 43 q = nI (pg_n D q) ∧ ¬ B 42 q = 0) (x_ : ∀ q, q < 64 → D q = false → A 2 q = -1 ∧ B 42 q = 0) (r_ : ∀ q, q < 64 → D q = true → A 3 (pg_n D q) = nI (q / 8) ∧ A 4 (pg_n D q) = nI (q % 8) ∧ B 44 (pg_n D q) = nI (q / 8) ∧ B 45 (pg_n D q) = nI (q % 8)) : nu A B D := ⟨f_, o_, x_, r_⟩
theorem pg_n_ex : ∀ p i, i < pg_n D p → ∃ q, q < p ∧ D q = true ∧ pg_n D q = i
  | 0, i, h => absurd h (by simp [pg_n])
  | p + 1, i, h => by
    rw [pg_n] at h
    by_cases c : i < pg_n D p
    · obtain ⟨q, h1, h2, h3⟩ := pg_n_ex p i c
      exact ⟨q, by omega, h2, h3⟩
    · cases e : D p
      · rw [e] at h; simp at h; omega
      · rw [e] at h
        exact ⟨p, by omega, e, by simp at h; omega⟩
theorem pg_n_inj {q q' : Nat} (h : D q = true) (h' : D q' = true) (e : pg_n D q = pg_n D q') : q = q' := by
  rcases Nat.lt_trichotomy q q' with c | c | c
  · have := pg_n_lt c h; omega
  · exact c
  · have := pg_n_lt c h'; omega
theorem nu_pg : ∀ p q, q < p → D q = true → pg_nh D A p 2 q = nI (pg_n D q) ∧ pg_nh D A p 3 (pg_n D q) = nI (q / 8) ∧ pg_nh D A p 4 (pg_n D q) = nI (q % 8)
  | 0, q, h, _ => absurd h (by omega)
  | p + 1, q, h, hq => by
    rw [pg_nh]
    by_cases c : q = p
    · subst c
      rw [if_pos hq]
      simp [mx_up]
    · obtain ⟨e1, e2, e3⟩ := nu_pg p q (by omega) hq
      have ne : pg_n D q ≠ pg_n D p := by have := pg_n_lt (p := q) (q := p) (by omega) hq; omega
      split
      · simp [mx_up, c, ne, e1, e2, e3]
      · exact ⟨e1, e2, e3⟩
theorem nu_pgx {q : Nat} (hq : D q = false) : ∀ p, pg_nh D A p 2 q = A 2 q
  | 0 => rfl
  | p + 1 => by
    rw [pg_nh]
    split
    · rename_i e
      have : q ≠ p := by rintro rfl; rw [hq] at e; cases e
      simp [mx_up, this, nu_pgx hq p]
    · exact nu_pgx hq p
theorem nu_mo : ∀ p q, q < p → D q = true → mo_nh D B p 43 q = nI (pg_n D q) ∧ mo_nh D B p 44 (pg_n D q) = nI (q / 8) ∧ mo_nh D B p 45 (pg_n D q) = nI (q % 8)
  | 0, q, h, _ => absurd h (by omega)
  | p + 1, q, h, hq => by
    rw [mo_nh]
    by_cases c : q = p
    · subst c
      rw [if_pos hq]
      simp [mx_up]
    · obtain ⟨e1, e2, e3⟩ := nu_mo p q (by omega) hq
      have ne : pg_n D q ≠ pg_n D p := by have := pg_n_lt (p := q) (q := p) (by omega) hq; omega
      split
      · simp [mx_up, c, ne, e1, e2, e3]
      · exact ⟨e1, e2, e3⟩
theorem nu_ok (hA : ∀ p, p < 64 → (A 2 p = -1 ↔ D p = false)) (hB : ∀ p, p < 64 → (B 42 p = 0 ↔ D p = false)) : nu (pe_f1 A D) (mo_nh D B 64) D := by
  refine nu.mk' ?nu_f ?nu_o ?nu_x ?nu_r
  case nu_f => simp [pe_f1, mx_up]
  case nu_o =>
    intro q hq hd
    refine ⟨?_, (nu_mo 64 q hq hd).1, ?_⟩
    · rw [pe_f1, mx_up_off (by decide)]
      exact (nu_pg 64 q hq hd).1
    · rw [mo_nh_off (by decide) (by decide) (by decide), hB q hq, hd]
      decide
  case nu_x =>
    intro q hq hd
    rw [pe_f1, mx_up_off (by decide), nu_pgx hd, mo_nh_off (by decide) (by decide) (by decide)]
    exact ⟨(hA q hq).mpr hd, (hB q hq).mpr hd⟩
  case nu_r =>
    intro q hq hd
    obtain ⟨e1, e2, e3⟩ := nu_pg (A := A) 64 q hq hd
    obtain ⟨g1, g2, g3⟩ := nu_mo (B := B) 64 q hq hd
    rw [pe_f1, mx_up_off (by decide), mx_up_off (by decide)]
    exact ⟨e2, e3, g2, g3⟩
/-- the number of the hole at a place -/
def aD (D : Nat → Bool) (r c : Int32) : Int32 := if pg_in r c = 0 then -1 else if D (r * 8 + c).toNatClampNeg then nI (pg_n D (r * 8 + c).toNatClampNeg) else -1
theorem aD_at (h : nu A B D) (r c : Int32) : pg_at A r c = aD D r c ∧ mo_at B r c = aD D r c := by
  unfold pg_at mo_at aD
  rw [h.f, if_neg (by decide)]
  by_cases h1 : pg_in r c = 0
  · simp [h1]
  · rw [if_neg h1, if_neg h1, if_neg h1]
    obtain ⟨i, j, hi, hj, rfl, rfl⟩ := pg_in_s h1
    rw [show (nI i * 8 + nI j).toNatClampNeg = i * 8 + j from by rw [pg_ix, nI_clamp (by omega)]]
    cases e : D (i * 8 + j)
    · obtain ⟨x1, x2⟩ := h.x _ (by omega) e
      simp [x1, x2]
    · obtain ⟨x1, x2, x3⟩ := h.o _ (by omega) e
      simp [x1, x2, x3]
theorem aD_some {r c : Int32} (h : ¬ aD D r c = -1) : ∃ i j, i < 8 ∧ j < 8 ∧ r = nI i ∧ c = nI j ∧ D (i * 8 + j) = true ∧ aD D r c = nI (pg_n D (i * 8 + j)) := by
  unfold aD at h ⊢
  by_cases h1 : pg_in r c = 0
  · rw [if_pos h1] at h; exact absurd rfl h
  · rw [if_neg h1] at h ⊢
    obtain ⟨i, j, hi, hj, rfl, rfl⟩ := pg_in_s h1
    rw [show (nI i * 8 + nI j).toNatClampNeg = i * 8 + j from by rw [pg_ix, nI_clamp (by omega)]] at h ⊢
    cases e : D (i * 8 + j)
    · rw [e] at h; exact absurd rfl h
    · exact ⟨i, j, hi, hj, rfl, rfl, e, rfl⟩
theorem pg_n64 {p : Nat} (h : p ≤ 64) : pg_n D p ≤ 64 := by
  have : ∀ p, pg_n D p ≤ p := by
    intro p
    induction p with
    | zero => exact Nat.le_refl 0
    | succ p ih => rw [pg_n]; split <;> omega
  have := this p
  omega
theorem aD_neg (r c : Int32) : aD D r c < 0 ↔ aD D r c = -1 := by
  constructor
  · intro h
    apply Classical.byContradiction
    intro q
    obtain ⟨i, j, hi, hj, _, _, _, e⟩ := aD_some q
    have := pg_n64 (D := D) (p := i * 8 + j) (by omega)
    rw [e] at h
    exact absurd h (nI_pos (by omega))
  · intro h
    rw [h]; decide
end FN
