/-! Freezing: the class in A, the model in B. -/
section FZ
variable {A B A' B' : mx_M} {D : Nat → Bool}
theorem mo_fi_off {t N c : Nat} (hc : c ≠ 41 ∧ c ≠ 49 ∧ c ≠ 50 ∧ c ≠ 51) : ∀ k, mo_fi B t N k c = B c
  | 0 => rfl
  | k + 1 => by rw [mo_fi, mo_f2_off hc, mo_fi_off hc k]
theorem sr_all {N t : Nat} (hu : nu A B D) (ht : A 1 3 = 0 ∨ A 1 3 = 1) (ht2 : A 1 3 = B 41 1) (ht6 : 0 < t ∧ t ≤ 6) (hN : N + 1 = pg_n D 64) (hN20 : N + 1 ≤ 20) (hs : sr A B (N + 1) 0) :
    ∀ k, k ≤ 12 → ∃ m, m ≤ k ∧ sr (sy_it t N A k) (mo_fi B t (N + 1) k) (N + 1) m
  | 0, _ => ⟨0, by omega, hs⟩
  | k + 1, hk => by
    obtain ⟨m, h1, h2⟩ := sr_all hu ht ht2 ht6 hN hN20 hs k (by omega)
    obtain ⟨i1, _, _⟩ := sy_it_inv (M := A) (t := t) (N := N) hs.s (by omega) k
    have u' : nu (sy_it t N A k) (mo_fi B t (N + 1) k) D := nu_cong hu (fun c hc => i1 c (by omega)) (fun c hc => mo_fi_off ⟨by omega, by omega, by omega, by omega⟩ k)
    have e1 : sy_it t N A k 1 = A 1 := i1 1 (by omega)
    obtain ⟨m', h3, h4, h5⟩ := sr_one (k := k) u' (by rw [e1]; exact ht) (by rw [e1, mo_fi_41 (by decide) k]; exact ht2) ht6 hN hN20 h2 (by omega)
    exact ⟨m', by omega, h5⟩
def pe_freeze (A : mx_M) (D : Nat → Bool) (N : Nat) : mx_R × mx_M := if pg_cb A = 0 then (.inr xIS, A) else (.inl (some (.int (pe_fz A D (N - 1) 5 5))), pe_fz A D (N - 1))
def mo_freeze (B : mx_M) (D : Nat → Bool) (t N : Nat) : Int32 × mx_M := if ¬ B 41 2 = 0 ∨ B 41 3 = 0 then (0, mx_up B 41 0 1) else (mo_fr B D t N 41 8, mo_fr B D t N)
theorem fr_ok {N J S sa ga t : Nat} {fr ov tt : Nat → Nat} {im : Nat → Nat → Nat} (h : iv A B D (N + 1) J S fr ov tt im sa ga) (u : A 1 4 = 0) (ht : t = if A 1 3 = 0 then 4 else 6) :
    pe_fz A D N 5 5 = mo_fr B D t (N + 1) 41 8 ∧ mo_fr B D t (N + 1) 41 0 = 0 ∧ IV (pe_fz A D N) (mo_fr B D t (N + 1)) := by
  obtain ⟨eJ, eS, ea, eg⟩ := h.un u
  subst eJ eS ea eg
  have n20 := h.n20
  have ht6 : 0 < t ∧ t ≤ 6 := by rw [ht]; split <;> omega
  unfold pe_fz mo_fr
  generalize hB0 : mx_up (mx_up B 41 0 0) 41 2 1 = B0
  have B0o : ∀ c, c ≠ 41 → B0 c = B c := fun c hc => by rw [← hB0, mx_up_off hc, mx_up_off hc]
  have B0c : ∀ c, c ≠ 0 → c ≠ 2 → B0 41 c = B 41 c := fun c h0 h2 => by rw [← hB0, mx_up_row, pk_un h2, mx_up_row, pk_un h0]
  have B02 : B0 41 2 = 1 := by rw [← hB0]; simp [mx_up]
  have B00 : B0 41 0 = 0 := by rw [← hB0]; simp [mx_up]
  have hu := nu_ok (A := A) (B := B0) (D := D) h.d (by rw [B0o 42 (by decide)]; exact h.d2)
  generalize hA1 : pe_f1 A D = A1 at *
  generalize hB1 : mo_nh D B0 64 = B1 at *
  have A1o : ∀ c, c = 0 ∨ 4 < c → A1 c = A c := fun c hc => by rw [← hA1, pe_f1_off hc]
  have A11 : A1 1 = upd (A 1) 4 1 := by rw [← hA1, pe_f1_1]
  have B1o : ∀ c, c ≠ 43 → c ≠ 44 → c ≠ 45 → B1 c = B0 c := fun c h1 h2 h3 => by rw [← hB1, mo_nh_off h1 h2 h3]
  have t1 : A1 1 3 = A 1 3 := by rw [A11, pk_un (by decide)]
  have tB : A1 1 3 = B1 41 1 := by rw [t1, B1o 41 (by decide) (by decide) (by decide), B0c 1 (by decide) (by decide), h.t2]
  have j0 : jr A1 B1 (N + 1) 0 := by
    refine jr.mk' ?jr_n ?jr_n2 ?jr_k
    case jr_n => rw [A1o 5 (by omega)]; exact h.j
    case jr_n2 => rw [B1o 41 (by decide) (by decide) (by decide), B0c 8 (by decide) (by decide)]; exact h.j2
    case jr_k => intro k hk; omega
  have hJ : ∃ n, n ≤ 6 * (N + 1) ∧ jr (pe_f2 A1 N) (mo_ja B1 t (N + 1)) (N + 1) n := by
    unfold pe_f2
    rcases h.t with e | e
    · rw [if_pos (t1.trans e)]
      have et : t = 4 := by rw [ht, if_pos e]
      subst et
      exact jr_all hu j0 (by omega) h.nD n20 (sq_s (by rw [← tB, t1, e])) (N + 1) (Nat.le_refl _)
    · have ne : ¬ A 1 3 = 0 := by rw [e]; decide
      rw [if_neg (by rw [t1]; exact ne)]
      have et : t = 6 := by rw [ht, if_neg ne]
      subst et
      exact jr_all hu j0 (by omega) h.nD n20 (tr_s (by rw [← tB, t1, e])) (N + 1) (Nat.le_refl _)
  obtain ⟨n, n6, hj⟩ := hJ
  generalize hA2 : pe_f2 A1 N = A2 at *
  generalize hB2 : mo_ja B1 t (N + 1) = B2 at *
  have A2o : ∀ c, c < 5 ∨ 10 < c → A2 c = A1 c := fun c hc => by rw [← hA2, pe_f2_off hc]
  have B2o : ∀ c, c ≠ 41 ∧ c ≠ 46 ∧ c ≠ 47 ∧ c ≠ 48 → B2 c = B1 c := fun c hc => by rw [← hB2, mo_ja_off hc]
  have B2c : ∀ c, c ≠ 8 → B2 41 c = B1 41 c := fun c hc => by rw [← hB2, mo_ja_41 hc]
  unfold pe_f3
  have t2 : A2 1 3 = A 1 3 := by rw [A2o 1 (by omega), t1]
  have et : (if A2 1 3 = 0 then 4 else 6) = t := by rw [t2, ht]
  rw [et]
  generalize hA3 : mx_up A2 11 3 (nI (N + 1)) = A3 at *
  have A3o : ∀ c, c ≠ 11 → A3 c = A2 c := fun c hc => by rw [← hA3, mx_up_off hc]
  have A33 : A3 11 3 = nI (N + 1) := by rw [← hA3, mx_up_row, pk_us]
  have A34 : A3 11 4 = 0 := by
    rw [← hA3, mx_up_row, pk_un (by decide), A2o 11 (by omega), A1o 11 (by omega), h.s, nI_0]
  have s0 : sr A3 B2 (N + 1) 0 := by
    refine sr.mk' ?sr_s ?sr_s2 ?sr_k ?sr_i
    case sr_s => rw [A34, nI_0]
    case sr_s2 => rw [B2c 12 (by decide), B1o 41 (by decide) (by decide) (by decide), B0c 12 (by decide) (by decide)]; exact h.s2
    case sr_k => intro k q hk; omega
    case sr_i => intro k q q' hk; omega
  have hu2 : nu A3 B2 D := nu_cong hu (fun c hc => by rw [A3o c (by omega), A2o c (by omega)]) (fun c hc => B2o c ⟨by omega, by omega, by omega, by omega⟩)
  have tA3 : A3 1 3 = A 1 3 := by rw [A3o 1 (by decide), t2]
  obtain ⟨m, m12, hs⟩ := sr_all (t := t) hu2 (by rw [tA3]; exact h.t) (by rw [tA3, B2c 1 (by decide), ← tB, t1]) ht6 h.nD n20 s0 (2 * t) (by omega)
  obtain ⟨i1, i2, _⟩ := sy_it_inv (M := A3) (t := t) (N := N) s0.s (by omega) (2 * t)
  generalize hA4 : sy_it t N A3 (2 * t) = A4 at *
  generalize hB4 : mo_fi B2 t (N + 1) (2 * t) = B4 at *
  have B4o : ∀ c, c ≠ 41 ∧ c ≠ 49 ∧ c ≠ 50 ∧ c ≠ 51 → B4 c = B2 c := fun c hc => by rw [← hB4, mo_fi_off hc]
  have B4c : ∀ c, c ≠ 12 → B4 41 c = B2 41 c := fun c hc => by rw [← hB4, mo_fi_41 hc]
  have aC : ∀ c, c < 11 ∨ 26 < c → A4 c = A2 c := fun c hc => by rw [i1 c hc, A3o c (by omega)]
  have aD' : ∀ c, c = 0 ∨ 26 < c → A4 c = A c := fun c hc => by rw [aC c (by omega), A2o c (by omega), A1o c (by omega)]
  have a1 : A4 1 = upd (A 1) 4 1 := by rw [aC 1 (by omega), A2o 1 (by omega), A11]
  have bC : ∀ c, c ≠ 0 → c ≠ 2 → c ≠ 8 → c ≠ 12 → B4 41 c = B 41 c := fun c h1 h2 h3 h4 => by rw [B4c c h4, B2c c h3, B1o 41 (by decide) (by decide) (by decide), B0c c h1 h2]
  have hu4 : nu A4 B4 D := nu_cong hu2 (fun c hc => i1 c (by omega)) (fun c hc => B4o c ⟨by omega, by omega, by omega, by omega⟩)
  have j5 : A4 5 5 = nI n := by rw [aC 5 (by omega)]; exact hj.n
  have j8 : B4 41 8 = nI n := by rw [B4c 8 (by decide)]; exact hj.n2
  have hjk : ∀ k, k < n → ∃ f o t, (f < N + 1 ∧ o < N + 1 ∧ t < N + 1 ∧ f ≠ o ∧ f ≠ t ∧ o ≠ t) ∧ (A4 6 k = nI f ∧ A4 7 k = nI o ∧ A4 8 k = nI t ∧ A4 9 k = nI (2 ^ f ||| 2 ^ o) ∧ A4 10 k = nI ((2 ^ f ||| 2 ^ o) ||| 2 ^ t)) ∧ B4 46 k = nI f ∧ B4 47 k = nI o ∧ B4 48 k = nI t := by
    rw [aC 6 (by omega), aC 7 (by omega), aC 8 (by omega), aC 9 (by omega), aC 10 (by omega), B4o 46 (by decide), B4o 47 (by decide), B4o 48 (by decide)]
    exact hj.k
  have hf : ∀ k, k < n → ∃ f o t, (A4 6 k).toNatClampNeg = f ∧ (A4 7 k).toNatClampNeg = o ∧ (A4 8 k).toNatClampNeg = t ∧ (f < N + 1 ∧ o < N + 1 ∧ t < N + 1 ∧ f ≠ o ∧ f ≠ t ∧ o ≠ t) ∧ (A4 6 k = nI f ∧ A4 7 k = nI o ∧ A4 8 k = nI t ∧ A4 9 k = nI (2 ^ f ||| 2 ^ o) ∧ A4 10 k = nI ((2 ^ f ||| 2 ^ o) ||| 2 ^ t)) ∧ B4 46 k = nI f ∧ B4 47 k = nI o ∧ B4 48 k = nI t := by
    intro k hk
    obtain ⟨f, o, t, x1, x2, x3⟩ := hjk k hk
    exact ⟨f, o, t, by rw [x2.1, nI_clamp (by omega)], by rw [x2.2.1, nI_clamp (by omega)], by rw [x2.2.2.1, nI_clamp (by omega)], x1, x2, x3⟩
  refine ⟨j5.trans j8.symm, ?_, D, N + 1, n, m, fun k => (A4 6 k).toNatClampNeg, fun k => (A4 7 k).toNatClampNeg, fun k => (A4 8 k).toNatClampNeg, fun k h => (A4 (13 + k) h).toNatClampNeg, 0, 0, ?_⟩
  · rw [B4c 0 (by decide), B2c 0 (by decide), B1o 41 (by decide) (by decide) (by decide), B00]
  have f4 : A4 1 4 = 1 := by rw [a1, pk_us]
  refine iv.mk' ?iv_t ?iv_t2 ?iv_f ?iv_f2 ?iv_n ?iv_n2 ?iv_nD ?iv_n20 ?iv_d ?iv_d2 ?iv_j ?iv_j2 ?iv_j120 ?iv_jk ?iv_jk2 ?iv_jb ?iv_s ?iv_s2 ?iv_s12 ?iv_sk ?iv_si ?iv_un ?iv_fz ?iv_nb ?iv_rc ?iv_a ?iv_a2 ?iv_ab ?iv_g ?iv_g2 ?iv_gb ?iv_w
  case iv_t => rw [a1, pk_un (by decide)]; exact h.t
  case iv_t2 => rw [a1, pk_un (by decide), bC 1 (by decide) (by decide) (by decide) (by decide)]; exact h.t2
  case iv_f => right; exact f4
  case iv_f2 => rw [f4, B4c 2 (by decide), B2c 2 (by decide), B1o 41 (by decide) (by decide) (by decide), B02]
  case iv_n => rw [a1, pk_un (by decide)]; exact h.n
  case iv_n2 => rw [bC 3 (by decide) (by decide) (by decide) (by decide)]; exact h.n2
  case iv_nD => exact h.nD
  case iv_n20 => exact n20
  case iv_d =>
    intro p hp
    cases e : D p
    · simp [(hu4.x p hp e).1]
    · have := pg_n64 (D := D) (p := p) (by omega)
      rw [(hu4.o p hp e).1]
      constructor
      · intro q
        have z := nI_toInt (n := pg_n D p) (by omega)
        rw [q] at z
        have e : (-1 : Int32).toInt = -1 := by decide
        omega
      · intro q; cases q
  case iv_d2 =>
    intro p hp
    cases e : D p
    · simp [(hu4.x p hp e).2]
    · simp [(hu4.o p hp e).2.2]
  case iv_j => exact j5
  case iv_j2 => exact j8
  case iv_j120 => omega
  case iv_jk =>
    intro k hk
    obtain ⟨f, o, t, e1, e2, e3, x1, x2, x3⟩ := hf k hk
    simp only [e1, e2, e3]
    exact x2
  case iv_jk2 =>
    intro k hk
    obtain ⟨f, o, t, e1, e2, e3, x1, x2, x3⟩ := hf k hk
    simp only [e1, e2, e3]
    exact x3
  case iv_jb =>
    intro k hk
    obtain ⟨f, o, t, e1, e2, e3, x1, x2, x3⟩ := hf k hk
    simp only [e1, e2, e3]
    exact x1
  case iv_s => exact hs.s
  case iv_s2 => exact hs.s2
  case iv_s12 => omega
  case iv_sk =>
    intro k q hk hq
    obtain ⟨v, v1, v2, v3⟩ := hs.k k q hk hq
    simp only [v2, v3, nI_clamp (show v < 2 ^ 31 by omega)]
    exact ⟨trivial, trivial, v1⟩
  case iv_si =>
    intro k q q' hk hq hq' e
    obtain ⟨v, v1, v2, v3⟩ := hs.k k q hk hq
    obtain ⟨v', v1', v2', v3'⟩ := hs.k k q' hk hq'
    simp only [v2, v2', nI_clamp (show v < 2 ^ 31 by omega), nI_clamp (show v' < 2 ^ 31 by omega)] at e
    subst e
    exact hs.i k q q' hk hq hq' (v2.trans v2'.symm)
  case iv_un => intro y; rw [f4] at y; exact absurd y (by decide)
  case iv_fz => intro _; exact ⟨i2.trans A33, by omega⟩
  case iv_nb =>
    intro _ p hp e
    exact ⟨(hu4.o p hp e).1, (hu4.o p hp e).2.1⟩
  case iv_rc =>
    intro _ i hi
    have nD := h.nD
    obtain ⟨q, q64, dq, eq⟩ := pg_n_ex (D := D) 64 i (by omega)
    have r := hu4.r q q64 dq
    rw [eq] at r
    exact ⟨q / 8, q % 8, by omega, by omega, r.1, r.2.2.1, r.2.1, r.2.2.2⟩
  case iv_a => rw [aD' 0 (by omega)]; exact h.a
  case iv_a2 => rw [bC 16 (by decide) (by decide) (by decide) (by decide)]; exact h.a2
  case iv_ab => exact h.ab
  case iv_g => rw [aD' 0 (by omega)]; exact h.g
  case iv_g2 => rw [bC 17 (by decide) (by decide) (by decide) (by decide)]; exact h.g2
  case iv_gb => exact h.gb
  case iv_w =>
    intro j hj
    rw [aD' 39 (by omega), B4o 52 (by decide), B2o 52 (by decide), B1o 52 (by decide) (by decide) (by decide), B0o 52 (by decide)]
    exact h.w j hj
theorem op_freeze {N J S sa ga t : Nat} {fr ov tt : Nat → Nat} {im : Nat → Nat → Nat} (h : iv A B D N J S fr ov tt im sa ga) (ht : t = if A 1 3 = 0 then 4 else 6) :
    ag1 (pe_freeze A D N).1 xIS ((mo_freeze B D t N).2 41 0) (mo_freeze B D t N).1 ∧ IV (pe_freeze A D N).2 (mo_freeze B D t N).2 := by
  have n20 := h.n20
  have hc : pg_cb A = 0 ↔ (¬ B 41 2 = 0 ∨ B 41 3 = 0) := by
    unfold pg_cb
    rw [h.f2, h.n, h.n2]
    by_cases u : A 1 4 = 0
    · by_cases z : N = 0
      · subst z
        simp [u, nI_0]
      · rw [if_neg (fun y => y u), if_neg (nI_nle (by omega) (by omega))]
        refine ⟨fun y => absurd y (by decide), fun y => ?_⟩
        rcases y with y | y
        · exact absurd u y
        · exact absurd y (nI_ne0 (by omega) (by omega))
    · simp [u]
  unfold pe_freeze mo_freeze
  by_cases c : pg_cb A = 0
  · rw [if_pos c, if_pos (hc.mp c)]
    exact ⟨Or.inr ⟨rfl, rfl⟩, _, _, _, _, _, _, _, _, _, _, iv_up h 1⟩
  · have c2 := fun y => c (hc.mpr y)
    rw [if_neg c, if_neg c2]
    have u : A 1 4 = 0 := Classical.byContradiction (fun y => c2 (Or.inl (by rw [h.f2]; exact y)))
    cases N with
    | zero => exact absurd (Or.inr (by rw [h.n2, nI_0])) c2
    | succ N =>
      obtain ⟨x1, x2, x3⟩ := fr_ok h u ht
      exact ⟨Or.inl ⟨by rw [Nat.add_sub_cancel, x1], x2⟩, x3⟩
end FZ
