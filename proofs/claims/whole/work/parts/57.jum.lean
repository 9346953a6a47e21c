/-! Freezing, second: the jumps. -/
section FJ
variable {A B A' B' : mx_M} {D : Nat → Bool}
theorem nu_cong (h : nu A B D) (hA : ∀ c, c = 1 ∨ c = 2 ∨ c = 3 ∨ c = 4 → A' c = A c) (hB : ∀ c, c = 42 ∨ c = 43 ∨ c = 44 ∨ c = 45 → B' c = B c) : nu A' B' D := by
  refine nu.mk' ?nu_f ?nu_o ?nu_x ?nu_r
  case nu_f => rw [hA 1 (by omega)]; exact h.f
  case nu_o => rw [hA 2 (by omega), hB 43 (by omega), hB 42 (by omega)]; exact h.o
  case nu_x => rw [hA 2 (by omega), hB 42 (by omega)]; exact h.x
  case nu_r => rw [hA 3 (by omega), hA 4 (by omega), hB 44 (by omega), hB 45 (by omega)]; exact h.r
/-- the jumps listed alike -/
def jr (A B : mx_M) (N m : Nat) : Prop := (A 5 5 = nI m) ∧ (B 41 8 = nI m) ∧ (∀ k, k < m → ∃ f o t, (f < N ∧ o < N ∧ t < N ∧ f ≠ o ∧ f ≠ t ∧ o ≠ t) ∧ (A 6 k = nI f ∧ A 7 k = nI o ∧ A 8 k = nI t ∧ A 9 k = nI (2 ^ f ||| 2 ^ o) ∧ A 10 k = nI ((2 ^ f ||| 2 ^ o) ||| 2 ^ t)) ∧ B 46 k = nI f ∧ B 47 k = nI o ∧ B 48 k = nI t)
theorem jr.n {A B : mx_M} {N m : Nat} (h : jr A B N m) : A 5 5 = nI m := h.1
theorem jr.n2 {A B : mx_M} {N m : Nat} (h : jr A B N m) : B 41 8 = nI m := h.2.1
theorem jr.k {A B : mx_M} {N m : Nat} (h : jr A B N m) : ∀ k, k < m → ∃ f o t, (f < N ∧ o < N ∧ t < N ∧ f ≠ o ∧ f ≠ t ∧ o ≠ t) ∧ (A 6 k = nI f ∧ A 7 k = nI o ∧ A 8 k = nI t ∧ A 9 k = nI (2 ^ f ||| 2 ^ o) ∧ A 10 k = nI ((2 ^ f ||| 2 ^ o) ||| 2 ^ t)) ∧ B 46 k = nI f ∧ B 47 k = nI o ∧ B 48 k = nI t := h.2.2
theorem jr.mk' {A B : mx_M} {N m : Nat} (n_ : A 5 5 = nI m) (n2_ : B 41 8 = nI m) (k_ : ∀ k, k < m → ∃ f o t, (f < N ∧ o < N ∧ t < N ∧ f ≠ o ∧ f ≠ t ∧ o ≠ t) ∧ (A 6 k = nI f ∧ A 7 k = nI o ∧ A 8 k = nI t ∧ A 9 k = nI (2 ^ f ||| 2 ^ o) ∧ A 10 k = nI ((2 ^ f ||| 2 ^ o) ||| 2 ^ t)) ∧ B 46 k = nI f ∧ B 47 k = nI o ∧ B 48 k = nI t) : jr A B N m := ⟨n_, n2_, k_⟩
theorem st0 {x a : Int32} (h : x + a = x) : a = 0 := by
  have := congrArg (fun y => -x + y) h
  simp only [← Int32.add_assoc, Int32.add_left_neg, Int32.zero_add] at this
  exact this
theorem st1 {x a b : Int32} (h : x + a = x + b) : a = b := by
  have := congrArg (fun y => -x + y) h
  simp only [← Int32.add_assoc, Int32.add_left_neg, Int32.zero_add] at this
  exact this
def un3 (a : Int32) : Prop := a = 0 ∨ a = 1 ∨ a = -1
theorem st2 {x a : Int32} (ha : un3 a) (h : x + 2 * a = x) : a = 0 := by
  have := st0 h
  rcases ha with rfl | rfl | rfl
  · rfl
  · exact absurd this (by decide)
  · exact absurd this (by decide)
theorem st3 {x a : Int32} (ha : un3 a) (h : x + a = x + 2 * a) : a = 0 := by
  have := st1 h
  rcases ha with rfl | rfl | rfl
  · rfl
  · exact absurd this (by decide)
  · exact absurd this (by decide)
theorem jr_one {N n h : Nat} {a b : Int32} (hu : nu A B D) (hj : jr A B N n) (hn : n < 120) (hN : N = pg_n D 64) (hN20 : N ≤ 20) (hh : h < N) (ha : un3 a) (hb : un3 b) (hab : ¬ (a = 0 ∧ b = 0)) :
    ∃ n', n ≤ n' ∧ n' ≤ n + 1 ∧ jr (ju_one A h a b) (mo_j1 B h a b) N n' := by
  obtain ⟨q, q64, dq, eq⟩ := pg_n_ex (D := D) 64 h (by omega)
  obtain ⟨r1, r2, r3, r4⟩ := hu.r q q64 dq
  rw [eq] at r1 r2 r3 r4
  unfold ju_one mo_j1
  rw [r1, r2, r3, r4, (aD_at hu _ _).1, (aD_at hu _ _).1, (aD_at hu _ _).2, (aD_at hu _ _).2]
  by_cases c1 : aD D (nI (q / 8) + a) (nI (q % 8) + b) = -1
  · rw [if_pos c1, if_pos ((aD_neg _ _).mpr c1)]
    exact ⟨n, by omega, by omega, hj⟩
  · rw [if_neg c1, if_neg (fun y => c1 ((aD_neg _ _).mp y))]
    by_cases c2 : aD D (nI (q / 8) + 2 * a) (nI (q % 8) + 2 * b) = -1
    · rw [if_pos c2, if_pos ((aD_neg _ _).mpr c2)]
      exact ⟨n, by omega, by omega, hj⟩
    · rw [if_neg c2, if_neg (fun y => c2 ((aD_neg _ _).mp y)), if_neg (by rw [hj.n]; exact nI_ge hn (by decide))]
      obtain ⟨i1, j1, hi1, hj1, e1, e2, d1, v1⟩ := aD_some c1
      obtain ⟨i2, j2, hi2, hj2, e3, e4, d2, v2⟩ := aD_some c2
      rw [v1, v2, hj.n, hj.n2, nI_clamp (by omega)]
      have l1 : pg_n D (i1 * 8 + j1) < N := by rw [hN]; exact pg_n_lt (by omega) d1
      have l2 : pg_n D (i2 * 8 + j2) < N := by rw [hN]; exact pg_n_lt (by omega) d2
      have n1 : h ≠ pg_n D (i1 * 8 + j1) := by
        intro e
        have z := pg_n_inj dq d1 (eq.trans e)
        have z1 : i1 = q / 8 := by omega
        have z2 : j1 = q % 8 := by omega
        rw [z1] at e1
        rw [z2] at e2
        exact hab ⟨st0 e1, st0 e2⟩
      have n2 : h ≠ pg_n D (i2 * 8 + j2) := by
        intro e
        have z := pg_n_inj dq d2 (eq.trans e)
        have z1 : i2 = q / 8 := by omega
        have z2 : j2 = q % 8 := by omega
        rw [z1] at e3
        rw [z2] at e4
        exact hab ⟨st2 ha e3, st2 hb e4⟩
      have n3 : pg_n D (i1 * 8 + j1) ≠ pg_n D (i2 * 8 + j2) := by
        intro e
        have z := pg_n_inj d1 d2 e
        have z1 : i1 = i2 := by omega
        have z2 : j1 = j2 := by omega
        rw [z1] at e1
        rw [z2] at e2
        exact hab ⟨st3 ha (e1.trans e3.symm), st3 hb (e2.trans e4.symm)⟩
      generalize pg_n D (i1 * 8 + j1) = o at *
      generalize pg_n D (i2 * 8 + j2) = t at *
      refine ⟨n + 1, by omega, by omega, ?_⟩
      have p1 : ju_pg (nI h) (nI o) = nI (2 ^ h ||| 2 ^ o) := by
        rw [ju_pg, nb_shl (by omega), nb_shl (by omega), nI_or]
      have p2 : ju_pg (nI h) (nI o) ||| (1 <<< (nI t &&& 31)) = nI ((2 ^ h ||| 2 ^ o) ||| 2 ^ t) := by
        rw [p1, nb_shl (by omega), nI_or]
      refine jr.mk' ?jr_n ?jr_n2 ?jr_k
      case jr_n => rw [ju_in, mx_up_row, pk_us, hj.n, nI_1]
      case jr_n2 => rw [mo_jin, mx_up_row, pk_us, hj.n2, nI_1]
      case jr_k =>
        intro k hk
        by_cases ek : k = n
        · subst ek
          refine ⟨h, o, t, ⟨hh, l1, l2, n1, n2, n3⟩, ?_⟩
          unfold ju_in mo_jin
          rw [p2, p1]
          simp [mx_up]
        · obtain ⟨f, o', t', x1, x2, x3⟩ := hj.k k (by omega)
          refine ⟨f, o', t', x1, ?_⟩
          unfold ju_in mo_jin
          simpa [mx_up, ek] using And.intro x2 x3
theorem jr_dir {ra ca : Nat → Int32} {N n h t : Nat} (hu : nu A B D) (hj : jr A B N n) (hn : n ≤ 6 * h) (ht6 : t ≤ 6) (hN : N = pg_n D 64) (hN20 : N ≤ 20) (hh : h < N)
    (hs : ∀ j, j < t → ra j = mo_dn B (nI j) ∧ ca j = mo_rt B (nI j) ∧ un3 (ra j) ∧ un3 (ca j) ∧ ¬ (ra j = 0 ∧ ca j = 0)) :
    ∀ j, j ≤ t → ∃ n', n' ≤ n + j ∧ jr (ju_dir ra ca A h j) (mo_jd B h j) N n'
  | 0, _ => ⟨n, by omega, hj⟩
  | j + 1, hjt => by
    obtain ⟨n', h1, h2⟩ := jr_dir hu hj hn ht6 hN hN20 hh hs j (by omega)
    obtain ⟨s1, s2, s3, s4, s5⟩ := hs j (by omega)
    have u' : nu (ju_dir ra ca A h j) (mo_jd B h j) D := nu_cong hu (fun c hc => ju_dir_off (by omega) j) (fun c hc => mo_jd_off ⟨by omega, by omega, by omega, by omega⟩ j)
    obtain ⟨n2, h3, h4, h5⟩ := jr_one u' h2 (by omega) hN hN20 hh s3 s4 s5
    rw [ju_dir, mo_jd, ← s1, ← s2]
    exact ⟨n2, by omega, h5⟩
theorem mo_dn_c (h : B' 41 1 = B 41 1) (x : Int32) : mo_dn B' x = mo_dn B x ∧ mo_rt B' x = mo_rt B x := by
  unfold mo_dn mo_rt
  rw [h]
  exact ⟨rfl, rfl⟩
theorem jr_all {ra ca : Nat → Int32} {N t : Nat} (hu : nu A B D) (hj : jr A B N 0) (ht6 : t ≤ 6) (hN : N = pg_n D 64) (hN20 : N ≤ 20)
    (hs : ∀ j, j < t → ra j = mo_dn B (nI j) ∧ ca j = mo_rt B (nI j) ∧ un3 (ra j) ∧ un3 (ca j) ∧ ¬ (ra j = 0 ∧ ca j = 0)) :
    ∀ h, h ≤ N → ∃ n', n' ≤ 6 * h ∧ jr (ju_all ra ca t A h) (mo_ja B t h) N n'
  | 0, _ => ⟨0, by omega, hj⟩
  | h + 1, hh => by
    obtain ⟨n', h1, h2⟩ := jr_all hu hj ht6 hN hN20 hs h (by omega)
    have u' : nu (ju_all ra ca t A h) (mo_ja B t h) D := nu_cong hu (fun c hc => ju_all_off (by omega) h) (fun c hc => mo_ja_off ⟨by omega, by omega, by omega, by omega⟩ h)
    have e41 := mo_ja_41 (M := B) (t := t) (c := 1) (by decide) h
    obtain ⟨n2, h3, h4⟩ := jr_dir u' h2 h1 ht6 hN hN20 (by omega) (fun j hj => by rw [(mo_dn_c e41 _).1, (mo_dn_c e41 _).2]; exact hs j hj) t (Nat.le_refl t)
    rw [ju_all, mo_ja]
    exact ⟨n2, by omega, h4⟩
theorem sq_s (h : B 41 1 = 0) : ∀ j, j < 4 → pg_s1 j = mo_dn B (nI j) ∧ pg_s2 j = mo_rt B (nI j) ∧ un3 (pg_s1 j) ∧ un3 (pg_s2 j) ∧ ¬ (pg_s1 j = 0 ∧ pg_s2 j = 0) := by
  intro j hj
  unfold mo_dn mo_rt un3
  rw [if_pos h, if_pos h]
  have : ∀ j, j < 4 → (pg_s1 j = (if nI j = 1 then 1 else if nI j = 3 then -1 else 0) ∧ pg_s2 j = (if nI j = 0 then 1 else if nI j = 2 then -1 else 0) ∧ (pg_s1 j = 0 ∨ pg_s1 j = 1 ∨ pg_s1 j = -1) ∧ (pg_s2 j = 0 ∨ pg_s2 j = 1 ∨ pg_s2 j = -1) ∧ ¬ (pg_s1 j = 0 ∧ pg_s2 j = 0)) := by decide +kernel
  exact this j hj
theorem tr_s (h : B 41 1 = 1) : ∀ j, j < 6 → pg_s3 j = mo_dn B (nI j) ∧ pg_s4 j = mo_rt B (nI j) ∧ un3 (pg_s3 j) ∧ un3 (pg_s4 j) ∧ ¬ (pg_s3 j = 0 ∧ pg_s4 j = 0) := by
  intro j hj
  unfold mo_dn mo_rt un3
  have z : ¬ B 41 1 = 0 := by rw [h]; decide
  rw [if_neg z, if_neg z]
  have : ∀ j, j < 6 → (pg_s3 j = (if nI j = 1 ∨ nI j = 2 then 1 else if nI j = 4 ∨ nI j = 5 then -1 else 0) ∧ pg_s4 j = (if nI j = 0 ∨ nI j = 5 then 1 else if nI j = 2 ∨ nI j = 3 then -1 else 0) ∧ (pg_s3 j = 0 ∨ pg_s3 j = 1 ∨ pg_s3 j = -1) ∧ (pg_s4 j = 0 ∨ pg_s4 j = 1 ∨ pg_s4 j = -1) ∧ ¬ (pg_s3 j = 0 ∧ pg_s4 j = 0)) := by decide +kernel
  exact this j hj
end FJ
