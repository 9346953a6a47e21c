/-! Images, parity, weights: the class in A, the model in B. -/
section OQ
variable {A B A' B' : mx_M} {D : Nat → Bool} {N J S sa ga : Nat} {fr ov tt : Nat → Nat} {im : Nat → Nat → Nat}
theorem op_place (h : iv A B D N J S fr ov tt im sa ga) (b p : Int32) : agv1 (pe_place A b p).1 xIA (mo_place B b p 41 0) ∧ IV (pe_place A b p).2 (mo_place B b p) := by
  unfold pe_place mo_place
  by_cases hp : p &&& (pe_all A ^^^ (-1)) = 0
  · rw [if_pos hp, if_pos ((iv_posI h p).mp hp)]
    obtain ⟨a, ha, rfl⟩ := (iv_pos h p).1.mp hp
    have aN : a < 2 ^ N := by
      refine Nat.lt_of_lt_of_le ha (Nat.pow_le_pow_right (by decide) ?_)
      unfold iv_H; split <;> omega
    have un : A 1 4 = 0 → a = 0 := by
      intro u
      rw [iv_H, if_pos u] at ha
      omega
    by_cases hb : b = 0
    · rw [if_pos hb, if_pos hb]
      refine ⟨Or.inl ⟨rfl, rfl⟩, D, N, J, S, fr, ov, tt, im, a, ga, ?_⟩
      refine iv.mk' ?iv_t ?iv_t2 ?iv_f ?iv_f2 ?iv_n ?iv_n2 ?iv_nD ?iv_n20 ?iv_d ?iv_d2 ?iv_j ?iv_j2 ?iv_j120 ?iv_jk ?iv_jk2 ?iv_jb ?iv_s ?iv_s2 ?iv_s12 ?iv_sk ?iv_si ?iv_un ?iv_fz ?iv_nb ?iv_rc ?iv_a ?iv_a2 ?iv_ab ?iv_g ?iv_g2 ?iv_gb ?iv_w
      case iv_t => simpa [mx_up] using h.t
      case iv_t2 => simpa [mx_up] using h.t2
      case iv_f => simpa [mx_up] using h.f
      case iv_f2 => simpa [mx_up] using h.f2
      case iv_n => simpa [mx_up] using h.n
      case iv_n2 => simpa [mx_up] using h.n2
      case iv_nD => exact h.nD
      case iv_n20 => exact h.n20
      case iv_d => simpa [mx_up] using h.d
      case iv_d2 => simpa [mx_up] using h.d2
      case iv_j => simpa [mx_up] using h.j
      case iv_j2 => simpa [mx_up] using h.j2
      case iv_j120 => exact h.j120
      case iv_jk => exact h.jk
      case iv_jk2 => exact h.jk2
      case iv_jb => exact h.jb
      case iv_s => simpa [mx_up] using h.s
      case iv_s2 => simpa [mx_up] using h.s2
      case iv_s12 => exact h.s12
      case iv_sk =>
        intro k q hk hq
        show mx_up A 0 5 (nI a) (13 + k) q = _ ∧ _
        rw [mx_up_off (show 13 + k ≠ 0 by omega)]
        exact h.sk k q hk hq
      case iv_si => exact h.si
      case iv_un =>
        intro u
        have u' : A 1 4 = 0 := u
        obtain ⟨e1, e2, e3, e4⟩ := h.un u'
        exact ⟨e1, e2, un u', e4⟩
      case iv_fz => exact h.fz
      case iv_nb => exact h.nb
      case iv_rc => exact h.rc
      case iv_a => simp [mx_up]
      case iv_a2 => simp [mx_up]
      case iv_ab => exact aN
      case iv_g => simpa [mx_up] using h.g
      case iv_g2 => simpa [mx_up] using h.g2
      case iv_gb => exact h.gb
      case iv_w => exact h.w
    · rw [if_neg hb, if_neg hb]
      refine ⟨Or.inl ⟨rfl, rfl⟩, D, N, J, S, fr, ov, tt, im, sa, a, ?_⟩
      refine iv.mk' ?iv_t ?iv_t2 ?iv_f ?iv_f2 ?iv_n ?iv_n2 ?iv_nD ?iv_n20 ?iv_d ?iv_d2 ?iv_j ?iv_j2 ?iv_j120 ?iv_jk ?iv_jk2 ?iv_jb ?iv_s ?iv_s2 ?iv_s12 ?iv_sk ?iv_si ?iv_un ?iv_fz ?iv_nb ?iv_rc ?iv_a ?iv_a2 ?iv_ab ?iv_g ?iv_g2 ?iv_gb ?iv_w
      case iv_t => simpa [mx_up] using h.t
      case iv_t2 => simpa [mx_up] using h.t2
      case iv_f => simpa [mx_up] using h.f
      case iv_f2 => simpa [mx_up] using h.f2
      case iv_n => simpa [mx_up] using h.n
      case iv_n2 => simpa [mx_up] using h.n2
      case iv_nD => exact h.nD
      case iv_n20 => exact h.n20
      case iv_d => simpa [mx_up] using h.d
      case iv_d2 => simpa [mx_up] using h.d2
      case iv_j => simpa [mx_up] using h.j
      case iv_j2 => simpa [mx_up] using h.j2
      case iv_j120 => exact h.j120
      case iv_jk => exact h.jk
      case iv_jk2 => exact h.jk2
      case iv_jb => exact h.jb
      case iv_s => simpa [mx_up] using h.s
      case iv_s2 => simpa [mx_up] using h.s2
      case iv_s12 => exact h.s12
      case iv_sk =>
        intro k q hk hq
        show mx_up A 0 6 (nI a) (13 + k) q = _ ∧ _
        rw [mx_up_off (show 13 + k ≠ 0 by omega)]
        exact h.sk k q hk hq
      case iv_si => exact h.si
      case iv_un =>
        intro u
        have u' : A 1 4 = 0 := u
        obtain ⟨e1, e2, e3, e4⟩ := h.un u'
        exact ⟨e1, e2, e3, un u'⟩
      case iv_fz => exact h.fz
      case iv_nb => exact h.nb
      case iv_rc => exact h.rc
      case iv_a => simpa [mx_up] using h.a
      case iv_a2 => simpa [mx_up] using h.a2
      case iv_ab => exact h.ab
      case iv_g => simp [mx_up]
      case iv_g2 => simp [mx_up]
      case iv_gb => exact aN
      case iv_w => exact h.w
  · rw [if_neg hp, if_neg (fun y => hp ((iv_posI h p).mpr y))]
    exact ⟨Or.inr ⟨rfl, rfl⟩, _, _, _, _, _, _, _, _, _, _, iv_up h 1⟩
/-- the image of a position, as a natural number -/
def ig (f : Nat → Nat) (a : Nat) : Nat → Nat
  | 0 => 0
  | h + 1 => ig f a h ||| (if a.testBit h then 2 ^ f h else 0)
theorem ig_lt {f : Nat → Nat} {a n : Nat} : ∀ h, (∀ i, i < h → f i < n) → ig f a h < 2 ^ n
  | 0, _ => Nat.two_pow_pos n
  | h + 1, q => by
    rw [ig]
    refine Nat.or_lt_two_pow (ig_lt h (fun i hi => q i (by omega))) ?_
    split
    · exact Nat.pow_lt_pow_right (by decide) (q h (by omega))
    · exact Nat.two_pow_pos n
theorem ig_bit {f : Nat → Nat} {a : Nat} : ∀ (h j : Nat), (∀ i, i < h → f i ≠ j) → (ig f a h).testBit j = false
  | 0, j, _ => by simp [ig]
  | h + 1, j, q => by
    rw [ig, Nat.testBit_or, ig_bit h j (fun i hi => q i (by omega))]
    split
    · rw [Nat.testBit_two_pow]; simp [q h (by omega)]
    · simp
theorem ig_sy {f : Nat → Nat} {g : Nat → Int32} {a : Nat} (ha : a < 2 ^ 20) : ∀ h, h ≤ 20 → (∀ i, i < h → g i = nI (f i) ∧ f i < 20) → sy_im g (nI a) h = nI (ig f a h)
  | 0, _, _ => nI_0.symm
  | h + 1, hh, q => by
    rw [sy_im, ig, ig_sy ha h (by omega) (fun i hi => q i (by omega)), nb_has (by omega) (by omega), nb_t, (q h (by omega)).1]
    cases e : a.testBit h
    · rw [if_pos (by decide)]
      simp
    · rw [if_neg (by decide), nb_shl (by have := (q h (by omega)).2; omega), nI_or]
      rfl
theorem ig_mo {f : Nat → Nat} {G : Nat → Int32} {k a : Nat} (ha : a < 2 ^ 20) : ∀ h, h ≤ 20 → (∀ i, i < h → G (20 * k + i) = nI (f i) ∧ f i < 20) → (∀ i i', i < h → i' < h → f i = f i' → i = i') → mo_im G k (nI a) h = nI (ig f a h)
  | 0, _, _, _ => nI_0.symm
  | h + 1, hh, q, inj => by
    rw [mo_im, ig, ig_mo ha h (by omega) (fun i hi => q i (by omega)) (fun i i' hi hi' => inj i i' (by omega) (by omega)), nb_bit (by omega) (by omega), nb_t, (q h (by omega)).1]
    have f20 := (q h (by omega)).2
    have p20 := p31 f20
    cases e : a.testBit h
    · rw [pk_shlN (n := (false).toNat) _ (f h) (nb_s (f h) (by omega)) (by simp), nI_add]
      simp
    · rw [pk_shlN (n := (true).toNat) _ (f h) (nb_s (f h) (by omega)) (by simp; omega)]
      rw [show (true).toNat * 2 ^ f h = 2 ^ f h from Nat.one_mul _, if_pos rfl]
      have z : ig f a h &&& 2 ^ f h = 0 := by
        rw [nb_and, ig_bit h (f h) (fun i hi y => by have := inj i h (by omega) (by omega) y; omega)]
        rfl
      rw [i_add (by rw [pq_and, z, nI_0]), nI_xor]
      congr 1
      apply Nat.eq_of_testBit_eq
      intro j
      have := congrArg (fun y => Nat.testBit y j) z
      simp only [Nat.testBit_and, Nat.zero_testBit] at this
      rw [Nat.testBit_xor, Nat.testBit_or]
      revert this
      cases (ig f a h).testBit j <;> cases (2 ^ f h).testBit j <;> simp
theorem op_lo (h : iv A B D N J S fr ov tt im sa ga) {a : Nat} (ha : a < 2 ^ N) : ∀ k, k ≤ S → sy_lo A (nI a) N k = mo_lo (B 49) (nI a) N k
  | 0, _ => rfl
  | k + 1, hk => by
    have n20 := h.n20
    have a20 : a < 2 ^ 20 := Nat.lt_of_lt_of_le ha (Nat.pow_le_pow_right (by decide) n20)
    rw [sy_lo, mo_lo, op_lo h ha k (by omega), ig_sy (f := im k) a20 N n20 (fun i hi => ⟨(h.sk k i (by omega) hi).1, by have := (h.sk k i (by omega) hi).2.2; omega⟩),
      ig_mo (f := im k) a20 N n20 (fun i hi => ⟨(h.sk k i (by omega) hi).2.1, by have := (h.sk k i (by omega) hi).2.2; omega⟩) (fun i i' hi hi' => h.si k i i' (by omega) hi hi')]
theorem op_least (h : iv A B D N J S fr ov tt im sa ga) (p : Int32) : ag (pe_least A p N S) xIA xIS ((mo_least B p N S).2 41 0) (mo_least B p N S).1 ∧ IV A (mo_least B p N S).2 := by
  unfold pe_least mo_least
  rw [h.f2]
  by_cases hp : p &&& (pe_all A ^^^ (-1)) = 0
  · rw [if_pos hp, if_pos ((iv_posI h p).mp hp)]
    obtain ⟨a, ha, rfl⟩ := (iv_pos h p).1.mp hp
    by_cases u : A 1 4 = 0
    · rw [if_neg (fun y => y u), if_pos u]
      exact ⟨Or.inr (Or.inr ⟨rfl, rfl⟩), _, _, _, _, _, _, _, _, _, _, iv_up h 2⟩
    · rw [iv_H, if_neg u] at ha
      rw [if_pos u, if_neg u, op_lo h ha S (Nat.le_refl S)]
      exact ⟨Or.inl ⟨rfl, rfl⟩, _, _, _, _, _, _, _, _, _, _, iv_up h 0⟩
  · rw [if_neg hp, if_neg (fun y => hp ((iv_posI h p).mpr y))]
    exact ⟨Or.inr (Or.inl ⟨rfl, rfl⟩), _, _, _, _, _, _, _, _, _, _, iv_up h 1⟩
theorem op_image (h : iv A B D N J S fr ov tt im sa ga) (k q : Int32) : ag1 (pe_image A k q) xIO ((mo_image B k q).2 41 0) (mo_image B k q).1 ∧ IV A (mo_image B k q).2 := by
  unfold pe_image mo_image
  rw [h.s, h.s2, h.f2, h.n2, iv_peH h]
  have s12 := h.s12
  have n20 := h.n20
  by_cases hk : ¬ k < 0 ∧ k < nI S
  · rw [if_pos hk]
    have u : ¬ A 1 4 = 0 := by
      intro u
      have := (h.un u).2.1
      subst this
      exact absurd hk.2 (by rw [nI_0]; exact hk.1)
    have eH : iv_H A N = N := if_neg u
    rw [eH]
    by_cases hq : ¬ q < 0 ∧ q < nI N
    · rw [if_pos hq, if_pos ⟨hk, u, hq.1, hq.2⟩]
      obtain ⟨k', hk', rfl⟩ := nI_inJ (by omega) hk
      obtain ⟨q', hq', rfl⟩ := nI_inJ (by omega) hq
      obtain ⟨e1, e2, _⟩ := h.sk k' q' hk' hq'
      rw [show (20 : Int32) * nI k' + nI q' = nI (20 * k' + q') from by rw [show (20 : Int32) = nI 20 from rfl, pk_mul, nI_add], nI_clamp (by omega), nI_clamp (by omega), nI_clamp (by omega), e1, e2]
      exact ⟨Or.inl ⟨rfl, rfl⟩, _, _, _, _, _, _, _, _, _, _, iv_up h 0⟩
    · rw [if_neg hq, if_neg (fun y => hq ⟨y.2.2.1, y.2.2.2⟩)]
      exact ⟨Or.inr ⟨rfl, rfl⟩, _, _, _, _, _, _, _, _, _, _, iv_up h 1⟩
  · rw [if_neg hk, if_neg (fun y => hk y.1)]
    exact ⟨Or.inr ⟨rfl, rfl⟩, _, _, _, _, _, _, _, _, _, _, iv_up h 1⟩
/-! parity -/
theorem mo_bit01 (p h : Int32) : mo_bit p h = 0 ∨ mo_bit p h = 1 := by
  unfold mo_bit
  rcases we_has01 p h with e | e
  · left
    obtain ⟨j, hj, ej⟩ : ∃ j : Nat, j < 2 ^ 1 ∧ (p >>> (h &&& 31)) &&& 1 = nI j := pk_andE _ 1 (by decide)
    have : j = 0 ∨ j = 1 := by omega
    rcases this with z | z
    · rw [ej, z]; rfl
    · exfalso
      rw [pg_has, ej, z, if_pos (by decide)] at e
      exact absurd e (by decide)
  · right
    unfold pg_has at e
    split at e
    · assumption
    · exact absurd e (by decide)
theorem mo_has (p h : Int32) : (pg_has p h = 0 ∧ mo_bit p h = 0) ∨ (¬ pg_has p h = 0 ∧ mo_bit p h = 1) := by
  rcases mo_bit01 p h with e | e
  · left
    refine ⟨?_, e⟩
    unfold mo_bit at e
    rw [pg_has, e]; decide
  · right
    refine ⟨?_, e⟩
    unfold mo_bit at e
    rw [pg_has, e]; decide
theorem mo_pcN {x : Nat → Int32} {t p : Int32} : ∀ h, ∃ n, n ≤ h ∧ mo_pc x t p h = nI n
  | 0 => ⟨0, Nat.le_refl 0, nI_0.symm⟩
  | h + 1 => by
    obtain ⟨n, hn, e⟩ := mo_pcN (x := x) (t := t) (p := p) h
    rw [mo_pc, e]
    split
    · split
      · exact ⟨n, by omega, rfl⟩
      · exact ⟨n + 1, by omega, nI_1 n⟩
    · exact ⟨n, by omega, rfl⟩
theorem mo_r2N {n : Nat} (hn : n < 2 ^ 31) : mo_r2 (nI n) = nI (n % 2) := pk_rem (d := 2) hn (by decide) (by decide)
theorem pr_x : ∀ a b c d x y z w : Fin 2, nI (8 * a.val + 4 * b.val + 2 * c.val + d.val) ^^^ nI (8 * x.val + 4 * y.val + 2 * z.val + w.val) = nI (8 * ((a.val + x.val) % 2) + 4 * ((b.val + y.val) % 2) + 2 * ((c.val + z.val) % 2) + (d.val + w.val) % 2) := by decide +kernel
theorem pr_y {a b c d x y z w : Nat} (hx : x < 2) (hy : y < 2) (hz : z < 2) (hw : w < 2) : nI (8 * (a % 2) + 4 * (b % 2) + 2 * (c % 2) + d % 2) ^^^ nI (8 * x + 4 * y + 2 * z + w) = nI (8 * ((a + x) % 2) + 4 * ((b + y) % 2) + 2 * ((c + z) % 2) + (d + w) % 2) := by
  have m : ∀ n : Nat, n % 2 < 2 := fun n => Nat.mod_lt _ (by decide)
  have := pr_x ⟨a % 2, m a⟩ ⟨b % 2, m b⟩ ⟨c % 2, m c⟩ ⟨d % 2, m d⟩ ⟨x, hx⟩ ⟨y, hy⟩ ⟨z, hz⟩ ⟨w, hw⟩
  simp only [Nat.mod_add_mod] at this
  exact this
theorem pr_8 {a b c d : Nat} : 8 * nI a + 4 * nI b + 2 * nI c + nI d = nI (8 * a + 4 * b + 2 * c + d) := by
  rw [show (8 : Int32) = nI 8 from rfl, show (4 : Int32) = nI 4 from rfl, show (2 : Int32) = nI 2 from rfl, pk_mul, pk_mul, pk_mul, nI_add, nI_add, nI_add]
theorem pr_col (x y : Int32) : 4 * pg_col x + pg_col y = nI (8 * (if x = 2 then 0 else 1) + 4 * (if x = 0 then 0 else 1) + 2 * (if y = 2 then 0 else 1) + (if y = 0 then 0 else 1)) := by
  unfold pg_col
  by_cases h1 : x = 2 <;> by_cases h2 : x = 0 <;> by_cases h3 : y = 2 <;> by_cases h4 : y = 0 <;> simp only [h1, h2, h3, h4, if_true, if_false] <;> decide
theorem pr_eq (f g : Nat → Int32) (p : Int32) : ∀ h, h ≤ 20 → pg_cls f g p h = mo_pr f g p h
  | 0, _ => by
    show (0 : Int32) = 8 * mo_r2 0 + 4 * mo_r2 0 + 2 * mo_r2 0 + mo_r2 0
    decide
  | h + 1, hh => by
    rw [pg_cls, pr_eq f g p h (by omega)]
    unfold mo_pr
    obtain ⟨a, ha, e1⟩ := mo_pcN (x := fun h => pg_r3 (f h + g h)) (t := 2) (p := p) h
    obtain ⟨b, hb, e2⟩ := mo_pcN (x := fun h => pg_r3 (f h + g h)) (t := 0) (p := p) h
    obtain ⟨c, hc, e3⟩ := mo_pcN (x := fun h => pg_r3 (f h - g h + 9)) (t := 2) (p := p) h
    obtain ⟨d, hd, e4⟩ := mo_pcN (x := fun h => pg_r3 (f h - g h + 9)) (t := 0) (p := p) h
    simp only [mo_pc, e1, e2, e3, e4]
    rcases mo_has p (nI h) with ⟨q1, q2⟩ | ⟨q1, q2⟩
    · rw [if_pos q1, q2]
      simp
    · rw [if_neg q1, q2]
      simp only [if_true]
      rw [pr_col]
      have s : ∀ (P : Prop) [Decidable P] (n : Nat), (if P then nI n else nI n + 1) = nI (n + if P then 0 else 1) := by
        intro P _ n
        split
        · rfl
        · exact nI_1 n
      have l : ∀ (P : Prop) [Decidable P], (if P then 0 else 1 : Nat) < 2 := by
        intro P _
        split <;> decide
      rw [s, s, s, s, mo_r2N (by omega), mo_r2N (by omega), mo_r2N (by omega), mo_r2N (by omega), mo_r2N (Nat.lt_of_lt_of_le (Nat.add_lt_add_of_le_of_lt ha (l _)) (by omega)), mo_r2N (Nat.lt_of_lt_of_le (Nat.add_lt_add_of_le_of_lt hb (l _)) (by omega)), mo_r2N (Nat.lt_of_lt_of_le (Nat.add_lt_add_of_le_of_lt hc (l _)) (by omega)), mo_r2N (Nat.lt_of_lt_of_le (Nat.add_lt_add_of_le_of_lt hd (l _)) (by omega)), pr_8, pr_8]
      exact pr_y (l _) (l _) (l _) (l _)
end OQ
