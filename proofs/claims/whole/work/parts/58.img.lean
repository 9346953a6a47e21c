/-! Freezing, third: the images. -/
section FI
variable {A B A' B' : mx_M} {D : Nat → Bool}
/-- where hole j comes to -/
def zA (M : mx_M) (k t j : Nat) : Int32 × Int32 := if k < t then sy_t (M 1 3) (k % t) (M 3 j) (M 4 j) else ((sy_t (M 1 3) (k % t) (M 3 j) (M 4 j)).2, (sy_t (M 1 3) (k % t) (M 3 j) (M 4 j)).1)
theorem hs_at {k t : Nat} : ∀ h j, j < h → sy_hs A t k h 25 j = (zA A k t j).1 ∧ sy_hs A t k h 26 j = (zA A k t j).2
  | 0, j, hj => absurd hj (by omega)
  | h + 1, j, hj => by
    have e1 : sy_hs A t k h 1 = A 1 := sy_hs_off (by decide) (by decide) h
    have e3 : sy_hs A t k h 3 = A 3 := sy_hs_off (by decide) (by decide) h
    have e4 : sy_hs A t k h 4 = A 4 := sy_hs_off (by decide) (by decide) h
    rw [sy_hs]
    by_cases c : j = h
    · subst c
      unfold zA
      by_cases q : k < t
      · rw [if_pos q, if_pos q, sy_tn, e1, e3, e4]
        simp [mx_up]
      · rw [if_neg q, if_neg q, sy_mi, sy_tn, e1, e3, e4]
        simp [mx_up]
    · obtain ⟨x1, x2⟩ := hs_at (k := k) (t := t) h j (by omega)
      split
      · simp [sy_tn, mx_up, c, x1, x2]
      · simp [sy_mi, sy_tn, mx_up, c, x1, x2]
theorem zA_mo {k t j : Nat} (h1 : A 1 3 = B 41 1) (h3 : A 3 j = B 44 j) (h4 : A 4 j = B 45 j) : zA A k t j = mo_z B k t j := by
  unfold zA mo_z
  rw [h1, h3, h4]
theorem mn_cong {f g : Nat → Int32} : ∀ n, (∀ i, i ≤ n → f i = g i) → pg_mn f n = pg_mn g n
  | 0, h => h 0 (Nat.le_refl 0)
  | n + 1, h => by rw [pg_mn, pg_mn, mn_cong n (fun i hi => h i (by omega)), h (n + 1) (Nat.le_refl _)]
theorem m9_cong {f g : Nat → Int32} : ∀ n, (∀ i, i < n → f i = g i) → mo_m9 f n = mo_m9 g n
  | 0, _ => rfl
  | n + 1, h => by rw [mo_m9, mo_m9, m9_cong n (fun i hi => h i (by omega)), h n (by omega)]
theorem mn_m9 {f : Nat → Int32} (h0 : ¬ 99 ≤ f 0) : ∀ n, pg_mn f n = mo_m9 f (n + 1)
  | 0 => by
    show f 0 = if (99 : Int32) ≤ f 0 then 99 else f 0
    rw [if_neg h0]
  | n + 1 => by
    rw [pg_mn, mo_m9, ← mn_m9 h0 n]
    by_cases c : f (n + 1) < pg_mn f n
    · rw [if_pos c, if_neg (Int32.not_le.mpr c)]
    · rw [if_neg c, if_pos (Int32.not_lt.mp c)]
theorem sy_t_b : ∀ r, r < 8 → ∀ c, c < 8 → ∀ m, m < 6 → (¬ (99 : Int32) ≤ (sy_t 0 m (nI r) (nI c)).1 ∧ ¬ (99 : Int32) ≤ (sy_t 0 m (nI r) (nI c)).2) ∧ ¬ (99 : Int32) ≤ (sy_t 1 m (nI r) (nI c)).1 ∧ ¬ (99 : Int32) ≤ (sy_t 1 m (nI r) (nI c)).2 := by decide +kernel
theorem nI_99 {r : Nat} (h : r < 8) : ¬ (99 : Int32) ≤ nI r := nI_ge (a := r) (b := 99) (by omega) (by decide)
theorem sy_t_inj {t : Int32} : ∀ (m : Nat) (r c r' c' : Int32), sy_t t m r c = sy_t t m r' c' → r = r' ∧ c = c'
  | 0, r, c, r', c', h => by
    simp only [sy_t] at h
    exact ⟨congrArg Prod.fst h, congrArg Prod.snd h⟩
  | m + 1, r, c, r', c', h => by
    rw [sy_t, sy_t] at h
    obtain ⟨e1, e2⟩ := sy_t_inj m _ _ _ _ h
    have e3 : r = r' := by
      have := congrArg (fun x : Int32 => -x) e2
      simpa using this
    subst e3
    refine ⟨rfl, ?_⟩
    split at e1
    · exact e1
    · exact st1 e1
theorem zA_inj {k t j j' : Nat} (h : zA A k t j = zA A k t j') : A 3 j = A 3 j' ∧ A 4 j = A 4 j' := by
  unfold zA at h
  split at h
  · exact sy_t_inj _ _ _ _ _ h
  · have e : sy_t (A 1 3) (k % t) (A 3 j) (A 4 j) = sy_t (A 1 3) (k % t) (A 3 j') (A 4 j') := Prod.ext (congrArg Prod.snd h) (congrArg Prod.fst h)
    exact sy_t_inj _ _ _ _ _ e
theorem zA_b {k t j r c : Nat} (ht : A 1 3 = 0 ∨ A 1 3 = 1) (ht6 : 0 < t ∧ t ≤ 6) (hr : r < 8) (hc : c < 8) (h3 : A 3 j = nI r) (h4 : A 4 j = nI c) : ¬ (99 : Int32) ≤ (zA A k t j).1 ∧ ¬ (99 : Int32) ≤ (zA A k t j).2 := by
  have hm : k % t < 6 := Nat.lt_of_lt_of_le (Nat.mod_lt _ ht6.1) ht6.2
  have := sy_t_b r hr c hc (k % t) hm
  unfold zA
  rw [h3, h4]
  rcases ht with e | e <;> rw [e] <;> split
  · exact this.1
  · exact ⟨this.1.2, this.1.1⟩
  · exact this.2
  · exact ⟨this.2.2, this.2.1⟩
theorem i_asb (x a b : Int32) : x + (a - b) = x - b + a := by
  rw [Int32.sub_eq_add_neg, Int32.sub_eq_add_neg, Int32.add_assoc, Int32.add_comm a]
/-- the places of the image, moved -/
theorem xc_at {k t N j : Nat} (hj : j < N + 1) : sy_c (sy_b (sy_hs A t k (N + 1)) N) N 25 j = (zA A k t j).1 - pg_mn (fun i => (zA A k t i).1) N + pg_mn (A 3) N ∧ sy_c (sy_b (sy_hs A t k (N + 1)) N) N 26 j = (zA A k t j).2 - pg_mn (fun i => (zA A k t i).2) N + pg_mn (A 4) N := by
  have m1 : pg_mn (sy_hs A t k (N + 1) 25) N = pg_mn (fun i => (zA A k t i).1) N := mn_cong N (fun i hi => (hs_at (N + 1) i (by omega)).1)
  have m2 : pg_mn (sy_hs A t k (N + 1) 26) N = pg_mn (fun i => (zA A k t i).2) N := mn_cong N (fun i hi => (hs_at (N + 1) i (by omega)).2)
  have e3 : sy_hs A t k (N + 1) 3 = A 3 := sy_hs_off (by decide) (by decide) _
  have e4 : sy_hs A t k (N + 1) 4 = A 4 := sy_hs_off (by decide) (by decide) _
  have b26 : sy_b (sy_hs A t k (N + 1)) N 26 = sy_hs A t k (N + 1) 26 := sy_mv_off (by decide)
  have b4 : sy_b (sy_hs A t k (N + 1)) N 4 = sy_hs A t k (N + 1) 4 := sy_mv_off (by decide)
  constructor
  · rw [sy_c, sy_mv_off (by decide), sy_b, sy_mv, mx_row, if_pos rfl, if_pos hj, (hs_at (N + 1) j hj).1, m1, e3, i_asb]
  · rw [sy_c, sy_mv, mx_row, if_pos rfl, if_pos hj, b26, b4, (hs_at (N + 1) j hj).2, m2, e4, i_asb]
/-- the image laid into row s: all are holes, or not -/
theorem ad_no {s : Nat} (hs : s < 12) {g : Nat → Int32} : ∀ (m h : Nat) (X : mx_M), (∀ j, h ≤ j → j < h + m → pg_at X (X 25 j) (X 26 j) = g j) → (∃ j, h ≤ j ∧ j < h + m ∧ g j = -1) → ∀ c, c ≠ 13 + s → sy_ad s m h X c = X c
  | 0, h, X, _, ⟨j, h1, h2, _⟩, c, hc => absurd h2 (by omega)
  | m + 1, h, X, hg, ⟨j, h1, h2, h3⟩, c, hc => by
    rw [sy_ad, hg h (by omega) (by omega)]
    by_cases e : g h = -1
    · rw [if_pos e]
    · rw [if_neg e, if_neg (by omega), ad_no hs m (h + 1) _ (g := g) ?_ ⟨j, ?_, by omega, h3⟩ c hc, mx_up_off hc]
      · intro i hi1 hi2
        have := hg i (by omega) (by omega)
        unfold pg_at at this ⊢
        rw [mx_up_off (show 25 ≠ 13 + s by omega), mx_up_off (show 26 ≠ 13 + s by omega), mx_up_off (show 1 ≠ 13 + s by omega), mx_up_off (show 2 ≠ 13 + s by omega)]
        exact this
      · have : j ≠ h := by rintro rfl; exact e h3
        omega
theorem ad_yes {s : Nat} (hs : s < 12) {g : Nat → Int32} : ∀ (m h : Nat) (X : mx_M), (∀ j, h ≤ j → j < h + m → pg_at X (X 25 j) (X 26 j) = g j) → (∀ j, h ≤ j → j < h + m → ¬ g j = -1) →
    (∀ c, c ≠ 13 + s → c ≠ 11 → sy_ad s m h X c = X c) ∧ sy_ad s m h X 11 4 = nI (s + 1) ∧ (∀ j, h ≤ j → j < h + m → sy_ad s m h X (13 + s) j = g j) ∧ ∀ j, j < h → sy_ad s m h X (13 + s) j = X (13 + s) j
  | 0, h, X, _, _ => by
    rw [sy_ad]
    refine ⟨fun c _ hc => mx_up_off hc, by simp [mx_up], fun j h1 h2 => by omega, fun j hj => by rw [mx_up_off (by omega)]⟩
  | m + 1, h, X, hg, hy => by
    rw [sy_ad, hg h (by omega) (by omega), if_neg (hy h (by omega) (by omega)), if_neg (by omega)]
    obtain ⟨x1, x2, x3, x4⟩ := ad_yes hs (g := g) m (h + 1) (mx_up X (13 + s) h (g h)) (by
      intro i hi1 hi2
      have := hg i (by omega) (by omega)
      unfold pg_at at this ⊢
      rw [mx_up_off (show 25 ≠ 13 + s by omega), mx_up_off (show 26 ≠ 13 + s by omega), mx_up_off (show 1 ≠ 13 + s by omega), mx_up_off (show 2 ≠ 13 + s by omega)]
      exact this) (fun j h1 h2 => hy j (by omega) (by omega))
    refine ⟨fun c h1 h2 => by rw [x1 c h1 h2, mx_up_off h1], x2, ?_, ?_⟩
    · intro j h1 h2
      by_cases e : j = h
      · subst e
        rw [x4 j (by omega), mx_up_row, pk_us]
      · exact x3 j (by omega) (by omega)
    · intro j hj
      rw [x4 j (by omega), mx_up_row, pk_un (by omega)]
theorem y2_at {im : Nat} {g : Nat → Int32} : ∀ h, (∀ j, j < h → mo_y2 B im g h 49 (20 * im + j) = g j) ∧ ∀ p, p < 20 * im → mo_y2 B im g h 49 p = B 49 p
  | 0 => ⟨fun j hj => by omega, fun p _ => rfl⟩
  | h + 1 => by
    obtain ⟨x1, x2⟩ := y2_at (im := im) (g := g) h
    rw [mo_y2, mx_up_row]
    refine ⟨fun j hj => ?_, fun p hp => by rw [pk_un (by omega)]; exact x2 p hp⟩
    by_cases e : j = h
    · subst e; rw [pk_us]
    · rw [pk_un (by omega)]; exact x1 j (by omega)
theorem al_1 {g : Nat → Int32} : ∀ h, mo_al g h = 0 ↔ ∃ j, j < h ∧ g j < 0
  | 0 => ⟨fun h => absurd (show (1 : Int32) = 0 from h) (by decide), fun ⟨j, h, _⟩ => absurd h (by omega)⟩
  | h + 1 => by
    rw [mo_al]
    by_cases c : mo_al g h = 0
    · rw [if_pos c]
      obtain ⟨j, h1, h2⟩ := (al_1 h).mp c
      exact ⟨fun _ => ⟨j, by omega, h2⟩, fun _ => rfl⟩
    · rw [if_neg c]
      by_cases e : g h < 0
      · rw [if_pos e]
        exact ⟨fun _ => ⟨h, by omega, e⟩, fun _ => rfl⟩
      · rw [if_neg e]
        refine ⟨fun y => absurd y (by decide), fun ⟨j, h1, h2⟩ => ?_⟩
        by_cases z : j = h
        · subst z; exact absurd h2 e
        · exact absurd ((al_1 h).mpr ⟨j, by omega, h2⟩) c
/-- the images listed alike -/
def sr (A B : mx_M) (N m : Nat) : Prop := (A 11 4 = nI m) ∧ (B 41 12 = nI m) ∧ (∀ k h, k < m → h < N → ∃ v, v < N ∧ A (13 + k) h = nI v ∧ B 49 (20 * k + h) = nI v) ∧ (∀ k h h', k < m → h < N → h' < N → A (13 + k) h = A (13 + k) h' → h = h')
theorem sr.s {A B : mx_M} {N m : Nat} (h : sr A B N m) : A 11 4 = nI m := h.1
theorem sr.s2 {A B : mx_M} {N m : Nat} (h : sr A B N m) : B 41 12 = nI m := h.2.1
theorem sr.k {A B : mx_M} {N m : Nat} (h : sr A B N m) : ∀ k h, k < m → h < N → ∃ v, v < N ∧ A (13 + k) h = nI v ∧ B 49 (20 * k + h) = nI v := h.2.2.1
theorem sr.i {A B : mx_M} {N m : Nat} (h : sr A B N m) : ∀ k h h', k < m → h < N → h' < N → A (13 + k) h = A (13 + k) h' → h = h' := h.2.2.2
theorem sr.mk' {A B : mx_M} {N m : Nat} (s_ : A 11 4 = nI m) (s2_ : B 41 12 = nI m) (k_ : ∀ k h, k < m → h < N → ∃ v, v < N ∧ A (13 + k) h = nI v ∧ B 49 (20 * k + h) = nI v) (i_ : ∀ k h h', k < m → h < N → h' < N → A (13 + k) h = A (13 + k) h' → h = h') : sr A B N m := ⟨s_, s2_, k_, i_⟩
theorem sr_one {N m k t : Nat} (hu : nu A B D) (ht : A 1 3 = 0 ∨ A 1 3 = 1) (ht2 : A 1 3 = B 41 1) (ht6 : 0 < t ∧ t ≤ 6) (hN : N + 1 = pg_n D 64) (hN20 : N + 1 ≤ 20) (hs : sr A B (N + 1) m) (hm : m < 12) :
    ∃ m', m ≤ m' ∧ m' ≤ m + 1 ∧ sr (sy_k1 A t k N) (mo_f2 B k t (N + 1)) (N + 1) m' := by
  have hrc : ∀ j, j < N + 1 → ∃ q, q < 64 ∧ D q = true ∧ pg_n D q = j ∧ A 3 j = nI (q / 8) ∧ A 4 j = nI (q % 8) ∧ B 44 j = nI (q / 8) ∧ B 45 j = nI (q % 8) := by
    intro j hj
    obtain ⟨q, q64, dq, eq⟩ := pg_n_ex (D := D) 64 j (by omega)
    have r := hu.r q q64 dq
    rw [eq] at r
    exact ⟨q, q64, dq, eq, r.1, r.2.1, r.2.2.1, r.2.2.2⟩
  have hz : ∀ j, j < N + 1 → mo_z B k t j = zA A k t j := by
    intro j hj
    obtain ⟨q, _, _, _, r1, r2, r3, r4⟩ := hrc j hj
    exact (zA_mo ht2 (r1.trans r3.symm) (r2.trans r4.symm)).symm
  obtain ⟨q0, q64, _, _, r1, r2, r3, r4⟩ := hrc 0 (by omega)
  have zb := zA_b (k := k) ht ht6 (show q0 / 8 < 8 by omega) (show q0 % 8 < 8 by omega) r1 r2
  -- the places, as the class has them
  generalize hX : sy_c (sy_b (sy_hs A t k (N + 1)) N) N = X
  have Xo : ∀ c, c ≠ 25 → c ≠ 26 → X c = A c := by
    intro c h1 h2
    rw [← hX, sy_c, sy_mv_off h2, sy_b, sy_mv_off h1, sy_hs_off h1 h2]
  have hXu : nu X B D := nu_cong hu (fun c hc => Xo c (by omega) (by omega)) (fun c _ => rfl)
  have hX25 : ∀ j, j < N + 1 → X 25 j = (zA A k t j).1 - pg_mn (fun i => (zA A k t i).1) N + pg_mn (A 3) N ∧ X 26 j = (zA A k t j).2 - pg_mn (fun i => (zA A k t i).2) N + pg_mn (A 4) N := by
    intro j hj
    rw [← hX]
    exact xc_at hj
  let g : Nat → Int32 := fun j => aD D (X 25 j) (X 26 j)
  have hg : ∀ j, pg_at X (X 25 j) (X 26 j) = g j := fun j => (aD_at hXu _ _).1
  have hmo : ∀ j, j < N + 1 → mo_g B k t (N + 1) j = g j := by
    intro j hj
    show mo_at B _ _ = aD D (X 25 j) (X 26 j)
    rw [(aD_at hu _ _).2, (hX25 j hj).1, (hX25 j hj).2, hz j hj]
    rw [mn_m9 (f := fun i => (zA A k t i).1) zb.1, mn_m9 (f := fun i => (zA A k t i).2) zb.2, mn_m9 (f := A 3) (by rw [r1]; exact nI_99 (by omega)), mn_m9 (f := A 4) (by rw [r2]; exact nI_99 (by omega))]
    rw [m9_cong (f := fun j => (mo_z B k t j).1) (g := fun i => (zA A k t i).1) (N + 1) (fun i hi => by show (mo_z B k t i).1 = _; rw [hz i hi])]
    rw [m9_cong (f := fun j => (mo_z B k t j).2) (g := fun i => (zA A k t i).2) (N + 1) (fun i hi => by show (mo_z B k t i).2 = _; rw [hz i hi])]
    rw [m9_cong (f := B 44) (g := A 3) (N + 1) (fun i hi => by obtain ⟨q, _, _, _, x1, x2, x3, x4⟩ := hrc i hi; rw [x1, x3])]
    rw [m9_cong (f := B 45) (g := A 4) (N + 1) (fun i hi => by obtain ⟨q, _, _, _, x1, x2, x3, x4⟩ := hrc i hi; rw [x2, x4])]
  have hal : mo_al (mo_g B k t (N + 1)) (N + 1) = 0 ↔ ∃ j, j < N + 1 ∧ g j = -1 := by
    rw [al_1]
    constructor
    · rintro ⟨j, hj, e⟩
      rw [hmo j hj] at e
      exact ⟨j, hj, (aD_neg _ _).mp e⟩
    · rintro ⟨j, hj, e⟩
      refine ⟨j, hj, ?_⟩
      rw [hmo j hj]
      exact (aD_neg _ _).mpr e
  have h12 : (A 11 4).toNatClampNeg = m := by rw [hs.s, nI_clamp (by omega)]
  have h12b : (B 41 12).toNatClampNeg = m := by rw [hs.s2, nI_clamp (by omega)]
  have f49 := y2_at (B := mo_y1 B k t (N + 1)) (im := m) (g := mo_g B k t (N + 1)) (N + 1)
  have y49 : mo_y1 B k t (N + 1) 49 = B 49 := mo_y1_off (by decide) (by decide) _
  unfold sy_k1 mo_f2 mo_f1
  rw [hX, h12, h12b]
  by_cases c : ∃ j, j < N + 1 ∧ g j = -1
  · rw [if_pos (hal.mpr c)]
    obtain ⟨j, hj, ej⟩ := c
    have no := ad_no hm (g := g) (N + 1) 0 X (fun j _ _ => hg j) ⟨j, by omega, by omega, ej⟩
    refine ⟨m, by omega, by omega, ?_⟩
    refine sr.mk' ?sr_s ?sr_s2 ?sr_k ?sr_i
    case sr_s => rw [no 11 (by omega), Xo 11 (by decide) (by decide)]; exact hs.s
    case sr_s2 => rw [mo_y2_off (by decide), mo_y1_off (by decide) (by decide)]; exact hs.s2
    case sr_k =>
      intro k' h hk hh
      rw [no (13 + k') (by omega), Xo _ (by omega) (by omega), f49.2 _ (by omega), y49]
      exact hs.k k' h hk hh
    case sr_i =>
      intro k' h h' hk hh hh'
      rw [no (13 + k') (by omega), Xo _ (by omega) (by omega)]
      exact hs.i k' h h' hk hh hh'
  · rw [if_neg (fun y => c (hal.mp y)), hs.s2]
    have cn : ∀ j, j < N + 1 → ¬ g j = -1 := fun j hj e => c ⟨j, hj, e⟩
    obtain ⟨x1, x2, x3, _⟩ := ad_yes hm (g := g) (N + 1) 0 X (fun j _ _ => hg j) (fun j _ hj => cn j (by omega))
    refine ⟨m + 1, by omega, by omega, ?_⟩
    refine sr.mk' ?sr_s ?sr_s2 ?sr_k ?sr_i
    case sr_s => exact x2
    case sr_s2 => rw [mx_up_row, pk_us, nI_1]
    case sr_k =>
      intro k' h hk hh
      rw [mx_up_off (by decide)]
      by_cases e : k' = m
      · subst e
        rw [x3 h (by omega) (by omega), f49.1 h hh, hmo h hh]
        obtain ⟨i, j, hi, hj, _, _, d, v⟩ := aD_some (cn h hh)
        refine ⟨pg_n D (i * 8 + j), ?_, v, v⟩
        rw [hN]
        exact pg_n_lt (by omega) d
      · rw [x1 (13 + k') (by omega) (by omega), Xo _ (by omega) (by omega), f49.2 _ (by omega), y49]
        exact hs.k k' h (by omega) hh
    case sr_i =>
      intro k' h h' hk hh hh'
      by_cases e : k' = m
      · subst e
        rw [x3 h (by omega) (by omega), x3 h' (by omega) (by omega)]
        intro e
        obtain ⟨i, j, hi, hj, a1, a2, d, v⟩ := aD_some (cn h hh)
        obtain ⟨i', j', hi', hj', a1', a2', d', v'⟩ := aD_some (cn h' hh')
        have e2 : nI (pg_n D (i * 8 + j)) = nI (pg_n D (i' * 8 + j')) := v.symm.trans (e.trans v')
        have p1 := pg_n64 (D := D) (p := i * 8 + j) (by omega)
        have p2 := pg_n64 (D := D) (p := i' * 8 + j') (by omega)
        rw [nI_eq (by omega) (by omega)] at e2
        have e3 := pg_n_inj d d' e2
        have e4 : i = i' := by omega
        have e5 : j = j' := by omega
        subst e4 e5
        have b1 := a1.trans a1'.symm
        have b2 := a2.trans a2'.symm
        rw [(hX25 h hh).1, (hX25 h' hh').1, Int32.add_comm, Int32.add_comm _ (pg_mn (A 3) N)] at b1
        rw [(hX25 h hh).2, (hX25 h' hh').2, Int32.add_comm, Int32.add_comm _ (pg_mn (A 4) N)] at b2
        have c1 := st1 b1
        have c2 := st1 b2
        rw [Int32.sub_eq_add_neg, Int32.sub_eq_add_neg, Int32.add_comm, Int32.add_comm _ (-_)] at c1 c2
        have z := zA_inj (Prod.ext (st1 c1) (st1 c2))
        obtain ⟨q, q64, dq, eq, s1, s2, _⟩ := hrc h hh
        obtain ⟨q', q64', dq', eq', s1', s2', _⟩ := hrc h' hh'
        rw [s1, s1', s2, s2', nI_eq (by omega) (by omega), nI_eq (by omega) (by omega)] at z
        have : q = q' := by omega
        subst this
        omega
      · rw [x1 (13 + k') (by omega) (by omega), Xo _ (by omega) (by omega)]
        exact hs.i k' h h' (by omega) hh hh'
end FI
