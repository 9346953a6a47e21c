/-! The calls that reach: count, solve, classes, way. -/
section RO
variable {A B A' B' Z : mx_M} {D : Nat → Bool} {N J S sa ga L n : Nat} {fr ov tt : Nat → Nat} {im : Nat → Nat → Nat}
theorem op_rw (h : iv A B D N J S fr ov tt im sa ga) (lim : Int32) {ZA : mx_R × mx_M} {ZB : Int32 × mx_M}
    (hz : ¬ A 1 4 = 0 → ∀ L, 1 ≤ L → L ≤ 500 → lim = nI L → ZA.1 = .inl (some (.int ZB.1)) ∧ ZB.2 41 0 = 0 ∧ IV ZA.2 ZB.2) :
    ag (pe_rw A lim ZA).1 xIS xIA ((mo_rw B lim ZB).2 41 0) (mo_rw B lim ZB).1 ∧ IV (pe_rw A lim ZA).2 (mo_rw B lim ZB).2 := by
  unfold pe_rw mo_rw mo_cc
  rw [h.f2]
  by_cases u : A 1 4 = 0
  · rw [if_pos u, if_pos u, if_neg (by decide)]
    exact ⟨Or.inr (Or.inl ⟨rfl, rfl⟩), _, _, _, _, _, _, _, _, _, _, iv_up h 1⟩
  · rw [if_neg u, if_neg u]
    by_cases c : lim < 1 ∨ ¬ lim ≤ 500
    · rw [if_pos c, if_pos c, if_neg (by decide)]
      exact ⟨Or.inr (Or.inr ⟨rfl, rfl⟩), _, _, _, _, _, _, _, _, _, _, iv_up h 2⟩
    · rw [if_neg c, if_neg c, if_pos rfl]
      obtain ⟨L, h1, h2, h3⟩ := pe_lim c
      obtain ⟨z1, z2, z3⟩ := hz u L h1 h2 h3
      exact ⟨Or.inl ⟨z1, z2⟩, z3⟩
theorem go_41 (h1 : 1 ≤ L) (h5 : L ≤ 500) {c : Nat} (hc : c ≠ 20) : (mo_go B L J).2 41 c = B 41 c := by
  unfold mo_go
  rw [(mo_ra_ok (J := J) L 0 (mo_s0 B) (mo_s0_ok h1 h5).1).2.2.2.2 c hc, mo_s0_41 hc]
theorem go_0 (h1 : 1 ≤ L) (h5 : L ≤ 500) : (mo_go (mx_up B 41 0 0) L J).2 41 0 = 0 := by
  rw [go_41 h1 h5 (by decide)]
  simp [mx_up]
theorem op_count (h : iv A B D N J S fr ov tt im sa ga) (lim : Int32) :
    ag (pe_rw A lim (pe_count (pe_go A lim.toNatClampNeg J))).1 xIS xIA ((mo_rw B lim (mo_count (mo_go (mx_up B 41 0 0) lim.toNatClampNeg J))).2 41 0) (mo_rw B lim (mo_count (mo_go (mx_up B 41 0 0) lim.toNatClampNeg J))).1 ∧
    IV (pe_rw A lim (pe_count (pe_go A lim.toNatClampNeg J))).2 (mo_rw B lim (mo_count (mo_go (mx_up B 41 0 0) lim.toNatClampNeg J))).2 := by
  apply op_rw h
  intro u L h1 h5 e
  subst e
  rw [nI_clamp (by omega)]
  obtain ⟨n, r, P0, v, w⟩ := rr_go (iv_up h 0) h1 h5
  refine ⟨?_, go_0 h1 h5, _, _, _, _, _, _, _, _, _, _, v⟩
  unfold pe_count mo_count
  rcases w with ⟨w1, w2, _⟩ | ⟨w1, w2⟩
  · simp only [w1, w2, r.n, r.n2, if_true]
  · simp [w1, w2]
/-- is a position among the found: both say it alike -/
theorem rr_has (h : rr A B N J L fr ov tt n) (p : Int32) : ((∀ i, i < n → ¬ B 54 i = p) ∧ re_no A p = -1 ∧ B 57 (mo_s B p) = 0) ∨ ∃ b, b < n ∧ B 54 b = p ∧ re_no A p = nI b ∧ B 57 (mo_s B p) = nI (b + 1) ∧ mo_no B p = b := by
  have nL := h.nL
  have L5 := h.L5
  obtain ⟨kk, _, f1, f2, f3⟩ := hs_find h.hA p
  have inj := h.hB.2.2.2.2.2
  unfold re_no mo_no
  rw [f1]
  rcases mo_s_in h.hB p with ⟨s1, s2⟩ | ⟨b, bn, s1, s2⟩
  · left
    have z : A 30 ((fo_h p + kk) % 1024) = 0 := by
      rcases f3 with ⟨z, _⟩ | ⟨c, c1, c2, _⟩
      · exact z
      · rw [(h.p c c1).1] at c2
        exact absurd c2 (s2 c c1)
    rw [z]
    exact ⟨s2, by decide, s1⟩
  · right
    have z : A 30 ((fo_h p + kk) % 1024) = nI (b + 1) := by
      rcases f3 with ⟨_, z⟩ | ⟨c, c1, c2, c3⟩
      · exact absurd ((h.p b bn).1.trans s1) (z b bn)
      · rw [(h.p c c1).1] at c2
        have : c = b := inj c b c1 bn (c2.trans s1.symm)
        subst this
        exact c3
    rw [z, s2, nI_pred, nI_clamp (by omega)]
    exact ⟨b, bn, s1, rfl, rfl, rfl⟩
theorem nI_m1 {b : Nat} (h : b < 2 ^ 31) : ¬ nI b = -1 := by
  intro y
  have z := nI_toInt h
  rw [y] at z
  have e : (-1 : Int32).toInt = -1 := by decide
  omega
theorem op_solve (h : iv A B D N J S fr ov tt im sa ga) (lim : Int32) :
    ag (pe_rw A lim (pe_solve (pe_go A lim.toNatClampNeg J))).1 xIS xIA ((mo_rw B lim (mo_solve (mo_go (mx_up B 41 0 0) lim.toNatClampNeg J))).2 41 0) (mo_rw B lim (mo_solve (mo_go (mx_up B 41 0 0) lim.toNatClampNeg J))).1 ∧
    IV (pe_rw A lim (pe_solve (pe_go A lim.toNatClampNeg J))).2 (mo_rw B lim (mo_solve (mo_go (mx_up B 41 0 0) lim.toNatClampNeg J))).2 := by
  apply op_rw h
  intro u L h1 h5 e
  subst e
  rw [nI_clamp (by omega)]
  obtain ⟨n, r, P0, v, w⟩ := rr_go (iv_up h 0) h1 h5
  refine ⟨?_, go_0 h1 h5, _, _, _, _, _, _, _, _, _, _, v⟩
  have nL := r.nL
  unfold pe_solve mo_solve
  rw [v.g, v.g2]
  rcases rr_has r (nI ga) with ⟨_, q1, q2⟩ | ⟨b, bn, _, q1, q2, _⟩
  · simp only [if_pos q1, if_pos q2]
    rcases w with ⟨w1, w2, _⟩ | ⟨w1, w2⟩
    · simp only [w1, w2, if_true]
    · simp [w1, w2]
  · have z1 : ¬ re_no (pe_go A L J) (nI ga) = -1 := by rw [q1]; exact nI_m1 (by omega)
    have z2 : ¬ (mo_go (mx_up B 41 0 0) L J).2 57 (mo_s (mo_go (mx_up B 41 0 0) L J).2 (nI ga)) = 0 := by rw [q2]; exact nI_ne0 (by omega) (by omega)
    simp only [if_neg z1, if_neg z2]
theorem lc_cong {f g : Nat → Int32} : ∀ n, (∀ i, i < n → f i = g i) → le_c f n = le_c g n
  | 0, _ => rfl
  | n + 1, h => by
    rw [le_c, le_c, lc_cong n (fun i hi => h i (by omega))]
    have e : (∃ i, i < n ∧ f i = f n) ↔ ∃ i, i < n ∧ g i = g n := by
      constructor
      · rintro ⟨i, h1, h2⟩
        exact ⟨i, h1, by rw [← h i (by omega), ← h n (by omega)]; exact h2⟩
      · rintro ⟨i, h1, h2⟩
        exact ⟨i, h1, by rw [h i (by omega), h n (by omega)]; exact h2⟩
    by_cases c : ∃ i, i < n ∧ g i = g n
    · rw [if_pos c, if_pos (e.mpr c)]
    · rw [if_neg c, if_neg (fun y => c (e.mp y))]
theorem op_classes (h : iv A B D N J S fr ov tt im sa ga) (lim : Int32) :
    ag (pe_rw A lim (pe_classes (pe_go A lim.toNatClampNeg J) N S)).1 xIS xIA ((mo_rw B lim (mo_classes (mo_go (mx_up B 41 0 0) lim.toNatClampNeg J) N S)).2 41 0) (mo_rw B lim (mo_classes (mo_go (mx_up B 41 0 0) lim.toNatClampNeg J) N S)).1 ∧
    IV (pe_rw A lim (pe_classes (pe_go A lim.toNatClampNeg J) N S)).2 (mo_rw B lim (mo_classes (mo_go (mx_up B 41 0 0) lim.toNatClampNeg J) N S)).2 := by
  apply op_rw h
  intro u L h1 h5 e
  subst e
  rw [nI_clamp (by omega)]
  obtain ⟨n, r, P0, v, w⟩ := rr_go (iv_up h 0) h1 h5
  have nL := r.nL
  have z0 := go_0 (B := B) (J := J) h1 h5
  unfold pe_classes mo_classes
  generalize pe_go A L J = X at *
  generalize mo_go (mx_up B 41 0 0) L J = Y at *
  rcases w with ⟨w1, w2, _⟩ | ⟨w1, w2⟩
  · rw [if_pos w2, if_pos w1, r.n, r.n2, nI_clamp (by omega)]
    have e : le_c (fun i => sy_lo X (X 29 i) N S) n = le_c (fun i => mo_lo (Y.2 49) (Y.2 54 i) N S) n := by
      apply lc_cong
      intro i hi
      show sy_lo X (X 29 i) N S = mo_lo (Y.2 49) (Y.2 54 i) N S
      obtain ⟨p1, p2, p3⟩ := r.p i hi
      rw [p1, p2]
      exact op_lo v p3 S (Nat.le_refl S)
    refine ⟨by rw [e], ?_, D, N, J, S, fr, ov, tt, im, sa, ga, ?_⟩
    · show mo_cs Y.2 _ n 41 0 = 0
      rw [mo_cs_41 (by decide)]
      exact z0
    · exact iv_cong v (fun c hc => re_ls_off (by omega) (by omega) (by omega) n) (fun c h1 hc => mo_cs_off (by omega) (by omega) n) (fun c hc => mo_cs_41 (by omega) n)
  · rw [if_neg (by rw [w2]; decide), if_neg (by rw [w1]; decide)]
    exact ⟨rfl, z0, _, _, _, _, _, _, _, _, _, _, v⟩
/-! way -/
/-- the numbers on the way back -/
def wb (B : mx_M) (b : Nat) : Nat → Nat
  | 0 => b
  | m + 1 => bR B (wb B b m)
theorem rr_up (v : iv A B D N J S fr ov tt im sa ga) (h : rr A B N J L fr ov tt n) {i : Nat} (h0 : 0 < i) (hi : i < n) : pc (bP B (bR B i)) = pc (bP B i) + 1 := by
  have q := h.r i h0 hi
  have l := q.l
  have n20 := v.n20
  obtain ⟨b1, b2, b3, b4, b5, b6⟩ := v.jb _ q.j
  have a20 : bP B (bR B i) < 2 ^ 20 := Nat.lt_of_lt_of_le (h.p (bR B i) (by omega)).2.2 (Nat.pow_le_pow_right (by decide) n20)
  have := pc_go a20 (by omega) (by omega) (by omega) b4 b5 b6 q.ok
  rw [q.go]
  exact this.symm
theorem rr_dn (v : iv A B D N J S fr ov tt im sa ga) (h : rr A B N J L fr ov tt n) {i : Nat} (h0 : 0 < i) (hi : i < n) : pc (bP B i) < pc (bP B 0) := by
  have e := rr_up v h h0 hi
  have := h.so 0 (bR B i) (Nat.zero_le _) (by have := (h.r i h0 hi).l; omega)
  omega
theorem wb_ok (v : iv A B D N J S fr ov tt im sa ga) (h : rr A B N J L fr ov tt n) {b K : Nat} (hb : b < n) (hK : pc (bP B b) + K = pc (bP B 0)) :
    ∀ m, m ≤ K → wb B b m < n ∧ pc (bP B (wb B b m)) = pc (bP B b) + m
  | 0, _ => by
    rw [wb, Nat.add_zero]
    exact ⟨hb, rfl⟩
  | m + 1, hm => by
    obtain ⟨i1, i2⟩ := wb_ok v h hb hK m (by omega)
    have h0 : 0 < wb B b m := by
      apply Nat.pos_of_ne_zero
      intro z
      rw [z] at i2
      omega
    have l := (h.r _ h0 i1).l
    have e := rr_up v h h0 i1
    rw [wb]
    exact ⟨by omega, by omega⟩
theorem wb_0 (v : iv A B D N J S fr ov tt im sa ga) (h : rr A B N J L fr ov tt n) {b K : Nat} (hb : b < n) (hK : pc (bP B b) + K = pc (bP B 0)) : wb B b K = 0 ∧ (∀ m, m < K → 0 < wb B b m) := by
  constructor
  · obtain ⟨i1, i2⟩ := wb_ok v h hb hK K (Nat.le_refl K)
    apply Classical.byContradiction
    intro z
    have := rr_dn v h (by omega : 0 < wb B b K) i1
    omega
  · intro m hm
    obtain ⟨i1, i2⟩ := wb_ok v h hb hK m (by omega)
    apply Nat.pos_of_ne_zero
    intro z
    rw [z] at i2
    omega
/-- the way back as the class has it -/
def wa (X : mx_M) (b : Nat) : Nat → Nat
  | 0 => b
  | m + 1 => (X 34 (wa X b m)).toNatClampNeg
theorem wa_wb (v : iv A B D N J S fr ov tt im sa ga) (h : rr A B N J L fr ov tt n) {b K : Nat} (hb : b < n) (hK : pc (bP B b) + K = pc (bP B 0)) : ∀ m, m ≤ K → wa A b m = wb B b m
  | 0, _ => rfl
  | m + 1, hm => by
    rw [wa, wb, wa_wb v h hb hK m (by omega), (h.r _ ((wb_0 v h hb hK).2 m (by omega)) (wb_ok v h hb hK m (by omega)).1).f]
/-- what Reaching.jumpOnWay answers -/
def pe_wv (X : mx_M) (s g i : Int32) : Int32 := if re_no X g = -1 ∨ i < 0 ∨ pq_bc s - pq_bc g ≤ i then -1 else X 35 (wa X (re_no X g).toNatClampNeg ((pq_bc s - pq_bc g).toNatClampNeg - 1 - i.toNatClampNeg))
theorem pc_le (a : Nat) : pc a ≤ 24 := pp_le 24 a
theorem bc_K (v : iv A B D N J S fr ov tt im sa ga) (hp : pc ga ≤ pc sa) : pq_bc (nI sa) - pq_bc (nI ga) = nI (pc sa - pc ga) := by
  have n20 := v.n20
  have h2 : 2 ^ N ≤ 2 ^ 20 := Nat.pow_le_pow_right (by decide) n20
  have ab := v.ab
  have gb := v.gb
  rw [pq_ok (by omega), pq_ok (by omega)]
  exact pk_sub hp
theorem way_eq (v : iv A B D N J S fr ov tt im sa ga) (h : rr A B N J L fr ov tt n) (P0 : bP B 0 = sa) (i : Int32) :
    pe_wv A (nI sa) (nI ga) i = mo_way B i (wb B (mo_no B (nI ga))) (pc sa - pc ga) ∧ mo_wok B (wb B (mo_no B (nI ga))) (pc sa - pc ga) := by
  have nL := h.nL
  have L5 := h.L5
  have p1 := pc_le sa
  have n20 := v.n20
  have h2 : 2 ^ N ≤ 2 ^ 20 := Nat.pow_le_pow_right (by decide) n20
  have gb := v.gb
  unfold pe_wv mo_way mo_wok
  rw [v.g2]
  rcases rr_has h (nI ga) with ⟨_, q1, q2⟩ | ⟨b, bn, q0, q1, q2, q3⟩
  · rw [if_pos (Or.inl q1), if_pos q2]
    exact ⟨rfl, by omega, fun y => absurd q2 y⟩
  · have Pb : bP B b = ga := by unfold bP; rw [q0, nI_clamp (by omega)]
    have hK : pc (bP B b) + (pc sa - pc ga) = pc (bP B 0) := by
      have := h.so 0 b (Nat.zero_le b) bn
      rw [P0, Pb] at *
      omega
    have hle : pc ga ≤ pc sa := by
      have := h.so 0 b (Nat.zero_le b) bn
      rw [P0, Pb] at this
      exact this
    have z1 : ¬ re_no A (nI ga) = -1 := by rw [q1]; exact nI_m1 (by omega)
    have z2 : ¬ B 57 (mo_s B (nI ga)) = 0 := by rw [q2]; exact nI_ne0 (by omega) (by omega)
    rw [if_neg z2, q3, bc_K v hle, q1, nI_clamp (by omega : b < 2 ^ 31), nI_clamp (by omega : pc sa - pc ga < 2 ^ 31)]
    have w0 := wb_0 v h bn hK
    refine ⟨?_, by omega, fun _ => ⟨rfl, fun m hm => ?_, fun m hm => ?_, ?_⟩⟩
    · by_cases c : ¬ i < 0 ∧ i < nI (pc sa - pc ga)
      · obtain ⟨j, hj, rfl⟩ := nI_inJ (by omega) c
        rw [if_pos c, if_neg, nI_clamp (by omega)]
        · rw [wa_wb v h bn hK _ (by omega)]
          exact (h.r _ (w0.2 _ (by omega)) (wb_ok v h bn hK _ (by omega)).1).v
        · rintro (y | y | y)
          · exact nI_m1 (by omega) y
          · exact c.1 y
          · exact absurd y (Int32.not_le.mpr c.2)
      · rw [if_neg c, if_pos]
        by_cases y : i < 0
        · exact Or.inr (Or.inl y)
        · exact Or.inr (Or.inr (Int32.not_lt.mp (fun x => c ⟨y, x⟩)))
    · have := (wb_ok v h bn hK m hm).1
      omega
    · exact (h.r _ (w0.2 m hm) (wb_ok v h bn hK m (by omega)).1).f2
    · rw [w0.1]
      exact h.r0
/-- what jumpOnWay's contract asks -/
theorem way_pe (v : iv A B D N J S fr ov tt im sa ga) (h : rr A B N J L fr ov tt n) (P0 : bP B 0 = sa) {i : Int32} (hi : ¬ (re_no A (nI ga) = -1 ∨ i < 0 ∨ pq_bc (nI sa) - pq_bc (nI ga) ≤ i)) :
    ∃ b j K, re_no A (nI ga) = nI b ∧ i = nI j ∧ pq_bc (nI sa) - pq_bc (nI ga) = nI K ∧ j < K ∧ K < 500 ∧ b < 500 ∧ (∀ m, m ≤ K - 1 - j → wa A b m < 500) ∧ ∀ m, m < K - 1 - j → A 34 (wa A b m) = nI (wa A b (m + 1)) := by
  have nL := h.nL
  have L5 := h.L5
  have p1 := pc_le sa
  have n20 := v.n20
  have h2 : 2 ^ N ≤ 2 ^ 20 := Nat.pow_le_pow_right (by decide) n20
  have gb := v.gb
  rcases rr_has h (nI ga) with ⟨_, q1, q2⟩ | ⟨b, bn, q0, q1, q2, q3⟩
  · exact absurd (Or.inl q1) hi
  · have Pb : bP B b = ga := by unfold bP; rw [q0, nI_clamp (by omega)]
    have hle : pc ga ≤ pc sa := by
      have := h.so 0 b (Nat.zero_le b) bn
      rw [P0, Pb] at this
      exact this
    have hK : pc (bP B b) + (pc sa - pc ga) = pc (bP B 0) := by
      rw [P0, Pb]
      omega
    rw [bc_K v hle] at hi ⊢
    have w0 := wb_0 v h bn hK
    have i0 : ¬ i < 0 := fun y => hi (Or.inr (Or.inl y))
    have i1 : i < nI (pc sa - pc ga) := Int32.not_le.mp (fun y => hi (Or.inr (Or.inr y)))
    obtain ⟨j, hj, e⟩ := nI_inJ (by omega) ⟨i0, i1⟩
    refine ⟨b, j, pc sa - pc ga, q1, e, rfl, hj, by omega, by omega, fun m hm => ?_, fun m hm => ?_⟩
    · rw [wa_wb v h bn hK m (by omega)]
      have := (wb_ok v h bn hK m (by omega)).1
      omega
    · rw [wa_wb v h bn hK m (by omega), wa_wb v h bn hK (m + 1) (by omega), wb]
      have q := h.r _ (w0.2 m (by omega)) (wb_ok v h bn hK m (by omega)).1
      rw [q.f]
      exact q.f2
theorem op_way (h : iv A B D N J S fr ov tt im sa ga) (lim i : Int32) :
    ag (pe_rw A lim (.inl (some (.int (pe_wv (pe_go A lim.toNatClampNeg J) (A 0 5) (A 0 6) i))), pe_go A lim.toNatClampNeg J)).1 xIS xIA
      ((mo_rw B lim (mo_way (mo_go (mx_up B 41 0 0) lim.toNatClampNeg J).2 i (wb (mo_go (mx_up B 41 0 0) lim.toNatClampNeg J).2 (mo_no (mo_go (mx_up B 41 0 0) lim.toNatClampNeg J).2 (nI ga))) (pc sa - pc ga), (mo_go (mx_up B 41 0 0) lim.toNatClampNeg J).2)).2 41 0)
      (mo_rw B lim (mo_way (mo_go (mx_up B 41 0 0) lim.toNatClampNeg J).2 i (wb (mo_go (mx_up B 41 0 0) lim.toNatClampNeg J).2 (mo_no (mo_go (mx_up B 41 0 0) lim.toNatClampNeg J).2 (nI ga))) (pc sa - pc ga), (mo_go (mx_up B 41 0 0) lim.toNatClampNeg J).2)).1 ∧
    IV (pe_rw A lim (.inl (some (.int (pe_wv (pe_go A lim.toNatClampNeg J) (A 0 5) (A 0 6) i))), pe_go A lim.toNatClampNeg J)).2
      (mo_rw B lim (mo_way (mo_go (mx_up B 41 0 0) lim.toNatClampNeg J).2 i (wb (mo_go (mx_up B 41 0 0) lim.toNatClampNeg J).2 (mo_no (mo_go (mx_up B 41 0 0) lim.toNatClampNeg J).2 (nI ga))) (pc sa - pc ga), (mo_go (mx_up B 41 0 0) lim.toNatClampNeg J).2)).2 := by
  apply op_rw h
  intro u L h1 h5 e
  subst e
  rw [nI_clamp (by omega)]
  obtain ⟨n, r, P0, v, w⟩ := rr_go (iv_up h 0) h1 h5
  refine ⟨?_, go_0 h1 h5, _, _, _, _, _, _, _, _, _, _, v⟩
  rw [h.a, h.g, (way_eq v r P0 i).1]
end RO
