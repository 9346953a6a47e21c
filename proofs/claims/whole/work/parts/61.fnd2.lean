/-! Finding weights: the model, and both alike. -/
section FE
variable {A B : mx_M} {D : Nat → Bool} {N J S sa ga : Nat} {fr ov tt : Nat → Nat} {im : Nat → Nat → Nat}
theorem fl_at : ∀ (h x : Nat) (M : mx_M), (∀ j, j < h → mo_fl h x M 53 j = nI (dg h x j)) ∧ ∀ j, h ≤ j → mo_fl h x M 53 j = M 53 j
  | 0, x, M => ⟨fun j hj => by omega, fun j _ => rfl⟩
  | h + 1, x, M => by
    obtain ⟨q1, q2⟩ := fl_at h (x / 3) (mx_up M 53 h (nI (x % 3)))
    rw [mo_fl]
    refine ⟨fun j hj => ?_, fun j hj => by rw [q2 j (by omega), mx_up_row, pk_un (by omega)]⟩
    by_cases e : j = h
    · subst e
      rw [q2 j (Nat.le_refl j), mx_up_row, pk_us, dg, show j + 1 - 1 - j = 0 from by omega, Nat.pow_zero, Nat.div_one]
    · rw [q1 j (by omega), dg, dg, show h + 1 - 1 - j = (h - 1 - j) + 1 from by omega, Nat.pow_succ, Nat.mul_comm, ← Nat.div_div_eq_div_mul]
theorem mr_I {f : Nat → Int32} {H s g v : Nat} (hs : s < 2 ^ 31) (hg : g < 2 ^ 31) : ∀ h, h ≤ 30 → (∀ j, j < h → f j = nI (dg H v j)) → mo_mr f (nI s) (nI g) h = Int32.ofInt (le3 H s g v h)
  | 0, _, _ => rfl
  | h + 1, hh, q => by
    rw [mo_mr, mr_I hs hg h (by omega) (fun j hj => q j (by omega)), q h (by omega), le3, Int32.ofInt_add, Int32.ofInt_mul, nb_bit hg (by omega), nb_bit hs (by omega), gn, Int32.ofInt_sub, ← nI_ofInt, ← nI_ofInt, ← nI_ofInt]
theorem ft_I {f : Nat → Int32} {H J s g v : Nat} {fr ov tt : Nat → Nat} (hH : H ≤ 8) (hs : s < 2 ^ H) (hg : g < 2 ^ H) (hj : ∀ i, i < J → fr i < H ∧ ov i < H ∧ tt i < H) (q : ∀ j, j < H → f j = nI (dg H v j)) : mo_ft f fr ov tt J H (nI s) (nI g) = 0 ↔ ¬ fit H J s g fr ov tt v := by
  have s31 : s < 2 ^ 31 := Nat.lt_of_lt_of_le hs (Nat.pow_le_pow_right (by decide) (by omega))
  have g31 : g < 2 ^ 31 := Nat.lt_of_lt_of_le hg (Nat.pow_le_pow_right (by decide) (by omega))
  have c : ∀ i, i < J → (f (tt i) ≤ f (fr i) + f (ov i) ↔ cd3 H v fr ov tt i) := by
    intro i hi
    obtain ⟨a1, a2, a3⟩ := hj i hi
    exact cd3_I (q _ a1) (q _ a2) (q _ a3)
  unfold mo_ft fit
  rw [hd_mo, mr_I s31 g31 H (by omega) q]
  have b := le3_b H s g v H
  have p := oI_pos (z := le3 H s g v H) (by omega) (by omega)
  by_cases e : ∀ i, i < J → f (tt i) ≤ f (fr i) + f (ov i)
  · rw [if_pos e, if_neg (by decide)]
    by_cases z : Int32.ofInt (le3 H s g v H) ≤ 0
    · rw [if_pos z]
      exact ⟨fun _ y => absurd (p.mpr y.2) (Int32.not_lt.mpr z), fun _ => rfl⟩
    · rw [if_neg z]
      exact ⟨fun y => absurd y (by decide), fun y => absurd ⟨fun i hi => (c i hi).mp (e i hi), p.mp (Int32.not_le.mp z)⟩ y⟩
  · rw [if_neg e, if_pos rfl]
    exact ⟨fun _ y => e (fun i hi => (c i hi).mpr (y.1 i hi)), fun _ => rfl⟩
def oe (H : Nat) (W : Nat → Int32) (M : mx_M) (v : Nat) : Prop := ∀ j, M 52 j = if j < H then nI (dg H v j) else W j
theorem fd_ok {H J s g : Nat} {fr ov tt : Nat → Nat} (hH : H ≤ 8) (hs : s < 2 ^ H) (hg : g < 2 ^ H) (hj : ∀ i, i < J → fr i < H ∧ ov i < H ∧ tt i < H) :
    ∀ (m v : Nat) (M : mx_M), rs (fit H J s g fr ov tt) (oe H (M 52)) v (v + m) (mo_fd fr ov tt J H (nI s) (nI g) m v M) ∧ (∀ c, c ≠ 52 → c ≠ 53 → (mo_fd fr ov tt J H (nI s) (nI g) m v M).2 c = M c) ∧ ((mo_fd fr ov tt J H (nI s) (nI g) m v M).1 = 0 → (mo_fd fr ov tt J H (nI s) (nI g) m v M).2 52 = M 52)
  | 0, v, M => ⟨Or.inl ⟨rfl, fun v' a b => by omega⟩, fun _ _ _ => rfl, fun _ => rfl⟩
  | m + 1, v, M => by
    have F := ft_I (f := mo_fl H v M 53) (v := v) hH hs hg hj (fl_at H v M).1
    rw [mo_fd]
    by_cases c : mo_ft (mo_fl H v M 53) fr ov tt J H (nI s) (nI g) = 0
    · rw [if_pos c]
      obtain ⟨x1, x2, x3⟩ := fd_ok hH hs hg hj m (v + 1) (mo_fl H v M)
      have e52 : mo_fl H v M 52 = M 52 := mo_fl_off (by decide) H v M
      rw [e52] at x1 x3
      refine ⟨?_, fun c h1 h2 => by rw [x2 c h1 h2, mo_fl_off h2], x3⟩
      have := rs_in (lo := v) (mid := v + 1) (by omega) (fun v' a b => by have : v' = v := by omega
                                                                          subst this; exact F.mp c) x1
      rw [show v + 1 + m = v + (m + 1) from by omega] at this
      exact this
    · rw [if_neg c]
      refine ⟨Or.inr ⟨rfl, v, by omega, by omega, Classical.byContradiction (fun y => c (F.mpr y)), fun v' a b => by omega, ?_⟩, ?_, fun y => absurd (show (1 : Int32) = 0 from y) (by decide)⟩
      · intro j
        show mo_cp (mo_fl H v M) H 52 j = _
        rw [mo_cp, mx_row, if_pos rfl]
        by_cases z : j < H
        · simp only [if_pos z]
          exact (fl_at H v M).1 j z
        · simp only [if_neg z]
          rw [mo_fl_off (by decide)]
      · intro c h1 h2
        show mo_cp (mo_fl H v M) H c = _
        rw [mo_cp, mx_row, if_neg h1, mo_fl_off h2]
theorem op_find (h : iv A B D N J S fr ov tt im sa ga) : ag1 (pe_find A fr ov tt J (iv_H A N)).1 xIS ((mo_find B fr ov tt J N).2 41 0) (mo_find B fr ov tt J N).1 ∧ IV (pe_find A fr ov tt J (iv_H A N)).2 (mo_find B fr ov tt J N).2 := by
  unfold pe_find mo_find
  rw [h.f2]
  by_cases u : A 1 4 = 0
  · rw [if_neg (fun y => y u), if_neg (fun y => y.1 u)]
    exact ⟨Or.inr ⟨rfl, rfl⟩, _, _, _, _, _, _, _, _, _, _, iv_up h 1⟩
  · rw [if_pos u, iv_H, if_neg u]
    by_cases h8 : N ≤ 8
    · rw [if_pos h8, if_pos (show ¬ A 1 4 = 0 ∧ N ≤ 8 from ⟨u, h8⟩), h.a, h.g, h.a2, h.g2]
      have hjb : ∀ i, i < J → fr i < N ∧ ov i < N ∧ tt i < N := fun i hi => ⟨(h.jb i hi).1, (h.jb i hi).2.1, (h.jb i hi).2.2.1⟩
      have T := tf_ok (fr := fr) (ov := ov) (tt := tt) (J := J) h8 h.ab h.gb hjb 8 0 0 A (by omega) (by omega) (Nat.dvd_zero _) (fun j hj => by omega) (fun i hi hm => by omega)
      have To := fun c (hc : c ≠ 40) => we_tf_off (fr := fr) (ov := ov) (tt := tt) (J := J) (H := N) (s := nI sa) (g := nI ga) hc 9 0 0 A
      obtain ⟨G, Go, Gz⟩ := fd_ok (fr := fr) (ov := ov) (tt := tt) (J := J) h8 h.ab h.gb hjb (3 ^ N) 0 (mx_up B 41 0 0)
      rw [Nat.sub_zero, Nat.zero_add, show Int32.ofInt (le3 N sa ga 0 0) = 0 from rfl, show 8 + 1 = 9 from rfl] at T
      rw [Nat.zero_add, mx_up_off (show 52 ≠ 41 by decide)] at G
      rw [mx_up_off (show 52 ≠ 41 by decide)] at Gz
      generalize we_tf fr ov tt J N (nI sa) (nI ga) 9 0 0 A = X at *
      generalize mo_fd fr ov tt J N (nI sa) (nI ga) (3 ^ N) 0 (mx_up B 41 0 0) = Y at *
      have Y0 : Y.2 41 0 = 0 := by rw [Go 41 (by decide) (by decide)]; simp [mx_up]
      have bas : iv (we_sr X N) Y.2 D N J S fr ov tt im sa ga → IV (we_sr X N) Y.2 := fun y => ⟨_, _, _, _, _, _, _, _, _, _, y⟩
      have con : (∀ j, j < 20 → we_sr X N 39 j = Y.2 52 j) → IV (we_sr X N) Y.2 := by
        intro hw
        apply bas
        have oA : ∀ c, c < 27 → we_sr X N c = A c := by
          intro c hc
          unfold we_sr
          split
          · exact To c (by omega)
          · rw [mx_row, if_neg (by omega)]
            exact To c (by omega)
        -- all but the weights
        let A' : mx_M := fun c => if c = 39 then A 39 else we_sr X N c
        let B' : mx_M := fun c => if c = 52 then B 52 else Y.2 c
        have h2 : iv A' B' D N J S fr ov tt im sa ga := by
          refine iv_cong h ?_ ?_ ?_
          · intro c hc
            show (if c = 39 then A 39 else we_sr X N c) = A c
            by_cases z : c = 39
            · rw [if_pos z, z]
            · rw [if_neg z, oA c (by omega)]
          · intro c h1 hc
            show (if c = 52 then B 52 else Y.2 c) = B c
            by_cases z : c = 52
            · rw [if_pos z, z]
            · rw [if_neg z, Go c z (by omega), mx_up_off (by omega)]
          · intro c hc
            show (if 41 = 52 then B 52 else Y.2 41) c = B 41 c
            rw [if_neg (by decide), Go 41 (by decide) (by decide), mx_up_row, pk_un (by omega)]
        refine iv.mk' h2.t h2.t2 h2.f h2.f2 h2.n h2.n2 h2.nD h2.n20 h2.d h2.d2 h2.j h2.j2 h2.j120 h2.jk h2.jk2 h2.jb h2.s h2.s2 h2.s12 ?_ h2.si h2.un h2.fz h2.nb h2.rc h2.a h2.a2 h2.ab h2.g h2.g2 h2.gb hw
        intro k q hk hq
        have := h.s12
        have y := h2.sk k q hk hq
        have e : A' (13 + k) = we_sr X N (13 + k) := if_neg (by omega)
        rw [e] at y
        exact y
      rcases T with ⟨t1, t2⟩ | ⟨t1, v, t2, t3, t4, t5, t6⟩
      · rcases G with ⟨g1, g2⟩ | ⟨g1, w, g2, g3, g4, g5, g6⟩
        · refine ⟨Or.inl ⟨by rw [if_pos t1, g1], Y0⟩, con ?_⟩
          intro j hj
          rw [we_sr, if_pos t1, To 39 (by decide), Gz g1]
          exact h.w j hj
        · exact absurd g4 (t2 w g2 g3)
      · rcases G with ⟨g1, g2⟩ | ⟨g1, w, g2, g3, g4, g5, g6⟩
        · exact absurd t4 (g2 v t2 t3)
        · have e : v = w := by
            rcases Nat.lt_trichotomy v w with c | c | c
            · exact absurd t4 (g5 v t2 c)
            · exact c
            · exact absurd g4 (t5 w g2 c)
          subst e
          have t0 : ¬ X.1 = 0 := by rw [t1]; decide
          refine ⟨Or.inl ⟨by rw [if_neg t0, g1], Y0⟩, con ?_⟩
          intro j hj
          rw [we_sr, if_neg t0, mx_row, if_pos rfl, g6 j]
          by_cases c : j < N
          · rw [pk_cpy_in (by omega) (by omega), if_pos c, Nat.zero_add, Nat.sub_zero]
            exact t6 j c
          · rw [pk_cpy_out (by omega), if_neg c, To 39 (by decide)]
            exact h.w j hj
    · rw [if_neg h8, if_neg (fun y => h8 y.2)]
      exact ⟨Or.inr ⟨rfl, rfl⟩, _, _, _, _, _, _, _, _, _, _, iv_up h 1⟩
end FE
