/-! Moves: the model's order, and both alike. -/
section MX3
variable {A B A' B' X Z T : mx_M} {D : Nat → Bool} {N J S sa ga L n nZ : Nat} {fr ov tt : Nat → Nat} {im : Nat → Nat → Nat}
theorem pg_pp {a : Nat} (ha : a < 2 ^ 20) : ∀ m, m ≤ 24 → mo_pg (nI a) m = nI (pp_n m a)
  | 0, _ => nI_0.symm
  | m + 1, h => by
    rw [mo_pg, pg_pp ha m (by omega), nb_bit (by omega) (by omega), nI_add, pp_add m 1]
    congr 1
theorem pg_pc {a : Nat} (ha : a < 2 ^ N) (hN : N ≤ 20) : mo_pg (nI a) N = nI (pc a) := by
  have a20 : a < 2 ^ 20 := Nat.lt_of_lt_of_le ha (Nat.pow_le_pow_right (by decide) hN)
  rw [pg_pp a20 N (by omega)]
  have e := pp_add N (24 - N) a
  rw [show N + (24 - N) = 24 from by omega, Nat.div_eq_of_lt ha] at e
  have z : ∀ k, pp_n k 0 = 0 := by
    intro k
    induction k with
    | zero => rfl
    | succ k ih => rw [pp_n]; simpa using ih
  rw [z, Nat.add_zero] at e
  unfold pc
  rw [e]
/-- a level of the model: the positions with c pegs, in their order -/
theorem lv_ok {q : Nat → Nat} {T0 : mx_M} {c e : Nat} (hc : c ≤ 24) (hq24 : ∀ j, j < n → q j ≤ 24) (h54 : ∀ M : mx_M, ∀ j, M 54 = T0 54 → j < n → (mo_pg (M 54 j) N = nI c ↔ q j = c)) (so : ∀ i j, i ≤ j → j < n → q j ≤ q i) (he : e ≤ n) (h1 : ∀ j, j < e → c < q j) (h2 : ∀ j, e ≤ j → j < n → q j ≤ c) :
    ∀ s, s ≤ n → ∃ e', mo_lv (nI c) N J (spA T0 J e) s = spA T0 J e' ∧ e ≤ e' ∧ (e' ≤ e ∨ e' ≤ s) ∧ (∀ j, j < e' → c ≤ q j) ∧ ∀ j, e' ≤ j → j < s → q j < c
  | 0, _ => ⟨e, rfl, Nat.le_refl e, Or.inl (Nat.le_refl e), fun j hj => by have := h1 j hj; omega, fun j h3 h4 => by omega⟩
  | s + 1, hs => by
    obtain ⟨e', x1, x2, x3, x4, x5⟩ := lv_ok hc hq24 h54 so he h1 h2 s (by omega)
    have k54 : mo_lv (nI c) N J (spA T0 J e) s 54 = T0 54 := by
      rw [mo_lv_off (by decide), spA_off (by decide)]
    rw [mo_lv]
    by_cases g : q s = c
    · rw [if_pos ((h54 _ s k54 (by omega)).mpr g), x1]
      have es : e ≤ s := by
        apply Classical.byContradiction
        intro y
        have := h1 s (by omega)
        omega
      have e1 : e' = s := by
        apply Classical.byContradiction
        intro y
        have l : e' < s := by omega
        have a1 := x5 e' (Nat.le_refl _) l
        have a2 := so e' s (by omega) (by omega)
        omega
      subst e1
      refine ⟨e' + 1, rfl, by omega, Or.inr (Nat.le_refl _), fun j hj => ?_, fun j h3 h4 => by omega⟩
      by_cases z : j = e'
      · subst z; omega
      · exact x4 j (by omega)
    · rw [if_neg (fun y => g ((h54 _ s k54 (by omega)).mp y)), x1]
      refine ⟨e', rfl, x2, by omega, x4, fun j h3 h4 => ?_⟩
      by_cases z : j = s
      · subst z
        by_cases w : j < e
        · omega
        · have := h2 j (by omega) (by omega)
          omega
      · exact x5 j h3 (by omega)
theorem mo_ok' {q : Nat → Nat} {T0 : mx_M} (hq24 : ∀ j, j < n → q j ≤ 24) (h54 : ∀ c, c ≤ 24 → ∀ M : mx_M, ∀ j, M 54 = T0 54 → j < n → (mo_pg (M 54 j) N = nI c ↔ q j = c)) (so : ∀ i j, i ≤ j → j < n → q j ≤ q i) :
    ∀ c e, c ≤ 24 → e ≤ n → (∀ j, j < e → c < q j) → (∀ j, e ≤ j → j < n → q j ≤ c) → ∃ e', e' ≤ n ∧ mo_mo N J n c (spA T0 J e) = spA T0 J e' ∧ ∀ j, e' ≤ j → j < n → q j = 0
  | 0, e, _, he, h1, h2 => ⟨e, he, rfl, fun j h3 h4 => by have := h2 j h3 h4; omega⟩
  | c + 1, e, hc, he, h1, h2 => by
    obtain ⟨e', x1, x2, x3, x4, x5⟩ := lv_ok (N := N) (J := J) hc hq24 (h54 (c + 1) hc) so he h1 h2 n (Nat.le_refl n)
    rw [mo_mo, x1]
    exact mo_ok' hq24 h54 so c e' (by omega) (by omega) (fun j hj => by have := x4 j hj; omega) (fun j h3 h4 => by have := x5 j h3 h4; omega)
theorem sp_id {s : Nat} (h : ∀ k, k < J → mo_sk s k T = T) : ∀ k, k ≤ J → mo_sp s T k = T
  | 0, _ => rfl
  | k + 1, hk => by rw [mo_sp, sp_id h k (by omega), h k (by omega)]
theorem spA_end {T0 : mx_M} (v : iv X Z D N J S fr ov tt im sa ga) (r : rr X Z N J L fr ov tt nZ) (hT : ∀ c, c ≠ 58 → T0 c = Z c) {e : Nat} (h0 : ∀ j, e ≤ j → j < nZ → pc (bP Z j) = 0) : ∀ m, e + m ≤ nZ → spA T0 J (e + m) = spA T0 J e
  | 0, _ => rfl
  | m + 1, hm => by
    rw [← Nat.add_assoc, spA, spA_end v r hT h0 m (by omega)]
    apply sp_id (J := J) _ J (Nat.le_refl J)
    intro k hk
    apply (sk_T v r (fun c hc => by rw [spA_off hc, hT c hc]) (by omega : e + m < nZ) hk).1
    cases ok : jm_ok (bP Z (e + m)) (fr k) (ov k) (tt k)
    · rfl
    · have n20 := v.n20
      obtain ⟨b1, b2, b3, b4, b5, b6⟩ := v.jb k hk
      have a20 : bP Z (e + m) < 2 ^ 20 := Nat.lt_of_lt_of_le (r.p (e + m) (by omega)).2.2 (Nat.pow_le_pow_right (by decide) n20)
      have := pc_go a20 (by omega) (by omega) (by omega) b4 b5 b6 ok
      have := h0 (e + m) (by omega) (by omega)
      omega
theorem t1_sp (v : iv X Z D N J S fr ov tt im sa ga) (r : rr X Z N J L fr ov tt nZ) (P0 : bP Z 0 = sa) : mo_t1 Z N J nZ (pc sa) = spA (mo_t0 Z nZ) J nZ := by
  have n20 := v.n20
  have hT : ∀ c, c ≠ 58 → mo_t0 Z nZ c = Z c := by
    intro c hc
    rw [mo_t0, mx_up_off hc, pg_fill, mx_row, if_neg hc]
  have p24 := pc_le sa
  obtain ⟨e', x1, x2, x3⟩ := mo_ok' (N := N) (J := J) (n := nZ) (q := fun j => pc (bP Z j)) (T0 := mo_t0 Z nZ) (fun j hj => pc_le _) (by
    intro c hc M j hM hj
    rw [hM, hT 54 (by decide), (r.p j hj).2.1, pg_pc (r.p j hj).2.2 n20]
    have := pc_le (bP Z j)
    exact nI_eq (by omega) (by omega)) r.so (pc sa) 0 p24 (Nat.zero_le _) (fun j hj => by omega) (fun j _ hj => by rw [← P0]; exact r.so 0 j (Nat.zero_le _) hj)
  have x2' : mo_mo N J nZ (pc sa) (mo_t0 Z nZ) = spA (mo_t0 Z nZ) J e' := x2
  rw [mo_t1, x2']
  have := spA_end v r hT x3 (nZ - e') (by omega)
  rw [show e' + (nZ - e') = nZ from by omega] at this
  exact this.symm
theorem mn_F {f : Nat → Int32} {g F : Nat} {t : Nat → Nat} (ht : ∀ h, h ≤ 20 → f (21 * g + h) = nI (t h) ∧ t h ≤ 1000) (h1 : ∀ h, h ≤ 20 → F ≤ t h) : ∀ m, m ≤ 21 → ∃ x, mo_mn f g m = nI x ∧ x ≤ 1000 ∧ (∀ h, h < m → x ≤ t h) ∧ (x = 1000 ∨ ∃ h, h < m ∧ x = t h)
  | 0, _ => ⟨1000, rfl, Nat.le_refl _, fun h hh => by omega, Or.inl rfl⟩
  | m + 1, hm => by
    obtain ⟨x, e, l, x1, x2⟩ := mn_F ht h1 m (by omega)
    obtain ⟨t1, t2⟩ := ht m (by omega)
    rw [mo_mn, e, t1]
    by_cases c : x ≤ t m
    · rw [if_pos (nI_le c (by omega))]
      refine ⟨x, rfl, l, fun h hh => ?_, ?_⟩
      · by_cases z : h = m
        · subst z; exact c
        · exact x1 h (by omega)
      · rcases x2 with y | ⟨h, y1, y2⟩
        · exact Or.inl y
        · exact Or.inr ⟨h, by omega, y2⟩
    · rw [if_neg (nI_ge (by omega) (by omega))]
      refine ⟨t m, rfl, t2, fun h hh => ?_, Or.inr ⟨m, by omega, rfl⟩⟩
      by_cases z : h = m
      · subst z; exact Nat.le_refl _
      · have := x1 h (by omega); omega
theorem mv_eq (v : iv A B D N J S fr ov tt im sa ga) (h1 : 1 ≤ L) (h5 : L ≤ 500) (hr : (mo_go B L J).1 = true) {b nZ : Nat} (r : rr (pe_go A L J) (mo_go B L J).2 N J L fr ov tt nZ) (hb : b < nZ) :
    pe_go A L J 36 b = mo_mn (mo_t1 (mo_go B L J).2 N J nZ (pc sa) 58) b 21 := by
  obtain ⟨n, r', P0, vZ, w⟩ := rr_go v h1 h5
  obtain ⟨r0, v0, h6, p0⟩ := rr_s0 v h1 h5
  rw [t1_sp vZ r P0]
  have nL := r.nL
  have n1 := r.n1
  have T0 : ∀ b h, b < nZ → h ≤ 20 → mo_t0 (mo_go B L J).2 nZ 58 (21 * b + h) = nI (if 21 * b + h = 20 then 0 else 1000) := by
    intro b h hb hh
    rw [mo_t0, mx_up_row]
    unfold upd pg_fill
    by_cases c : 21 * b + h = 20
    · rw [if_pos c, if_pos c, nI_0]
    · rw [if_neg c, if_neg c, mx_row, if_pos rfl]
      simp only [if_pos (show 21 * b + h < 21 * nZ by omega)]
      rfl
  have f0 : fm (re_s0 A (A 0 5)) (spA (mo_t0 (mo_go B L J).2 nZ) J 0) (bP (mo_go B L J).2) sa 1 nZ := by
    obtain ⟨_, _, _, _, a5, a6⟩ := re_s0_ok (M := A) (p := A 0 5) h1 h5
    refine ⟨fun b hb => ?_, fun b hb1 hb2 h hh => ?_⟩
    · have : b = 0 := by omega
      subst this
      refine ⟨fun h => if h = 20 then 0 else 1000, 0, 0, ?_, by rw [a5, nI_0], by rw [a6, nI_0], by decide, fun h _ => Nat.zero_le _, ⟨20, by omega, rfl⟩, ?_, by rw [P0]; omega⟩
      · intro h hh
        refine ⟨?_, by dsimp only; split <;> omega⟩
        have := T0 0 h (by omega) hh
        rw [Nat.mul_zero, Nat.zero_add] at this ⊢
        exact this
      · intro h hh
        dsimp only
        rw [if_neg (by omega)]
        simp
    · have := T0 b h hb2 hh
      rw [if_neg (by omega)] at this
      exact this
  have hT : ∀ c, c ≠ 58 → mo_t0 (mo_go B L J).2 nZ c = (mo_go B L J).2 c := by
    intro c hc
    rw [mo_t0, mx_up_off hc, pg_fill, mx_row, if_neg hc]
  have hj1 : 0 < 1 → ∀ j, j < 1 → pc (bP (mo_s0 B) 0) ≤ pc (bP (mo_s0 B) j) + 1 := by
    intro _ j hj
    have : j = 0 := by omega
    subst this
    omega
  have F := fm_all vZ r hT L 0 _ _ 1 v0 r0 h6 (by omega) (by omega) (fun s k hs => by omega) hj1 hr r.n2 pre_r f0
  obtain ⟨t, G, K, x1, x2, _, _, x5, x6, _⟩ := F.1 b hb
  obtain ⟨x, e, l, y1, y2⟩ := mn_F x1 x5 21 (Nat.le_refl _)
  rw [e]
  have x2' : pe_go A L J 36 b = nI G := x2
  rw [x2']
  congr 1
  obtain ⟨h0, z1, z2⟩ := x6
  have w1 := y1 h0 (by omega)
  have w2 := (x1 h0 z1).2
  rcases y2 with y | ⟨h, y3, y4⟩
  · omega
  · have := x5 h (by omega)
    omega
theorem op_moves (h : iv A B D N J S fr ov tt im sa ga) (lim : Int32) :
    ag (pe_rw A lim (pe_moves (pe_go A lim.toNatClampNeg J))).1 xIS xIA ((mo_rw B lim (mo_moves (mo_go (mx_up B 41 0 0) lim.toNatClampNeg J) N J (pc sa))).2 41 0) (mo_rw B lim (mo_moves (mo_go (mx_up B 41 0 0) lim.toNatClampNeg J) N J (pc sa))).1 ∧
    IV (pe_rw A lim (pe_moves (pe_go A lim.toNatClampNeg J))).2 (mo_rw B lim (mo_moves (mo_go (mx_up B 41 0 0) lim.toNatClampNeg J) N J (pc sa))).2 := by
  apply op_rw h
  intro u L h1 h5 e
  subst e
  rw [nI_clamp (by omega)]
  obtain ⟨n, r, P0, v, w⟩ := rr_go (iv_up h 0) h1 h5
  have z0 := go_0 (B := B) (J := J) h1 h5
  have nL := r.nL
  have me : (mo_go (mx_up B 41 0 0) L J).1 = true → ∀ b, b < n → pe_go A L J 36 b = mo_mn (mo_t1 (mo_go (mx_up B 41 0 0) L J).2 N J n (pc sa) 58) b 21 := fun hr b hb => mv_eq (iv_up h 0) h1 h5 hr r hb
  unfold pe_moves mo_moves
  generalize mo_go (mx_up B 41 0 0) L J = Y at *
  generalize pe_go A L J = X at *
  generalize pc sa = cc at *
  rcases w with ⟨w1, w2, _⟩ | ⟨w1, w2⟩
  · rw [if_pos w1, if_pos w2, v.g, v.g2, r.n2, nI_clamp (by omega)]
    refine ⟨?_, ?_, D, N, J, S, fr, ov, tt, im, sa, ga, ?_⟩
    · rcases rr_has r (nI ga) with ⟨_, q1, q2⟩ | ⟨b, bn, _, q1, q2, q3⟩
      · rw [if_pos q1, if_pos q2]
      · rw [if_neg (by rw [q1]; exact nI_m1 (by omega)), if_neg (by rw [q2]; exact nI_ne0 (by omega) (by omega)), q1, q3, nI_clamp (by omega)]
        rw [me w1 b bn]
    · dsimp only
      rw [mo_t1_off (by decide)]
      exact z0
    · dsimp only
      refine iv_cong v (fun _ _ => rfl) (fun c h1 hc => ?_) (fun c hc => ?_)
      · exact mo_t1_off (by omega)
      · rw [mo_t1_off (by decide)]
  · rw [if_neg (show ¬ X 27 6 = 0 by rw [w2]; decide), if_neg (show ¬ Y.1 = true by rw [w1]; decide)]
    exact ⟨rfl, z0, _, _, _, _, _, _, _, _, _, _, v⟩
/-- what the contract of the model's moves asks -/
theorem mv_cl (h : iv A B D N J S fr ov tt im sa ga) (h1 : 1 ≤ L) (h5 : L ≤ 500) (hr : (mo_go B L J).1 = true) : ∀ s k, s < ((mo_go B L J).2 41 20).toNatClampNeg → k < J → ¬ mo_q (mo_go B L J).2 s k < 0 → ¬ (mo_go B L J).2 57 (mo_s (mo_go B L J).2 (mo_q (mo_go B L J).2 s k)) = 0 := by
  obtain ⟨n, r, P0, v, w⟩ := rr_go h h1 h5
  have nL := r.nL
  rcases w with ⟨_, _, w3⟩ | ⟨w1, _⟩
  · rw [r.n2, nI_clamp (by omega)]
    intro s k hs hk hq
    have n20 := v.n20
    obtain ⟨p1, p2, p3⟩ := r.p s hs
    obtain ⟨g1, g2, g3⟩ := v.jk2 k hk
    obtain ⟨b1, b2, b3, b4, b5, b6⟩ := v.jb k hk
    have a20 : bP (mo_go B L J).2 s < 2 ^ 20 := Nat.lt_of_lt_of_le p3 (Nat.pow_le_pow_right (by decide) n20)
    have qb : mo_q (mo_go B L J).2 s k = jm (bP (mo_go B L J).2 s) (fr k) (ov k) (tt k) := by
      rw [mo_q, p2, g1, g2, g3]
      exact jm_mo a20 (by omega) (by omega) (by omega) b4 b5 b6
    have neg := jm_neg (a := bP (mo_go B L J).2 s) (f := fr k) (o := ov k) (t := tt k) a20 (by omega) (by omega) (by omega)
    rw [qb] at hq ⊢
    have ok : jm_ok (bP (mo_go B L J).2 s) (fr k) (ov k) (tt k) = true := by
      cases e : jm_ok (bP (mo_go B L J).2 s) (fr k) (ov k) (tt k)
      · exact absurd (neg.2.mpr e) hq
      · rfl
    obtain ⟨b, bn, eb⟩ := w3 s k hs hk ok
    rw [jm, if_pos ok, ← eb, ← (r.p b bn).2.1]
    rcases mo_s_in r.hB ((mo_go B L J).2 54 b) with ⟨_, s2⟩ | ⟨b', bn', _, s2⟩
    · exact absurd rfl (s2 b bn)
    · rw [s2]
      exact nI_ne0 (by omega) (by omega)
  · rw [w1] at hr; cases hr
end MX3
