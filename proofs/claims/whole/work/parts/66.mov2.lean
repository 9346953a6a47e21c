/-! Moves: the class's rows, step by step, against the model's table over the final list Z. -/
section MW
variable {A B A' B' X Z T : mx_M} {D : Nat → Bool} {N J S sa ga L n nZ : Nat} {fr ov tt : Nat → Nat} {im : Nat → Nat → Nat}
theorem pp_b : ∀ (k m a : Nat), a < 2 ^ m → pp_n k a ≤ m
  | 0, _, _, _ => Nat.zero_le _
  | k + 1, 0, a, h => by
    have : a = 0 := by simp at h; exact h
    subst this
    have := pp_b k 0 0 (by decide)
    rw [pp_n]
    simpa using this
  | k + 1, m + 1, a, h => by
    have := pp_b k m (a / 2) (by rw [Nat.pow_succ] at h; omega)
    rw [pp_n]
    omega
theorem pc_N {a : Nat} (h : a < 2 ^ N) : pc a ≤ N := pp_b 24 N a h
theorem fm_new {P : Nat → Nat} {i f g k s : Nat} {p : Int32} (h : fm A T P sa n nZ) (hi : i < n) (hn : n < nZ) (hf : f < 20) (hg : g < 20) (hp : pc (P n) + 1 = pc (P i)) (hp1 : 1 ≤ pc (P n)) (hsa : pc sa ≤ 20) : fm (re_am (re_en (fo0_in A n s p) n i k) i n (nI f) (nI g)) (mo_i i (21 * n + g) (nI f) T 21) P sa (n + 1) nZ := by
  obtain ⟨h1, h2⟩ := h
  obtain ⟨t, F, K, x1, x2, x3, x4, x5, x6, x7, x8⟩ := h1 i hi
  have TT := mi_T (T := T) (s := i) (a := 21 * n + g) (f := f) (x := 1000) (t := t) hf (fun q hq => by omega) (h2 n (Nat.le_refl n) hn g (by omega)) (Nat.le_refl _) x1 21 (Nat.le_refl 21)
  rw [mi_21 x5 x6 hf (x7 f hf)] at TT
  have E36 : re_en (fo0_in A n s p) n i k 36 = upd (A 36) n 20 := by
    rw [re_en, mx_up_row, mx_up_off (by decide), mx_up_off (by decide), fo0_in_off (by decide) (by decide) (by decide)]
  have E37 : re_en (fo0_in A n s p) n i k 37 = A 37 := by
    rw [re_en_off (by decide) (by decide) (by decide), fo0_in_off (by decide) (by decide) (by decide)]
  generalize re_en (fo0_in A n s p) n i k = E at *
  have th := th_I (A := E) (P := P) (t := t) (i := i) hf (by rw [E36, pk_un (by omega)]; exact x2) (by rw [E37]; exact x3) x4
  generalize hv : F + (if K.testBit f = true then 0 else 1) = v at *
  have v1 : v ≤ F + 1 := by rw [← hv]; split <;> omega
  unfold re_am
  rw [th]
  have e1 : re_m1 E n (nI v) = mx_up (mx_up E 36 n (nI v)) 37 n 0 := by
    rw [re_m1, E36, pk_us, if_neg]
    exact nI_ge (a := v) (b := 20) (by omega) (by decide)
  have e2 : re_m2 (re_m1 E n (nI v)) n (nI v) (nI g) = mx_up (mx_up (mx_up E 36 n (nI v)) 37 n 0) 37 n (nI (2 ^ g)) := by
    rw [e1, re_m2, if_pos]
    · congr 1
      rw [mx_up_row, pk_us, nb_shl (by omega)]
      show (0 : Int32) ||| _ = _
      exact Int32.zero_or
    · rw [mx_up_off (by decide), mx_up_row, pk_us]
  rw [e2]
  refine ⟨fun c hc => ?_, fun c hc1 hc2 q hq => ?_⟩
  · by_cases e : c = n
    · subst e
      refine ⟨fun q => if q = g then v else 1000, v, 2 ^ g, ?_, ?_, ?_, p31 hg, ?_, ?_, ?_, ?_⟩
      · intro q hq
        dsimp only
        by_cases e : q = g
        · subst e
          rw [if_pos rfl, TT.1, Nat.min_eq_right (by omega)]
          exact ⟨rfl, by omega⟩
        · rw [if_neg e, TT.2 _ (by omega)]
          exact ⟨h2 c (Nat.le_refl c) hn q hq, by omega⟩
      · rw [mx_up_off (by decide), mx_up_off (by decide), mx_up_row, pk_us]
      · rw [mx_up_row, pk_us]
      · intro q hq
        dsimp only
        split <;> omega
      · exact ⟨g, by omega, if_pos rfl⟩
      · intro q hq
        dsimp only
        rw [Nat.testBit_two_pow]
        by_cases e : q = g
        · subst e; simp
        · rw [if_neg e]; simp [Ne.symm e]; omega
      · omega
    · refine fmb_cong (h1 c (by omega)) ?_ ?_ (fun q hq => TT.2 _ (by omega))
      · rw [mx_up_off (by decide), mx_up_off (by decide), mx_up_row, pk_un e, E36, pk_un e]
      · rw [mx_up_row, pk_un e, mx_up_row, pk_un e, mx_up_off (by decide), E37]
  · rw [TT.2 _ (by omega)]
    exact h2 c (by omega) hc2 q hq
/-- a jump in the table -/
theorem sk_T {i k : Nat} (v : iv X Z D N J S fr ov tt im sa ga) (r : rr X Z N J L fr ov tt nZ) (hT : ∀ c, c ≠ 58 → T c = Z c) (hi : i < nZ) (hk : k < J) :
    (jm_ok (bP Z i) (fr k) (ov k) (tt k) = false → mo_sk i k T = T) ∧ (jm_ok (bP Z i) (fr k) (ov k) (tt k) = true → ∀ b, b < nZ → Z 54 b = nI (jm_go (bP Z i) (fr k) (ov k) (tt k)) → mo_sk i k T = mo_i i (21 * b + tt k) (nI (fr k)) T 21) := by
  have n20 := v.n20
  obtain ⟨p1, p2, p3⟩ := r.p i hi
  have nL := r.nL
  have L5 := r.L5
  obtain ⟨g1, g2, g3⟩ := v.jk2 k hk
  obtain ⟨b1, b2, b3, b4, b5, b6⟩ := v.jb k hk
  have a20 : bP Z i < 2 ^ 20 := Nat.lt_of_lt_of_le p3 (Nat.pow_le_pow_right (by decide) n20)
  have qb : mo_q T i k = jm (bP Z i) (fr k) (ov k) (tt k) := by
    rw [mo_q, hT 54 (by decide), hT 46 (by decide), hT 47 (by decide), hT 48 (by decide), p2, g1, g2, g3]
    exact jm_mo a20 (by omega) (by omega) (by omega) b4 b5 b6
  have neg := jm_neg (a := bP Z i) (f := fr k) (o := ov k) (t := tt k) a20 (by omega) (by omega) (by omega)
  unfold mo_sk
  rw [qb]
  constructor
  · intro ok
    rw [if_pos (neg.2.mpr ok)]
  · intro ok b hb e
    have x2 : ¬ jm (bP Z i) (fr k) (ov k) (tt k) < 0 := fun y => by have := neg.2.mp y; rw [ok] at this; cases this
    have ej : jm (bP Z i) (fr k) (ov k) (tt k) = nI (jm_go (bP Z i) (fr k) (ov k) (tt k)) := by rw [jm, if_pos ok]
    rw [if_neg x2, ej]
    have no : mo_no T (nI (jm_go (bP Z i) (fr k) (ov k) (tt k))) = b := by
      have : mo_no T (nI (jm_go (bP Z i) (fr k) (ov k) (tt k))) = mo_no Z (nI (jm_go (bP Z i) (fr k) (ov k) (tt k))) := by
        unfold mo_no mo_s
        rw [hT 57 (by decide), hT 54 (by decide)]
      rw [this]
      rcases rr_has r (nI (jm_go (bP Z i) (fr k) (ov k) (tt k))) with ⟨q0, _⟩ | ⟨b', bn, q0, _, _, q3⟩
      · exact absurd e (q0 b hb)
      · rw [q3]
        exact r.hB.2.2.2.2.2 b' b bn hb (q0.trans e.symm)
    rw [no, hT 48 (by decide), hT 46 (by decide), g1, g3, nI_clamp (by omega)]
theorem fm_step {i k : Nat} (v : iv A B D N J S fr ov tt im sa ga) (h : rr A B N J L fr ov tt n) (hi : i < n) (hk : k < J) (hf : ∀ j, j < n → pc (bP B i) ≤ pc (bP B j) + 1)
    (vZ : iv X Z D N J S fr ov tt im sa ga) (rZ : rr X Z N J L fr ov tt nZ) (hT : ∀ c, c ≠ 58 → T c = Z c) (h1 : (mo_k L i k B).1 = true) {n' : Nat} (hn' : (mo_k L i k B).2 41 20 = nI n') (n5 : n' ≤ 500) (hn : n' ≤ nZ) (hp : pre n' (mo_k L i k B).2 Z)
    (h0 : fm A T (bP Z) sa n nZ) : fm (re_k L i k A) (mo_sk i k T) (bP Z) sa n' nZ := by
  have n20 := v.n20
  have nL := h.nL
  have L5 := h.L5
  have hsa : pc sa ≤ 20 := Nat.le_trans (pc_N v.ab) n20
  obtain ⟨b1, b2, b3, b4, b5, b6⟩ := v.jb k hk
  have a20 : bP B i < 2 ^ 20 := Nat.lt_of_lt_of_le (h.p i hi).2.2 (Nat.pow_le_pow_right (by decide) n20)
  have hpp : 2 ^ N ≤ 2 ^ 20 := Nat.pow_le_pow_right (by decide) n20
  have hlt := jm_lt (h.p i hi).2.2 b1 b2 b3
  rcases rk_cases v h hi hk with ⟨ok, e1, e2⟩ | ⟨ok, b, bn, eb, e1, e2⟩ | ⟨ok, e1, e2⟩ | ⟨ok, hno, hl, e1, e2⟩
  · rw [e2] at hn' hp
    change pre n' B Z at hp
    change B 41 20 = nI n' at hn'
    have : n' = n := by
      have : nI n' = nI n := hn'.symm.trans h.n2
      exact (nI_eq (by omega) (by omega)).mp this
    subst this
    have eP := pre_P hp hi
    rw [e1, (sk_T vZ rZ hT (by omega : i < nZ) hk).1 (by rw [eP]; exact ok)]
    exact h0
  · rw [e2] at hn' hp
    change pre n' B Z at hp
    change B 41 20 = nI n' at hn'
    have : n' = n := by
      have : nI n' = nI n := hn'.symm.trans h.n2
      exact (nI_eq (by omega) (by omega)).mp this
    subst this
    have eP := pre_P hp hi
    rw [e1, (sk_T vZ rZ hT (by omega : i < nZ) hk).2 (by rw [eP]; exact ok) b (by omega) (by rw [eP, (hp b bn).1]; exact eb)]
    have Pb : bP Z b = jm_go (bP B i) (fr k) (ov k) (tt k) := by
      rw [pre_P hp bn]
      unfold bP
      rw [eb, nI_clamp (by omega)]
    have hpc := pc_go a20 (by omega) (by omega) (by omega) b4 b5 b6 ok
    refine fm_old h0 hi bn ?_ (by omega) (by omega) (by rw [Pb, eP]; exact hpc) hsa
    rintro rfl
    rw [eP] at Pb
    rw [← Pb] at hpc
    omega
  · rw [e2] at h1
    cases h1
  · obtain ⟨r1, r2, r3⟩ := rr_new (x := nI (fr k)) (y := nI (tt k)) v h hi hk hl ok hno hf
    rw [e2] at hn' hp
    have : n' = n + 1 := by
      have : nI n' = nI (n + 1) := hn'.symm.trans r1.n2
      exact (nI_eq (by omega) (by omega)).mp this
    subst this
    have hp0 := pre_t r2 (by omega) hp
    have eP := pre_P hp0 hi
    have Pn : bP Z n = jm_go (bP B i) (fr k) (ov k) (tt k) := (pre_P hp (by omega : n < n + 1)).trans r3
    have zn : Z 54 n = nI (jm_go (bP B i) (fr k) (ov k) (tt k)) := by
      rw [(rZ.p n (by omega)).2.1, Pn]
    rw [e1, (sk_T vZ rZ hT (by omega : i < nZ) hk).2 (by rw [eP]; exact ok) n (by omega) (by rw [eP]; exact zn)]
    have hpc := pc_go a20 (by omega) (by omega) (by omega) b4 b5 b6 ok
    refine fm_new h0 hi (by omega) (by omega) (by omega) (by rw [Pn, eP]; exact hpc) ?_ hsa
    rw [Pn]
    unfold jm_ok at ok
    simp at ok
    obtain ⟨⟨q1, q2⟩, q3⟩ := ok
    have c1 := pc_bit (a := bP B i) (i := fr k) (by omega) q1
    have c2 := pc_bit (a := bP B i ^^^ 2 ^ fr k) (i := ov k) (by omega) (by rw [Nat.testBit_xor, q2, Nat.testBit_two_pow]; simp [b4])
    omega
/-- the table behind the first s positions -/
def spA (T : mx_M) (J : Nat) : Nat → mx_M
  | 0 => T
  | s + 1 => mo_sp s (spA T J s) J
theorem spA_off {c : Nat} (hc : c ≠ 58) : ∀ s, spA T J s c = T c
  | 0 => rfl
  | s + 1 => by rw [spA, mo_sp_off hc, spA_off hc s]
theorem fm_row {i : Nat} {T0 : mx_M} (vZ : iv X Z D N J S fr ov tt im sa ga) (rZ : rr X Z N J L fr ov tt nZ) (hT : ∀ c, c ≠ 58 → T0 c = Z c) : ∀ (m k : Nat) (A B : mx_M) (n : Nat), iv A B D N J S fr ov tt im sa ga → rr A B N J L fr ov tt n → A 27 6 = 0 → i < n → k + m ≤ J → (∀ j, j < n → pc (bP B i) ≤ pc (bP B j) + 1) →
    (mo_row L i m k B).1 = true → ∀ n', (mo_row L i m k B).2 41 20 = nI n' → n' ≤ 500 → n' ≤ nZ → pre n' (mo_row L i m k B).2 Z → fm A (mo_sp i (spA T0 J i) k) (bP Z) sa n nZ → fm (re_row L i m k A) (mo_sp i (spA T0 J i) (k + m)) (bP Z) sa n' nZ
  | 0, k, A, B, n, v, h, h6, hi, hk, hf, hr, n', hn', n5, hz, hp, h0 => by
    have nL := h.nL
    have L5 := h.L5
    have : n' = n := by
      have : nI n' = nI n := hn'.symm.trans h.n2
      exact (nI_eq (by omega) (by omega)).mp this
    subst this
    exact h0
  | m + 1, k, A, B, n, v, h, h6, hi, hk, hf, hr, n', hn', n5, hz, hp, h0 => by
    rw [mo_row] at hr hn' hp
    rw [re_row, if_pos h6]
    rcases rr_k v h h6 hi (by omega : k < J) hf with ⟨e1, e2, e3⟩ | ⟨e1, e2, n1, hn1, r1, r2, r3, r4, r5⟩
    · rw [if_neg (by rw [e1]; decide)] at hr
      cases hr
    · rw [if_pos e1] at hr hn' hp
      obtain ⟨n2, q1, q2, q3, q4, q5⟩ := rr_row (i := i) m (k + 1) _ _ n1 r3 r1 e2 (by omega) (by omega) r5
      have en : n' = n2 := by
        have : nI n' = nI n2 := hn'.symm.trans q2.n2
        have := q2.nL
        have := q2.L5
        exact (nI_eq (by omega) (by omega)).mp ‹nI n' = nI n2›
      subst en
      have hp1 : pre n1 (mo_k L i k B).2 Z := pre_t q3 q1 hp
      have st := fm_step v h hi (by omega : k < J) hf vZ rZ (T := mo_sp i (spA T0 J i) k) (fun c hc => by rw [mo_sp_off hc, spA_off hc, hT c hc]) e1 r1.n2 (by omega) (by omega) hp1 h0
      have := fm_row vZ rZ hT m (k + 1) _ _ n1 r3 r1 e2 (by omega) (by omega) r5 hr n' hn' n5 hz hp st
      rw [show k + (m + 1) = k + 1 + m from by omega]
      exact this
theorem fm_all {T0 : mx_M} (vZ : iv X Z D N J S fr ov tt im sa ga) (rZ : rr X Z N J L fr ov tt nZ) (hT : ∀ c, c ≠ 58 → T0 c = Z c) : ∀ (m i : Nat) (A B : mx_M) (n : Nat), iv A B D N J S fr ov tt im sa ga → rr A B N J L fr ov tt n → A 27 6 = 0 → L ≤ i + m → i ≤ n → (∀ s k, s < i → s < n → k < J → cls B n fr ov tt s k) → (i < n → ∀ j, j < n → pc (bP B i) ≤ pc (bP B j) + 1) →
    (mo_ra L J m i B).1 = true → (mo_ra L J m i B).2 41 20 = nI nZ → pre nZ (mo_ra L J m i B).2 Z → fm A (spA T0 J i) (bP Z) sa n nZ → fm (re_all L J m i A) (spA T0 J nZ) (bP Z) sa nZ nZ
  | 0, i, A, B, n, v, h, h6, hm, hin, hc, hf, hr, hn', hp, h0 => by
    have nL := h.nL
    have L5 := h.L5
    have nLZ := rZ.nL
    have : nZ = n := by
      have : nI nZ = nI n := hn'.symm.trans h.n2
      exact (nI_eq (by omega) (by omega)).mp this
    subst this
    have : i = nZ := by omega
    subst this
    exact h0
  | m + 1, i, A, B, n, v, h, h6, hm, hin, hc, hf, hr, hn', hp, h0 => by
    have nL := h.nL
    have L5 := h.L5
    have nLZ := rZ.nL
    rw [mo_ra, h.n2, nI_clamp (by omega)] at hr hn' hp
    rw [re_all, h.n, nI_clamp (by omega)]
    by_cases c : i < n
    · rw [if_pos c] at hr hn' hp
      rw [if_pos c, if_pos h6]
      obtain ⟨n1, hn1, r1, r2, r3, r4⟩ := rr_row (i := i) J 0 A B n v h h6 c (by omega) (hf c)
      rcases r4 with ⟨e1, e2, e3, e4⟩ | ⟨e1, e2⟩
      · rw [if_pos e1] at hr hn' hp
        have f2 : i + 1 < n1 → ∀ j, j < n1 → pc (bP (mo_row L i J 0 B).2 (i + 1)) ≤ pc (bP (mo_row L i J 0 B).2 j) + 1 := by
          intro hi1 j hj
          have := e4 j hj
          have := r1.so i (i + 1) (by omega) hi1
          omega
        have ok2 := mo_ra_ok (J := J) m (i + 1) (mo_row L i J 0 B).2 ⟨r1.L5, n1, r1.nL, r1.n2, r1.hB⟩
        have n1Z : n1 ≤ nZ := by
          have := ok2.2.1
          rw [r1.n2, hn', nI_clamp (by have := r1.nL; omega), nI_clamp (by omega)] at this
          exact this
        have hc2 : ∀ s k, s < i + 1 → s < n1 → k < J → cls (mo_row L i J 0 B).2 n1 fr ov tt s k := by
          intro s k hs hs2 hk
          by_cases e : s = i
          · subst e
            exact e3 k (by omega) (by omega)
          · exact cls_up (hc s k (by omega) (by omega) hk) r2 hn1 (by omega)
        obtain ⟨n2, q1, q2, q3, _⟩ := rr_all m (i + 1) _ _ n1 r3 r1 e2 (by omega) hc2 f2
        have pp : pre n1 (mo_row L i J 0 B).2 Z := pre_t q3 n1Z hp
        have st := fm_row vZ rZ hT J 0 A B n v h h6 c (by omega) (hf c) e1 n1 r1.n2 (by have := r1.nL; omega) n1Z pp h0
        rw [Nat.zero_add] at st
        exact fm_all vZ rZ hT m (i + 1) _ _ n1 r3 r1 e2 (by omega) (by omega) hc2 f2 hr hn' hp st
      · rw [if_neg (by rw [e1]; decide)] at hr
        cases hr
    · rw [if_neg c] at hr hn' hp
      rw [if_neg c]
      have : nZ = n := by
        have : nI nZ = nI n := hn'.symm.trans h.n2
        exact (nI_eq (by omega) (by omega)).mp this
      subst this
      have : i = nZ := by omega
      subst this
      exact h0
end MW
