/-! Reaching: all of it alike. -/
section RD
variable {A B A' B' Z : mx_M} {D : Nat → Bool} {N J S sa ga L n : Nat} {fr ov tt : Nat → Nat} {im : Nat → Nat → Nat}
theorem en_55 {t : Nat} {p w j : Int32} : mo_en B n t p w j 55 = upd (B 55) n w ∧ mo_en B n t p w j 56 = upd (B 56) n j := by
  unfold mo_en
  constructor
  · rw [mx_up_off (by decide), mx_up_off (by decide), mx_up_row, mx_up_off (by decide), mx_up_off (by decide)]
  · rw [mx_up_off (by decide), mx_up_row, mx_up_off (by decide), mx_up_off (by decide), mx_up_off (by decide)]
theorem rr_new {i k : Nat} {x y : Int32} (v : iv A B D N J S fr ov tt im sa ga) (h : rr A B N J L fr ov tt n) (hi : i < n) (hk : k < J) (hn : n < L) (ok : jm_ok (bP B i) (fr k) (ov k) (tt k) = true)
    (hno : ∀ b, b < n → ¬ B 54 b = nI (jm_go (bP B i) (fr k) (ov k) (tt k))) (hf : ∀ j, j < n → pc (bP B i) ≤ pc (bP B j) + 1) :
    rr (re_am (re_en (fo0_in A n (hs_f (A 30) (A 29) (nI (jm_go (bP B i) (fr k) (ov k) (tt k))) 1024 (fo_h (nI (jm_go (bP B i) (fr k) (ov k) (tt k))))) (nI (jm_go (bP B i) (fr k) (ov k) (tt k)))) n i k) i n x y)
      (mo_en B n (mo_s B (nI (jm_go (bP B i) (fr k) (ov k) (tt k)))) (nI (jm_go (bP B i) (fr k) (ov k) (tt k))) (nI i) (nI k)) N J L fr ov tt (n + 1) ∧
    pre n B (mo_en B n (mo_s B (nI (jm_go (bP B i) (fr k) (ov k) (tt k)))) (nI (jm_go (bP B i) (fr k) (ov k) (tt k))) (nI i) (nI k)) ∧
    bP (mo_en B n (mo_s B (nI (jm_go (bP B i) (fr k) (ov k) (tt k)))) (nI (jm_go (bP B i) (fr k) (ov k) (tt k))) (nI i) (nI k)) n = jm_go (bP B i) (fr k) (ov k) (tt k) := by
  have n20 := v.n20
  obtain ⟨p1, p2, p3⟩ := h.p i hi
  have nL := h.nL
  have L5 := h.L5
  have n1 := h.n1
  obtain ⟨b1, b2, b3, b4, b5, b6⟩ := v.jb k hk
  have a20 : bP B i < 2 ^ 20 := Nat.lt_of_lt_of_le p3 (Nat.pow_le_pow_right (by decide) n20)
  have hpc := pc_go a20 (by omega) (by omega) (by omega) b4 b5 b6 ok
  have hlt := jm_lt p3 b1 b2 b3
  have g31 : jm_go (bP B i) (fr k) (ov k) (tt k) < 2 ^ 31 := Nat.lt_of_lt_of_le hlt (Nat.pow_le_pow_right (by decide) (by omega))
  generalize hgo : jm_go (bP B i) (fr k) (ov k) (tt k) = go at *
  generalize hsA : hs_f (A 30) (A 29) (nI go) 1024 (fo_h (nI go)) = sA
  generalize hsB : mo_s B (nI go) = sB
  have B54 : mo_en B n sB (nI go) (nI i) (nI k) 54 = upd (B 54) n (nI go) := mo_en_54
  have B57 : mo_en B n sB (nI go) (nI i) (nI k) 57 = upd (B 57) sB (nI (n + 1)) := mo_en_57
  have B55 : mo_en B n sB (nI go) (nI i) (nI k) 55 = upd (B 55) n (nI i) := en_55.1
  have B56 : mo_en B n sB (nI go) (nI i) (nI k) 56 = upd (B 56) n (nI k) := en_55.2
  have Bf : mo_en B n sB (nI go) (nI i) (nI k) 41 20 = nI (n + 1) := mo_en_f
  generalize mo_en B n sB (nI go) (nI i) (nI k) = B' at *
  have P1 : bP B' n = go := by unfold bP; rw [B54, pk_us, nI_clamp g31]
  have P2 : ∀ j, j ≠ n → bP B' j = bP B j := fun j hj => by unfold bP; rw [B54, pk_un hj]
  have R1 : bR B' n = i := by unfold bR; rw [B55, pk_us, nI_clamp (by omega)]
  have R2 : ∀ j, j ≠ n → bR B' j = bR B j := fun j hj => by unfold bR; rw [B55, pk_un hj]
  have jb120 := v.j120
  have V1 : bV B' n = k := by unfold bV; rw [B56, pk_us, nI_clamp (by omega)]
  have V2 : ∀ j, j ≠ n → bV B' j = bV B j := fun j hj => by unfold bV; rw [B56, pk_un hj]
  refine ⟨?_, ?_, P1⟩
  · apply rr_cong (A := re_en (fo0_in A n sA (nI go)) n i k)
    · have A28 : re_en (fo0_in A n sA (nI go)) n i k 28 2 = nI (n + 1) := by simp [re_en, fo0_in, mx_up]
      have A29 : re_en (fo0_in A n sA (nI go)) n i k 29 = upd (A 29) n (nI go) := by
        rw [re_en_off (by decide) (by decide) (by decide), fo0_in, mx_up_off (by decide), mx_up_off (by decide), mx_up_row]
      have A30 : re_en (fo0_in A n sA (nI go)) n i k 30 = upd (A 30) sA (nI (n + 1)) := by
        rw [re_en_off (by decide) (by decide) (by decide), fo0_in, mx_up_row, mx_up_off (by decide), mx_up_off (by decide)]
      have A34 : re_en (fo0_in A n sA (nI go)) n i k 34 = upd (A 34) n (nI i) := by
        rw [re_en, mx_up_off (by decide), mx_up_off (by decide), mx_up_row, fo0_in_off (by decide) (by decide) (by decide)]
      have A35 : re_en (fo0_in A n sA (nI go)) n i k 35 = upd (A 35) n (nI k) := by
        rw [re_en, mx_up_off (by decide), mx_up_row, mx_up_off (by decide), fo0_in_off (by decide) (by decide) (by decide)]
      generalize re_en (fo0_in A n sA (nI go)) n i k = A' at *
      refine rr.mk' ?rr_n ?rr_n2 ?rr_nL ?rr_L5 ?rr_n1 ?rr_hA ?rr_hB ?rr_p ?rr_r ?rr_r0 ?rr_so
      case rr_n => exact A28
      case rr_n2 => exact Bf
      case rr_nL => omega
      case rr_L5 => exact L5
      case rr_n1 => omega
      case rr_hA =>
        rw [A29, A30, ← hsA]
        exact hs_add h.hA (by omega) (fun b hb => by rw [(h.p b hb).1]; exact hno b hb)
      case rr_hB =>
        rw [B54, B57, ← hsB]
        exact hs_add h.hB (by omega) hno
      case rr_p =>
        intro j hj
        by_cases e : j = n
        · subst e
          rw [P1, A29, B54, pk_us, pk_us]
          exact ⟨rfl, rfl, hlt⟩
        · rw [P2 j e, A29, B54, pk_un e, pk_un e]
          exact h.p j (by omega)
      case rr_r =>
        intro j h0 hj
        by_cases e : j = n
        · subst e
          refine rp.mk' ?rp_f ?rp_v ?rp_f2 ?rp_v2 ?rp_l ?rp_j ?rp_ok ?rp_go
          case rp_f => rw [A34, B55, pk_us, pk_us]
          case rp_v => rw [A35, B56, pk_us, pk_us]
          case rp_f2 => rw [R1, B55, pk_us]
          case rp_v2 => rw [V1, B56, pk_us]
          case rp_l => rw [R1]; exact hi
          case rp_j => rw [V1]; exact hk
          case rp_ok => rw [R1, V1, P2 i (by omega)]; exact ok
          case rp_go => rw [R1, V1, P1, P2 i (by omega)]; exact hgo.symm
        · have q := h.r j h0 (by omega)
          have ql := q.l
          refine rp.mk' ?rp_f ?rp_v ?rp_f2 ?rp_v2 ?rp_l ?rp_j ?rp_ok ?rp_go
          case rp_f => rw [A34, B55, pk_un e, pk_un e]; exact q.f
          case rp_v => rw [A35, B56, pk_un e, pk_un e]; exact q.v
          case rp_f2 => rw [R2 j e, B55, pk_un e]; exact q.f2
          case rp_v2 => rw [V2 j e, B56, pk_un e]; exact q.v2
          case rp_l => rw [R2 j e]; exact q.l
          case rp_j => rw [V2 j e]; exact q.j
          case rp_ok => rw [R2 j e, V2 j e, P2 _ (by omega)]; exact q.ok
          case rp_go => rw [R2 j e, V2 j e, P2 j e, P2 _ (by omega)]; exact q.go
      case rr_r0 => rw [B55, pk_un (by omega)]; exact h.r0
      case rr_so =>
        intro j1 j2 h12 hj
        by_cases e : j2 = n
        · subst e
          rw [P1]
          by_cases e1 : j1 = j2
          · subst e1; rw [P1]; exact Nat.le_refl _
          · rw [P2 j1 e1]
            have := hf j1 (by omega)
            omega
        · rw [P2 j2 e, P2 j1 (by omega)]
          exact h.so j1 j2 h12 (by omega)
    · intro c hc
      exact re_am_off (by omega) (by omega)
  · intro j hj
    rw [B54, B55, B56, pk_un (by omega), pk_un (by omega), pk_un (by omega)]
    exact ⟨rfl, rfl, rfl⟩
theorem pre_t {n' : Nat} {B2 : mx_M} (h : pre n B B') (hn : n ≤ n') (h2 : pre n' B' B2) : pre n B B2 := by
  intro i hi
  obtain ⟨a1, a2, a3⟩ := h i hi
  obtain ⟨c1, c2, c3⟩ := h2 i (by omega)
  exact ⟨c1.trans a1, c2.trans a2, c3.trans a3⟩
theorem pre_P (h : pre n B B') {i : Nat} (hi : i < n) : bP B' i = bP B i := by
  unfold bP
  rw [(h i hi).1]
theorem pre_r : pre n B B := fun _ _ => ⟨rfl, rfl, rfl⟩
theorem cls_up {n' i k : Nat} (h : cls B n fr ov tt i k) (hp : pre n B B') (hn : n ≤ n') (hi : i < n) : cls B' n' fr ov tt i k := by
  intro ok
  rw [pre_P hp hi] at ok ⊢
  obtain ⟨b, b1, b2⟩ := h ok
  exact ⟨b, by omega, by rw [pre_P hp b1]; exact b2⟩
/-- a try: what stays, what holds behind it -/
theorem rr_k {i k : Nat} (v : iv A B D N J S fr ov tt im sa ga) (h : rr A B N J L fr ov tt n) (h6 : A 27 6 = 0) (hi : i < n) (hk : k < J) (hf : ∀ j, j < n → pc (bP B i) ≤ pc (bP B j) + 1) :
    ((mo_k L i k B).1 = false ∧ (mo_k L i k B).2 = B ∧ re_k L i k A = mx_up A 27 6 1) ∨
    ((mo_k L i k B).1 = true ∧ re_k L i k A 27 6 = 0 ∧ ∃ n', n ≤ n' ∧ rr (re_k L i k A) (mo_k L i k B).2 N J L fr ov tt n' ∧ pre n B (mo_k L i k B).2 ∧ iv (re_k L i k A) (mo_k L i k B).2 D N J S fr ov tt im sa ga ∧ cls (mo_k L i k B).2 n' fr ov tt i k ∧ ∀ j, j < n' → pc (bP (mo_k L i k B).2 i) ≤ pc (bP (mo_k L i k B).2 j) + 1) := by
  have hok := mo_k_ok (M := B) (L := L) (s := i) (k := k) ⟨h.L5, n, h.nL, h.n2, h.hB⟩
  have v' : iv (re_k L i k A) (mo_k L i k B).2 D N J S fr ov tt im sa ga := iv_cong v (fun c hc => re_k_off (by omega)) (fun c h1 hc => hok.2.2.2.1 c (by omega)) (fun c hc => hok.2.2.2.2 c (by omega))
  rcases rk_cases v h hi hk with ⟨ok, e1, e2⟩ | ⟨ok, b, bn, eb, e1, e2⟩ | ⟨ok, e1, e2⟩ | ⟨ok, hno, hn, e1, e2⟩
  · right
    rw [e1, e2] at v' ⊢
    refine ⟨rfl, h6, n, Nat.le_refl n, h, pre_r, v', fun y => ?_, hf⟩
    rw [ok] at y; cases y
  · right
    rw [e1, e2] at v' ⊢
    refine ⟨rfl, by rw [re_am_off (by decide) (by decide)]; exact h6, n, Nat.le_refl n, rr_cong h (fun c hc => re_am_off (by omega) (by omega)), pre_r, v', fun _ => ⟨b, bn, ?_⟩, hf⟩
    have b2 := (h.p b bn).2.1
    have l1 := (h.p b bn).2.2
    have n20 := v.n20
    obtain ⟨c1, c2, c3, _⟩ := v.jb k hk
    have l2 := jm_lt (h.p i hi).2.2 c1 c2 c3
    have hp : 2 ^ N ≤ 2 ^ 20 := Nat.pow_le_pow_right (by decide) n20
    rw [eb] at b2
    exact ((nI_eq (by omega) (by omega)).mp b2).symm
  · left
    rw [e1, e2]
    exact ⟨rfl, rfl, rfl⟩
  · right
    obtain ⟨r1, r2, r3⟩ := rr_new (x := nI (fr k)) (y := nI (tt k)) v h hi hk hn ok hno hf
    rw [e1, e2] at v' ⊢
    refine ⟨rfl, ?_, n + 1, by omega, r1, r2, v', fun _ => ⟨n, by omega, ?_⟩, ?_⟩
    · rw [re_am_off (by decide) (by decide), re_en_off (by decide) (by decide) (by decide), fo0_in_off (by decide) (by decide) (by decide)]
      exact h6
    · show bP (mo_en B n _ _ _ _) n = _
      rw [r3, pre_P r2 hi]
    · intro j hj
      show pc (bP (mo_en B n _ _ _ _) i) ≤ pc (bP (mo_en B n _ _ _ _) j) + 1
      rw [pre_P r2 hi]
      by_cases e : j = n
      · subst e
        rw [r3]
        have n20 := v.n20
        obtain ⟨b1, b2, b3, b4, b5, b6⟩ := v.jb k hk
        have a20 : bP B i < 2 ^ 20 := Nat.lt_of_lt_of_le (h.p i hi).2.2 (Nat.pow_le_pow_right (by decide) n20)
        have := pc_go a20 (by omega) (by omega) (by omega) b4 b5 b6 ok
        omega
      · rw [pre_P r2 (by omega : j < n)]
        exact hf j (by omega)
theorem rr_row {i : Nat} : ∀ (m k : Nat) (A B : mx_M) (n : Nat), iv A B D N J S fr ov tt im sa ga → rr A B N J L fr ov tt n → A 27 6 = 0 → i < n → k + m ≤ J → (∀ j, j < n → pc (bP B i) ≤ pc (bP B j) + 1) →
    ∃ n', n ≤ n' ∧ rr (re_row L i m k A) (mo_row L i m k B).2 N J L fr ov tt n' ∧ pre n B (mo_row L i m k B).2 ∧ iv (re_row L i m k A) (mo_row L i m k B).2 D N J S fr ov tt im sa ga ∧
      (((mo_row L i m k B).1 = true ∧ re_row L i m k A 27 6 = 0 ∧ (∀ k', k ≤ k' → k' < k + m → cls (mo_row L i m k B).2 n' fr ov tt i k') ∧ ∀ j, j < n' → pc (bP (mo_row L i m k B).2 i) ≤ pc (bP (mo_row L i m k B).2 j) + 1) ∨ ((mo_row L i m k B).1 = false ∧ re_row L i m k A 27 6 = 1))
  | 0, k, A, B, n, v, h, h6, hi, hk, hf => ⟨n, Nat.le_refl n, h, pre_r, v, Or.inl ⟨rfl, h6, fun k' h1 h2 => by omega, hf⟩⟩
  | m + 1, k, A, B, n, v, h, h6, hi, hk, hf => by
    rw [re_row, mo_row, if_pos h6]
    rcases rr_k v h h6 hi (by omega : k < J) hf with ⟨e1, e2, e3⟩ | ⟨e1, e2, n', hn, r1, r2, r3, r4, r5⟩
    · rw [e3, if_neg (by rw [e1]; decide)]
      have z : re_row L i m (k + 1) (mx_up A 27 6 1) = mx_up A 27 6 1 := by
        cases m with
        | zero => rfl
        | succ m => rw [re_row, if_neg (by simp [mx_up])]
      rw [z]
      refine ⟨n, Nat.le_refl n, rr_cong h (fun c hc => mx_up_off (by omega)), pre_r, ?_, Or.inr ⟨rfl, by simp [mx_up]⟩⟩
      exact iv_cong v (fun c hc => mx_up_off (by omega)) (fun _ _ _ => rfl) (fun _ _ => rfl)
    · rw [if_pos e1]
      obtain ⟨n2, q1, q2, q3, q4, q5⟩ := rr_row m (k + 1) _ _ n' r3 r1 e2 (by omega) (by omega) r5
      refine ⟨n2, by omega, q2, pre_t r2 hn q3, q4, ?_⟩
      rcases q5 with ⟨w1, w2, w3, w4⟩ | w
      · refine Or.inl ⟨w1, w2, fun k' h1 h2 => ?_, w4⟩
        by_cases e : k' = k
        · subst e
          exact cls_up r4 q3 q1 (by omega)
        · exact w3 k' (by omega) (by omega)
      · exact Or.inr w
theorem rr_all : ∀ (m i : Nat) (A B : mx_M) (n : Nat), iv A B D N J S fr ov tt im sa ga → rr A B N J L fr ov tt n → A 27 6 = 0 → L ≤ i + m → (∀ s k, s < i → s < n → k < J → cls B n fr ov tt s k) → (i < n → ∀ j, j < n → pc (bP B i) ≤ pc (bP B j) + 1) →
    ∃ n', n ≤ n' ∧ rr (re_all L J m i A) (mo_ra L J m i B).2 N J L fr ov tt n' ∧ pre n B (mo_ra L J m i B).2 ∧ iv (re_all L J m i A) (mo_ra L J m i B).2 D N J S fr ov tt im sa ga ∧
      (((mo_ra L J m i B).1 = true ∧ re_all L J m i A 27 6 = 0 ∧ (∀ s k, s < n' → k < J → cls (mo_ra L J m i B).2 n' fr ov tt s k)) ∨ ((mo_ra L J m i B).1 = false ∧ re_all L J m i A 27 6 = 1))
  | 0, i, A, B, n, v, h, h6, hm, hc, hf => by
    have := h.nL
    exact ⟨n, Nat.le_refl n, h, pre_r, v, Or.inl ⟨rfl, h6, fun s k hs hk => hc s k (by omega) hs hk⟩⟩
  | m + 1, i, A, B, n, v, h, h6, hm, hc, hf => by
    have nL := h.nL
    have L5 := h.L5
    rw [re_all, mo_ra, h.n, h.n2, nI_clamp (by omega)]
    by_cases c : i < n
    · rw [if_pos c, if_pos c, if_pos h6]
      obtain ⟨n', hn, r1, r2, r3, r4⟩ := rr_row (i := i) J 0 A B n v h h6 c (by omega) (hf c)
      rcases r4 with ⟨e1, e2, e3, e4⟩ | ⟨e1, e2⟩
      · rw [if_pos e1]
        obtain ⟨n2, q1, q2, q3, q4, q5⟩ := rr_all m (i + 1) _ _ n' r3 r1 e2 (by omega) (by
          intro s k hs hs2 hk
          by_cases e : s = i
          · subst e
            exact e3 k (by omega) (by omega)
          · exact cls_up (hc s k (by omega) (by omega) hk) r2 hn (by omega)) (by
          intro hi1 j hj
          have := e4 j hj
          have := r1.so i (i + 1) (by omega) hi1
          omega)
        exact ⟨n2, by omega, q2, pre_t r2 hn q3, q4, q5⟩
      · rw [if_neg (by rw [e1]; decide)]
        have z : re_all L J m (i + 1) (re_row L i J 0 A) = re_row L i J 0 A := by
          cases m with
          | zero => rfl
          | succ m =>
            rw [re_all]
            split
            · rw [if_neg (by rw [e2]; decide)]
            · rfl
        rw [z]
        exact ⟨n', hn, r1, r2, r3, Or.inr ⟨rfl, e2⟩⟩
    · rw [if_neg c, if_neg c]
      exact ⟨n, Nat.le_refl n, h, pre_r, v, Or.inl ⟨rfl, h6, fun s k hs hk => hc s k (by omega) hs hk⟩⟩
/-- the state that both begin with -/
theorem rr_s0 (v : iv A B D N J S fr ov tt im sa ga) (h1 : 1 ≤ L) (h5 : L ≤ 500) : rr (re_s0 A (A 0 5)) (mo_s0 B) N J L fr ov tt 1 ∧ iv (re_s0 A (A 0 5)) (mo_s0 B) D N J S fr ov tt im sa ga ∧ re_s0 A (A 0 5) 27 6 = 0 ∧ bP (mo_s0 B) 0 = sa := by
  have n20 := v.n20
  have ab := v.ab
  have hp : 2 ^ N ≤ 2 ^ 20 := Nat.pow_le_pow_right (by decide) n20
  obtain ⟨a1, a2, a3, a4, a5, a6⟩ := re_s0_ok (M := A) (p := A 0 5) h1 h5
  obtain ⟨b1, b2, b3⟩ := mo_s0_ok (M := B) h1 h5
  have P0 : bP (mo_s0 B) 0 = sa := by unfold bP; rw [b3, v.a2, nI_clamp (by omega)]
  refine ⟨?_, ?_, a4, P0⟩
  · refine rr.mk' ?rr_n ?rr_n2 ?rr_nL ?rr_L5 ?rr_n1 ?rr_hA ?rr_hB ?rr_p ?rr_r ?rr_r0 ?rr_so
    case rr_n => exact a2
    case rr_n2 => exact b2
    case rr_nL => exact h1
    case rr_L5 => exact h5
    case rr_n1 => omega
    case rr_hA =>
      obtain ⟨_, _, n, h1, h2, h3⟩ := a1
      have : n = 1 := by rw [a2] at h2; exact ((nI_eq (by omega) (by omega)).mp h2).symm
      subst this; exact h3
    case rr_hB =>
      obtain ⟨_, n, h1, h2, h3⟩ := b1
      have : n = 1 := by rw [b2] at h2; exact ((nI_eq (by omega) (by omega)).mp h2).symm
      subst this; exact h3
    case rr_p =>
      intro i hi
      have : i = 0 := by omega
      subst this
      rw [P0, a3, b3, v.a, v.a2]
      exact ⟨rfl, rfl, ab⟩
    case rr_r => intro i h0 hi; omega
    case rr_r0 =>
      rw [mo_s0, en_55.1, pk_us]
    case rr_so =>
      intro i j hij hj
      have : i = j := by omega
      subst this
      exact Nat.le_refl _
  · exact iv_cong v (fun c hc => re_s0_off (by omega)) (fun c h1 hc => mo_s0_off (by omega)) (fun c hc => mo_s0_41 (by omega))
theorem rr_go (v : iv A B D N J S fr ov tt im sa ga) (h1 : 1 ≤ L) (h5 : L ≤ 500) :
    ∃ n, rr (pe_go A L J) (mo_go B L J).2 N J L fr ov tt n ∧ bP (mo_go B L J).2 0 = sa ∧ iv (pe_go A L J) (mo_go B L J).2 D N J S fr ov tt im sa ga ∧
      (((mo_go B L J).1 = true ∧ pe_go A L J 27 6 = 0 ∧ (∀ s k, s < n → k < J → cls (mo_go B L J).2 n fr ov tt s k)) ∨ ((mo_go B L J).1 = false ∧ pe_go A L J 27 6 = 1)) := by
  obtain ⟨r, v', h6, P0⟩ := rr_s0 v h1 h5
  unfold pe_go mo_go
  obtain ⟨n', q1, q2, q3, q4, q5⟩ := rr_all L 0 _ _ 1 v' r h6 (by omega) (fun s k hs => by omega) (fun _ j hj => by have : j = 0 := by omega
                                                                                                                    subst this; omega)
  exact ⟨n', q2, by rw [pre_P q3 (by omega)]; exact P0, q4, q5⟩
end RD
