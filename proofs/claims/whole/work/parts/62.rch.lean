/-! Reaching: one jump tried, the class in A, the model in B. -/
section RC
abbrev bP (B : mx_M) (i : Nat) : Nat := (B 54 i).toNatClampNeg
abbrev bR (B : mx_M) (i : Nat) : Nat := (B 55 i).toNatClampNeg
abbrev bV (B : mx_M) (i : Nat) : Nat := (B 56 i).toNatClampNeg
/-- how many pegs -/
def pc (a : Nat) : Nat := pp_n 24 a
/-- the row of parents at place i -/
def rp (A B : mx_M) (J : Nat) (fr ov tt : Nat → Nat) (i : Nat) : Prop := (A 34 i = B 55 i) ∧ (A 35 i = B 56 i) ∧ (B 55 i = nI (bR B i)) ∧ (B 56 i = nI (bV B i)) ∧ (bR B i < i) ∧ (bV B i < J) ∧ (jm_ok (bP B (bR B i)) (fr (bV B i)) (ov (bV B i)) (tt (bV B i)) = true) ∧ (bP B i = jm_go (bP B (bR B i)) (fr (bV B i)) (ov (bV B i)) (tt (bV B i)))
theorem rp.f {A B : mx_M} {J : Nat} {fr ov tt : Nat → Nat} {i : Nat} (h : rp A B J fr ov tt i) : A 34 i = B 55 i := h.1
theorem rp.v {A B : mx_M} {J : Nat} {fr ov tt : Nat → Nat} {i : Nat} (h : rp A B J fr ov tt i) : A 35 i = B 56 i := h.2.1
theorem rp.f2 {A B : mx_M} {J : Nat} {fr ov tt : Nat → Nat} {i : Nat} (h : rp A B J fr ov tt i) : B 55 i = nI (bR B i) := h.2.2.1
theorem rp.v2 {A B : mx_M} {J : Nat} {fr ov tt : Nat → Nat} {i : Nat} (h : rp A B J fr ov tt i) : B 56 i = nI (bV B i) := h.2.2.2.1
theorem rp.l {A B : mx_M} {J : Nat} {fr ov tt : Nat → Nat} {i : Nat} (h : rp A B J fr ov tt i) : bR B i < i := h.2.2.2.2.1
theorem rp.j {A B : mx_M} {J : Nat} {fr ov tt : Nat → Nat} {i : Nat} (h : rp A B J fr ov tt i) : bV B i < J := h.2.2.2.2.2.1
theorem rp.ok {A B : mx_M} {J : Nat} {fr ov tt : Nat → Nat} {i : Nat} (h : rp A B J fr ov tt i) : jm_ok (bP B (bR B i)) (fr (bV B i)) (ov (bV B i)) (tt (bV B i)) = true := h.2.2.2.2.2.2.1
theorem rp.go {A B : mx_M} {J : Nat} {fr ov tt : Nat → Nat} {i : Nat} (h : rp A B J fr ov tt i) : bP B i = jm_go (bP B (bR B i)) (fr (bV B i)) (ov (bV B i)) (tt (bV B i)) := h.2.2.2.2.2.2.2
theorem rp.mk' {A B : mx_M} {J : Nat} {fr ov tt : Nat → Nat} {i : Nat} (f_ : A 34 i = B 55 i) (v_ : A 35 i = B 56 i) (f2_ : B 55 i = nI (bR B i)) (v2_ : B 56 i = nI (bV B i)) (l_ : bR B i < i) (j_ : bV B i < J) (ok_ : jm_ok (bP B (bR B i)) (fr (bV B i)) (ov (bV B i)) (tt (bV B i)) = true) (go_ : bP B i = jm_go (bP B (bR B i)) (fr (bV B i)) (ov (bV B i)) (tt (bV B i))) : rp A B J fr ov tt i := ⟨f_, v_, f2_, v2_, l_, j_, ok_, go_⟩
/-- n positions found, alike -/
def rr (A B : mx_M) (N J L : Nat) (fr ov tt : Nat → Nat) (m : Nat) : Prop := (A 28 2 = nI m) ∧ (B 41 20 = nI m) ∧ (m ≤ L) ∧ (L ≤ 500) ∧ (1 ≤ m) ∧ (hs_ok fo_h (A 30) (A 29) m) ∧ (hs_ok mo_h (B 57) (B 54) m) ∧ (∀ i, i < m → A 29 i = B 54 i ∧ B 54 i = nI (bP B i) ∧ bP B i < 2 ^ N) ∧ (∀ i, 0 < i → i < m → rp A B J fr ov tt i) ∧ (B 55 0 = -1) ∧ (∀ i j, i ≤ j → j < m → pc (bP B j) ≤ pc (bP B i))
theorem rr.n {A B : mx_M} {N J L : Nat} {fr ov tt : Nat → Nat} {m : Nat} (h : rr A B N J L fr ov tt m) : A 28 2 = nI m := h.1
theorem rr.n2 {A B : mx_M} {N J L : Nat} {fr ov tt : Nat → Nat} {m : Nat} (h : rr A B N J L fr ov tt m) : B 41 20 = nI m := h.2.1
theorem rr.nL {A B : mx_M} {N J L : Nat} {fr ov tt : Nat → Nat} {m : Nat} (h : rr A B N J L fr ov tt m) : m ≤ L := h.2.2.1
theorem rr.L5 {A B : mx_M} {N J L : Nat} {fr ov tt : Nat → Nat} {m : Nat} (h : rr A B N J L fr ov tt m) : L ≤ 500 := h.2.2.2.1
theorem rr.n1 {A B : mx_M} {N J L : Nat} {fr ov tt : Nat → Nat} {m : Nat} (h : rr A B N J L fr ov tt m) : 1 ≤ m := h.2.2.2.2.1
theorem rr.hA {A B : mx_M} {N J L : Nat} {fr ov tt : Nat → Nat} {m : Nat} (h : rr A B N J L fr ov tt m) : hs_ok fo_h (A 30) (A 29) m := h.2.2.2.2.2.1
theorem rr.hB {A B : mx_M} {N J L : Nat} {fr ov tt : Nat → Nat} {m : Nat} (h : rr A B N J L fr ov tt m) : hs_ok mo_h (B 57) (B 54) m := h.2.2.2.2.2.2.1
theorem rr.p {A B : mx_M} {N J L : Nat} {fr ov tt : Nat → Nat} {m : Nat} (h : rr A B N J L fr ov tt m) : ∀ i, i < m → A 29 i = B 54 i ∧ B 54 i = nI (bP B i) ∧ bP B i < 2 ^ N := h.2.2.2.2.2.2.2.1
theorem rr.r {A B : mx_M} {N J L : Nat} {fr ov tt : Nat → Nat} {m : Nat} (h : rr A B N J L fr ov tt m) : ∀ i, 0 < i → i < m → rp A B J fr ov tt i := h.2.2.2.2.2.2.2.2.1
theorem rr.r0 {A B : mx_M} {N J L : Nat} {fr ov tt : Nat → Nat} {m : Nat} (h : rr A B N J L fr ov tt m) : B 55 0 = -1 := h.2.2.2.2.2.2.2.2.2.1
theorem rr.so {A B : mx_M} {N J L : Nat} {fr ov tt : Nat → Nat} {m : Nat} (h : rr A B N J L fr ov tt m) : ∀ i j, i ≤ j → j < m → pc (bP B j) ≤ pc (bP B i) := h.2.2.2.2.2.2.2.2.2.2
theorem rr.mk' {A B : mx_M} {N J L : Nat} {fr ov tt : Nat → Nat} {m : Nat} (n_ : A 28 2 = nI m) (n2_ : B 41 20 = nI m) (nL_ : m ≤ L) (L5_ : L ≤ 500) (n1_ : 1 ≤ m) (hA_ : hs_ok fo_h (A 30) (A 29) m) (hB_ : hs_ok mo_h (B 57) (B 54) m) (p_ : ∀ i, i < m → A 29 i = B 54 i ∧ B 54 i = nI (bP B i) ∧ bP B i < 2 ^ N) (r_ : ∀ i, 0 < i → i < m → rp A B J fr ov tt i) (r0_ : B 55 0 = -1) (so_ : ∀ i j, i ≤ j → j < m → pc (bP B j) ≤ pc (bP B i)) : rr A B N J L fr ov tt m := ⟨n_, n2_, nL_, L5_, n1_, hA_, hB_, p_, r_, r0_, so_⟩
variable {A B A' B' Z : mx_M} {D : Nat → Bool} {N J S sa ga L n : Nat} {fr ov tt : Nat → Nat} {im : Nat → Nat → Nat}
/-- places below n stay -/
def pre (n : Nat) (B Z : mx_M) : Prop := ∀ i, i < n → Z 54 i = B 54 i ∧ Z 55 i = B 55 i ∧ Z 56 i = B 56 i
/-- a jump from i leads to a position that was found -/
def cls (B : mx_M) (n : Nat) (fr ov tt : Nat → Nat) (i k : Nat) : Prop := jm_ok (bP B i) (fr k) (ov k) (tt k) = true → ∃ b, b < n ∧ bP B b = jm_go (bP B i) (fr k) (ov k) (tt k)
theorem rr_cong (h : rr A B N J L fr ov tt n) (hA : ∀ c, c = 28 ∨ c = 29 ∨ c = 30 ∨ c = 34 ∨ c = 35 → A' c = A c) : rr A' B N J L fr ov tt n := by
  refine rr.mk' ?rr_n ?rr_n2 ?rr_nL ?rr_L5 ?rr_n1 ?rr_hA ?rr_hB ?rr_p ?rr_r ?rr_r0 ?rr_so
  case rr_n => rw [hA 28 (by omega)]; exact h.n
  case rr_n2 => exact h.n2
  case rr_nL => exact h.nL
  case rr_L5 => exact h.L5
  case rr_n1 => exact h.n1
  case rr_hA => rw [hA 29 (by omega), hA 30 (by omega)]; exact h.hA
  case rr_hB => exact h.hB
  case rr_p => rw [hA 29 (by omega)]; exact h.p
  case rr_r =>
    intro i h0 hi
    have q := h.r i h0 hi
    exact rp.mk' (by rw [hA 34 (by omega)]; exact q.f) (by rw [hA 35 (by omega)]; exact q.v) q.f2 q.v2 q.l q.j q.ok q.go
  case rr_r0 => exact h.r0
  case rr_so => exact h.so
theorem xm2 (a b : Nat) : (a ^^^ b) % 2 = (a + b) % 2 := by
  have := Nat.xor_mod_two_pow (a := a) (b := b) (n := 1)
  simp only [Nat.pow_one] at this
  rw [this]
  rcases Nat.mod_two_eq_zero_or_one a with z | z <;> rcases Nat.mod_two_eq_zero_or_one b with y | y <;> rw [z, y] <;> simp <;> omega
theorem pp_x : ∀ (k a i : Nat), i < k → pp_n k (a ^^^ 2 ^ i) + (if a.testBit i = true then 1 else 0) = pp_n k a + (if a.testBit i = true then 0 else 1)
  | 0, _, _, h => absurd h (by omega)
  | k + 1, a, 0, _ => by
    rw [pp_n, pp_n, Nat.xor_div_two, xm2, Nat.testBit_zero]
    have e : a / 2 ^^^ 2 ^ 0 / 2 = a / 2 := by
      rw [show 2 ^ 0 / 2 = 0 from rfl, Nat.xor_zero]
    rw [e, show 2 ^ 0 = 1 from rfl]
    rcases Nat.mod_two_eq_zero_or_one a with z | z
    · simp [z]; omega
    · simp [z]; omega
  | k + 1, a, i + 1, h => by
    have ih := pp_x k (a / 2) i (by omega)
    have e : 2 ^ (i + 1) / 2 = 2 ^ i := by rw [Nat.pow_succ, Nat.mul_div_cancel _ (by decide)]
    have m : 2 ^ (i + 1) % 2 = 0 := by rw [Nat.pow_succ]; omega
    rw [pp_n, pp_n, Nat.xor_div_two, xm2, Nat.testBit_succ, e]
    omega
theorem pc_bit {a i : Nat} (hi : i < 24) (hb : a.testBit i = true) : pc (a ^^^ 2 ^ i) + 1 = pc a := by
  have := pp_x 24 a i hi
  rw [if_pos hb, if_pos hb] at this
  unfold pc
  omega
theorem pc_set {a i : Nat} (hi : i < 24) (hb : a.testBit i = false) : pc (a ^^^ 2 ^ i) = pc a + 1 := by
  have := pp_x 24 a i hi
  rw [if_neg (by rw [hb]; decide), if_neg (by rw [hb]; decide)] at this
  unfold pc
  omega
theorem pc_go {a f o t : Nat} (ha : a < 2 ^ 20) (hf : f < 20) (ho : o < 20) (ht : t < 20) (h1 : f ≠ o) (h2 : f ≠ t) (h3 : o ≠ t) (h : jm_ok a f o t = true) : pc (jm_go a f o t) + 1 = pc a := by
  unfold jm_ok at h
  simp at h
  obtain ⟨⟨q1, q2⟩, q3⟩ := h
  have p : ∀ i, i < 20 → 2 ^ i < 2 ^ 20 := fun i hi => Nat.pow_lt_pow_right (by decide) hi
  have a1 : a ^^^ 2 ^ f < 2 ^ 20 := Nat.xor_lt_two_pow ha (p f hf)
  have a2 : (a ^^^ 2 ^ f) ^^^ 2 ^ o < 2 ^ 20 := Nat.xor_lt_two_pow a1 (p o ho)
  have e1 := pc_bit (a := a) (i := f) (by omega) q1
  have e2 := pc_bit (a := a ^^^ 2 ^ f) (i := o) (by omega) (by rw [Nat.testBit_xor, q2, Nat.testBit_two_pow]; simp [h1])
  have e3 := pc_set (a := (a ^^^ 2 ^ f) ^^^ 2 ^ o) (i := t) (by omega) (by rw [Nat.testBit_xor, Nat.testBit_xor, q3, Nat.testBit_two_pow, Nat.testBit_two_pow]; simp [h2, h3])
  unfold jm_go
  omega
/-- what the tries do -/
theorem rk_cases {i k : Nat} (v : iv A B D N J S fr ov tt im sa ga) (h : rr A B N J L fr ov tt n) (hi : i < n) (hk : k < J) :
    (jm_ok (bP B i) (fr k) (ov k) (tt k) = false ∧ re_k L i k A = A ∧ mo_k L i k B = (true, B)) ∨
    (jm_ok (bP B i) (fr k) (ov k) (tt k) = true ∧ ∃ b, b < n ∧ B 54 b = nI (jm_go (bP B i) (fr k) (ov k) (tt k)) ∧ re_k L i k A = re_am A i b (nI (fr k)) (nI (tt k)) ∧ mo_k L i k B = (true, B)) ∨
    (jm_ok (bP B i) (fr k) (ov k) (tt k) = true ∧ re_k L i k A = mx_up A 27 6 1 ∧ mo_k L i k B = (false, B)) ∨
    (jm_ok (bP B i) (fr k) (ov k) (tt k) = true ∧ (∀ b, b < n → ¬ B 54 b = nI (jm_go (bP B i) (fr k) (ov k) (tt k))) ∧ n < L ∧
      re_k L i k A = re_am (re_en (fo0_in A n (hs_f (A 30) (A 29) (nI (jm_go (bP B i) (fr k) (ov k) (tt k))) 1024 (fo_h (nI (jm_go (bP B i) (fr k) (ov k) (tt k))))) (nI (jm_go (bP B i) (fr k) (ov k) (tt k)))) n i k) i n (nI (fr k)) (nI (tt k)) ∧
      mo_k L i k B = (true, mo_en B n (mo_s B (nI (jm_go (bP B i) (fr k) (ov k) (tt k)))) (nI (jm_go (bP B i) (fr k) (ov k) (tt k))) (nI i) (nI k))) := by
  have n20 := v.n20
  obtain ⟨p1, p2, p3⟩ := h.p i hi
  have nL := h.nL
  have L5 := h.L5
  obtain ⟨e1, e2, e3, e4, e5⟩ := v.jk k hk
  obtain ⟨g1, g2, g3⟩ := v.jk2 k hk
  obtain ⟨b1, b2, b3, b4, b5, b6⟩ := v.jb k hk
  have a20 : bP B i < 2 ^ 20 := Nat.lt_of_lt_of_le p3 (Nat.pow_le_pow_right (by decide) n20)
  have cl : (A 28 2).toNatClampNeg = n := by rw [h.n, nI_clamp (by omega)]
  have cl2 : (B 41 20).toNatClampNeg = n := by rw [h.n2, nI_clamp (by omega)]
  have qa : pg_mk (A 29 i) (A 10 k) (A 9 k) = jm (bP B i) (fr k) (ov k) (tt k) := by
    rw [p1, p2, e4, e5]
    exact jm_pg a20 (by omega) (by omega) (by omega) b4 b5 b6
  have qb : mo_q B i k = jm (bP B i) (fr k) (ov k) (tt k) := by
    rw [mo_q, p2, g1, g2, g3]
    exact jm_mo a20 (by omega) (by omega) (by omega) b4 b5 b6
  have neg := jm_neg (a := bP B i) (f := fr k) (o := ov k) (t := tt k) a20 (by omega) (by omega) (by omega)
  unfold re_k mo_k re_no
  rw [qa, qb, cl, cl2, e1, e3]
  cases ok : jm_ok (bP B i) (fr k) (ov k) (tt k)
  · left
    rw [if_pos (neg.1.mpr ok), if_pos (neg.2.mpr ok)]
    exact ⟨rfl, rfl, rfl⟩
  · right
    have x1 : ¬ jm (bP B i) (fr k) (ov k) (tt k) = -1 := fun y => by have := neg.1.mp y; rw [ok] at this; cases this
    have x2 : ¬ jm (bP B i) (fr k) (ov k) (tt k) < 0 := fun y => by have := neg.2.mp y; rw [ok] at this; cases this
    rw [if_neg x1, if_neg x2]
    have ej : jm (bP B i) (fr k) (ov k) (tt k) = nI (jm_go (bP B i) (fr k) (ov k) (tt k)) := by rw [jm, if_pos ok]
    rw [ej]
    generalize jm_go (bP B i) (fr k) (ov k) (tt k) = go at *
    obtain ⟨kk, _, f1, f2, f3⟩ := hs_find h.hA (nI go)
    rw [f1]
    have inj := h.hB.2.2.2.2.2
    rcases mo_s_in h.hB (nI go) with ⟨s1, s2⟩ | ⟨b, bn, s1, s2⟩
    · have z : A 30 ((fo_h (nI go) + kk) % 1024) = 0 := by
        rcases f3 with ⟨z, _⟩ | ⟨c, c1, c2, _⟩
        · exact z
        · rw [(h.p c c1).1] at c2
          exact absurd c2 (s2 c c1)
      rw [if_pos z, if_pos s1]
      by_cases c : n = L
      · right; left
        rw [if_pos (by omega), if_pos c]
        exact ⟨rfl, rfl, rfl⟩
      · right; right
        rw [if_neg (by omega), if_neg c]
        exact ⟨rfl, s2, by omega, rfl, rfl⟩
    · left
      have z : A 30 ((fo_h (nI go) + kk) % 1024) = nI (b + 1) := by
        rcases f3 with ⟨_, z⟩ | ⟨c, c1, c2, c3⟩
        · exact absurd ((h.p b bn).1.trans s1) (z b bn)
        · rw [(h.p c c1).1] at c2
          have : c = b := inj c b c1 bn (c2.trans s1.symm)
          subst this
          exact c3
      rw [if_neg (by rw [z]; exact nI_ne0 (by omega) (by omega)), if_neg (by rw [s2]; exact nI_ne0 (by omega) (by omega)), z, nI_pred, nI_clamp (by omega)]
      exact ⟨rfl, b, bn, s1, rfl, rfl⟩
end RC
