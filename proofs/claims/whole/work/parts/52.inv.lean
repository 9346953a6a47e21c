/-! The class's cells in A, the model's in B: what holds between the calls. -/
section IV
def iv (A B : mx_M) (D : Nat → Bool) (N J S : Nat) (fr ov tt : Nat → Nat) (im : Nat → Nat → Nat) (sa ga : Nat) : Prop := (A 1 3 = 0 ∨ A 1 3 = 1) ∧ (B 41 1 = A 1 3) ∧ (A 1 4 = 0 ∨ A 1 4 = 1) ∧ (B 41 2 = A 1 4) ∧ (A 1 5 = nI N) ∧ (B 41 3 = nI N) ∧ (N = pg_n D 64) ∧ (N ≤ 20) ∧ (∀ p, p < 64 → (A 2 p = -1 ↔ D p = false)) ∧ (∀ p, p < 64 → (B 42 p = 0 ↔ D p = false)) ∧ (A 5 5 = nI J) ∧ (B 41 8 = nI J) ∧ (J ≤ 120) ∧ (∀ k, k < J → A 6 k = nI (fr k) ∧ A 7 k = nI (ov k) ∧ A 8 k = nI (tt k) ∧ A 9 k = nI (2 ^ fr k ||| 2 ^ ov k) ∧ A 10 k = nI ((2 ^ fr k ||| 2 ^ ov k) ||| 2 ^ tt k)) ∧ (∀ k, k < J → B 46 k = nI (fr k) ∧ B 47 k = nI (ov k) ∧ B 48 k = nI (tt k)) ∧ (∀ k, k < J → fr k < N ∧ ov k < N ∧ tt k < N ∧ fr k ≠ ov k ∧ fr k ≠ tt k ∧ ov k ≠ tt k) ∧ (A 11 4 = nI S) ∧ (B 41 12 = nI S) ∧ (S ≤ 12) ∧ (∀ k h, k < S → h < N → A (13 + k) h = nI (im k h) ∧ B 49 (20 * k + h) = nI (im k h) ∧ im k h < N) ∧ (∀ k h h', k < S → h < N → h' < N → im k h = im k h' → h = h') ∧ (A 1 4 = 0 → J = 0 ∧ S = 0 ∧ sa = 0 ∧ ga = 0) ∧ (¬ A 1 4 = 0 → A 11 3 = nI N ∧ 1 ≤ N) ∧ (¬ A 1 4 = 0 → ∀ p, p < 64 → D p = true → A 2 p = nI (pg_n D p) ∧ B 43 p = nI (pg_n D p)) ∧ (¬ A 1 4 = 0 → ∀ i, i < N → ∃ r c, r < 8 ∧ c < 8 ∧ A 3 i = nI r ∧ B 44 i = nI r ∧ A 4 i = nI c ∧ B 45 i = nI c) ∧ (A 0 5 = nI sa) ∧ (B 41 16 = nI sa) ∧ (sa < 2 ^ N) ∧ (A 0 6 = nI ga) ∧ (B 41 17 = nI ga) ∧ (ga < 2 ^ N) ∧ (∀ j, j < 20 → A 39 j = B 52 j)
theorem iv.t {A B : mx_M} {D : Nat → Bool} {N J S : Nat} {fr ov tt : Nat → Nat} {im : Nat → Nat → Nat} {sa ga : Nat} (h : iv A B D N J S fr ov tt im sa ga) : A 1 3 = 0 ∨ A 1 3 = 1 := h.1
theorem iv.t2 {A B : mx_M} {D : Nat → Bool} {N J S : Nat} {fr ov tt : Nat → Nat} {im : Nat → Nat → Nat} {sa ga : Nat} (h : iv A B D N J S fr ov tt im sa ga) : B 41 1 = A 1 3 := h.2.1
theorem iv.f {A B : mx_M} {D : Nat → Bool} {N J S : Nat} {fr ov tt : Nat → Nat} {im : Nat → Nat → Nat} {sa ga : Nat} (h : iv A B D N J S fr ov tt im sa ga) : A 1 4 = 0 ∨ A 1 4 = 1 := h.2.2.1
theorem iv.f2 {A B : mx_M} {D : Nat → Bool} {N J S : Nat} {fr ov tt : Nat → Nat} {im : Nat → Nat → Nat} {sa ga : Nat} (h : iv A B D N J S fr ov tt im sa ga) : B 41 2 = A 1 4 := h.2.2.2.1
theorem iv.n {A B : mx_M} {D : Nat → Bool} {N J S : Nat} {fr ov tt : Nat → Nat} {im : Nat → Nat → Nat} {sa ga : Nat} (h : iv A B D N J S fr ov tt im sa ga) : A 1 5 = nI N := h.2.2.2.2.1
theorem iv.n2 {A B : mx_M} {D : Nat → Bool} {N J S : Nat} {fr ov tt : Nat → Nat} {im : Nat → Nat → Nat} {sa ga : Nat} (h : iv A B D N J S fr ov tt im sa ga) : B 41 3 = nI N := h.2.2.2.2.2.1
theorem iv.nD {A B : mx_M} {D : Nat → Bool} {N J S : Nat} {fr ov tt : Nat → Nat} {im : Nat → Nat → Nat} {sa ga : Nat} (h : iv A B D N J S fr ov tt im sa ga) : N = pg_n D 64 := h.2.2.2.2.2.2.1
theorem iv.n20 {A B : mx_M} {D : Nat → Bool} {N J S : Nat} {fr ov tt : Nat → Nat} {im : Nat → Nat → Nat} {sa ga : Nat} (h : iv A B D N J S fr ov tt im sa ga) : N ≤ 20 := h.2.2.2.2.2.2.2.1
theorem iv.d {A B : mx_M} {D : Nat → Bool} {N J S : Nat} {fr ov tt : Nat → Nat} {im : Nat → Nat → Nat} {sa ga : Nat} (h : iv A B D N J S fr ov tt im sa ga) : ∀ p, p < 64 → (A 2 p = -1 ↔ D p = false) := h.2.2.2.2.2.2.2.2.1
theorem iv.d2 {A B : mx_M} {D : Nat → Bool} {N J S : Nat} {fr ov tt : Nat → Nat} {im : Nat → Nat → Nat} {sa ga : Nat} (h : iv A B D N J S fr ov tt im sa ga) : ∀ p, p < 64 → (B 42 p = 0 ↔ D p = false) := h.2.2.2.2.2.2.2.2.2.1
theorem iv.j {A B : mx_M} {D : Nat → Bool} {N J S : Nat} {fr ov tt : Nat → Nat} {im : Nat → Nat → Nat} {sa ga : Nat} (h : iv A B D N J S fr ov tt im sa ga) : A 5 5 = nI J := h.2.2.2.2.2.2.2.2.2.2.1
theorem iv.j2 {A B : mx_M} {D : Nat → Bool} {N J S : Nat} {fr ov tt : Nat → Nat} {im : Nat → Nat → Nat} {sa ga : Nat} (h : iv A B D N J S fr ov tt im sa ga) : B 41 8 = nI J := h.2.2.2.2.2.2.2.2.2.2.2.1
theorem iv.j120 {A B : mx_M} {D : Nat → Bool} {N J S : Nat} {fr ov tt : Nat → Nat} {im : Nat → Nat → Nat} {sa ga : Nat} (h : iv A B D N J S fr ov tt im sa ga) : J ≤ 120 := h.2.2.2.2.2.2.2.2.2.2.2.2.1
theorem iv.jk {A B : mx_M} {D : Nat → Bool} {N J S : Nat} {fr ov tt : Nat → Nat} {im : Nat → Nat → Nat} {sa ga : Nat} (h : iv A B D N J S fr ov tt im sa ga) : ∀ k, k < J → A 6 k = nI (fr k) ∧ A 7 k = nI (ov k) ∧ A 8 k = nI (tt k) ∧ A 9 k = nI (2 ^ fr k ||| 2 ^ ov k) ∧ A 10 k = nI ((2 ^ fr k ||| 2 ^ ov k) ||| 2 ^ tt k) := h.2.2.2.2.2.2.2.2.2.2.2.2.2.1
theorem iv.jk2 {A B : mx_M} {D : Nat → Bool} {N J S : Nat} {fr ov tt : Nat → Nat} {im : Nat → Nat → Nat} {sa ga : Nat} (h : iv A B D N J S fr ov tt im sa ga) : ∀ k, k < J → B 46 k = nI (fr k) ∧ B 47 k = nI (ov k) ∧ B 48 k = nI (tt k) := h.2.2.2.2.2.2.2.2.2.2.2.2.2.2.1
theorem iv.jb {A B : mx_M} {D : Nat → Bool} {N J S : Nat} {fr ov tt : Nat → Nat} {im : Nat → Nat → Nat} {sa ga : Nat} (h : iv A B D N J S fr ov tt im sa ga) : ∀ k, k < J → fr k < N ∧ ov k < N ∧ tt k < N ∧ fr k ≠ ov k ∧ fr k ≠ tt k ∧ ov k ≠ tt k := h.2.2.2.2.2.2.2.2.2.2.2.2.2.2.2.1
theorem iv.s {A B : mx_M} {D : Nat → Bool} {N J S : Nat} {fr ov tt : Nat → Nat} {im : Nat → Nat → Nat} {sa ga : Nat} (h : iv A B D N J S fr ov tt im sa ga) : A 11 4 = nI S := h.2.2.2.2.2.2.2.2.2.2.2.2.2.2.2.2.1
theorem iv.s2 {A B : mx_M} {D : Nat → Bool} {N J S : Nat} {fr ov tt : Nat → Nat} {im : Nat → Nat → Nat} {sa ga : Nat} (h : iv A B D N J S fr ov tt im sa ga) : B 41 12 = nI S := h.2.2.2.2.2.2.2.2.2.2.2.2.2.2.2.2.2.1
theorem iv.s12 {A B : mx_M} {D : Nat → Bool} {N J S : Nat} {fr ov tt : Nat → Nat} {im : Nat → Nat → Nat} {sa ga : Nat} (h : iv A B D N J S fr ov tt im sa ga) : S ≤ 12 := h.2.2.2.2.2.2.2.2.2.2.2.2.2.2.2.2.2.2.1
theorem iv.sk {A B : mx_M} {D : Nat → Bool} {N J S : Nat} {fr ov tt : Nat → Nat} {im : Nat → Nat → Nat} {sa ga : Nat} (h : iv A B D N J S fr ov tt im sa ga) : ∀ k h, k < S → h < N → A (13 + k) h = nI (im k h) ∧ B 49 (20 * k + h) = nI (im k h) ∧ im k h < N := h.2.2.2.2.2.2.2.2.2.2.2.2.2.2.2.2.2.2.2.1
theorem iv.si {A B : mx_M} {D : Nat → Bool} {N J S : Nat} {fr ov tt : Nat → Nat} {im : Nat → Nat → Nat} {sa ga : Nat} (h : iv A B D N J S fr ov tt im sa ga) : ∀ k h h', k < S → h < N → h' < N → im k h = im k h' → h = h' := h.2.2.2.2.2.2.2.2.2.2.2.2.2.2.2.2.2.2.2.2.1
theorem iv.un {A B : mx_M} {D : Nat → Bool} {N J S : Nat} {fr ov tt : Nat → Nat} {im : Nat → Nat → Nat} {sa ga : Nat} (h : iv A B D N J S fr ov tt im sa ga) : A 1 4 = 0 → J = 0 ∧ S = 0 ∧ sa = 0 ∧ ga = 0 := h.2.2.2.2.2.2.2.2.2.2.2.2.2.2.2.2.2.2.2.2.2.1
theorem iv.fz {A B : mx_M} {D : Nat → Bool} {N J S : Nat} {fr ov tt : Nat → Nat} {im : Nat → Nat → Nat} {sa ga : Nat} (h : iv A B D N J S fr ov tt im sa ga) : ¬ A 1 4 = 0 → A 11 3 = nI N ∧ 1 ≤ N := h.2.2.2.2.2.2.2.2.2.2.2.2.2.2.2.2.2.2.2.2.2.2.1
theorem iv.nb {A B : mx_M} {D : Nat → Bool} {N J S : Nat} {fr ov tt : Nat → Nat} {im : Nat → Nat → Nat} {sa ga : Nat} (h : iv A B D N J S fr ov tt im sa ga) : ¬ A 1 4 = 0 → ∀ p, p < 64 → D p = true → A 2 p = nI (pg_n D p) ∧ B 43 p = nI (pg_n D p) := h.2.2.2.2.2.2.2.2.2.2.2.2.2.2.2.2.2.2.2.2.2.2.2.1
theorem iv.rc {A B : mx_M} {D : Nat → Bool} {N J S : Nat} {fr ov tt : Nat → Nat} {im : Nat → Nat → Nat} {sa ga : Nat} (h : iv A B D N J S fr ov tt im sa ga) : ¬ A 1 4 = 0 → ∀ i, i < N → ∃ r c, r < 8 ∧ c < 8 ∧ A 3 i = nI r ∧ B 44 i = nI r ∧ A 4 i = nI c ∧ B 45 i = nI c := h.2.2.2.2.2.2.2.2.2.2.2.2.2.2.2.2.2.2.2.2.2.2.2.2.1
theorem iv.a {A B : mx_M} {D : Nat → Bool} {N J S : Nat} {fr ov tt : Nat → Nat} {im : Nat → Nat → Nat} {sa ga : Nat} (h : iv A B D N J S fr ov tt im sa ga) : A 0 5 = nI sa := h.2.2.2.2.2.2.2.2.2.2.2.2.2.2.2.2.2.2.2.2.2.2.2.2.2.1
theorem iv.a2 {A B : mx_M} {D : Nat → Bool} {N J S : Nat} {fr ov tt : Nat → Nat} {im : Nat → Nat → Nat} {sa ga : Nat} (h : iv A B D N J S fr ov tt im sa ga) : B 41 16 = nI sa := h.2.2.2.2.2.2.2.2.2.2.2.2.2.2.2.2.2.2.2.2.2.2.2.2.2.2.1
theorem iv.ab {A B : mx_M} {D : Nat → Bool} {N J S : Nat} {fr ov tt : Nat → Nat} {im : Nat → Nat → Nat} {sa ga : Nat} (h : iv A B D N J S fr ov tt im sa ga) : sa < 2 ^ N := h.2.2.2.2.2.2.2.2.2.2.2.2.2.2.2.2.2.2.2.2.2.2.2.2.2.2.2.1
theorem iv.g {A B : mx_M} {D : Nat → Bool} {N J S : Nat} {fr ov tt : Nat → Nat} {im : Nat → Nat → Nat} {sa ga : Nat} (h : iv A B D N J S fr ov tt im sa ga) : A 0 6 = nI ga := h.2.2.2.2.2.2.2.2.2.2.2.2.2.2.2.2.2.2.2.2.2.2.2.2.2.2.2.2.1
theorem iv.g2 {A B : mx_M} {D : Nat → Bool} {N J S : Nat} {fr ov tt : Nat → Nat} {im : Nat → Nat → Nat} {sa ga : Nat} (h : iv A B D N J S fr ov tt im sa ga) : B 41 17 = nI ga := h.2.2.2.2.2.2.2.2.2.2.2.2.2.2.2.2.2.2.2.2.2.2.2.2.2.2.2.2.2.1
theorem iv.gb {A B : mx_M} {D : Nat → Bool} {N J S : Nat} {fr ov tt : Nat → Nat} {im : Nat → Nat → Nat} {sa ga : Nat} (h : iv A B D N J S fr ov tt im sa ga) : ga < 2 ^ N := h.2.2.2.2.2.2.2.2.2.2.2.2.2.2.2.2.2.2.2.2.2.2.2.2.2.2.2.2.2.2.1
theorem iv.w {A B : mx_M} {D : Nat → Bool} {N J S : Nat} {fr ov tt : Nat → Nat} {im : Nat → Nat → Nat} {sa ga : Nat} (h : iv A B D N J S fr ov tt im sa ga) : ∀ j, j < 20 → A 39 j = B 52 j := h.2.2.2.2.2.2.2.2.2.2.2.2.2.2.2.2.2.2.2.2.2.2.2.2.2.2.2.2.2.2.2
theorem iv.mk' {A B : mx_M} {D : Nat → Bool} {N J S : Nat} {fr ov tt : Nat → Nat} {im : Nat → Nat → Nat} {sa ga : Nat} (t_ : A 1 3 = 0 ∨ A 1 3 = 1) (t2_ : B 41 1 = A 1 3) (f_ : A 1 4 = 0 ∨ A 1 4 = 1) (f2_ : B 41 2 = A 1 4) (n_ : A 1 5 = nI N) (n2_ : B 41 3 = nI N) (nD_ : N = pg_n D 64) (n20_ : N ≤ 20) (d_ : ∀ p, p < 64 → (A 2 p = -1 ↔ D p = false)) (d2_ : ∀ p, p < 64 → (B 42 p = 0 ↔ D p = false)) (j_ : A 5 5 = nI J) (j2_ : B 41 8 = nI J) (j120_ : J ≤ 120) (jk_ : ∀ k, k < J → A 6 k = nI (fr k) ∧ A 7 k = nI (ov k) ∧ A 8 k = nI (tt k) ∧ A 9 k = nI (2 ^ fr k ||| 2 ^ ov k) ∧ A 10 k = nI ((2 ^ fr k ||| 2 ^ ov k) ||| 2 ^ tt k)) (jk2_ : ∀ k, k < J → B 46 k = nI (fr k) ∧ B 47 k = nI (ov k) ∧ B 48 k = nI (tt k)) (jb_ : ∀ k, k < J → fr k < N ∧ ov k < N ∧ tt k < N ∧ fr k ≠ ov k ∧ fr k ≠ tt k ∧ ov k ≠ tt k) (s_ : A 11 4 = nI S) (s2_ : B 41 12 = nI S) (s12_ : S ≤ 12) (sk_ : ∀ k h, k < S → h < N → A (13 + k) h = nI (im k h) ∧ B 49 (20 * k + h) = nI (im k h) ∧ im k h < N) (si_ : ∀ k h h', k < S → h < N → h' < N → im k h = im k h' → h = h') (un_ : A 1 4 = 0 → J = 0 ∧ S = 0 ∧ sa = 0 ∧ ga = 0) (fz_ : ¬ A 1 4 = 0 → A 11 3 = nI N ∧ 1 ≤ N) (nb_ : ¬ A 1 4 = 0 → ∀ p, p < 64 → D p = true → A 2 p = nI (pg_n D p) ∧ B 43 p = nI (pg_n D p)) (rc_ : ¬ A 1 4 = 0 → ∀ i, i < N → ∃ r c, r < 8 ∧ c < 8 ∧ A 3 i = nI r ∧ B 44 i = nI r ∧ A 4 i = nI c ∧ B 45 i = nI c) (a_ : A 0 5 = nI sa) (a2_ : B 41 16 = nI sa) (ab_ : sa < 2 ^ N) (g_ : A 0 6 = nI ga) (g2_ : B 41 17 = nI ga) (gb_ : ga < 2 ^ N) (w_ : ∀ j, j < 20 → A 39 j = B 52 j) : iv A B D N J S fr ov tt im sa ga := ⟨t_, t2_, f_, f2_, n_, n2_, nD_, n20_, d_, d2_, j_, j2_, j120_, jk_, jk2_, jb_, s_, s2_, s12_, sk_, si_, un_, fz_, nb_, rc_, a_, a2_, ab_, g_, g2_, gb_, w_⟩
variable {A B A' B' : mx_M} {D : Nat → Bool} {N J S sa ga : Nat} {fr ov tt : Nat → Nat} {im : Nat → Nat → Nat}
/-- only the class's cells of A count, and some numbers of the model's of B -/
theorem iv_cong (h : iv A B D N J S fr ov tt im sa ga) (hA : ∀ c, c < 27 ∨ c = 39 → A' c = A c) (hB : ∀ c, 41 < c → c < 50 ∨ c = 52 → B' c = B c)
    (hB1 : ∀ c, c = 1 ∨ c = 2 ∨ c = 3 ∨ c = 8 ∨ c = 12 ∨ c = 16 ∨ c = 17 → B' 41 c = B 41 c) : iv A' B' D N J S fr ov tt im sa ga := by
  have a0 := hA 0 (by omega)
  have a1 := hA 1 (by omega)
  have a2 := hA 2 (by omega)
  have a3 := hA 3 (by omega)
  have a4 := hA 4 (by omega)
  have a5 := hA 5 (by omega)
  have a6 := hA 6 (by omega)
  have a7 := hA 7 (by omega)
  have a8 := hA 8 (by omega)
  have a9 := hA 9 (by omega)
  have a10 := hA 10 (by omega)
  have a11 := hA 11 (by omega)
  have a39 := hA 39 (by omega)
  have b42 := hB 42 (by omega) (by omega)
  have b43 := hB 43 (by omega) (by omega)
  have b44 := hB 44 (by omega) (by omega)
  have b45 := hB 45 (by omega) (by omega)
  have b46 := hB 46 (by omega) (by omega)
  have b47 := hB 47 (by omega) (by omega)
  have b48 := hB 48 (by omega) (by omega)
  have b49 := hB 49 (by omega) (by omega)
  have b52 := hB 52 (by omega) (by omega)
  have m1 := hB1 1 (by omega)
  have m2 := hB1 2 (by omega)
  have m3 := hB1 3 (by omega)
  have m8 := hB1 8 (by omega)
  have m12 := hB1 12 (by omega)
  have m16 := hB1 16 (by omega)
  have m17 := hB1 17 (by omega)
  refine iv.mk' ?_ ?_ ?_ ?_ ?_ ?_ ?_ ?_ ?_ ?_ ?_ ?_ ?_ ?_ ?_ ?_ ?_ ?_ ?_ ?_ ?_ ?_ ?_ ?_ ?_ ?_ ?_ ?_ ?_ ?_ ?_ ?_
  · rw [a1]; exact h.t
  · rw [a1, m1]; exact h.t2
  · rw [a1]; exact h.f
  · rw [a1, m2]; exact h.f2
  · rw [a1]; exact h.n
  · rw [m3]; exact h.n2
  · exact h.nD
  · exact h.n20
  · rw [a2]; exact h.d
  · rw [b42]; exact h.d2
  · rw [a5]; exact h.j
  · rw [m8]; exact h.j2
  · exact h.j120
  · rw [a6, a7, a8, a9, a10]; exact h.jk
  · rw [b46, b47, b48]; exact h.jk2
  · exact h.jb
  · rw [a11]; exact h.s
  · rw [m12]; exact h.s2
  · exact h.s12
  · intro k q hk hq
    have := h.s12
    rw [hA (13 + k) (by omega), b49]
    exact h.sk k q hk hq
  · exact h.si
  · rw [a1]; exact h.un
  · rw [a1, a11]; exact h.fz
  · rw [a1, a2, b43]; exact h.nb
  · rw [a1, a3, a4, b44, b45]; exact h.rc
  · rw [a0]; exact h.a
  · rw [m16]; exact h.a2
  · exact h.ab
  · rw [a0]; exact h.g
  · rw [m17]; exact h.g2
  · exact h.gb
  · rw [a39, b52]; exact h.w
/-- how many holes count: none before freezing -/
def iv_H (A : mx_M) (N : Nat) : Nat := if A 1 4 = 0 then 0 else N
theorem iv_H20 (h : iv A B D N J S fr ov tt im sa ga) : iv_H A N ≤ 20 := by
  have := h.n20
  unfold iv_H; split <;> omega
theorem iv_peH (h : iv A B D N J S fr ov tt im sa ga) : pe_H A = nI (iv_H A N) := by
  unfold pe_H iv_H
  split
  · exact nI_0.symm
  · exact h.n
theorem i_mask {H : Nat} (hH : H ≤ 20) (p : Int32) : p &&& (nI (2 ^ H - 1) ^^^ (-1)) = 0 ↔ ∃ a, a < 2 ^ H ∧ p = nI a := by
  have h2 : 2 ^ H ≤ 2 ^ 20 := Nat.pow_le_pow_right (by decide) hH
  have hp : 0 < 2 ^ H := Nat.two_pow_pos H
  have ht : ∀ i, (nI (2 ^ H - 1)).toBitVec.getLsbD i = decide (i < H) := by
    intro i
    show (BitVec.ofNat 32 (2 ^ H - 1)).getLsbD i = _
    rw [BitVec.getLsbD_ofNat, Nat.testBit_two_pow_sub_one]
    by_cases c : i < H
    · simp [c]; omega
    · simp [c]
  constructor
  · intro h
    refine ⟨p.toBitVec.toNat, ?_, ?_⟩
    · apply Nat.lt_pow_two_of_testBit
      intro i hi
      have e := congrArg (fun y : Int32 => y.toBitVec.getLsbD i) h
      simp only [Int32.toBitVec_and, Int32.toBitVec_xor, BitVec.getLsbD_and, BitVec.getLsbD_xor, ht] at e
      by_cases c : i < 32
      · have e1 : (-1 : Int32).toBitVec.getLsbD i = true := by
          rw [show (-1 : Int32).toBitVec = BitVec.allOnes 32 from by decide, BitVec.getLsbD_allOnes]
          exact decide_eq_true c
        rw [e1] at e
        have e2 : (0 : Int32).toBitVec.getLsbD i = false := by
          show (0#32).getLsbD i = false
          simp
        rw [e2] at e
        simp [Nat.not_lt.mpr hi] at e
        exact e
      · have := p.toBitVec.isLt
        exact Nat.testBit_lt_two_pow (Nat.lt_of_lt_of_le this (Nat.pow_le_pow_right (by decide) (by omega)))
    · apply Int32.toBitVec_inj.mp
      show _ = BitVec.ofNat 32 _
      simp
  · rintro ⟨a, ha, rfl⟩
    apply Int32.toBitVec_inj.mp
    apply BitVec.eq_of_getLsbD_eq
    intro i hi
    simp only [Int32.toBitVec_and, Int32.toBitVec_xor, BitVec.getLsbD_and, BitVec.getLsbD_xor, ht]
    have e1 : (-1 : Int32).toBitVec.getLsbD i = true := by
      rw [show (-1 : Int32).toBitVec = BitVec.allOnes 32 from by decide, BitVec.getLsbD_allOnes]
      exact decide_eq_true hi
    have e2 : (0 : Int32).toBitVec.getLsbD i = false := by
      show (0#32).getLsbD i = false
      simp
    rw [e1, e2]
    show ((BitVec.ofNat 32 a).getLsbD i && _) = false
    rw [BitVec.getLsbD_ofNat]
    by_cases c : i < H
    · simp [c]
    · have : a.testBit i = false := Nat.testBit_lt_two_pow (Nat.lt_of_lt_of_le ha (Nat.pow_le_pow_right (by decide) (by omega)))
      simp [this]
theorem iv_all (h : iv A B D N J S fr ov tt im sa ga) : pe_all A = nI (2 ^ iv_H A N - 1) ∧ mo_all B = nI (2 ^ iv_H A N) := by
  have h20 := iv_H20 h
  unfold pe_all mo_all
  rw [h.f2, h.n2]
  have e : (if A 1 4 = 0 then 0 else A 1 5) = nI (iv_H A N) := iv_peH h
  rw [e, nb_shl (by omega)]
  constructor
  · exact pk_sub (b := 1) (Nat.one_le_two_pow)
  · unfold iv_H
    split
    · rfl
    · exact nb_shl (by have := h.n20; omega)
/-- a number is a position: for both -/
theorem iv_pos (h : iv A B D N J S fr ov tt im sa ga) (p : Int32) : (p &&& (pe_all A ^^^ (-1)) = 0 ↔ ∃ a, a < 2 ^ iv_H A N ∧ p = nI a) ∧ ((¬ p < 0 ∧ p < mo_all B) ↔ ∃ a, a < 2 ^ iv_H A N ∧ p = nI a) := by
  have h20 := iv_H20 h
  have h2 : 2 ^ iv_H A N ≤ 2 ^ 20 := Nat.pow_le_pow_right (by decide) h20
  obtain ⟨e1, e2⟩ := iv_all h
  rw [e1, e2]
  refine ⟨i_mask h20 p, ⟨fun q => ?_, ?_⟩⟩
  · obtain ⟨a, ha, rfl⟩ := nI_of q.1
    exact ⟨a, (nI_ltI ha (by omega)).mp q.2, rfl⟩
  · rintro ⟨a, ha, rfl⟩
    exact ⟨nI_pos (by omega), nI_lt ha (by omega)⟩
theorem iv_posI (h : iv A B D N J S fr ov tt im sa ga) (p : Int32) : p &&& (pe_all A ^^^ (-1)) = 0 ↔ (¬ p < 0 ∧ p < mo_all B) := (iv_pos h p).1.trans (iv_pos h p).2.symm
end IV
