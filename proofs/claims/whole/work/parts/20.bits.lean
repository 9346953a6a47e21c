/-! how many bits of a number are set, and the way that the JDK counts them -/
section PP
def pp_n : Nat → Nat → Nat
  | 0, _ => 0
  | k + 1, n => n % 2 + pp_n k (n / 2)
theorem pp_and {a m b M : Nat} (ha : a < 256) (hm : m < 256) : (a + 256 * b) &&& (m + 256 * M) = (a &&& m) + 256 * (b &&& M) := by
  have h1 := Nat.and_mod_two_pow (a := a + 256 * b) (b := m + 256 * M) (n := 8)
  have h2 := Nat.and_div_two_pow (a := a + 256 * b) (b := m + 256 * M) (n := 8)
  have e1 : (a + 256 * b) % 2 ^ 8 = a := by omega
  have e2 : (m + 256 * M) % 2 ^ 8 = m := by omega
  have e3 : (a + 256 * b) / 2 ^ 8 = b := by omega
  have e4 : (m + 256 * M) / 2 ^ 8 = M := by omega
  rw [e1, e2] at h1
  rw [e3, e4] at h2
  generalize (a + 256 * b) &&& (m + 256 * M) = X at h1 h2 ⊢
  generalize a &&& m = u at h1 ⊢
  generalize b &&& M = v at h2 ⊢
  omega
def pp_1 (b : Nat) : Nat := b - ((b / 2) &&& 85)
def pp_2 (x : Nat) : Nat := (x &&& 51) + ((x / 4) &&& 51)
theorem pp_t1 : ∀ b, b < 256 → ∀ c, c < 2 → ((b / 2 + 128 * c) &&& 85) = ((b / 2) &&& 85) ∧ ((b / 2) &&& 21845) = ((b / 2) &&& 85) ∧ ((b / 2) &&& 85) ≤ b ∧ pp_1 b < 256 := by decide +kernel
theorem pp_t2 : ∀ x, x < 256 → ∀ c, c < 4 → ((x / 4 + 64 * c) &&& 51) = ((x / 4) &&& 51) ∧ ((x / 4) &&& 13107) = ((x / 4) &&& 51) ∧ (x &&& 13107) = (x &&& 51) := by decide +kernel
theorem pp_t3 : ∀ b, b < 256 → pp_2 (pp_1 b) ≤ 68 ∧ pp_2 (pp_1 b) % 16 ≤ 4 ∧ (pp_2 (pp_1 b) + pp_2 (pp_1 b) / 16) % 16 = pp_n 8 b ∧ pp_n 8 b ≤ 8 := by decide +kernel
theorem pp_t4 : ∀ y, y < 73 → ∀ c, c < 5 → ((y + 16 * c) &&& 15) = y % 16 ∧ ((y + 16 * c) &&& 3855) = ((y + 16 * c) &&& 15) := by decide +kernel
theorem pp_s1 {b0 b1 b2 : Nat} (h0 : b0 < 256) (h1 : b1 < 256) (h2 : b2 < 256) : (b0 + 256 * (b1 + 256 * b2)) - (((b0 + 256 * (b1 + 256 * b2)) / 2) &&& 1431655765) = pp_1 b0 + 256 * (pp_1 b1 + 256 * pp_1 b2) := by
  have e : (b0 + 256 * (b1 + 256 * b2)) / 2 = (b0 / 2 + 128 * (b1 % 2)) + 256 * ((b1 / 2 + 128 * (b2 % 2)) + 256 * (b2 / 2)) := by omega
  have em : 1431655765 = 85 + 256 * (85 + 256 * 21845) := by decide
  rw [e, em, pp_and (by omega) (by decide), pp_and (by omega) (by decide)]
  obtain ⟨q1, -, q3, -⟩ := pp_t1 b0 h0 (b1 % 2) (by omega)
  obtain ⟨r1, -, r3, -⟩ := pp_t1 b1 h1 (b2 % 2) (by omega)
  obtain ⟨-, s2, s3, -⟩ := pp_t1 b2 h2 0 (by omega)
  rw [q1, r1, s2]
  unfold pp_1
  omega
theorem pp_s2 {x0 x1 x2 : Nat} (h0 : x0 < 256) (h1 : x1 < 256) (h2 : x2 < 256) : ((x0 + 256 * (x1 + 256 * x2)) &&& 858993459) + (((x0 + 256 * (x1 + 256 * x2)) / 4) &&& 858993459) = pp_2 x0 + 256 * (pp_2 x1 + 256 * pp_2 x2) := by
  have e : (x0 + 256 * (x1 + 256 * x2)) / 4 = (x0 / 4 + 64 * (x1 % 4)) + 256 * ((x1 / 4 + 64 * (x2 % 4)) + 256 * (x2 / 4)) := by omega
  have em : 858993459 = 51 + 256 * (51 + 256 * 13107) := by decide
  rw [e, em, pp_and (by omega) (by decide), pp_and (by omega) (by decide), pp_and (by omega) (by decide), pp_and (by omega) (by decide)]
  obtain ⟨q1, -, -⟩ := pp_t2 x0 h0 (x1 % 4) (by omega)
  obtain ⟨r1, -, -⟩ := pp_t2 x1 h1 (x2 % 4) (by omega)
  obtain ⟨-, s2, s3⟩ := pp_t2 x2 h2 0 (by omega)
  rw [q1, r1, s2, s3]
  unfold pp_2
  omega
theorem pp_add : ∀ (j k n : Nat), pp_n (j + k) n = pp_n j n + pp_n k (n / 2 ^ j) := by
  intro j
  induction j with
  | zero => intro k n; simp [pp_n]
  | succ j ih =>
    intro k n
    rw [show j + 1 + k = (j + k) + 1 by omega, pp_n, pp_n, ih, Nat.div_div_eq_div_mul, show 2 * 2 ^ j = 2 ^ (j + 1) by rw [Nat.pow_succ]; omega]
    omega
theorem pp_mod : ∀ (j n m : Nat), pp_n j (n + 2 ^ j * m) = pp_n j n := by
  intro j
  induction j with
  | zero => intro n m; rfl
  | succ j ih =>
    intro n m
    have e : 2 ^ (j + 1) * m = 2 * (2 ^ j * m) := by rw [Nat.pow_succ, Nat.mul_comm (2 ^ j) 2, Nat.mul_assoc]
    rw [pp_n, pp_n, e, show (n + 2 * (2 ^ j * m)) / 2 = n / 2 + 2 ^ j * m by omega, ih]
    omega
/-- the JDK's way, at numbers below 2^24 -/
theorem pp_ok {n s1 s2 s3 s4 s5 : Nat} (h : n < 16777216) (e1 : s1 = n - ((n / 2) &&& 1431655765)) (e2 : s2 = (s1 &&& 858993459) + ((s1 / 4) &&& 858993459)) (e3 : s3 = (s2 + s2 / 16) &&& 252645135) (e4 : s4 = s3 + s3 / 256) (e5 : s5 = s4 + s4 / 65536) :
    s1 ≤ n ∧ s2 < 16777216 ∧ s3 < 16777216 ∧ s5 < 33554432 ∧ s5 &&& 63 = pp_n 24 n := by
  obtain ⟨b0, b1, b2, h0, h1, h2, rfl⟩ : ∃ b0 b1 b2, b0 < 256 ∧ b1 < 256 ∧ b2 < 256 ∧ n = b0 + 256 * (b1 + 256 * b2) := ⟨n % 256, n / 256 % 256, n / 65536, by omega, by omega, by omega, by omega⟩
  rw [pp_s1 h0 h1 h2] at e1
  obtain ⟨-, -, -, q0⟩ := pp_t1 b0 h0 0 (by omega)
  obtain ⟨-, -, -, q1⟩ := pp_t1 b1 h1 0 (by omega)
  obtain ⟨-, -, -, q2⟩ := pp_t1 b2 h2 0 (by omega)
  have hs1 : s1 ≤ b0 + 256 * (b1 + 256 * b2) := by rw [e1]; unfold pp_1; omega
  rw [e1, pp_s2 q0 q1 q2] at e2
  obtain ⟨u0, v0, w0, z0⟩ := pp_t3 b0 h0
  obtain ⟨u1, v1, w1, z1⟩ := pp_t3 b1 h1
  obtain ⟨u2, v2, w2, z2⟩ := pp_t3 b2 h2
  have hs2 : s2 < 16777216 := by rw [e2]; omega
  have e6 : pp_n 24 (b0 + 256 * (b1 + 256 * b2)) = pp_n 8 b0 + (pp_n 8 b1 + pp_n 8 b2) := by
    rw [show (24 : Nat) = 8 + (8 + 8) by rfl, pp_add, pp_add]
    have a1 : pp_n 8 (b0 + 256 * (b1 + 256 * b2)) = pp_n 8 b0 := pp_mod 8 b0 (b1 + 256 * b2)
    have a2 : (b0 + 256 * (b1 + 256 * b2)) / 2 ^ 8 = b1 + 256 * b2 := by omega
    have a3 : pp_n 8 (b1 + 256 * b2) = pp_n 8 b1 := pp_mod 8 b1 b2
    have a4 : (b1 + 256 * b2) / 2 ^ 8 = b2 := by omega
    rw [a1, a2, a3, a4]
  rw [e6]
  generalize pp_2 (pp_1 b0) = y0 at *
  generalize pp_2 (pp_1 b1) = y1 at *
  generalize pp_2 (pp_1 b2) = y2 at *
  have e7 : s2 + s2 / 16 = (y0 + y0 / 16 + 16 * (y1 % 16)) + 256 * ((y1 + y1 / 16 + 16 * (y2 % 16)) + 256 * (y2 + y2 / 16)) := by rw [e2]; omega
  have em : 252645135 = 15 + 256 * (15 + 256 * 3855) := by decide
  rw [e7, em, pp_and (by omega) (by decide), pp_and (by omega) (by decide)] at e3
  obtain ⟨x0, -⟩ := pp_t4 (y0 + y0 / 16) (by omega) (y1 % 16) (by omega)
  obtain ⟨x1, -⟩ := pp_t4 (y1 + y1 / 16) (by omega) (y2 % 16) (by omega)
  obtain ⟨x2, x3⟩ := pp_t4 (y2 + y2 / 16) (by omega) 0 (by omega)
  rw [show y2 + y2 / 16 = y2 + y2 / 16 + 16 * 0 by omega, x0, x1, x3, x2, w0, w1, w2] at e3
  generalize pp_n 8 b0 = c0 at *
  generalize pp_n 8 b1 = c1 at *
  generalize pp_n 8 b2 = c2 at *
  have hs3 : s3 < 16777216 := by rw [e3]; omega
  have hs5 : s5 < 33554432 := by omega
  refine ⟨hs1, hs2, hs3, hs5, ?_⟩
  have e8 : s5 &&& 63 = s5 % 64 := Nat.and_two_pow_sub_one_eq_mod s5 6
  rw [e8]
  clear e8 e7 em x0 x1 x2 x3 hs1 e1 q0 q1 q2 e2 hs2 h0 h1 h2 h e6 u0 v0 w0 u1 v1 w1 u2 v2 w2 hs3 hs5
  have f1 : s3 / 256 = c1 + 256 * c2 := by omega
  have f2 : s4 = (c0 + c1) + 256 * (c1 + c2) + 65536 * c2 := by omega
  have f3 : s4 / 65536 = c2 := by omega
  have f4 : s5 = (c0 + c1 + c2) + 64 * (4 * (c1 + c2) + 1024 * c2) := by omega
  omega
end PP
section PQ
variable {l : Launch} {sc : Nat × (Nat → Int32)} {d : Nat} {M : mx_M}
theorem wk_265 : Cond.constant "java/lang/Integer" 265 1431655765 ∈ mx_WS := by decide +kernel
theorem wk_266 : Cond.constant "java/lang/Integer" 266 858993459 ∈ mx_WS := by decide +kernel
theorem wk_267 : Cond.constant "java/lang/Integer" 267 252645135 ∈ mx_WS := by decide +kernel
def pq_u (x s : Int32) : Int32 := (x.toUInt32 >>> (s.toUInt32 &&& Int32.toUInt32 31)).toInt32
def pq_bc (x : Int32) : Int32 :=
  let s1 := x - (pq_u x 1 &&& 1431655765)
  let s2 := (s1 &&& 858993459) + (pq_u s1 2 &&& 858993459)
  let s3 := (s2 + pq_u s2 4) &&& 252645135
  let s4 := s3 + pq_u s3 8
  let s5 := s4 + pq_u s4 16
  s5 &&& 63
theorem ct_In_bitCount (hl : l.stackTraces = false) {LK : mx_L} (x : Int32) : mx_Ct l LK mY_In_bitCount d 0 [.int x] M (mx_rI (pq_bc x) M) := by
  refine mx_bd (n0 := 1) hl (by decide +kernel) rfl rfl rfl ?_
  refine mx_ldw mo_In_bitCount 4 rfl trivial rfl wk_265 ?_
  obtain ⟨s1, h1⟩ : ∃ z, z = x - (pq_u x 1 &&& 1431655765) := ⟨_, rfl⟩
  refine mx_go mo_In_bitCount 4 (pc' := 11) (ls' := [.int (x - (pq_u x 1 &&& 1431655765))]) (st' := [.int (x - (pq_u x 1 &&& 1431655765))]) (M' := M) rfl trivial ?_
  rw [← h1]
  refine mx_ldw mo_In_bitCount 0 rfl trivial rfl wk_266 ?_
  refine mx_ldw mo_In_bitCount 4 rfl trivial rfl wk_266 ?_
  obtain ⟨s2, h2⟩ : ∃ z, z = (s1 &&& 858993459) + (pq_u s1 2 &&& 858993459) := ⟨_, rfl⟩
  refine mx_go mo_In_bitCount 8 (pc' := 29) (ls' := [.int ((s1 &&& 858993459) + (pq_u s1 2 &&& 858993459))]) (st' := [.int (((s1 &&& 858993459) + (pq_u s1 2 &&& 858993459)) + pq_u ((s1 &&& 858993459) + (pq_u s1 2 &&& 858993459)) 4)]) (M' := M) rfl trivial ?_
  rw [← h2]
  refine mx_ldw mo_In_bitCount 0 rfl trivial rfl wk_267 ?_
  obtain ⟨s3, h3⟩ : ∃ z, z = (s2 + pq_u s2 4) &&& 252645135 := ⟨_, rfl⟩
  refine mx_go mo_In_bitCount 2 (pc' := 34) (ls' := [.int ((s2 + pq_u s2 4) &&& 252645135)]) (st' := []) (M' := M) rfl trivial ?_
  rw [← h3]
  obtain ⟨s4, h4⟩ : ∃ z, z = s3 + pq_u s3 8 := ⟨_, rfl⟩
  refine mx_go mo_In_bitCount 6 (pc' := 41) (ls' := [.int (s3 + pq_u s3 8)]) (st' := []) (M' := M) rfl trivial ?_
  rw [← h4]
  refine mx_ret_i mo_In_bitCount rfl 9 (v := (s4 + pq_u s4 16) &&& 63) rfl trivial rfl ⟨?_, rfl⟩
  subst h1; subst h2; subst h3; subst h4
  rfl
theorem pq_and (a b : Nat) : nI a &&& nI b = nI (a &&& b) := by
  apply Int32.toBitVec_inj.mp
  rw [Int32.toBitVec_and]
  show BitVec.ofNat 32 a &&& BitVec.ofNat 32 b = BitVec.ofNat 32 (a &&& b)
  rw [BitVec.ofNat_and]
theorem pq_ok {n : Nat} (h : n < 16777216) : pq_bc (nI n) = nI (pp_n 24 n) := by
  obtain ⟨s1, e1⟩ : ∃ z, z = n - ((n / 2) &&& 1431655765) := ⟨_, rfl⟩
  obtain ⟨s2, e2⟩ : ∃ z, z = (s1 &&& 858993459) + ((s1 / 4) &&& 858993459) := ⟨_, rfl⟩
  obtain ⟨s3, e3⟩ : ∃ z, z = (s2 + s2 / 16) &&& 252645135 := ⟨_, rfl⟩
  obtain ⟨s4, e4⟩ : ∃ z, z = s3 + s3 / 256 := ⟨_, rfl⟩
  obtain ⟨s5, e5⟩ : ∃ z, z = s4 + s4 / 65536 := ⟨_, rfl⟩
  obtain ⟨q1, q2, q3, q5, q6⟩ := pp_ok h e1 e2 e3 e4 e5
  have u1 : pq_u (nI n) 1 = nI (n / 2) := pk_ushrN (by omega) 1 1 (by decide)
  have a1 : nI n - (pq_u (nI n) 1 &&& 1431655765) = nI s1 := by
    rw [u1, show (1431655765 : Int32) = nI 1431655765 from rfl, pq_and, pk_sub (by
      have : (n / 2) &&& 1431655765 ≤ n / 2 := Nat.and_le_left
      omega), e1]
  have u2 : pq_u (nI s1) 2 = nI (s1 / 4) := pk_ushrN (by omega) 2 2 (by decide)
  have a2 : (nI s1 &&& 858993459) + (pq_u (nI s1) 2 &&& 858993459) = nI s2 := by
    rw [u2, show (858993459 : Int32) = nI 858993459 from rfl, pq_and, pq_and, nI_add, e2]
  have u3 : pq_u (nI s2) 4 = nI (s2 / 16) := pk_ushrN (by omega) 4 4 (by decide)
  have a3 : (nI s2 + pq_u (nI s2) 4) &&& 252645135 = nI s3 := by
    rw [u3, show (252645135 : Int32) = nI 252645135 from rfl, nI_add, pq_and, e3]
  have u4 : pq_u (nI s3) 8 = nI (s3 / 256) := pk_ushrN (by omega) 8 8 (by decide)
  have a4 : nI s3 + pq_u (nI s3) 8 = nI s4 := by rw [u4, nI_add, e4]
  have u5 : pq_u (nI s4) 16 = nI (s4 / 65536) := pk_ushrN (by omega) 16 16 (by decide)
  have a5 : nI s4 + pq_u (nI s4) 16 = nI s5 := by rw [u5, nI_add, e5]
  unfold pq_bc
  simp only [a1, a2, a3, a4, a5]
  rw [show (63 : Int32) = nI 63 from rfl, pq_and, q6]
end PQ
