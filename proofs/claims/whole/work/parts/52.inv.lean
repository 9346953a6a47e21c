/-! The class's cells in A, the model's in B: what holds between the calls. -/
section IV
structure iv (A B : mx_M) (D : Nat → Bool) (N J S : Nat) (fr ov tt : Nat → Nat) (im : Nat → Nat → Nat) (sa ga : Nat) : Prop where
  t : A 1 3 = 0 ∨ A 1 3 = 1
  t2 : B 41 1 = A 1 3
  f : A 1 4 = 0 ∨ A 1 4 = 1
  f2 : B 41 2 = A 1 4
  n : A 1 5 = nI N
  n2 : B 41 3 = nI N
  nD : N = pg_n D 64
  n20 : N ≤ 20
  d : ∀ p, p < 64 → (A 2 p = -1 ↔ D p = false)
  d2 : ∀ p, p < 64 → (B 42 p = 0 ↔ D p = false)
  j : A 5 5 = nI J
  j2 : B 41 8 = nI J
  j120 : J ≤ 120
  jk : ∀ k, k < J → A 6 k = nI (fr k) ∧ A 7 k = nI (ov k) ∧ A 8 k = nI (tt k) ∧ A 9 k = nI (2 ^ fr k ||| 2 ^ ov k) ∧ A 10 k = nI ((2 ^ fr k ||| 2 ^ ov k) ||| 2 ^ tt k)
  jk2 : ∀ k, k < J → B 46 k = nI (fr k) ∧ B 47 k = nI (ov k) ∧ B 48 k = nI (tt k)
  jb : ∀ k, k < J → fr k < N ∧ ov k < N ∧ tt k < N ∧ fr k ≠ ov k ∧ fr k ≠ tt k ∧ ov k ≠ tt k
  s : A 11 4 = nI S
  s2 : B 41 12 = nI S
  s12 : S ≤ 12
  sk : ∀ k h, k < S → h < N → A (13 + k) h = nI (im k h) ∧ B 49 (20 * k + h) = nI (im k h) ∧ im k h < N
  si : ∀ k h h', k < S → h < N → h' < N → im k h = im k h' → h = h'
  un : A 1 4 = 0 → J = 0 ∧ S = 0 ∧ sa = 0 ∧ ga = 0
  fz : ¬ A 1 4 = 0 → A 11 3 = nI N ∧ 1 ≤ N
  nb : ¬ A 1 4 = 0 → ∀ p, p < 64 → D p = true → A 2 p = nI (pg_n D p) ∧ B 43 p = nI (pg_n D p)
  rc : ¬ A 1 4 = 0 → ∀ i, i < N → ∃ r c, r < 8 ∧ c < 8 ∧ A 3 i = nI r ∧ B 44 i = nI r ∧ A 4 i = nI c ∧ B 45 i = nI c
  a : A 0 5 = nI sa
  a2 : B 41 16 = nI sa
  ab : sa < 2 ^ N
  g : A 0 6 = nI ga
  g2 : B 41 17 = nI ga
  gb : ga < 2 ^ N
  w : ∀ j, j < 20 → A 39 j = B 52 j
variable {A B A' B' : mx_M} {D : Nat → Bool} {N J S sa ga : Nat} {fr ov tt : Nat → Nat} {im : Nat → Nat → Nat}
/-- only the class's cells of A count, and some numbers of the model's of B -/
theorem iv_cong (h : iv A B D N J S fr ov tt im sa ga) (hA : ∀ c, c < 27 ∨ c = 39 → A' c = A c) (hB : ∀ c, 41 < c → c < 50 ∨ c = 52 → B' c = B c)
    (hB1 : ∀ c, c = 1 ∨ c = 2 ∨ c = 3 ∨ c = 8 ∨ c = 12 ∨ c = 16 ∨ c = 17 → B' 41 c = B 41 c) : iv A' B' D N J S fr ov tt im sa ga := by
  have a0 := hA 0 (by omega)
  have a1 := hA 1 (by omega)
  have a2 := hA 2 (by omega)
  have a3 := hA 3 (by omega)
  have a4 := hA 4 (by omega)
  have a5 := hA 5 (by omega)
  have a6 := hA 6 (by omega)
  have a7 := hA 7 (by omega)
  have a8 := hA 8 (by omega)
  have a9 := hA 9 (by omega)
  have a10 := hA 10 (by omega)
  have a11 := hA 11 (by omega)
  have a39 := hA 39 (by omega)
  have b42 := hB 42 (by omega) (by omega)
  have b43 := hB 43 (by omega) (by omega)
  have b44 := hB 44 (by omega) (by omega)
  have b45 := hB 45 (by omega) (by omega)
  have b46 := hB 46 (by omega) (by omega)
  have b47 := hB 47 (by omega) (by omega)
  have b48 := hB 48 (by omega) (by omega)
  have b49 := hB 49 (by omega) (by omega)
  have b52 := hB 52 (by omega) (by omega)
  have m1 := hB1 1 (by omega)
  have m2 := hB1 2 (by omega)
  have m3 := hB1 3 (by omega)
  have m8 := hB1 8 (by omega)
  have m12 := hB1 12 (by omega)
  have m16 := hB1 16 (by omega)
  have m17 := hB1 17 (by omega)
  constructor
  · rw [a1]; exact h.t
  · rw [a1, m1]; exact h.t2
  · rw [a1]; exact h.f
  · rw [a1, m2]; exact h.f2
  · rw [a1]; exact h.n
  · rw [m3]; exact h.n2
  · exact h.nD
  · exact h.n20
  · rw [a2]; exact h.d
  · rw [b42]; exact h.d2
  · rw [a5]; exact h.j
  · rw [m8]; exact h.j2
  · exact h.j120
  · rw [a6, a7, a8, a9, a10]; exact h.jk
  · rw [b46, b47, b48]; exact h.jk2
  · exact h.jb
  · rw [a11]; exact h.s
  · rw [m12]; exact h.s2
  · exact h.s12
  · intro k q hk hq
    have := h.s12
    rw [hA (13 + k) (by omega), b49]
    exact h.sk k q hk hq
  · exact h.si
  · rw [a1]; exact h.un
  · rw [a1, a11]; exact h.fz
  · rw [a1, a2, b43]; exact h.nb
  · rw [a1, a3, a4, b44, b45]; exact h.rc
  · rw [a0]; exact h.a
  · rw [m16]; exact h.a2
  · exact h.ab
  · rw [a0]; exact h.g
  · rw [m17]; exact h.g2
  · exact h.gb
  · rw [a39, b52]; exact h.w
/-- how many holes count: none before freezing -/
def iv_H (A : mx_M) (N : Nat) : Nat := if A 1 4 = 0 then 0 else N
theorem iv_H20 (h : iv A B D N J S fr ov tt im sa ga) : iv_H A N ≤ 20 := by
  have := h.n20
  unfold iv_H; split <;> omega
theorem iv_peH (h : iv A B D N J S fr ov tt im sa ga) : pe_H A = nI (iv_H A N) := by
  unfold pe_H iv_H
  split
  · exact nI_0.symm
  · exact h.n
theorem i_mask {H : Nat} (hH : H ≤ 20) (p : Int32) : p &&& (nI (2 ^ H - 1) ^^^ (-1)) = 0 ↔ ∃ a, a < 2 ^ H ∧ p = nI a := by
  have h2 : 2 ^ H ≤ 2 ^ 20 := Nat.pow_le_pow_right (by decide) hH
  have hp : 0 < 2 ^ H := Nat.two_pow_pos H
  have ht : ∀ i, (nI (2 ^ H - 1)).toBitVec.getLsbD i = decide (i < H) := by
    intro i
    show (BitVec.ofNat 32 (2 ^ H - 1)).getLsbD i = _
    rw [BitVec.getLsbD_ofNat, Nat.testBit_two_pow_sub_one]
    by_cases c : i < H
    · simp [c]; omega
    · simp [c]
  constructor
  · intro h
    refine ⟨p.toBitVec.toNat, ?_, ?_⟩
    · apply Nat.lt_pow_two_of_testBit
      intro i hi
      have e := congrArg (fun y : Int32 => y.toBitVec.getLsbD i) h
      simp only [Int32.toBitVec_and, Int32.toBitVec_xor, BitVec.getLsbD_and, BitVec.getLsbD_xor, ht] at e
      by_cases c : i < 32
      · have e1 : (-1 : Int32).toBitVec.getLsbD i = true := by
          rw [show (-1 : Int32).toBitVec = BitVec.allOnes 32 from by decide, BitVec.getLsbD_allOnes]
          exact decide_eq_true c
        rw [e1] at e
        have e2 : (0 : Int32).toBitVec.getLsbD i = false := by
          show (0#32).getLsbD i = false
          simp
        rw [e2] at e
        simp [Nat.not_lt.mpr hi] at e
        exact e
      · have := p.toBitVec.isLt
        exact Nat.testBit_lt_two_pow (Nat.lt_of_lt_of_le this (Nat.pow_le_pow_right (by decide) (by omega)))
    · apply Int32.toBitVec_inj.mp
      show _ = BitVec.ofNat 32 _
      simp
  · rintro ⟨a, ha, rfl⟩
    apply Int32.toBitVec_inj.mp
    apply BitVec.eq_of_getLsbD_eq
    intro i hi
    simp only [Int32.toBitVec_and, Int32.toBitVec_xor, BitVec.getLsbD_and, BitVec.getLsbD_xor, ht]
    have e1 : (-1 : Int32).toBitVec.getLsbD i = true := by
      rw [show (-1 : Int32).toBitVec = BitVec.allOnes 32 from by decide, BitVec.getLsbD_allOnes]
      exact decide_eq_true hi
    have e2 : (0 : Int32).toBitVec.getLsbD i = false := by
      show (0#32).getLsbD i = false
      simp
    rw [e1, e2]
    show ((BitVec.ofNat 32 a).getLsbD i && _) = false
    rw [BitVec.getLsbD_ofNat]
    by_cases c : i < H
    · simp [c]
    · have : a.testBit i = false := Nat.testBit_lt_two_pow (Nat.lt_of_lt_of_le ha (Nat.pow_le_pow_right (by decide) (by omega)))
      simp [this]
theorem iv_all (h : iv A B D N J S fr ov tt im sa ga) : pe_all A = nI (2 ^ iv_H A N - 1) ∧ mo_all B = nI (2 ^ iv_H A N) := by
  have h20 := iv_H20 h
  unfold pe_all mo_all
  rw [h.f2, h.n2]
  have e : (if A 1 4 = 0 then 0 else A 1 5) = nI (iv_H A N) := iv_peH h
  rw [e, nb_shl (by omega)]
  constructor
  · exact pk_sub (b := 1) (Nat.one_le_two_pow)
  · unfold iv_H
    split
    · rfl
    · exact nb_shl (by have := h.n20; omega)
/-- a number is a position: for both -/
theorem iv_pos (h : iv A B D N J S fr ov tt im sa ga) (p : Int32) : (p &&& (pe_all A ^^^ (-1)) = 0 ↔ ∃ a, a < 2 ^ iv_H A N ∧ p = nI a) ∧ ((¬ p < 0 ∧ p < mo_all B) ↔ ∃ a, a < 2 ^ iv_H A N ∧ p = nI a) := by
  have h20 := iv_H20 h
  have h2 : 2 ^ iv_H A N ≤ 2 ^ 20 := Nat.pow_le_pow_right (by decide) h20
  obtain ⟨e1, e2⟩ := iv_all h
  rw [e1, e2]
  refine ⟨i_mask h20 p, ⟨fun q => ?_, ?_⟩⟩
  · obtain ⟨a, ha, rfl⟩ := nI_of q.1
    exact ⟨a, (nI_ltI ha (by omega)).mp q.2, rfl⟩
  · rintro ⟨a, ha, rfl⟩
    exact ⟨nI_pos (by omega), nI_lt ha (by omega)⟩
theorem iv_posI (h : iv A B D N J S fr ov tt im sa ga) (p : Int32) : p &&& (pe_all A ^^^ (-1)) = 0 ↔ (¬ p < 0 ∧ p < mo_all B) := (iv_pos h p).1.trans (iv_pos h p).2.symm
end IV
