/-! Positions as natural numbers. -/
section NB
theorem nI_or (a b : Nat) : nI a ||| nI b = nI (a ||| b) := by
  apply Int32.toBitVec_inj.mp
  rw [Int32.toBitVec_or]
  show BitVec.ofNat 32 a ||| BitVec.ofNat 32 b = BitVec.ofNat 32 (a ||| b)
  rw [BitVec.ofNat_or]
theorem nI_xor (a b : Nat) : nI a ^^^ nI b = nI (a ^^^ b) := by
  apply Int32.toBitVec_inj.mp
  rw [Int32.toBitVec_xor]
  show BitVec.ofNat 32 a ^^^ BitVec.ofNat 32 b = BitVec.ofNat 32 (a ^^^ b)
  rw [BitVec.ofNat_xor]
theorem nb_s : ∀ h, h < 31 → ((nI h &&& 31).toBitVec.smod 32).toNat = h := by decide +kernel
theorem nb_shl {h : Nat} (hh : h < 31) : (1 : Int32) <<< (nI h &&& 31) = nI (2 ^ h) := by
  have hp : 2 ^ h < 2 ^ 31 := Nat.pow_lt_pow_right (by decide) hh
  have := pk_shlN (n := 1) (nI h &&& 31) h (nb_s h hh) (by omega)
  rw [Nat.one_mul] at this
  exact this
def nb (a h : Nat) : Nat := a / 2 ^ h % 2
theorem nb_bit {a h : Nat} (ha : a < 2 ^ 31) (hh : h < 31) : mo_bit (nI a) (nI h) = nI (nb a h) := by
  rw [mo_bit, pk_shrN ha _ h (nb_s h hh), pk_andN (Nat.lt_of_le_of_lt (Nat.div_le_self _ _) (by omega)) (m := 1) 1 (by decide)]
  rfl
theorem nb_01 (a h : Nat) : nb a h = 0 ∨ nb a h = 1 := by
  unfold nb; omega
theorem nb_has {a h : Nat} (ha : a < 2 ^ 31) (hh : h < 31) : pg_has (nI a) (nI h) = nI (nb a h) := by
  have := nb_bit ha hh
  unfold mo_bit at this
  rw [pg_has, this]
  rcases nb_01 a h with e | e <;> rw [e] <;> decide
theorem nb_t (a h : Nat) : nb a h = (a.testBit h).toNat := by
  rw [nb, Nat.testBit_eq_decide_div_mod_eq]
  rcases Nat.mod_two_eq_zero_or_one (a / 2 ^ h) with e | e <;> rw [e] <;> rfl
end NB
