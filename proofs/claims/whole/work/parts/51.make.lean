/-! A jump made: the class's way and the model's. -/
section MK
theorem bv_add {w : Nat} {x g : BitVec w} (h : x &&& g = 0#w) : x + g = x ^^^ g := by
  rw [BitVec.add_eq_or_of_and_eq_zero x g h]
  apply BitVec.eq_of_getElem_eq
  intro i hi
  have := congrArg (fun y : BitVec w => y[i]) h
  simp at this ⊢
  cases hx : x[i] <;> cases hg : g[i] <;> simp_all
theorem bv_sub {w : Nat} {x g : BitVec w} (h : x &&& g = g) : x - g = x ^^^ g := by
  have h1 : (x ^^^ g) &&& g = 0#w := by
    apply BitVec.eq_of_getElem_eq
    intro i hi
    have := congrArg (fun y : BitVec w => y[i]) h
    simp at this ⊢
    cases hx : x[i] <;> cases hg : g[i] <;> simp_all
  have h2 := bv_add h1
  have h3 : (x ^^^ g) ^^^ g = x := by
    rw [BitVec.xor_assoc, BitVec.xor_self, BitVec.xor_zero]
  rw [h3] at h2
  have h4 := congrArg (fun y => y - g) h2
  rw [BitVec.add_sub_cancel] at h4
  exact h4.symm
theorem i_add {x g : Int32} (h : x &&& g = 0) : x + g = x ^^^ g := by
  apply Int32.toBitVec_inj.mp
  rw [Int32.toBitVec_add, Int32.toBitVec_xor]
  apply bv_add
  have := congrArg Int32.toBitVec h
  rw [Int32.toBitVec_and] at this
  exact this
theorem i_sub {x g : Int32} (h : x &&& g = g) : x - g = x ^^^ g := by
  apply Int32.toBitVec_inj.mp
  rw [Int32.toBitVec_sub, Int32.toBitVec_xor]
  apply bv_sub
  have := congrArg Int32.toBitVec h
  rw [Int32.toBitVec_and] at this
  exact this
theorem nb_and {a i : Nat} : a &&& 2 ^ i = if a.testBit i then 2 ^ i else 0 := by
  apply Nat.eq_of_testBit_eq
  intro j
  rw [Nat.testBit_and, Nat.testBit_two_pow]
  by_cases e : i = j
  · subst e
    cases ha : a.testBit i <;> simp [Nat.testBit_two_pow]
  · cases ha : a.testBit i <;> simp [Nat.testBit_two_pow, e]
/-- when a jump can be made -/
def jm_ok (a f o t : Nat) : Bool := a.testBit f && a.testBit o && !a.testBit t
/-- the position behind it -/
def jm_go (a f o t : Nat) : Nat := ((a ^^^ 2 ^ f) ^^^ 2 ^ o) ^^^ 2 ^ t
theorem jm_mask {a f o t : Nat} (h1 : f ≠ o) (h2 : f ≠ t) (h3 : o ≠ t) : a &&& ((2 ^ f ||| 2 ^ o) ||| 2 ^ t) = (2 ^ f ||| 2 ^ o) ↔ jm_ok a f o t = true := by
  unfold jm_ok
  constructor
  · intro h
    have q := fun j => congrArg (fun y => Nat.testBit y j) h
    simp only [Nat.testBit_and, Nat.testBit_or, Nat.testBit_two_pow] at q
    have q1 := q f
    have q2 := q o
    have q3 := q t
    simp [h1, h2, h3, Ne.symm h1, Ne.symm h2, Ne.symm h3] at q1 q2 q3
    simp [q1, q2, q3]
  · intro h
    simp at h
    obtain ⟨⟨q1, q2⟩, q3⟩ := h
    apply Nat.eq_of_testBit_eq
    intro j
    simp only [Nat.testBit_and, Nat.testBit_or, Nat.testBit_two_pow]
    by_cases e1 : f = j
    · subst e1; simp [q1]
    · by_cases e2 : o = j
      · subst e2; simp [q2]
      · by_cases e3 : t = j
        · subst e3; simp [q3, e1, e2]
        · simp [e1, e2, e3]
theorem jm_lt {a f o t n : Nat} (ha : a < 2 ^ n) (hf : f < n) (ho : o < n) (ht : t < n) : jm_go a f o t < 2 ^ n := by
  unfold jm_go
  have p : ∀ i, i < n → 2 ^ i < 2 ^ n := fun i hi => Nat.pow_lt_pow_right (by decide) hi
  exact Nat.xor_lt_two_pow (Nat.xor_lt_two_pow (Nat.xor_lt_two_pow ha (p f hf)) (p o ho)) (p t ht)
/-- the answer of a jump -/
def jm (a f o t : Nat) : Int32 := if jm_ok a f o t = true then nI (jm_go a f o t) else -1
theorem p31 {i : Nat} (h : i < 20) : 2 ^ i < 2 ^ 20 := Nat.pow_lt_pow_right (by decide) h
theorem jm_pg {a f o t : Nat} (ha : a < 2 ^ 20) (hf : f < 20) (ho : o < 20) (ht : t < 20) (h1 : f ≠ o) (h2 : f ≠ t) (h3 : o ≠ t) :
    pg_mk (nI a) (nI ((2 ^ f ||| 2 ^ o) ||| 2 ^ t)) (nI (2 ^ f ||| 2 ^ o)) = jm a f o t := by
  have b1 : (2 ^ f ||| 2 ^ o) < 2 ^ 20 := Nat.or_lt_two_pow (p31 hf) (p31 ho)
  have b2 : ((2 ^ f ||| 2 ^ o) ||| 2 ^ t) < 2 ^ 20 := Nat.or_lt_two_pow b1 (p31 ht)
  have b3 : a &&& ((2 ^ f ||| 2 ^ o) ||| 2 ^ t) < 2 ^ 20 := Nat.and_lt_two_pow _ b2
  have e : (nI a &&& nI ((2 ^ f ||| 2 ^ o) ||| 2 ^ t) = nI (2 ^ f ||| 2 ^ o)) ↔ jm_ok a f o t = true := by
    rw [pq_and, nI_eq (by omega) (by omega)]
    exact jm_mask h1 h2 h3
  unfold pg_mk jm
  by_cases c : jm_ok a f o t = true
  · rw [if_pos (e.mpr c), if_pos c, nI_xor]
    congr 1
    unfold jm_go
    apply Nat.eq_of_testBit_eq
    intro j
    simp only [Nat.testBit_xor, Nat.testBit_or, Nat.testBit_two_pow]
    by_cases e1 : f = j
    · subst e1; simp [Ne.symm h1, Ne.symm h2]
    · by_cases e2 : o = j
      · subst e2; simp [h1, Ne.symm h3]
      · simp [e1, e2]
  · rw [if_neg (fun q => c (e.mp q)), if_neg c]
theorem jm_mo {a f o t : Nat} (ha : a < 2 ^ 20) (hf : f < 20) (ho : o < 20) (ht : t < 20) (h1 : f ≠ o) (h2 : f ≠ t) (h3 : o ≠ t) :
    mo_mk (nI a) (nI f) (nI o) (nI t) = jm a f o t := by
  unfold mo_mk jm
  rw [nb_bit (by omega) (by omega), nb_bit (by omega) (by omega), nb_bit (by omega) (by omega), nb_shl (by omega), nb_shl (by omega), nb_shl (by omega), nb_t, nb_t, nb_t]
  unfold jm_ok
  have hx : ∀ (x y : Nat), x &&& y = y → nI x - nI y = nI (x ^^^ y) := by
    intro x y e
    rw [i_sub (by rw [pq_and, e]), nI_xor]
  have hy : ∀ (x y : Nat), x &&& y = 0 → nI x + nI y = nI (x ^^^ y) := by
    intro x y e
    rw [i_add (by rw [pq_and, e, nI_0]), nI_xor]
  cases q1 : a.testBit f
  · cases a.testBit o <;> rfl
  · cases q2 : a.testBit o
    · rfl
    · cases q3 : a.testBit t
      · show (if (2 : Int32) < 2 then -1 else if (0 : Int32) = 1 then -1 else _) = if true = true then _ else _
        rw [if_neg (by decide), if_neg (by decide), if_pos rfl]
        rw [hx a (2 ^ f) (by rw [nb_and, q1, if_pos rfl])]
        rw [hx _ (2 ^ o) (by rw [nb_and, Nat.testBit_xor, q2, Nat.testBit_two_pow]; simp [h1])]
        rw [hy _ (2 ^ t) (by rw [nb_and, Nat.testBit_xor, Nat.testBit_xor, q3, Nat.testBit_two_pow, Nat.testBit_two_pow]; simp [h2, h3])]
        rfl
      · rfl
theorem jm_neg {a f o t : Nat} (ha : a < 2 ^ 20) (hf : f < 20) (ho : o < 20) (ht : t < 20) : (jm a f o t = -1 ↔ jm_ok a f o t = false) ∧ (jm a f o t < 0 ↔ jm_ok a f o t = false) := by
  unfold jm
  have b := jm_lt ha hf ho ht
  cases c : jm_ok a f o t
  · rw [if_neg (by decide)]
    exact ⟨by simp, by simp⟩
  · rw [if_pos rfl]
    have := nI_toInt (n := jm_go a f o t) (by omega)
    refine ⟨⟨fun q => ?_, fun q => by simp at q⟩, ⟨fun q => absurd q (nI_pos (by omega)), fun q => by simp at q⟩⟩
    rw [q] at this
    have e : (-1 : Int32).toInt = -1 := by decide
    omega
end MK
