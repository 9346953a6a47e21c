/-! Moves: one jump in the class's row and in the model's table. -/
section MV
variable {A B A' B' Z T : mx_M} {D : Nat → Bool} {N J S sa ga L n : Nat} {fr ov tt : Nat → Nat} {im : Nat → Nat → Nat}
/-- the least of x and of the first m ways on -/
def mi (x : Nat) (t : Nat → Nat) (f : Nat) : Nat → Nat
  | 0 => x
  | m + 1 => if mi x t f m ≤ t m + (if m = f then 0 else 1) then mi x t f m else t m + (if m = f then 0 else 1)
theorem mi_le {x : Nat} {t : Nat → Nat} {f : Nat} : ∀ m, mi x t f m ≤ x ∧ (∀ h, h < m → mi x t f m ≤ t h + (if h = f then 0 else 1)) ∧ (mi x t f m = x ∨ ∃ h, h < m ∧ mi x t f m = t h + (if h = f then 0 else 1))
  | 0 => ⟨Nat.le_refl x, fun h hh => by omega, Or.inl rfl⟩
  | m + 1 => by
    obtain ⟨h1, h2, h3⟩ := mi_le (x := x) (t := t) (f := f) m
    rw [mi]
    generalize hv : t m + (if m = f then 0 else 1) = v at *
    by_cases c : mi x t f m ≤ v
    · rw [if_pos c]
      refine ⟨h1, fun h hh => ?_, ?_⟩
      · by_cases e : h = m
        · subst e; rw [hv]; exact c
        · exact h2 h (by omega)
      · rcases h3 with y | ⟨h, y1, y2⟩
        · exact Or.inl y
        · exact Or.inr ⟨h, by omega, y2⟩
    · rw [if_neg c]
      refine ⟨by omega, fun h hh => ?_, Or.inr ⟨m, by omega, hv.symm⟩⟩
      by_cases e : h = m
      · subst e; rw [hv]; exact Nat.le_refl _
      · have := h2 h (by omega)
        omega
theorem mi_21 {x F f : Nat} {t : Nat → Nat} {b : Bool} (h1 : ∀ h, h ≤ 20 → F ≤ t h) (h2 : ∃ h, h ≤ 20 ∧ t h = F) (hf : f < 20) (hb : b = true ↔ t f = F) : mi x t f 21 = min x (F + (if b = true then 0 else 1)) := by
  obtain ⟨q1, q2, q3⟩ := mi_le (x := x) (t := t) (f := f) 21
  obtain ⟨h0, l0, e0⟩ := h2
  have z0 := q2 h0 (by omega)
  have zf := q2 f (by omega)
  rw [if_pos rfl] at zf
  have ff := h1 f (by omega)
  cases b
  · have nf : ¬ t f = F := fun y => by have := hb.mpr y; cases this
    rw [if_neg (by decide)]
    have n0 : h0 ≠ f := by rintro rfl; exact nf e0
    rw [if_neg n0, e0] at z0
    rcases q3 with y | ⟨h, y1, y2⟩
    · omega
    · have := h1 h (by omega)
      by_cases e : h = f
      · subst e
        rw [if_pos rfl] at y2
        omega
      · rw [if_neg e] at y2
        omega
  · have tf := hb.mp rfl
    rw [if_pos rfl]
    rcases q3 with y | ⟨h, y1, y2⟩
    · omega
    · have := h1 h (by omega)
      by_cases e : h = f
      · subst e
        rw [if_pos rfl] at y2
        omega
      · rw [if_neg e] at y2
        omega
/-- the model's table, one place of it -/
theorem mi_T {s a f x : Nat} {t : Nat → Nat} (hf : f < 20) (ha : ∀ h, h ≤ 20 → a ≠ 21 * s + h) (hx : T 58 a = nI x) (hx1 : x ≤ 1000) (ht : ∀ h, h ≤ 20 → T 58 (21 * s + h) = nI (t h) ∧ t h ≤ 1000) :
    ∀ m, m ≤ 21 → mo_i s a (nI f) T m 58 a = nI (mi x t f m) ∧ ∀ y, y ≠ a → mo_i s a (nI f) T m 58 y = T 58 y
  | 0, _ => ⟨hx, fun _ _ => rfl⟩
  | m + 1, hm => by
    obtain ⟨q1, q2⟩ := mi_T hf ha hx hx1 ht m (by omega)
    have l := (mi_le (x := x) (t := t) (f := f) m).1
    obtain ⟨t1, t2⟩ := ht m (by omega)
    have e : (if nI m = nI f then (0 : Int32) else 1) = nI (if m = f then 0 else 1) := by
      by_cases c : m = f
      · subst c; rw [if_pos rfl, if_pos rfl, nI_0]
      · rw [if_neg c, if_neg (fun y => c ((nI_eq (by omega) (by omega)).mp y))]; rfl
    have b1 : (if m = f then 0 else 1) ≤ 1 := by split <;> omega
    rw [mo_i, mo_i1, mx_up_row, q1, q2 _ (Ne.symm (ha m (by omega))), t1, e, nI_add]
    refine ⟨?_, fun y hy => by rw [pk_un hy]; exact q2 y hy⟩
    rw [pk_us, mi]
    by_cases c : mi x t f m ≤ t m + (if m = f then 0 else 1)
    · rw [if_pos c, if_pos (nI_le c (by omega))]
    · rw [if_neg c, if_neg (nI_ge (by omega) (by omega))]
/-- what the class has of position b, and the model -/
def fmb (A T : mx_M) (P : Nat → Nat) (sa b : Nat) : Prop := ∃ (t : Nat → Nat) (F K : Nat), (∀ h, h ≤ 20 → T 58 (21 * b + h) = nI (t h) ∧ t h ≤ 1000) ∧ A 36 b = nI F ∧ A 37 b = nI K ∧ K < 2 ^ 20 ∧ (∀ h, h ≤ 20 → F ≤ t h) ∧ (∃ h, h ≤ 20 ∧ t h = F) ∧ (∀ h, h < 20 → (K.testBit h = true ↔ t h = F)) ∧ F + pc (P b) ≤ pc sa
def fm (A T : mx_M) (P : Nat → Nat) (sa n nZ : Nat) : Prop := (∀ b, b < n → fmb A T P sa b) ∧ ∀ b, n ≤ b → b < nZ → ∀ h, h ≤ 20 → T 58 (21 * b + h) = nI 1000
theorem fmb_cong {P : Nat → Nat} {b : Nat} {T' : mx_M} (h : fmb A T P sa b) (h1 : A' 36 b = A 36 b) (h2 : A' 37 b = A 37 b) (h3 : ∀ q, q ≤ 20 → T' 58 (21 * b + q) = T 58 (21 * b + q)) : fmb A' T' P sa b := by
  obtain ⟨t, F, K, x1, x2, x3, x4⟩ := h
  exact ⟨t, F, K, fun q hq => by rw [h3 q hq]; exact x1 q hq, by rw [h1]; exact x2, by rw [h2]; exact x3, x4⟩
/-- the class's number for a way on -/
theorem th_I {P : Nat → Nat} {i f : Nat} {t : Nat → Nat} {F K : Nat} (hf : f < 20) (a36 : A 36 i = nI F) (a37 : A 37 i = nI K) (k20 : K < 2 ^ 20) : re_th A i (nI f) = nI (F + (if K.testBit f = true then 0 else 1)) := by
  rw [re_th, a36, a37, nb_has (by omega) (by omega), nb_t]
  cases K.testBit f
  · rw [if_pos (by decide)]; exact nI_1 F
  · rw [if_neg (by decide)]; simp
theorem fm_old {P : Nat → Nat} {i b f g nZ : Nat} (h : fm A T P sa n nZ) (hi : i < n) (hb : b < n) (hib : i ≠ b) (hf : f < 20) (hg : g < 20) (hp : pc (P b) + 1 = pc (P i)) (hsa : pc sa ≤ 20) : fm (re_am A i b (nI f) (nI g)) (mo_i i (21 * b + g) (nI f) T 21) P sa n nZ := by
  obtain ⟨h1, h2⟩ := h
  obtain ⟨t, F, K, x1, x2, x3, x4, x5, x6, x7, x8⟩ := h1 i hi
  obtain ⟨u, G, Q, y1, y2, y3, y4, y5, y6, y7, y8⟩ := h1 b hb
  have TT := mi_T (T := T) (s := i) (a := 21 * b + g) (f := f) (x := u g) (t := t) hf (fun q hq => by omega) (y1 g (by omega)).1 (y1 g (by omega)).2 x1 21 (Nat.le_refl 21)
  rw [mi_21 x5 x6 hf (x7 f hf)] at TT
  have th := th_I (A := A) (P := P) (t := t) hf x2 x3 x4
  generalize hv : F + (if K.testBit f = true then 0 else 1) = v at *
  have v1 : v ≤ F + 1 := by rw [← hv]; split <;> omega
  unfold re_am
  rw [th]
  have off : ∀ c, c ≠ b → re_m2 (re_m1 A b (nI v)) b (nI v) (nI g) 36 c = A 36 c ∧ re_m2 (re_m1 A b (nI v)) b (nI v) (nI g) 37 c = A 37 c := by
    intro c hc
    unfold re_m2 re_m1
    split <;> split <;> simp [mx_up, hc]
  have at' : re_m2 (re_m1 A b (nI v)) b (nI v) (nI g) 36 b = nI (min G v) ∧ re_m2 (re_m1 A b (nI v)) b (nI v) (nI g) 37 b = nI (if v < G then 2 ^ g else if v = G then Q ||| 2 ^ g else Q) := by
    unfold re_m2 re_m1
    rw [y2]
    by_cases c1 : G ≤ v
    · rw [if_pos (nI_le c1 (by omega)), y2]
      by_cases c2 : v = G
      · subst c2
        rw [if_pos rfl, if_neg (by omega), if_pos rfl]
        simp [mx_up, y2, y3, nb_shl (show g < 31 by omega), nI_or]
      · rw [if_neg (fun y => c2 ((nI_eq (by omega) (by omega)).mp y)), if_neg (by omega), if_neg c2, y2, y3, Nat.min_eq_left c1]
        exact ⟨rfl, rfl⟩
    · rw [if_neg (nI_ge (by omega) (by omega))]
      rw [if_pos (show v < G by omega), Nat.min_eq_right (by omega)]
      simp [mx_up, nb_shl (show g < 31 by omega)]
  refine ⟨fun c hc => ?_, fun c hc1 hc2 q hq => ?_⟩
  · by_cases e : c = b
    · subst e
      refine ⟨fun q => if q = g then min (u g) v else u q, min G v, if v < G then 2 ^ g else if v = G then Q ||| 2 ^ g else Q, ?_, at'.1, at'.2, ?_, ?_, ?_, ?_, ?_⟩
      · intro q hq
        try dsimp only
        by_cases e : q = g
        · subst e
          rw [if_pos rfl]
          exact ⟨TT.1, by have := (y1 q (by omega)).2; omega⟩
        · rw [if_neg e, TT.2 _ (by omega)]
          exact y1 q hq
      · have p20 := p31 hg
        split
        · exact p20
        · split
          · exact Nat.or_lt_two_pow y4 p20
          · exact y4
      · intro q hq
        try dsimp only
        have := y5 q hq
        by_cases e : q = g
        · subst e; rw [if_pos rfl]; omega
        · rw [if_neg e]; omega
      · obtain ⟨q0, z1, z2⟩ := y6
        try dsimp only
        have yg := y5 g (by omega)
        by_cases c : v < G
        · exact ⟨g, by omega, by rw [if_pos rfl]; omega⟩
        · by_cases e : q0 = g
          · subst e; exact ⟨q0, by omega, by rw [if_pos rfl]; omega⟩
          · exact ⟨q0, z1, by rw [if_neg e]; omega⟩
      · intro q hq
        try dsimp only
        have yq := y5 q (by omega)
        have yg := y5 g (by omega)
        have y7q := y7 q hq
        by_cases e : q = g
        · subst e
          rw [if_pos rfl]
          by_cases c : v < G
          · rw [if_pos c, Nat.testBit_two_pow]
            simp; omega
          · rw [if_neg c]
            by_cases c2 : v = G
            · rw [if_pos c2, Nat.testBit_or, Nat.testBit_two_pow]
              simp; omega
            · rw [if_neg c2, y7q]
              omega
        · rw [if_neg e]
          by_cases c : v < G
          · rw [if_pos c, Nat.testBit_two_pow]
            simp [Ne.symm e]; omega
          · rw [if_neg c]
            by_cases c2 : v = G
            · rw [if_pos c2, Nat.testBit_or, Nat.testBit_two_pow]
              simp [Ne.symm e, y7q]; omega
            · rw [if_neg c2, y7q]
              omega
      · omega
    · refine fmb_cong (h1 c hc) (off c e).1 (off c e).2 (fun q hq => TT.2 _ (by omega))
  · rw [TT.2 _ (by omega)]
    exact h2 c hc1 hc2 q hq
end MV
