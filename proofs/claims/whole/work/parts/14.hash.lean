/-! A table of 1024 slots, looked through from a place on: pure. -/
section HS
def hs_f (S P : Nat → Int32) (p : Int32) : Nat → Nat → Nat
  | 0, t => t
  | m + 1, t => if S t = 0 ∨ P ((S t).toNatClampNeg - 1) = p then t else hs_f S P p m ((t + 1) % 1024)
/-- the table holds the n different positions P 0 .. : each in a slot that can be come to from its first one -/
def hs_ok (h : Int32 → Nat) (S P : Nat → Int32) (n : Nat) : Prop :=
  n ≤ 500 ∧ (∀ p, h p < 1024) ∧ (∀ t, t < 1024 → S t = 0 ∨ ∃ i, i < n ∧ S t = nI (i + 1)) ∧
  (∀ i, i < n → ∃ k, k < 1024 ∧ S ((h (P i) + k) % 1024) = nI (i + 1) ∧ ∀ j, j < k → ¬ S ((h (P i) + j) % 1024) = 0) ∧
  (∀ t u, t < 1024 → u < 1024 → S t = S u → ¬ S t = 0 → t = u) ∧ ∀ i j, i < n → j < n → P i = P j → i = j
theorem hs_walk {S P : Nat → Int32} {p : Int32} : ∀ (m t : Nat), t < 1024 → (∃ k, k < m ∧ (S ((t + k) % 1024) = 0 ∨ P ((S ((t + k) % 1024)).toNatClampNeg - 1) = p)) →
    ∃ k, k < m ∧ hs_f S P p m t = (t + k) % 1024 ∧ (S ((t + k) % 1024) = 0 ∨ P ((S ((t + k) % 1024)).toNatClampNeg - 1) = p) ∧ ∀ j, j < k → ¬ (S ((t + j) % 1024) = 0 ∨ P ((S ((t + j) % 1024)).toNatClampNeg - 1) = p) := by
  intro m
  induction m with
  | zero => intro t _ h; obtain ⟨k, hk, -⟩ := h; omega
  | succ m ih =>
    intro t ht h
    by_cases h0 : S t = 0 ∨ P ((S t).toNatClampNeg - 1) = p
    · refine ⟨0, by omega, ?_, ?_, fun j hj => by omega⟩
      · rw [hs_f, if_pos h0, Nat.add_zero, Nat.mod_eq_of_lt ht]
      · rw [Nat.add_zero, Nat.mod_eq_of_lt ht]; exact h0
    · obtain ⟨k, hk, hs⟩ := h
      cases k with
      | zero => rw [Nat.add_zero, Nat.mod_eq_of_lt ht] at hs; exact absurd hs h0
      | succ k =>
        have e : ∀ j, ((t + 1) % 1024 + j) % 1024 = (t + (j + 1)) % 1024 := fun j => by omega
        obtain ⟨k', h1, h2, h3, h4⟩ := ih ((t + 1) % 1024) (by omega) ⟨k, by omega, by rw [e k]; exact hs⟩
        refine ⟨k' + 1, by omega, ?_, ?_, ?_⟩
        · rw [hs_f, if_neg h0, h2, e]
        · rw [← e]; exact h3
        · intro j hj
          cases j with
          | zero => rw [Nat.add_zero, Nat.mod_eq_of_lt ht]; exact h0
          | succ j => rw [← e]; exact h4 j (by omega)
theorem hs_free {h : Int32 → Nat} {S P : Nat → Int32} {n : Nat} (ok : hs_ok h S P n) : ∃ t, t < 1024 ∧ S t = 0 := by
  obtain ⟨h1, -, h3, -, h5, -⟩ := ok
  apply Classical.byContradiction
  intro hno
  have hf : ∀ t, t < 1024 → ¬ S t = 0 := fun t ht h0 => hno ⟨t, ht, h0⟩
  have hd : ((List.range 1024).map (fun t => (S t).toNatClampNeg)).Nodup := by
    show List.Pairwise _ _
    rw [List.pairwise_map]
    refine List.Pairwise.imp_of_mem ?_ (List.nodup_range (n := 1024))
    intro a b ha hb hab e
    have ha := List.mem_range.mp ha
    have hb := List.mem_range.mp hb
    obtain ⟨i, hi, ei⟩ := (h3 a ha).resolve_left (hf a ha)
    obtain ⟨j, hj, ej⟩ := (h3 b hb).resolve_left (hf b hb)
    rw [ei, ej, nI_clamp (by omega), nI_clamp (by omega)] at e
    exact hab (h5 a b ha hb (by rw [ei, ej, e]) (hf a ha))
  have hs : ((List.range 1024).map (fun t => (S t).toNatClampNeg)) ⊆ List.range 501 := by
    intro x hx
    obtain ⟨t, ht, rfl⟩ := List.mem_map.mp hx
    have ht := List.mem_range.mp ht
    obtain ⟨i, hi, ei⟩ := (h3 t ht).resolve_left (hf t ht)
    rw [ei, nI_clamp (by omega)]
    exact List.mem_range.mpr (by omega)
  have := hd.length_le_of_subset hs
  simp at this
/-- what is found: the slot that has the position, or a free one -/
theorem hs_find {h : Int32 → Nat} {S P : Nat → Int32} {n : Nat} (ok : hs_ok h S P n) (p : Int32) :
    ∃ k, k < 1024 ∧ hs_f S P p 1024 (h p) = (h p + k) % 1024 ∧ (∀ j, j < k → ¬ S ((h p + j) % 1024) = 0 ∧ ¬ P ((S ((h p + j) % 1024)).toNatClampNeg - 1) = p) ∧
      ((S ((h p + k) % 1024) = 0 ∧ ∀ i, i < n → ¬ P i = p) ∨ ∃ i, i < n ∧ P i = p ∧ S ((h p + k) % 1024) = nI (i + 1)) := by
  obtain ⟨u, hu, hu0⟩ := hs_free ok
  obtain ⟨h1, h2, h3, h4, h5, h6⟩ := ok
  have hp := h2 p
  obtain ⟨k, k1, k2, k3, k4⟩ := hs_walk (S := S) (P := P) (p := p) 1024 (h p) hp ⟨(u + 1024 - h p) % 1024, Nat.mod_lt _ (by decide), Or.inl (by
    rw [show (h p + (u + 1024 - h p) % 1024) % 1024 = u by omega]; exact hu0)⟩
  refine ⟨k, k1, k2, fun j hj => ⟨fun q => k4 j hj (Or.inl q), fun q => k4 j hj (Or.inr q)⟩, ?_⟩
  by_cases hz : S ((h p + k) % 1024) = 0
  · refine Or.inl ⟨hz, fun i hi e => ?_⟩
    obtain ⟨k', q1, q2, q3⟩ := h4 i hi
    rw [e] at q2 q3
    by_cases hlt : k' < k
    · refine k4 k' hlt (Or.inr ?_)
      rw [q2, nI_clamp (by omega)]
      exact e
    · by_cases he : k = k'
      · rw [he, q2] at hz
        exact nI_ne0 (by omega) (by omega) hz
      · exact q3 k (by omega) hz
  · obtain ⟨i, hi, ei⟩ := (h3 _ (Nat.mod_lt _ (by decide))).resolve_left hz
    refine Or.inr ⟨i, hi, ?_, ei⟩
    have := k3.resolve_left hz
    rw [ei, nI_clamp (by omega)] at this
    exact this
theorem hs_add {h : Int32 → Nat} {S P : Nat → Int32} {n : Nat} (ok : hs_ok h S P n) (hn : n < 500) {p : Int32} (hp : ∀ i, i < n → ¬ P i = p) : hs_ok h (upd S (hs_f S P p 1024 (h p)) (nI (n + 1))) (upd P n p) (n + 1) := by
  obtain ⟨k, k1, k2, k3, k4⟩ := hs_find ok p
  have hz : S ((h p + k) % 1024) = 0 := by
    rcases k4 with ⟨q, -⟩ | ⟨i, hi, e, -⟩
    · exact q
    · exact absurd e (hp i hi)
  obtain ⟨h1, h2, h3, h4, h5, h6⟩ := ok
  rw [k2]
  have hlt : (h p + k) % 1024 < 1024 := Nat.mod_lt _ (by decide)
  generalize hu : (h p + k) % 1024 = u at hz hlt
  have hne : ∀ i, i < n → ¬ nI (i + 1) = nI (n + 1) := fun i hi e => by
    have := (nI_eq (by omega) (by omega)).mp e
    omega
  refine ⟨by omega, h2, fun t ht => ?_, fun i hi => ?_, fun t w ht hw e1 e2 => ?_, fun i j hi hj e => ?_⟩
  · by_cases e : t = u
    · exact Or.inr ⟨n, by omega, by simp [upd, e]⟩
    · rcases h3 t ht with q | ⟨i, hi, q⟩
      · exact Or.inl (by simp [upd, e, q])
      · exact Or.inr ⟨i, by omega, by simp [upd, e, q]⟩
  · by_cases e : i = n
    · subst e
      refine ⟨k, k1, by simp [upd, hu], fun j hj => ?_⟩
      simp only [upd, if_pos]
      by_cases e2 : (h p + j) % 1024 = u
      · simp [e2]; exact nI_ne0 (by omega) (by omega)
      · simp [e2]; exact (k3 j hj).1
    · obtain ⟨k', q1, q2, q3⟩ := h4 i (by omega)
      have e3 : upd P n p i = P i := by simp [upd, e]
      rw [e3]
      refine ⟨k', q1, ?_, fun j hj => ?_⟩
      · have : (h (P i) + k') % 1024 ≠ u := fun e2 => by rw [e2, hz] at q2; exact nI_ne0 (n := i + 1) (by omega) (by omega) q2.symm
        simp [upd, this, q2]
      · by_cases e2 : (h (P i) + j) % 1024 = u
        · simp [upd, e2]; exact nI_ne0 (by omega) (by omega)
        · simp [upd, e2]; exact q3 j hj
  · by_cases a : t = u <;> by_cases b : w = u
    · rw [a, b]
    · simp only [upd, a, b, if_true, if_false] at e1 e2
      rcases h3 w hw with q | ⟨i, hi, q⟩
      · rw [q] at e1; exact absurd e1 e2
      · rw [q] at e1; exact absurd e1.symm (hne i hi)
    · simp only [upd, a, b, if_true, if_false] at e1 e2
      rcases h3 t ht with q | ⟨i, hi, q⟩
      · exact absurd q e2
      · rw [q] at e1; exact absurd e1 (hne i hi)
    · simp only [upd, a, b, if_false] at e1 e2
      exact h5 t w ht hw e1 e2
  · by_cases a : i = n <;> by_cases b : j = n
    · rw [a, b]
    · simp only [upd, a, b, if_true, if_false] at e
      exact absurd e.symm (hp j (by omega))
    · simp only [upd, a, b, if_true, if_false] at e
      exact absurd e (hp i (by omega))
    · simp only [upd, a, b, if_false] at e
      exact h6 i j (by omega) (by omega) e
theorem hs_nil {h : Int32 → Nat} {S P : Nat → Int32} (hh : ∀ p, h p < 1024) (hS : ∀ t, t < 1024 → S t = 0) : hs_ok h S P 0 :=
  ⟨by omega, hh, fun t ht => Or.inl (hS t ht), fun i hi => by omega, fun t _ ht _ _ h => absurd (hS t ht) h, fun i j hi => by omega⟩
theorem hs_lt {S P : Nat → Int32} {p : Int32} : ∀ (m t : Nat), t < 1024 → hs_f S P p m t < 1024 := by
  intro m
  induction m with
  | zero => intro t ht; exact ht
  | succ m ih =>
    intro t ht
    rw [hs_f]
    split
    · exact ht
    · exact ih _ (Nat.mod_lt _ (by decide))
end HS
