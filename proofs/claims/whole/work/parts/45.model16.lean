/-! PegBoardsModel: freeze, the jumps. -/
section MG
variable {l : Launch} {sc : Nat × (Nat → Int32)} {d : Nat} {M : mx_M}
def mo_jin (B : mx_M) (n : Nat) (x y z : Int32) : mx_M := mx_up (mx_up (mx_up (mx_up B 46 n x) 47 n y) 48 n z) 41 8 (B 41 8 + 1)
def mo_j1 (B : mx_M) (h : Nat) (a b : Int32) : mx_M :=
  if mo_at B (B 44 h + a) (B 45 h + b) < 0 then B else if mo_at B (B 44 h + 2 * a) (B 45 h + 2 * b) < 0 then B else
    mo_jin B (B 41 8).toNatClampNeg (nI h) (mo_at B (B 44 h + a) (B 45 h + b)) (mo_at B (B 44 h + 2 * a) (B 45 h + 2 * b))
def mo_jd (M : mx_M) (h : Nat) : Nat → mx_M
  | 0 => M
  | j + 1 => mo_j1 (mo_jd M h j) h (mo_dn M (nI j)) (mo_rt M (nI j))
def mo_ja (M : mx_M) (t : Nat) : Nat → mx_M
  | 0 => M
  | h + 1 => mo_jd (mo_ja M t h) h t
theorem mo_jin_off {B : mx_M} {n c : Nat} {x y z : Int32} (hc : c ≠ 41 ∧ c ≠ 46 ∧ c ≠ 47 ∧ c ≠ 48) : mo_jin B n x y z c = B c := by
  rw [mo_jin, mx_up_off hc.1, mx_up_off hc.2.2.2, mx_up_off hc.2.2.1, mx_up_off hc.2.1]
theorem mo_jin_41 {B : mx_M} {n c : Nat} {x y z : Int32} (hc : c ≠ 8) : mo_jin B n x y z 41 c = B 41 c := by
  rw [mo_jin, mx_up_row, mx_up_off (by decide), mx_up_off (by decide), mx_up_off (by decide)]
  simp [upd, hc]
theorem mo_jin_8 {B : mx_M} {n : Nat} {x y z : Int32} : mo_jin B n x y z 41 8 = B 41 8 + 1 := by
  rw [mo_jin, mx_up_row]; simp [upd]
theorem mo_j1_off {B : mx_M} {h c : Nat} {a b : Int32} (hc : c ≠ 41 ∧ c ≠ 46 ∧ c ≠ 47 ∧ c ≠ 48) : mo_j1 B h a b c = B c := by
  unfold mo_j1
  split
  · rfl
  split
  · rfl
  · exact mo_jin_off hc
theorem mo_j1_41 {B : mx_M} {h c : Nat} {a b : Int32} (hc : c ≠ 8) : mo_j1 B h a b 41 c = B 41 c := by
  unfold mo_j1
  split
  · rfl
  split
  · rfl
  · exact mo_jin_41 hc
theorem mo_j1_8 {B : mx_M} {h n : Nat} {a b : Int32} (hn : B 41 8 = nI n) : ∃ n', n ≤ n' ∧ n' ≤ n + 1 ∧ mo_j1 B h a b 41 8 = nI n' := by
  unfold mo_j1
  split
  · exact ⟨n, Nat.le_refl n, by omega, hn⟩
  split
  · exact ⟨n, Nat.le_refl n, by omega, hn⟩
  · exact ⟨n + 1, by omega, Nat.le_refl _, by rw [mo_jin_8, hn, nI_1]⟩
theorem mo_jd_off {h c : Nat} (hc : c ≠ 41 ∧ c ≠ 46 ∧ c ≠ 47 ∧ c ≠ 48) : ∀ j, mo_jd M h j c = M c := by
  intro j
  induction j with
  | zero => rfl
  | succ j ih => rw [mo_jd, mo_j1_off hc, ih]
theorem mo_jd_41 {h c : Nat} (hc : c ≠ 8) : ∀ j, mo_jd M h j 41 c = M 41 c := by
  intro j
  induction j with
  | zero => rfl
  | succ j ih => rw [mo_jd, mo_j1_41 hc, ih]
theorem mo_jd_8 {h n : Nat} (hn : M 41 8 = nI n) : ∀ j, ∃ n', n' ≤ n + j ∧ mo_jd M h j 41 8 = nI n' := by
  intro j
  induction j with
  | zero => exact ⟨n, by omega, hn⟩
  | succ j ih =>
    obtain ⟨n1, h1, h2⟩ := ih
    obtain ⟨n2, -, h3, h4⟩ := mo_j1_8 (h := h) (a := mo_dn M (nI j)) (b := mo_rt M (nI j)) h2
    exact ⟨n2, by omega, h4⟩
theorem mo_ja_off {t c : Nat} (hc : c ≠ 41 ∧ c ≠ 46 ∧ c ≠ 47 ∧ c ≠ 48) : ∀ h, mo_ja M t h c = M c := by
  intro h
  induction h with
  | zero => rfl
  | succ h ih => rw [mo_ja, mo_jd_off hc, ih]
theorem mo_ja_41 {t c : Nat} (hc : c ≠ 8) : ∀ h, mo_ja M t h 41 c = M 41 c := by
  intro h
  induction h with
  | zero => rfl
  | succ h ih => rw [mo_ja, mo_jd_41 hc, ih]
theorem mo_ja_8 {t : Nat} (ht : t ≤ 6) (hn : M 41 8 = 0) : ∀ h, ∃ n', n' ≤ 6 * h ∧ mo_ja M t h 41 8 = nI n' := by
  intro h
  induction h with
  | zero => exact ⟨0, by omega, hn⟩
  | succ h ih =>
    obtain ⟨n1, h1, h2⟩ := ih
    obtain ⟨n2, h3, h4⟩ := mo_jd_8 (h := h) h2 t
    exact ⟨n2, by omega, h4⟩
end MG
