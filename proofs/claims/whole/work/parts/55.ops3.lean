/-! Parity's call, weights: the class in A, the model in B. -/
section OR
variable {A B A' B' : mx_M} {D : Nat → Bool} {N J S sa ga : Nat} {fr ov tt : Nat → Nat} {im : Nat → Nat → Nat}
theorem pr_cong {f g f' g' : Nat → Int32} {p : Int32} : ∀ h, (∀ i, i < h → f i = f' i ∧ g i = g' i) → pg_cls f g p h = pg_cls f' g' p h
  | 0, _ => rfl
  | h + 1, q => by
    rw [pg_cls, pg_cls, pr_cong h (fun i hi => q i (by omega)), (q h (by omega)).1, (q h (by omega)).2]
theorem pr_zero {f g : Nat → Int32} : ∀ h, h ≤ 20 → pg_cls f g (nI 0) h = 0
  | 0, _ => rfl
  | h + 1, q => by
    rw [pg_cls, pr_zero h (by omega), nb_has (by decide) (by omega), if_pos]
    simp [nb, nI_0]
/-- the class gives its method iv_H holes, the model N -/
theorem op_parity (h : iv A B D N J S fr ov tt im sa ga) (p : Int32) : ag1 (pe_parity A p (iv_H A N)) xIA ((mo_parity B p N).2 41 0) (mo_parity B p N).1 ∧ IV A (mo_parity B p N).2 := by
  unfold pe_parity mo_parity
  rw [h.t2]
  have n20 := h.n20
  by_cases hp : p &&& (pe_all A ^^^ (-1)) = 0
  · rw [if_pos hp, if_pos ((iv_posI h p).mp hp)]
    obtain ⟨a, ha, rfl⟩ := (iv_pos h p).1.mp hp
    have e : pg_cls (A 3) (A 4) (nI a) (iv_H A N) = mo_pr (B 44) (B 45) (nI a) N := by
      rw [← pr_eq _ _ _ N n20]
      by_cases u : A 1 4 = 0
      · rw [iv_H, if_pos u] at ha
        have : a = 0 := by omega
        subst this
        rw [pr_zero _ (iv_H20 h), pr_zero _ n20]
      · rw [iv_H, if_neg u]
        apply pr_cong
        intro i hi
        obtain ⟨r, c, _, _, e1, e2, e3, e4⟩ := h.rc u i hi
        exact ⟨by rw [e1, e2], by rw [e3, e4]⟩
    rw [e]
    exact ⟨Or.inl ⟨rfl, rfl⟩, _, _, _, _, _, _, _, _, _, _, iv_up h 0⟩
  · rw [if_neg hp, if_neg (fun y => hp ((iv_posI h p).mpr y))]
    exact ⟨Or.inr ⟨rfl, rfl⟩, _, _, _, _, _, _, _, _, _, _, iv_up h 1⟩
theorem iv_hole (h : iv A B D N J S fr ov tt im sa ga) (k : Int32) : (¬ k < 0 ∧ k < pe_H A) ↔ (¬ B 41 2 = 0 ∧ ¬ k < 0 ∧ k < B 41 3) := by
  rw [iv_peH h, h.f2, h.n2, iv_H]
  by_cases u : A 1 4 = 0
  · rw [if_pos u]
    constructor
    · intro y
      exact absurd y.2 (by rw [nI_0]; exact y.1)
    · intro y
      exact absurd u y.1
  · rw [if_neg u]
    exact ⟨fun y => ⟨u, y⟩, fun y => y.2⟩
theorem op_weight (h : iv A B D N J S fr ov tt im sa ga) (q w : Int32) : agv (pe_weight A q w).1 xIO xIA (mo_weight B q w 41 0) ∧ IV (pe_weight A q w).2 (mo_weight B q w) := by
  unfold pe_weight mo_weight
  by_cases hq : ¬ q < 0 ∧ q < pe_H A
  · rw [if_pos hq, if_pos ((iv_hole h q).mp hq)]
    by_cases hw : w < 0 ∨ ¬ w ≤ 60
    · rw [if_pos hw, if_pos hw]
      exact ⟨Or.inr (Or.inr ⟨rfl, rfl⟩), _, _, _, _, _, _, _, _, _, _, iv_up h 2⟩
    · rw [if_neg hw, if_neg hw]
      refine ⟨Or.inl ⟨rfl, rfl⟩, D, N, J, S, fr, ov, tt, im, sa, ga, ?_⟩
      generalize q.toNatClampNeg = i
      refine iv.mk' ?iv_t ?iv_t2 ?iv_f ?iv_f2 ?iv_n ?iv_n2 ?iv_nD ?iv_n20 ?iv_d ?iv_d2 ?iv_j ?iv_j2 ?iv_j120 ?iv_jk ?iv_jk2 ?iv_jb ?iv_s ?iv_s2 ?iv_s12 ?iv_sk ?iv_si ?iv_un ?iv_fz ?iv_nb ?iv_rc ?iv_a ?iv_a2 ?iv_ab ?iv_g ?iv_g2 ?iv_gb ?iv_w
      case iv_w =>
        intro j hj
        show mx_up A 39 i w 39 j = mx_up (mx_up B 41 0 0) 52 i w 52 j
        rw [mx_up_row, mx_up_row, mx_up_off (by decide)]
        unfold upd
        rw [h.w j hj]
      case iv_t => exact h.t
      case iv_t2 => exact h.t2
      case iv_f => exact h.f
      case iv_f2 => exact h.f2
      case iv_n => exact h.n
      case iv_n2 => exact h.n2
      case iv_nD => exact h.nD
      case iv_n20 => exact h.n20
      case iv_d => exact h.d
      case iv_d2 => exact h.d2
      case iv_j => exact h.j
      case iv_j2 => exact h.j2
      case iv_j120 => exact h.j120
      case iv_jk => exact h.jk
      case iv_jk2 => exact h.jk2
      case iv_jb => exact h.jb
      case iv_s => exact h.s
      case iv_s2 => exact h.s2
      case iv_s12 => exact h.s12
      case iv_sk =>
        intro k q hk hq
        have := h.s12
        show mx_up A 39 i w (13 + k) q = _ ∧ _
        rw [mx_up_off (show 13 + k ≠ 39 by omega)]
        exact h.sk k q hk hq
      case iv_si => exact h.si
      case iv_un => exact h.un
      case iv_fz => exact h.fz
      case iv_nb => exact h.nb
      case iv_rc => exact h.rc
      case iv_a => exact h.a
      case iv_a2 => exact h.a2
      case iv_ab => exact h.ab
      case iv_g => exact h.g
      case iv_g2 => exact h.g2
      case iv_gb => exact h.gb
  · rw [if_neg hq, if_neg (fun y => hq ((iv_hole h q).mpr y))]
    exact ⟨Or.inr (Or.inl ⟨rfl, rfl⟩), _, _, _, _, _, _, _, _, _, _, iv_up h 1⟩
theorem su_eq {f g : Nat → Int32} {p : Int32} : ∀ h, (∀ i, i < h → f i = g i) → we_sum f p h = mo_sum g p h
  | 0, _ => rfl
  | h + 1, q => by
    rw [we_sum, mo_sum, su_eq h (fun i hi => q i (by omega)), q h (by omega)]
    rcases mo_has p (nI h) with ⟨q1, q2⟩ | ⟨q1, q2⟩
    · rw [if_pos q1, q2, Int32.zero_mul, Int32.add_zero]
    · rw [if_neg q1, q2, Int32.one_mul]
theorem hd_we {f : Nat → Int32} {fr ov tt : Nat → Nat} : ∀ m k, we_hold f fr ov tt m k = @ite Int32 (∀ i, k ≤ i → i < k + m → f (tt i) ≤ f (fr i) + f (ov i)) (Classical.propDecidable _) 1 0
  | 0, k => by rw [we_hold, if_pos (fun i h1 h2 => by omega)]
  | m + 1, k => by
    rw [we_hold, hd_we m (k + 1)]
    by_cases c : f (tt k) ≤ f (fr k) + f (ov k)
    · rw [if_pos c]
      by_cases e : ∀ i, k + 1 ≤ i → i < k + 1 + m → f (tt i) ≤ f (fr i) + f (ov i)
      · rw [if_pos e, if_pos]
        intro i h1 h2
        by_cases z : i = k
        · subst z; exact c
        · exact e i (by omega) (by omega)
      · rw [if_neg e, if_neg (fun y => e (fun i h1 h2 => y i (by omega) (by omega)))]
    · rw [if_neg c, if_neg (fun y => c (y k (by omega) (by omega)))]
theorem hd_mo {f : Nat → Int32} {fr ov tt : Nat → Nat} : ∀ k, mo_hd f fr ov tt k = @ite Int32 (∀ i, i < k → f (tt i) ≤ f (fr i) + f (ov i)) (Classical.propDecidable _) 1 0
  | 0 => by rw [mo_hd, if_pos (fun i h => by omega)]
  | k + 1 => by
    rw [mo_hd, hd_mo k]
    by_cases e : ∀ i, i < k → f (tt i) ≤ f (fr i) + f (ov i)
    · rw [if_pos e, if_neg (by decide)]
      by_cases c : f (tt k) ≤ f (fr k) + f (ov k)
      · rw [if_pos c, if_pos]
        intro i h
        by_cases z : i = k
        · subst z; exact c
        · exact e i (by omega)
      · rw [if_neg c, if_neg (fun y => c (y k (by omega)))]
    · rw [if_neg e, if_pos rfl, if_neg (fun y => e (fun i h => y i (by omega)))]
theorem op_hd (h : iv A B D N J S fr ov tt im sa ga) : we_hold (A 39) fr ov tt J 0 = mo_hd (B 52) fr ov tt J := by
  rw [hd_we, hd_mo]
  have n20 := h.n20
  have e : ∀ i, i < J → (A 39 (tt i) ≤ A 39 (fr i) + A 39 (ov i) ↔ B 52 (tt i) ≤ B 52 (fr i) + B 52 (ov i)) := by
    intro i hi
    obtain ⟨b1, b2, b3, _⟩ := h.jb i hi
    rw [h.w _ (show tt i < 20 by omega), h.w _ (show fr i < 20 by omega), h.w _ (show ov i < 20 by omega)]
  by_cases c : ∀ i, i < J → B 52 (tt i) ≤ B 52 (fr i) + B 52 (ov i)
  · rw [if_pos c, if_pos (fun i _ h2 => (e i (by omega)).mpr (c i (by omega)))]
  · rw [if_neg c, if_neg (fun y => c (fun i h2 => (e i h2).mp (y i (by omega) (by omega))))]
theorem op_weights (h : iv A B D N J S fr ov tt im sa ga) (w : Int32) : ag1 (pe_weights A fr ov tt J w) xIO ((mo_weights B fr ov tt J w).2 41 0) (mo_weights B fr ov tt J w).1 ∧ IV A (mo_weights B fr ov tt J w).2 := by
  unfold pe_weights mo_weights
  rw [op_hd h, su_eq 20 h.w, su_eq 20 h.w, h.a, h.g, h.a2, h.g2]
  by_cases w0 : w < 0
  · rw [if_neg (by rintro rfl; exact absurd w0 (by decide)), if_neg (by rintro rfl; exact absurd w0 (by decide)), if_neg (by rintro rfl; exact absurd w0 (by decide)), if_pos w0, if_pos w0]
    exact ⟨Or.inr ⟨rfl, rfl⟩, _, _, _, _, _, _, _, _, _, _, iv_up h 1⟩
  · rw [if_neg w0]
    by_cases w2 : w ≤ 2
    · rw [if_pos w2]
      rcases w3_of w0 w2 with rfl | rfl | rfl
      · exact ⟨Or.inl ⟨rfl, rfl⟩, _, _, _, _, _, _, _, _, _, _, iv_up h 0⟩
      · exact ⟨Or.inl ⟨rfl, rfl⟩, _, _, _, _, _, _, _, _, _, _, iv_up h 0⟩
      · exact ⟨Or.inl ⟨rfl, rfl⟩, _, _, _, _, _, _, _, _, _, _, iv_up h 0⟩
    · obtain ⟨z0, z1, z2⟩ := w3_no w2
      rw [if_neg w2, if_neg z0, if_neg z1, if_neg z2, if_neg w0]
      by_cases hq : ¬ w - 3 < 0 ∧ w - 3 < pe_H A
      · rw [if_pos hq, if_pos ((iv_hole h _).mp hq)]
        rw [iv_peH h] at hq
        have := iv_H20 h
        obtain ⟨i, hi, e⟩ := nI_inJ (by omega) hq
        rw [e, nI_clamp (by omega), h.w i (by omega)]
        exact ⟨Or.inl ⟨rfl, rfl⟩, _, _, _, _, _, _, _, _, _, _, iv_up h 0⟩
      · rw [if_neg hq, if_neg (fun y => hq ((iv_hole h _).mpr y))]
        exact ⟨Or.inr ⟨rfl, rfl⟩, _, _, _, _, _, _, _, _, _, _, iv_up h 1⟩
end OR
