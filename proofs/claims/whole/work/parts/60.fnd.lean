/-! Finding weights: the class's search and the model's count to base 3. -/
section FD
/-- the weight of hole j in trial v -/
def dg (H v j : Nat) : Nat := v / 3 ^ (H - 1 - j) % 3
def gn (s g j : Nat) : Int := (nb g j : Int) - nb s j
def le3 (H s g v : Nat) : Nat → Int
  | 0 => 0
  | h + 1 => le3 H s g v h + (dg H v h : Int) * gn s g h
def cd3 (H v : Nat) (fr ov tt : Nat → Nat) (i : Nat) : Prop := dg H v (tt i) ≤ dg H v (fr i) + dg H v (ov i)
def fit (H J s g : Nat) (fr ov tt : Nat → Nat) (v : Nat) : Prop := (∀ i, i < J → cd3 H v fr ov tt i) ∧ 0 < le3 H s g v H
theorem dg_lt (H v j : Nat) : dg H v j < 3 := Nat.mod_lt _ (by decide)
theorem gn_b (s g j : Nat) : -1 ≤ gn s g j ∧ gn s g j ≤ 1 := by
  unfold gn
  rcases nb_01 g j with e | e <;> rcases nb_01 s j with e2 | e2 <;> rw [e, e2] <;> decide
theorem mul_b {d : Nat} {z : Int} (hd : d < 3) (h1 : -1 ≤ z) (h2 : z ≤ 1) : -2 ≤ (d : Int) * z ∧ (d : Int) * z ≤ 2 := by
  have a : d = 0 ∨ d = 1 ∨ d = 2 := by omega
  have b : z = -1 ∨ z = 0 ∨ z = 1 := by omega
  rcases a with rfl | rfl | rfl <;> rcases b with rfl | rfl | rfl <;> decide
theorem le3_b (H s g v : Nat) : ∀ h : Nat, -2 * (h : Int) ≤ le3 H s g v h ∧ le3 H s g v h ≤ 2 * (h : Int)
  | 0 => by simp [le3]
  | h + 1 => by
    have := le3_b H s g v h
    have b := mul_b (dg_lt H v h) (gn_b s g h).1 (gn_b s g h).2
    rw [le3]
    omega
/-- the prefix of a trial -/
theorem dg_pre {H h v0 v : Nat} (hh : h ≤ H) (hd : 3 ^ (H - h) ∣ v0) (h1 : v0 ≤ v) (h2 : v < v0 + 3 ^ (H - h)) : ∀ j, j < h → dg H v j = dg H v0 j := by
  intro j hj
  unfold dg
  have e : 3 ^ (H - 1 - j) = 3 ^ (H - h) * 3 ^ (h - 1 - j) := by
    rw [← Nat.pow_add]; congr 1; omega
  rw [e, ← Nat.div_div_eq_div_mul, ← Nat.div_div_eq_div_mul]
  obtain ⟨y, rfl⟩ := hd
  have hp : 0 < 3 ^ (H - h) := Nat.pow_pos (by decide)
  have e2 : v / 3 ^ (H - h) = y := by
    apply Nat.div_eq_of_lt_le
    · rw [Nat.mul_comm]; exact h1
    · rw [Nat.succ_mul, Nat.mul_comm]; exact h2
  rw [e2, Nat.mul_div_cancel_left _ hp]
theorem dg_ch {H h v0 w : Nat} (hh : h < H) (hd : 3 ^ (H - h) ∣ v0) (hw : w < 3) : dg H (v0 + w * 3 ^ (H - (h + 1))) h = w ∧ 3 ^ (H - (h + 1)) ∣ v0 + w * 3 ^ (H - (h + 1)) := by
  have hp : 0 < 3 ^ (H - (h + 1)) := Nat.pow_pos (by decide)
  have e : 3 ^ (H - h) = 3 ^ (H - (h + 1)) * 3 := by
    rw [← Nat.pow_succ]; congr 1; omega
  obtain ⟨y, rfl⟩ := hd
  rw [e]
  constructor
  · unfold dg
    rw [show H - 1 - h = H - (h + 1) from by omega, show 3 ^ (H - (h + 1)) * 3 * y + w * 3 ^ (H - (h + 1)) = 3 ^ (H - (h + 1)) * (3 * y + w) from by rw [Nat.mul_add, Nat.mul_assoc, Nat.mul_comm w], Nat.mul_div_cancel_left _ hp]
    omega
  · exact ⟨3 * y + w, by rw [Nat.mul_add, Nat.mul_assoc, Nat.mul_comm w]⟩
theorem le3_pre {H s g v v0 : Nat} : ∀ h, (∀ j, j < h → dg H v j = dg H v0 j) → le3 H s g v h = le3 H s g v0 h
  | 0, _ => rfl
  | h + 1, q => by rw [le3, le3, le3_pre h (fun j hj => q j (by omega)), q h (by omega)]
/-- holes that only the goal has, from h on -/
def cg (s g : Nat) : Nat := g ^^^ (g &&& s)
theorem cg_nb (s g j : Nat) : gn s g j ≤ (nb (cg s g) j : Int) := by
  unfold gn
  rw [nb_t, nb_t, nb_t, cg, Nat.testBit_xor, Nat.testBit_and]
  cases g.testBit j <;> cases s.testBit j <;> decide
theorem cg_lt {s g H : Nat} (hg : g < 2 ^ H) : cg s g < 2 ^ H := Nat.xor_lt_two_pow hg (Nat.lt_of_le_of_lt Nat.and_le_left hg)
theorem cg_pp {c h : Nat} (hc : c < 2 ^ 20) : pp_n 24 (c / 2 ^ h) = nb c h + pp_n 24 (c / 2 ^ (h + 1)) := by
  have e1 : pp_n 24 (c / 2 ^ h) = (c / 2 ^ h) % 2 + pp_n 23 (c / 2 ^ h / 2) := rfl
  have e2 : pp_n 24 (c / 2 ^ (h + 1)) = pp_n 23 (c / 2 ^ (h + 1)) + pp_n 1 (c / 2 ^ (h + 1) / 2 ^ 23) := pp_add 23 1 (c / 2 ^ (h + 1))
  have e3 : c / 2 ^ (h + 1) / 2 ^ 23 = 0 := by
    rw [Nat.div_div_eq_div_mul]
    apply Nat.div_eq_of_lt
    have : 1 ≤ 2 ^ (h + 1) := Nat.one_le_two_pow
    have := Nat.mul_le_mul_right (2 ^ 23) this
    omega
  rw [e3] at e2
  have e4 : pp_n 1 0 = 0 := rfl
  rw [e4, Nat.add_zero] at e2
  rw [e1, e2, nb, Nat.div_div_eq_div_mul, ← Nat.pow_succ, Nat.add_zero]
theorem le3_up {H s g v : Nat} (hH : H ≤ 8) (hg : g < 2 ^ H) : ∀ m h, H - h = m → h ≤ H → le3 H s g v H ≤ le3 H s g v h + 2 * (pp_n 24 (cg s g / 2 ^ h) : Int)
  | 0, h, e, hh => by
    have : h = H := by omega
    subst this
    omega
  | m + 1, h, e, hh => by
    have c20 : cg s g < 2 ^ 20 := Nat.lt_of_lt_of_le (cg_lt hg) (Nat.pow_le_pow_right (by decide) (by omega))
    have ih := le3_up (v := v) (s := s) hH hg m (h + 1) (by omega) (by omega)
    rw [cg_pp c20]
    rw [le3] at ih
    have d3 := dg_lt H v h
    have q : (dg H v h : Int) * gn s g h ≤ 2 * (nb (cg s g) h : Int) := by
      have b := cg_nb s g h
      have b2 := gn_b s g h
      have z : (nb (cg s g) h : Int) = 0 ∨ (nb (cg s g) h : Int) = 1 := by rcases nb_01 (cg s g) h with e | e <;> rw [e] <;> simp
      rcases z with z | z
      · rw [z] at b ⊢
        have : gn s g h = 0 ∨ gn s g h = -1 := by omega
        rcases this with y | y <;> rw [y] <;> omega
      · rw [z]
        have := (mul_b d3 b2.1 b2.2).2
        omega
    have : (((nb (cg s g) h + pp_n 24 (cg s g / 2 ^ (h + 1)) : Nat)) : Int) = (nb (cg s g) h : Int) + (pp_n 24 (cg s g / 2 ^ (h + 1)) : Int) := by omega
    rw [this]
    omega
theorem cg_0 {H s g : Nat} (hg : g < 2 ^ H) : pp_n 24 (cg s g / 2 ^ H) = 0 := by
  rw [Nat.div_eq_of_lt (cg_lt hg)]
  rfl
theorem cg_I {s g : Nat} : nI g &&& (nI s ^^^ (-1)) = nI (cg s g) := by
  rw [cg, ← nI_xor, ← pq_and]
  apply Int32.toBitVec_inj.mp
  rw [Int32.toBitVec_and, Int32.toBitVec_xor, Int32.toBitVec_xor, Int32.toBitVec_and, show (-1 : Int32).toBitVec = BitVec.allOnes 32 from by decide]
  apply BitVec.eq_of_getElem_eq
  intro i hi
  simp only [BitVec.getElem_and, BitVec.getElem_xor, BitVec.getElem_allOnes]
  cases (nI g).toBitVec[i] <;> cases (nI s).toBitVec[i] <;> rfl
theorem pp_le : ∀ k n, pp_n k n ≤ k
  | 0, _ => Nat.le_refl 0
  | k + 1, n => by
    have := pp_le k (n / 2)
    rw [pp_n]
    omega
theorem nI_ofInt (n : Nat) : nI n = Int32.ofInt (n : Int) := Int32.ofInt_eq_ofNat.symm
theorem oI_pos {z : Int} (h1 : -1000 ≤ z) (h2 : z ≤ 1000) : 0 < Int32.ofInt z ↔ 0 < z := by
  rw [Int32.lt_iff_toInt_lt, Int32.toInt_ofInt_of_le (by omega) (by omega), Int32.toInt_zero]
/-- the lead of a prefix, with what can still come -/
theorem ld_I {H s g v h : Nat} (hh : h ≤ H) (hH : H ≤ 8) (hg : g < 2 ^ H) : 0 < Int32.ofInt (le3 H s g v h) + 2 * pq_bc ((nI g &&& (nI s ^^^ (-1))) >>> (nI h &&& 31)) ↔ 0 < le3 H s g v h + 2 * (pp_n 24 (cg s g / 2 ^ h) : Int) := by
  have c20 : cg s g < 2 ^ 20 := Nat.lt_of_lt_of_le (cg_lt hg) (Nat.pow_le_pow_right (by decide) (by omega))
  have c24 : cg s g / 2 ^ h < 16777216 := Nat.lt_of_le_of_lt (Nat.div_le_self _ _) (by omega)
  rw [cg_I, pk_shrN (by omega) _ h (nb_s h (by omega)), pq_ok c24]
  have b := le3_b H s g v h
  have p := pp_le 24 (cg s g / 2 ^ h)
  rw [show (2 : Int32) * nI (pp_n 24 (cg s g / 2 ^ h)) = Int32.ofInt (2 * (pp_n 24 (cg s g / 2 ^ h) : Int)) from by rw [Int32.ofInt_mul, nI_ofInt]; rfl, ← Int32.ofInt_add]
  exact oI_pos (by omega) (by omega)
theorem gn_I {s g h : Nat} (hs : s < 2 ^ 31) (hg : g < 2 ^ 31) (hh : h < 31) : pg_has (nI g) (nI h) - pg_has (nI s) (nI h) = Int32.ofInt (gn s g h) := by
  rw [nb_has hg hh, nb_has hs hh, gn, Int32.ofInt_sub, ← nI_ofInt, ← nI_ofInt]
theorem we_tryI {f : Nat → Int32} {fr ov tt : Nat → Nat} {h : Nat} : ∀ m k, (we_try f fr ov tt h m k = 0 ↔ ∃ i, k ≤ i ∧ i < k + m ∧ we_mx (fr i) (we_mx (ov i) (tt i)) = h ∧ ¬ f (tt i) ≤ f (fr i) + f (ov i))
  | 0, k => ⟨fun q => absurd (show (1 : Int32) = 0 from q) (by decide), fun ⟨i, h1, h2, _⟩ => by omega⟩
  | m + 1, k => by
    rw [we_try]
    by_cases c : we_mx (fr k) (we_mx (ov k) (tt k)) = h ∧ ¬ f (tt k) ≤ f (fr k) + f (ov k)
    · rw [if_pos c]
      exact ⟨fun _ => ⟨k, by omega, by omega, c⟩, fun _ => rfl⟩
    · rw [if_neg c, we_tryI m (k + 1)]
      constructor
      · rintro ⟨i, h1, h2, h3⟩
        exact ⟨i, by omega, by omega, h3⟩
      · rintro ⟨i, h1, h2, h3⟩
        refine ⟨i, ?_, by omega, h3⟩
        have : i ≠ k := by rintro rfl; exact c h3
        omega
theorem mx_le (a b c : Nat) : a ≤ we_mx a (we_mx b c) ∧ b ≤ we_mx a (we_mx b c) ∧ c ≤ we_mx a (we_mx b c) := by
  unfold we_mx
  split <;> split <;> omega
theorem cd3_I {f : Nat → Int32} {H v i : Nat} {fr ov tt : Nat → Nat} (h1 : f (fr i) = nI (dg H v (fr i))) (h2 : f (ov i) = nI (dg H v (ov i))) (h3 : f (tt i) = nI (dg H v (tt i))) : f (tt i) ≤ f (fr i) + f (ov i) ↔ cd3 H v fr ov tt i := by
  have a := dg_lt H v (fr i)
  have b := dg_lt H v (ov i)
  have c := dg_lt H v (tt i)
  rw [h1, h2, h3, nI_add, nI_leI (by omega) (by omega)]
  rfl
theorem cd3_c {H v v' i h : Nat} {fr ov tt : Nat → Nat} (q : ∀ j, j < h → dg H v j = dg H v' j) (hi : we_mx (fr i) (we_mx (ov i) (tt i)) < h) : cd3 H v fr ov tt i ↔ cd3 H v' fr ov tt i := by
  have m := mx_le (fr i) (ov i) (tt i)
  unfold cd3
  rw [q _ (by omega), q _ (by omega), q _ (by omega)]
/-- the first that fits in a stretch -/
def rs (F : Nat → Prop) (O : mx_M → Nat → Prop) (lo hi : Nat) (r : Int32 × mx_M) : Prop := (r.1 = 0 ∧ ∀ v, lo ≤ v → v < hi → ¬ F v) ∨ (r.1 = 1 ∧ ∃ v, lo ≤ v ∧ v < hi ∧ F v ∧ (∀ v', lo ≤ v' → v' < v → ¬ F v') ∧ O r.2 v)
theorem rs_in {F : Nat → Prop} {O : mx_M → Nat → Prop} {lo mid hi : Nat} {r : Int32 × mx_M} (h0 : lo ≤ mid) (hn : ∀ v, lo ≤ v → v < mid → ¬ F v) (h : rs F O mid hi r) : rs F O lo hi r := by
  rcases h with ⟨h1, h2⟩ | ⟨h1, v, h2, h3, h4, h5, h6⟩
  · refine Or.inl ⟨h1, fun v a b => ?_⟩
    by_cases c : v < mid
    · exact hn v a c
    · exact h2 v (by omega) b
  · refine Or.inr ⟨h1, v, by omega, h3, h4, fun v' a b => ?_, h6⟩
    by_cases c : v' < mid
    · exact hn v' a c
    · exact h5 v' (by omega) b
theorem rs_up {F : Nat → Prop} {O : mx_M → Nat → Prop} {lo mid hi : Nat} {r : Int32 × mx_M} (h0 : mid ≤ hi) (hr : ¬ r.1 = 0) (h : rs F O lo mid r) : rs F O lo hi r := by
  rcases h with ⟨h1, h2⟩ | ⟨h1, v, h2, h3, h4, h5, h6⟩
  · exact absurd h1 hr
  · exact Or.inr ⟨h1, v, h2, by omega, h4, h5, h6⟩
theorem ww_pre {rec : Int32 → mx_M → Int32 × mx_M} {T : (Nat → Int32) → Int32} {h : Nat} {ld gn : Int32} {j : Nat} (hj : j < h) (hr : ∀ x A, (rec x A).2 40 j = A 40 j) : ∀ (m w : Nat) (M : mx_M), (we_w rec T h ld gn m w M).2 40 j = M 40 j
  | 0, _, _ => rfl
  | m + 1, w, M => by
    have e : mx_up M 40 h (nI w) 40 j = M 40 j := by rw [mx_up_row, pk_un (by omega)]
    rw [we_w]
    split
    · rw [ww_pre hj hr m, e]
    · split
      · rw [ww_pre hj hr m, hr, e]
      · show (rec _ _).2 40 j = _
        rw [hr, e]
theorem tf_pre {fr ov tt : Nat → Nat} {J H : Nat} {s g : Int32} : ∀ (k h : Nat) (ld : Int32) (M : mx_M) (j : Nat), j < h → (we_tf fr ov tt J H s g k h ld M).2 40 j = M 40 j
  | 0, _, _, _, _, _ => rfl
  | k + 1, h, ld, M, j, hj => by
    rw [we_tf]
    split
    · split
      · rfl
      · exact ww_pre hj (fun x A => tf_pre k (h + 1) x A j (by omega)) 3 0 M
    · rfl
def od (H : Nat) (M : mx_M) (v : Nat) : Prop := ∀ j, j < H → M 40 j = nI (dg H v j)
theorem tf_ok {H J s g : Nat} {fr ov tt : Nat → Nat} (hH : H ≤ 8) (hs : s < 2 ^ H) (hg : g < 2 ^ H) (hj : ∀ i, i < J → fr i < H ∧ ov i < H ∧ tt i < H) :
    ∀ (k h v0 : Nat) (M : mx_M), H ≤ h + k → h ≤ H → 3 ^ (H - h) ∣ v0 → (∀ j, j < h → M 40 j = nI (dg H v0 j)) → (∀ i, i < J → we_mx (fr i) (we_mx (ov i) (tt i)) < h → cd3 H v0 fr ov tt i) →
      rs (fit H J s g fr ov tt) (od H) v0 (v0 + 3 ^ (H - h)) (we_tf fr ov tt J H (nI s) (nI g) (k + 1) h (Int32.ofInt (le3 H s g v0 h)) M) := by
  have s31 : s < 2 ^ 31 := Nat.lt_of_lt_of_le hs (Nat.pow_le_pow_right (by decide) (by omega))
  have g31 : g < 2 ^ 31 := Nat.lt_of_lt_of_le hg (Nat.pow_le_pow_right (by decide) (by omega))
  intro k
  induction k with
  | zero =>
    intro h v0 M hk hh hd hM hc
    have : h = H := by omega
    subst this
    rw [we_tf]
    rw [Nat.sub_self, Nat.pow_zero]
    by_cases c : 0 < Int32.ofInt (le3 h s g v0 h) + 2 * pq_bc ((nI g &&& (nI s ^^^ (-1))) >>> (nI h &&& 31))
    · rw [if_pos c, if_pos (Nat.le_refl h)]
      rw [ld_I (Nat.le_refl h) hH hg, cg_0 hg] at c
      refine Or.inr ⟨rfl, v0, by omega, by omega, ⟨fun i hi => hc i hi ?_, by omega⟩, fun v' a b => by omega, hM⟩
      have := hj i hi
      unfold we_mx
      split <;> split <;> omega
    · rw [if_neg c]
      rw [ld_I (Nat.le_refl h) hH hg, cg_0 hg] at c
      refine Or.inl ⟨rfl, fun v a b y => c ?_⟩
      have : v = v0 := by omega
      subst this
      have := y.2
      omega
  | succ k ih =>
    intro h v0 M hk hh hd hM hc
    rw [we_tf]
    by_cases c : 0 < Int32.ofInt (le3 H s g v0 h) + 2 * pq_bc ((nI g &&& (nI s ^^^ (-1))) >>> (nI h &&& 31))
    · rw [if_pos c]
      by_cases e : H ≤ h
      · have : h = H := by omega
        subst this
        rw [if_pos e, Nat.sub_self, Nat.pow_zero]
        rw [ld_I (Nat.le_refl h) hH hg, cg_0 hg] at c
        refine Or.inr ⟨rfl, v0, by omega, by omega, ⟨fun i hi => hc i hi ?_, by omega⟩, fun v' a b => by omega, hM⟩
        have := hj i hi
        unfold we_mx
        split <;> split <;> omega
      · rw [if_neg e, gn_I s31 g31 (by omega)]
        have hhH : h < H := by omega
        have e3 : 3 ^ (H - h) = 3 * 3 ^ (H - (h + 1)) := by
          rw [Nat.mul_comm, ← Nat.pow_succ]; congr 1; omega
        generalize hq : 3 ^ (H - (h + 1)) = q at *
        -- the loop over the weights
        have loop : ∀ (m w : Nat) (M1 : mx_M), w + m = 3 → (∀ j, j < h → M1 40 j = nI (dg H v0 j)) → rs (fit H J s g fr ov tt) (od H) (v0 + w * q) (v0 + 3 * q) (we_w (we_tf fr ov tt J H (nI s) (nI g) (k + 1) (h + 1)) (fun f => we_try f fr ov tt h J 0) h (Int32.ofInt (le3 H s g v0 h)) (Int32.ofInt (gn s g h)) m w M1) := by
          intro m
          induction m with
          | zero =>
            intro w M1 hw hM1
            have : w = 3 := by omega
            subst this
            rw [we_w]
            exact Or.inl ⟨rfl, fun v a b => by omega⟩
          | succ m ihm =>
            intro w M1 hw hM1
            have w3 : w < 3 := by omega
            obtain ⟨d1, d2⟩ := dg_ch hhH (by rw [e3]; rw [e3] at hd; exact hd) w3
            rw [hq] at d1 d2
            have hd' : 3 ^ (H - h) ∣ v0 := hd
            have wq : w * q + q ≤ 3 * q := by
              rw [← Nat.succ_mul]
              exact Nat.mul_le_mul_right q (by omega)
            have dp : ∀ v, v0 + w * q ≤ v → v < v0 + w * q + q → ∀ j, j < h + 1 → dg H v j = dg H (v0 + w * q) j := by
              intro v a b
              exact dg_pre (h := h + 1) (by omega) (by rw [hq]; exact d2) a (by rw [hq]; exact b)
            have q0 : 0 < q := by rw [← hq]; exact Nat.pow_pos (by decide)
            have dp0 : ∀ j, j < h → dg H (v0 + w * q) j = dg H v0 j := dg_pre (by omega) hd (by omega) (by rw [e3]; omega)
            have hM2 : ∀ j, j < h + 1 → mx_up M1 40 h (nI w) 40 j = nI (dg H (v0 + w * q) j) := by
              intro j hjj
              rw [mx_up_row]
              by_cases z : j = h
              · subst z; rw [pk_us, d1]
              · rw [pk_un z, hM1 j (by omega), dp0 j (by omega)]
            have cI : ∀ i, i < J → we_mx (fr i) (we_mx (ov i) (tt i)) < h + 1 → (mx_up M1 40 h (nI w) 40 (tt i) ≤ mx_up M1 40 h (nI w) 40 (fr i) + mx_up M1 40 h (nI w) 40 (ov i) ↔ cd3 H (v0 + w * q) fr ov tt i) := by
              intro i hi hm
              have ml := mx_le (fr i) (ov i) (tt i)
              exact cd3_I (hM2 _ (by omega)) (hM2 _ (by omega)) (hM2 _ (by omega))
            have next : ∀ M2 : mx_M, (∀ j, j < h → M2 40 j = nI (dg H v0 j)) → (∀ v, v0 + w * q ≤ v → v < v0 + w * q + q → ¬ fit H J s g fr ov tt v) → rs (fit H J s g fr ov tt) (od H) (v0 + w * q) (v0 + 3 * q) (we_w (we_tf fr ov tt J H (nI s) (nI g) (k + 1) (h + 1)) (fun f => we_try f fr ov tt h J 0) h (Int32.ofInt (le3 H s g v0 h)) (Int32.ofInt (gn s g h)) m (w + 1) M2) := by
              intro M2 hM2' hno
              refine rs_in (mid := v0 + (w + 1) * q) (by rw [Nat.succ_mul]; omega) (fun v a b => hno v a (by rw [Nat.succ_mul] at b; omega)) (ihm (w + 1) M2 (by omega) hM2')
            rw [we_w]
            by_cases ct : we_try (mx_up M1 40 h (nI w) 40) fr ov tt h J 0 = 0
            · rw [if_pos ct]
              refine next _ (fun j hjj => by rw [mx_up_row, pk_un (by omega)]; exact hM1 j hjj) ?_
              intro v a b y
              obtain ⟨i, _, i2, i3, i4⟩ := (we_tryI J 0).mp ct
              have hi : i < J := by omega
              apply i4
              rw [cI i hi (by omega)]
              exact (cd3_c (dp v a b) (by omega)).mp (y.1 i hi)
            · rw [if_neg ct]
              have el : Int32.ofInt (le3 H s g v0 h) + nI w * Int32.ofInt (gn s g h) = Int32.ofInt (le3 H s g (v0 + w * q) (h + 1)) := by
                rw [le3, le3_pre h dp0, d1, Int32.ofInt_add, Int32.ofInt_mul, nI_ofInt]
              rw [el]
              have R := ih (h + 1) (v0 + w * q) (mx_up M1 40 h (nI w)) (by omega) (by omega) (by rw [hq]; exact d2) hM2 (by
                intro i hi hm
                by_cases z : we_mx (fr i) (we_mx (ov i) (tt i)) < h
                · exact (cd3_c dp0 z).mpr (hc i hi z)
                · apply Classical.byContradiction
                  intro y
                  apply ct
                  exact (we_tryI J 0).mpr ⟨i, by omega, by omega, by omega, fun x => y ((cI i hi hm).mp x)⟩)
              rw [hq] at R
              by_cases cr : (we_tf fr ov tt J H (nI s) (nI g) (k + 1) (h + 1) (Int32.ofInt (le3 H s g (v0 + w * q) (h + 1))) (mx_up M1 40 h (nI w))).1 = 0
              · rw [if_pos cr]
                refine next _ (fun j hjj => ?_) ?_
                · rw [tf_pre (k + 1) (h + 1) _ _ j (by omega), mx_up_row, pk_un (by omega)]
                  exact hM1 j hjj
                · rcases R with ⟨_, z⟩ | ⟨z, _⟩
                  · exact z
                  · rw [cr] at z; exact absurd z (by decide)
              · rw [if_neg cr]
                have r1 : (we_tf fr ov tt J H (nI s) (nI g) (k + 1) (h + 1) (Int32.ofInt (le3 H s g (v0 + w * q) (h + 1))) (mx_up M1 40 h (nI w))).1 = 1 := by
                  rcases R with ⟨z, _⟩ | ⟨z, _⟩
                  · exact absurd z cr
                  · exact z
                have R2 := rs_up (hi := v0 + 3 * q) (by omega) cr R
                rcases R2 with ⟨z, _⟩ | ⟨z, zz⟩
                · exact absurd z cr
                · exact Or.inr ⟨rfl, zz⟩
        have := loop 3 0 M rfl hM
        rw [Nat.zero_mul, Nat.add_zero] at this
        rw [e3]
        exact this
    · rw [if_neg c]
      rw [ld_I hh hH hg] at c
      refine Or.inl ⟨rfl, fun v a b y => c ?_⟩
      have u := le3_up (v := v) (s := s) hH hg (H - h) h rfl hh
      rw [le3_pre h (dg_pre hh hd a b)] at u
      have := y.2
      omega
end FD
