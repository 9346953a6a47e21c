/-! PegBoardsModel: isSymmetry, whole. -/
section MQ3
variable {l : Launch} {sc : Nat × (Nat → Int32)} {d : Nat} {M : mx_M}
theorem sy_t_s {t : Int32} : ∀ (m : Nat) (r c : Int32), sy_t t (m + 1) r c = ((if t = 0 then (sy_t t m r c).2 else (sy_t t m r c).1 + (sy_t t m r c).2), -(sy_t t m r c).1) := by
  intro m
  induction m with
  | zero => intro r c; rfl
  | succ m ih =>
    intro r c
    rw [show sy_t t (m + 1 + 1) r c = sy_t t (m + 1) (if t = 0 then c else r + c) (-r) from rfl, ih]
    rfl
theorem ct_Mo_isSymmetry (hl : l.stackTraces = false) {k t N im : Nat} (hk : k < 12) (ht : t = 4 ∨ t = 6) (htt : (if M 41 1 = 0 then 4 else 6 : Int32) = nI t) (hN : N ≤ 20) (him : im < 12) (h3 : M 41 3 = nI N) (h12 : M 41 12 = nI im) :
    mx_Ct l (pg_L sc) mY_Mo_isSymmetry (d + 2) 0 [.ref 41, .int (nI k)] M (mx_rI (mo_al (mo_g M k t N) N) (mo_y2 (mo_y1 M k t N) im (mo_g M k t N) N)) := by
  have ht0 : ¬ nI t = 0 := nI_ne0 (by omega) (by omega)
  generalize hQ : mx_rI (mo_al (mo_g M k t N) N) (mo_y2 (mo_y1 M k t N) im (mo_g M k t N) N) = Q
  have two : ∀ x y z u v : Value, mx_E l (pg_L sc) mY_Mo_isSymmetry (d + 2) 0 Q 241 [.ref 41, .int (nI k), .int (nI t), .int (mo_m9 (fun j => (mo_z M k t j).1) N), .int (mo_m9 (fun j => (mo_z M k t j).2) N), .int (mo_m9 (M 44) N), .int (mo_m9 (M 45) N), x, y, z, u, v] [] (mo_y1 M k t N) := by
    intro x y z u v
    have := mo_is2 (l := l) (sc := sc) (d := d) (k := k) (t := t) (B := mo_y1 M k t N) (z1 := fun j => (mo_z M k t j).1) (z2 := fun j => (mo_z M k t j).2) (tp := mo_m9 (fun j => (mo_z M k t j).1) N) (lf := mo_m9 (fun j => (mo_z M k t j).2) N) (ot := mo_m9 (M 44) N) (ol := mo_m9 (M 45) N) hl hN him (by rw [mo_y1_off (by decide) (by decide)]; exact h3) (by rw [mo_y1_off (by decide) (by decide)]; exact h12) (fun j hj => mo_y1_at N j hj) N 0 (by omega) (by omega) z u v
    have eg : (fun h => mo_at (mo_y1 M k t N) ((fun j => (mo_z M k t j).1) h - mo_m9 (fun j => (mo_z M k t j).1) N + mo_m9 (M 44) N) ((fun j => (mo_z M k t j).2) h - mo_m9 (fun j => (mo_z M k t j).2) N + mo_m9 (M 45) N)) = mo_g M k t N := by
      funext h
      unfold mo_g mo_at
      rw [mo_y1_off (by decide) (by decide), mo_y1_off (by decide) (by decide)]
    rw [eg, hQ] at this
    exact mx_go mo_Mo_isSymmetry 4 (pc' := 247) (ls' := [.ref 41, .int (nI k), .int (nI t), .int (mo_m9 (fun j => (mo_z M k t j).1) N), .int (mo_m9 (fun j => (mo_z M k t j).2) N), .int (mo_m9 (M 44) N), .int (mo_m9 (M 45) N), .int 1, .int (nI 0), z, u, v]) (st' := []) (M' := mo_y1 M k t N) rfl trivial this
  have one : ∀ (m h : Nat), N - h = m → h ≤ N → ∀ x y z u : Value, mx_E l (pg_L sc) mY_Mo_isSymmetry (d + 2) 0 Q 23 [.ref 41, .int (nI k), .int (nI t), .int (mo_m9 (fun j => (mo_z M k t j).1) h), .int (mo_m9 (fun j => (mo_z M k t j).2) h), .int (mo_m9 (M 44) h), .int (mo_m9 (M 45) h), .int (nI h), x, y, z, u] [] (mo_y1 M k t h) := by
    intro m
    induction m with
    | zero =>
      intro h hm hle x y z u
      have e : h = N := by omega
      subst e
      refine mx_if mo_Mo_isSymmetry 3 (t := 241) (f := 32) rfl trivial (fun _ => two _ _ _ _ _) (fun (q : ¬ mo_y1 M k t h 41 3 ≤ nI h) => ?_)
      rw [mo_y1_off (by decide) (by decide), h3] at q; exact absurd (nI_le (Nat.le_refl h) (by omega)) q
    | succ m ih =>
      intro h hm hle x y z u
      have e : (nI h).toNatClampNeg = h := nI_clamp (by omega)
      have hv : vp_in (nI h) 20 := vp_in_nI (by omega) (by decide)
      have hI := ih (h + 1) (by omega) (by omega)
      rw [show mo_y1 M k t (h + 1) = mx_up (mx_up (mo_y1 M k t h) 50 h (mo_z M k t h).1) 51 h (mo_z M k t h).2 from rfl] at hI
      have um : ∀ f : Nat → Int32, mo_m9 f (h + 1) = (if mo_m9 f h ≤ f h then mo_m9 f h else f h) := fun _ => rfl
      rw [um, um, um, um] at hI
      have c41 : mo_y1 M k t h 41 = M 41 := mo_y1_off (by decide) (by decide) h
      have c44 : mo_y1 M k t h 44 = M 44 := mo_y1_off (by decide) (by decide) h
      have c45 : mo_y1 M k t h 45 = M 45 := mo_y1_off (by decide) (by decide) h
      generalize mo_y1 M k t h = B at hI c41 c44 c45 ⊢
      generalize mo_m9 (fun j => (mo_z M k t j).1) h = tp at hI ⊢
      generalize mo_m9 (fun j => (mo_z M k t j).2) h = lf at hI ⊢
      generalize mo_m9 (M 44) h = ot at hI ⊢
      generalize mo_m9 (M 45) h = ol at hI ⊢
      refine mx_if mo_Mo_isSymmetry 3 (t := 241) (f := 32) rfl trivial (fun (q : B 41 3 ≤ nI h) => ?_) (fun _ => ?_)
      · rw [c41, h3] at q; exact absurd q (nI_ge (by omega) (by omega))
      -- behind the turning
      have tail : ∀ r c : Int32, sy_t (M 41 1) (k % t) (M 44 h) (M 45 h) = (r, c) → ∀ z u : Value, mx_E l (pg_L sc) mY_Mo_isSymmetry (d + 2) 0 Q 96 [.ref 41, .int (nI k), .int (nI t), .int tp, .int lf, .int ot, .int ol, .int (nI h), .int r, .int c, z, u] [] B := by
        intro r c hrc z u
        have s1 : ∀ a b : Int32, mo_z M k t h = (a, b) → mx_E l (pg_L sc) mY_Mo_isSymmetry (d + 2) 0 Q 134 [.ref 41, .int (nI k), .int (nI t), .int tp, .int lf, .int ot, .int ol, .int (nI h), .int r, .int c, z, u] [] (mx_up (mx_up B 50 h a) 51 h b) := by
          intro a b hab
          rw [hab] at hI
          dsimp only at hI
          have d50 : mx_up (mx_up B 50 h a) 51 h b 50 h = a := by simp [mx_up]
          have d51 : mx_up (mx_up B 50 h a) 51 h b 51 h = b := by simp [mx_up]
          have d44 : mx_up (mx_up B 50 h a) 51 h b 44 = M 44 := by rw [mx_up_off (by decide), mx_up_off (by decide), c44]
          have d45 : mx_up (mx_up B 50 h a) 51 h b 45 = M 45 := by rw [mx_up_off (by decide), mx_up_off (by decide), c45]
          generalize mx_up (mx_up B 50 h a) 51 h b = E at hI d50 d51 d44 d45 ⊢
          have w4 : ∀ tp' lf' ot' : Int32, (if tp ≤ a then tp else a) = tp' → (if lf ≤ b then lf else b) = lf' → (if ot ≤ M 44 h then ot else M 44 h) = ot' → mx_E l (pg_L sc) mY_Mo_isSymmetry (d + 2) 0 Q 209 [.ref 41, .int (nI k), .int (nI t), .int tp', .int lf', .int ot', .int ol, .int (nI h), .int r, .int c, z, u] [] E := by
            intro tp' lf' ot' q1 q2 q3
            rw [q1, q2, q3] at hI
            have nx : ∀ v : Int32, (if ol ≤ M 45 h then ol else M 45 h) = v → mx_E l (pg_L sc) mY_Mo_isSymmetry (d + 2) 0 Q 233 [.ref 41, .int (nI k), .int (nI t), .int tp', .int lf', .int ot', .int ol, .int (nI h), .int r, .int c, z, u] [.int v] E := by
              intro v q4
              rw [q4] at hI
              refine mx_go mo_Mo_isSymmetry 3 (pc' := 23) (ls' := [.ref 41, .int (nI k), .int (nI t), .int tp', .int lf', .int ot', .int v, .int (nI h + 1), .int r, .int c, z, u]) (st' := []) (M' := E) rfl trivial ?_
              rw [nI_1]
              exact hI _ _ _ _
            refine mx_if mo_Mo_isSymmetry 5 (t := 231) (f := 221) rfl ⟨hv, trivial⟩ (fun (q : ol ≤ E 45 (nI h).toNatClampNeg) => ?_) (fun (q : ¬ ol ≤ E 45 (nI h).toNatClampNeg) => ?_)
            · rw [e, d45] at q
              exact mx_go mo_Mo_isSymmetry 1 (pc' := 233) (ls' := [.ref 41, .int (nI k), .int (nI t), .int tp', .int lf', .int ot', .int ol, .int (nI h), .int r, .int c, z, u]) (st' := [.int ol]) (M' := E) rfl trivial (nx _ (if_pos q))
            · rw [e, d45] at q
              exact mx_go mo_Mo_isSymmetry 5 (pc' := 233) (ls' := [.ref 41, .int (nI k), .int (nI t), .int tp', .int lf', .int ot', .int ol, .int (nI h), .int r, .int c, z, u]) (st' := [.int (E 45 (nI h).toNatClampNeg)]) (M' := E) rfl ⟨hv, trivial⟩ (by rw [e, d45]; exact nx _ (if_neg q))
          have w3 : ∀ tp' lf' : Int32, (if tp ≤ a then tp else a) = tp' → (if lf ≤ b then lf else b) = lf' → mx_E l (pg_L sc) mY_Mo_isSymmetry (d + 2) 0 Q 183 [.ref 41, .int (nI k), .int (nI t), .int tp', .int lf', .int ot, .int ol, .int (nI h), .int r, .int c, z, u] [] E := by
            intro tp' lf' q1 q2
            refine mx_if mo_Mo_isSymmetry 5 (t := 205) (f := 195) rfl ⟨hv, trivial⟩ (fun (q : ot ≤ E 44 (nI h).toNatClampNeg) => ?_) (fun (q : ¬ ot ≤ E 44 (nI h).toNatClampNeg) => ?_)
            · rw [e, d44] at q
              exact mx_go mo_Mo_isSymmetry 2 (pc' := 209) (ls' := [.ref 41, .int (nI k), .int (nI t), .int tp', .int lf', .int ot, .int ol, .int (nI h), .int r, .int c, z, u]) (st' := []) (M' := E) rfl trivial (w4 _ _ _ q1 q2 (if_pos q))
            · rw [e, d44] at q
              exact mx_go mo_Mo_isSymmetry 6 (pc' := 209) (ls' := [.ref 41, .int (nI k), .int (nI t), .int tp', .int lf', .int (E 44 (nI h).toNatClampNeg), .int ol, .int (nI h), .int r, .int c, z, u]) (st' := []) (M' := E) rfl ⟨hv, trivial⟩ (by rw [e, d44]; exact w4 _ _ _ q1 q2 (if_neg q))
          have w2 : ∀ tp' : Int32, (if tp ≤ a then tp else a) = tp' → mx_E l (pg_L sc) mY_Mo_isSymmetry (d + 2) 0 Q 157 [.ref 41, .int (nI k), .int (nI t), .int tp', .int lf, .int ot, .int ol, .int (nI h), .int r, .int c, z, u] [] E := by
            intro tp' q1
            refine mx_if mo_Mo_isSymmetry 5 (t := 179) (f := 169) rfl ⟨hv, trivial⟩ (fun (q : lf ≤ E 51 (nI h).toNatClampNeg) => ?_) (fun (q : ¬ lf ≤ E 51 (nI h).toNatClampNeg) => ?_)
            · rw [e, d51] at q
              exact mx_go mo_Mo_isSymmetry 2 (pc' := 183) (ls' := [.ref 41, .int (nI k), .int (nI t), .int tp', .int lf, .int ot, .int ol, .int (nI h), .int r, .int c, z, u]) (st' := []) (M' := E) rfl trivial (w3 _ _ q1 (if_pos q))
            · rw [e, d51] at q
              exact mx_go mo_Mo_isSymmetry 6 (pc' := 183) (ls' := [.ref 41, .int (nI k), .int (nI t), .int tp', .int (E 51 (nI h).toNatClampNeg), .int ot, .int ol, .int (nI h), .int r, .int c, z, u]) (st' := []) (M' := E) rfl ⟨hv, trivial⟩ (by rw [e, d51]; exact w3 _ _ q1 (if_neg q))
          refine mx_if mo_Mo_isSymmetry 5 (t := 155) (f := 145) rfl ⟨hv, trivial⟩ (fun (q : tp ≤ E 50 (nI h).toNatClampNeg) => ?_) (fun (q : ¬ tp ≤ E 50 (nI h).toNatClampNeg) => ?_)
          · rw [e, d50] at q
            exact mx_go mo_Mo_isSymmetry 2 (pc' := 157) (ls' := [.ref 41, .int (nI k), .int (nI t), .int tp, .int lf, .int ot, .int ol, .int (nI h), .int r, .int c, z, u]) (st' := []) (M' := E) rfl trivial (w2 _ (if_pos q))
          · rw [e, d50] at q
            exact mx_go mo_Mo_isSymmetry 6 (pc' := 157) (ls' := [.ref 41, .int (nI k), .int (nI t), .int (E 50 (nI h).toNatClampNeg), .int lf, .int ot, .int ol, .int (nI h), .int r, .int c, z, u]) (st' := []) (M' := E) rfl ⟨hv, trivial⟩ (by rw [e, d50]; exact w2 _ (if_neg q))
        by_cases hkt : k < t
        · refine mx_if mo_Mo_isSymmetry 5 (t := 112) (f := 107) rfl trivial (fun (q : nI t ≤ nI k) => absurd q (nI_ge hkt (by omega))) (fun _ => ?_)
          refine mx_if mo_Mo_isSymmetry 8 (t := 131) (f := 126) rfl ⟨hv, trivial⟩ (fun (q : nI t ≤ nI k) => absurd q (nI_ge hkt (by omega))) (fun _ => ?_)
          refine mx_go mo_Mo_isSymmetry 3 (pc' := 134) (ls' := [.ref 41, .int (nI k), .int (nI t), .int tp, .int lf, .int ot, .int ol, .int (nI h), .int r, .int c, z, u]) (st' := []) (M' := mx_up (mx_up B 50 (nI h).toNatClampNeg r) 51 (nI h).toNatClampNeg c) rfl ⟨hv, trivial⟩ ?_
          rw [e]
          exact s1 r c (by rw [mo_z, if_pos hkt, hrc])
        · refine mx_if mo_Mo_isSymmetry 5 (t := 112) (f := 107) rfl trivial (fun _ => ?_) (fun (q : ¬ nI t ≤ nI k) => absurd (nI_le (by omega) (by omega)) q)
          refine mx_if mo_Mo_isSymmetry 7 (t := 131) (f := 126) rfl ⟨hv, trivial⟩ (fun _ => ?_) (fun (q : ¬ nI t ≤ nI k) => absurd (nI_le (by omega) (by omega)) q)
          refine mx_go mo_Mo_isSymmetry 2 (pc' := 134) (ls' := [.ref 41, .int (nI k), .int (nI t), .int tp, .int lf, .int ot, .int ol, .int (nI h), .int r, .int c, z, u]) (st' := []) (M' := mx_up (mx_up B 50 (nI h).toNatClampNeg c) 51 (nI h).toNatClampNeg r) rfl ⟨hv, trivial⟩ ?_
          rw [e]
          exact s1 c r (by rw [mo_z, if_neg hkt, hrc])
      have turn : ∀ (m2 i : Nat), k % t - i = m2 → i ≤ k % t → ∀ (r c : Int32) (u : Value), sy_t (M 41 1) i (M 44 h) (M 45 h) = (r, c) → mx_E l (pg_L sc) mY_Mo_isSymmetry (d + 2) 0 Q 53 [.ref 41, .int (nI k), .int (nI t), .int tp, .int lf, .int ot, .int ol, .int (nI h), .int r, .int c, .int (nI i), u] [] B := by
        have hkt : k % t < t := Nat.mod_lt _ (by omega)
        have er : nI k - nI k / nI t * nI t = nI (k % t) := pk_rem (by omega) (by omega) (by omega)
        intro m2
        induction m2 with
        | zero =>
          intro i hm2 hle2 r c u hrc
          have ei : i = k % t := by omega
          refine mx_if mo_Mo_isSymmetry 4 (t := 96) (f := 61) rfl ⟨ht0, trivial⟩ (fun _ => tail r c (by rw [← ei]; exact hrc) _ _) (fun (q : ¬ nI k - nI k / nI t * nI t ≤ nI i) => ?_)
          rw [er] at q; exact absurd (nI_le (by omega) (by omega)) q
        | succ m2 ih2 =>
          intro i hm2 hle2 r c u hrc
          refine mx_if mo_Mo_isSymmetry 4 (t := 96) (f := 61) rfl ⟨ht0, trivial⟩ (fun (q : nI k - nI k / nI t * nI t ≤ nI i) => ?_) (fun _ => ?_)
          · rw [er] at q; exact absurd q (nI_ge (by omega) (by omega))
          have hs := sy_t_s (t := M 41 1) i (M 44 h) (M 45 h)
          rw [hrc] at hs
          dsimp only at hs
          have z0 : ∀ x : Int32, 0 - x = -x := fun x => Int32.zero_sub x
          refine mx_if mo_Mo_isSymmetry 2 (t := 76) (f := 68) rfl trivial (fun (q : B 41 1 = 0) => ?_) (fun (q : ¬ B 41 1 = 0) => ?_)
          · rw [c41] at q
            rw [if_pos q] at hs
            refine mx_go mo_Mo_isSymmetry 10 (pc' := 53) (ls' := [.ref 41, .int (nI k), .int (nI t), .int tp, .int lf, .int ot, .int ol, .int (nI h), .int c, .int (0 - r), .int (nI i + 1), .int c]) (st' := []) (M' := B) rfl trivial ?_
            rw [nI_1, z0]
            exact ih2 (i + 1) (by omega) (by omega) _ _ _ hs
          · rw [c41] at q
            rw [if_neg q] at hs
            refine mx_go mo_Mo_isSymmetry 13 (pc' := 53) (ls' := [.ref 41, .int (nI k), .int (nI t), .int tp, .int lf, .int ot, .int ol, .int (nI h), .int (r + c), .int (0 - r), .int (nI i + 1), .int (r + c)]) (st' := []) (M' := B) rfl trivial ?_
            rw [nI_1, z0]
            exact ih2 (i + 1) (by omega) (by omega) _ _ _ hs
      refine mx_go mo_Mo_isSymmetry 12 (pc' := 53) (ls' := [.ref 41, .int (nI k), .int (nI t), .int tp, .int lf, .int ot, .int ol, .int (nI h), .int (B 44 (nI h).toNatClampNeg), .int (B 45 (nI h).toNatClampNeg), .int (nI 0), u]) (st' := []) (M' := B) rfl ⟨hv, hv, trivial⟩ ?_
      rw [e, c44, c45]
      exact turn (k % t) 0 (by omega) (by omega) _ _ _ rfl
  refine mx_bd (n0 := 2) hl (by decide +kernel) rfl rfl rfl ?_
  refine mx_cVi mo_Mo_isSymmetry 1 (As := []) (rest := []) rfl (ct_Mo_turns hl) rfl trivial rfl rfl rfl kv_Mo_95 kd_Mo_turns rfl rfl rfl ?_
  rw [htt]
  exact mx_go mo_Mo_isSymmetry 11 (pc' := 23) (ls' := [.ref 41, .int (nI k), .int (nI t), .int 99, .int 99, .int 99, .int 99, .int (nI 0), .null, .null, .null, .null]) (st' := []) (M' := M) rfl trivial (one N 0 (by omega) (by omega) _ _ _ _)
end MQ3
