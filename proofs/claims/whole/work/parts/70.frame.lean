/-! What the calls leave alone: the class the model's cells, the model the class's. -/
section FR
variable {A B M M1 A' : mx_M} {D : Nat → Bool} {N J S sa ga : Nat} {fr ov tt : Nat → Nat} {im : Nat → Nat → Nat} {c : Nat}
theorem IV_cong (h : IV A B) {A' B' : mx_M} (hA : ∀ c, c < 27 ∨ c = 39 → A' c = A c) (hB : ∀ c, 41 ≤ c → c < 60 → B' c = B c) : IV A' B' := by
  obtain ⟨D, N, J, S, fr, ov, tt, im, sa, ga, h⟩ := h
  exact ⟨D, N, J, S, fr, ov, tt, im, sa, ga, iv_cong h hA (fun c h1 h2 => hB c (by omega) (by omega)) (fun c hc => by rw [hB 41 (by omega) (by omega)])⟩
/-- the class has answered (A'), the number is in cell 60 (M1); then the model -/
theorem st_gen {f : mx_M → Int32 × mx_M} {G : Int32 → Int32 → Prop} (h : iv M M D N J S fr ov tt im sa ga) (hop : ∀ B, iv M B D N J S fr ov tt im sa ga → G ((f B).2 41 0) (f B).1 ∧ IV A' (f B).2)
    (fA : ∀ c, 41 ≤ c → c < 60 → A' c = M c) (fB : ∀ B c, c < 41 ∨ 59 < c → (f B).2 c = B c) (hM : ∀ c, c ≠ 60 → M1 c = A' c) : iv M M1 D N J S fr ov tt im sa ga ∧ G ((f M1).2 41 0) (f M1).1 ∧ IV (f M1).2 (f M1).2 ∧ (f M1).2 60 = M1 60 := by
  have h1 : iv M M1 D N J S fr ov tt im sa ga := iv_cong h (fun _ _ => rfl) (fun c h1 h2 => by rw [hM c (by omega), fA c (by omega) (by omega)]) (fun c hc => by rw [hM 41 (by omega), fA 41 (by omega) (by omega)])
  obtain ⟨g, v⟩ := hop M1 h1
  exact ⟨h1, g, IV_cong v (fun c hc => by rw [fB M1 c (by omega), hM c (by omega)]) (fun _ _ _ => rfl), fB M1 60 (by omega)⟩
theorem fa_clear {t : Int32} (hc : 41 ≤ c) : pe_clear A t c = A c := by
  unfold pe_clear pg_wipe
  rw [mx_up_off (by omega), mx_up_off (by omega), pg_fill, mx_row, if_neg (by omega), mx_up_off (by omega), mx_up_off (by omega), mx_up_off (by omega), mx_up_off (by omega), mx_up_off (by omega), pg_fill, mx_row, if_neg (by omega)]
theorem fb_clear {t : Int32} (hc : c < 41 ∨ 59 < c) : mo_clear B t c = B c := by
  unfold mo_clear mo_cl
  rw [pg_fill, mx_row, if_neg (by omega), pg_fill, mx_row, if_neg (by omega)]
  simp only [mx_up_off (show c ≠ 41 by omega)]
theorem fa_hole {r q : Int32} (hc : 41 ≤ c) : (pe_hole A r q).2 c = A c := by
  unfold pe_hole
  split
  · rfl
  · split
    · rfl
    · show mx_up (mx_up A 2 _ 0) 1 5 _ c = _
      rw [mx_up_off (by omega), mx_up_off (by omega)]
theorem fb_hole {r q : Int32} (hc : c < 41 ∨ 59 < c) : (mo_hole B r q).2 c = B c := by
  unfold mo_hole
  split
  · exact mx_up_off (by omega)
  · split
    · show mx_up (mx_up B 41 0 0) 41 0 2 c = _
      rw [mx_up_off (by omega), mx_up_off (by omega)]
    · show mx_up (mx_up (mx_up B 41 0 0) 42 _ 1) 41 3 _ c = _
      rw [mx_up_off (by omega), mx_up_off (by omega), mx_up_off (by omega)]
theorem fa_freeze (hS : ¬ pg_cb A = 0 → A 11 4 = nI 0) (hc : 41 ≤ c) : (pe_freeze A D N).2 c = A c := by
  unfold pe_freeze
  split
  · rfl
  · show pe_fz A D (N - 1) c = A c
    unfold pe_fz pe_f3
    have e : mx_up (pe_f2 (pe_f1 A D) (N - 1)) 11 3 (nI (N - 1 + 1)) 11 4 = nI 0 := by
      rw [mx_up_row, pk_un (by decide), pe_f2_off (by omega), pe_f1_off (by omega)]
      exact hS ‹_›
    rw [(sy_it_inv e (by omega) _).1 c (by omega), mx_up_off (by omega), pe_f2_off (by omega), pe_f1_off (by omega)]
theorem fb_freeze {t : Nat} (hc : c < 41 ∨ 59 < c) : (mo_freeze B D t N).2 c = B c := by
  unfold mo_freeze
  split
  · exact mx_up_off (by omega)
  · show mo_fr B D t N c = B c
    unfold mo_fr
    rw [mo_fi_off ⟨by omega, by omega, by omega, by omega⟩, mo_ja_off ⟨by omega, by omega, by omega, by omega⟩, mo_nh_off (by omega) (by omega) (by omega), mx_up_off (by omega), mx_up_off (by omega)]
theorem fb_jump {k w : Int32} (hc : c < 41 ∨ 59 < c) : (mo_jump B k w).2 c = B c := by
  unfold mo_jump
  split <;> exact mx_up_off (by omega)
theorem fa_place {b p : Int32} (hc : 41 ≤ c) : (pe_place A b p).2 c = A c := by
  unfold pe_place
  split
  · show (if b = 0 then _ else _ : mx_M) c = _
    split <;> exact mx_up_off (by omega)
  · rfl
theorem fb_place {b p : Int32} (hc : c < 41 ∨ 59 < c) : mo_place B b p c = B c := by
  unfold mo_place
  split
  · split <;> simp only [mx_up_off (show c ≠ 41 by omega)]
  · exact mx_up_off (by omega)
theorem fb_after {p k : Int32} (hc : c < 41 ∨ 59 < c) : (mo_after B p k).2 c = B c := by
  unfold mo_after
  split
  · split <;> exact mx_up_off (by omega)
  · exact mx_up_off (by omega)
theorem fb_image {k q : Int32} (hc : c < 41 ∨ 59 < c) : (mo_image B k q).2 c = B c := by
  unfold mo_image
  split <;> exact mx_up_off (by omega)
theorem fb_least {p : Int32} (hc : c < 41 ∨ 59 < c) : (mo_least B p N S).2 c = B c := by
  unfold mo_least
  split
  · split <;> exact mx_up_off (by omega)
  · exact mx_up_off (by omega)
theorem fb_parity {p : Int32} (hc : c < 41 ∨ 59 < c) : (mo_parity B p N).2 c = B c := by
  unfold mo_parity
  split <;> exact mx_up_off (by omega)
theorem fa_weight {q w : Int32} (hc : 41 ≤ c) : (pe_weight A q w).2 c = A c := by
  unfold pe_weight
  split
  · split
    · rfl
    · exact mx_up_off (by omega)
  · rfl
theorem fb_weight {q w : Int32} (hc : c < 41 ∨ 59 < c) : mo_weight B q w c = B c := by
  unfold mo_weight
  split
  · split
    · exact mx_up_off (by omega)
    · rw [mx_up_off (by omega), mx_up_off (by omega)]
  · exact mx_up_off (by omega)
theorem fb_weights {w : Int32} (hc : c < 41 ∨ 59 < c) : (mo_weights B fr ov tt J w).2 c = B c := by
  unfold mo_weights
  split
  · exact mx_up_off (by omega)
  · split
    · exact mx_up_off (by omega)
    · split <;> exact mx_up_off (by omega)
theorem fa_find {H : Nat} (hc : 41 ≤ c) : (pe_find A fr ov tt J H).2 c = A c := by
  unfold pe_find
  split
  · split
    · show we_sr _ H c = A c
      unfold we_sr
      split
      · exact we_tf_off (by omega) 9 0 0 A
      · rw [mx_row, if_neg (by omega)]
        exact we_tf_off (by omega) 9 0 0 A
    · rfl
  · rfl
theorem fd_off {s g : Int32} {H : Nat} (h1 : c ≠ 52) (h2 : c ≠ 53) : ∀ m v (M : mx_M), (mo_fd fr ov tt J H s g m v M).2 c = M c
  | 0, _, _ => rfl
  | m + 1, v, M => by
    rw [mo_fd]
    split
    · rw [fd_off h1 h2 m, mo_fl_off h2]
    · show mo_cp (mo_fl H v M) H c = M c
      rw [mo_cp, mx_row, if_neg h1, mo_fl_off h2]
theorem fb_find {H : Nat} (hc : c < 41 ∨ 59 < c) : (mo_find B fr ov tt J H).2 c = B c := by
  unfold mo_find
  split
  · rw [fd_off (by omega) (by omega), mx_up_off (by omega)]
  · exact mx_up_off (by omega)
theorem fa_rw {lim : Int32} {X : mx_R × mx_M} (hX : X.2 c = A c) : (pe_rw A lim X).2 c = A c := by
  unfold pe_rw
  split
  · rfl
  · split
    · rfl
    · exact hX
theorem fb_rw {lim : Int32} {X : Int32 × mx_M} (hX : mo_cc B lim = 0 → X.2 c = B c) (hc : c < 41 ∨ 59 < c) : (mo_rw B lim X).2 c = B c := by
  unfold mo_rw
  split
  · exact hX ‹_›
  · exact mx_up_off (by omega)
theorem fb_go {L : Nat} (h1 : 1 ≤ L) (h5 : L ≤ 500) (hc : c < 41 ∨ 59 < c) : (mo_go (mx_up B 41 0 0) L J).2 c = B c := by
  unfold mo_go
  rw [(mo_ra_ok (J := J) L 0 (mo_s0 (mx_up B 41 0 0)) (mo_s0_ok h1 h5).1).2.2.2.1 c (by omega), mo_s0_off (by omega), mx_up_off (by omega)]
theorem fb_goL {lim : Int32} (h : mo_cc B lim = 0) (hc : c < 41 ∨ 59 < c) : (mo_go (mx_up B 41 0 0) lim.toNatClampNeg J).2 c = B c := by
  obtain ⟨_, L, h1, h5, rfl⟩ := mo_cc0 h
  rw [nI_clamp (by omega)]
  exact fb_go h1 h5 hc
theorem fa_classes {X : mx_M} (h : X c = A c) (hc : 41 ≤ c) : (pe_classes X N S).2 c = A c := by
  unfold pe_classes
  split
  · show re_ls X _ _ c = _
    rw [re_ls_off (by omega) (by omega) (by omega), h]
  · exact h
theorem fb_classes {R : Bool × mx_M} (h : R.2 c = B c) (hc : c < 41 ∨ 59 < c) : (mo_classes R N S).2 c = B c := by
  unfold mo_classes
  split
  · show mo_cs R.2 _ _ c = _
    rw [mo_cs_off (by omega) (by omega), h]
  · exact h
theorem fb_moves {R : Bool × mx_M} {k : Nat} (h : R.2 c = B c) (hc : c < 41 ∨ 59 < c) : (mo_moves R N J k).2 c = B c := by
  unfold mo_moves
  split
  · show mo_t1 R.2 N J _ k c = _
    rw [mo_t1_off (by omega), h]
  · exact h
end FR
