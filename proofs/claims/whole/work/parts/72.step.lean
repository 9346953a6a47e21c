/-! One call of the law: from alike to alike. -/
section LZ
variable {l : Launch} {Lx : Nat} {xs : Nat → Int32} {n : Nat} {M M1 M2 : mx_M} {Q : mx_R → mx_M → Prop} {i : Nat}
theorem hb_of {r : mx_R} {x1 x2 : String} {th b : Int32} {X A' : mx_M} (g : ag r x1 x2 th b) (h : X 60 = wrM r A' 60) : th = 0 → X 60 0 = b := by
  intro e
  rcases g with ⟨e1, _⟩ | ⟨_, e2⟩ | ⟨_, e2⟩
  · rw [h, e1]
    show mx_up A' 60 0 b 60 0 = b
    simp [mx_up]
  · rw [e] at e2; exact absurd e2 (by decide)
  · rw [e] at e2; exact absurd e2 (by decide)
theorem hb_of1 {r : mx_R} {x1 : String} {th b : Int32} {X A' : mx_M} (g : ag1 r x1 th b) (h : X 60 = wrM r A' 60) : th = 0 → X 60 0 = b := by
  intro e
  rcases g with ⟨e1, _⟩ | ⟨_, e2⟩
  · rw [h, e1]
    show mx_up A' 60 0 b 60 0 = b
    simp [mx_up]
  · rw [e] at e2; exact absurd e2 (by decide)
/-- where the law goes on -/
abbrev lwK (l : Launch) (Lx : Nat) (xs : Nat → Int32) (n : Nat) (Q : mx_R → mx_M → Prop) (i : Nat) (pc : Nat) (M : mx_M) : Prop := ∀ v5 v6 : Value, mx_E l (pg_L (Lx, xs)) mY_La_law 30 n Q pc [.ref 1004, .ref 0, .ref 41, .ref 60, .int (nI i), v5, v6] [] M
theorem lwz01 (x : Int32) : lwz x = 0 ∨ lwz x = 1 := by
  unfold lwz
  split
  · exact Or.inl rfl
  · exact Or.inr rfl
theorem lz_clear (hl : l.stackTraces = false) (i1 : vp_in (nI i + 1) Lx) (kk : ∀ M2, IV M2 M2 → lwK l Lx xs n Q i 1156 M2) : lwK l Lx xs (n + 2) Q i 128 M := by
  intro v5 v6
  have e := IV_cong (op_clear (A := M) (B := pe_clear M (lwz (lwA xs i))) (lwz01 (lwA xs i))) (A' := mo_clear (pe_clear M (lwz (lwA xs i))) (lwz (lwA xs i))) (fun c hc => fb_clear (by omega)) (fun _ _ _ => rfl)
  exact mx_En (n := n) (by omega) (ls_clear hl i1 (ct_Pe_clear (d := 27) hl (lwz01 _)) (ct_Mo_clear (d := 29) hl (lwz01 _)) (kk _ e) v5 v6)
theorem lz_hole (hl : l.stackTraces = false) (hI : IV M M) (i1 : vp_in (nI i + 1) Lx) (i2 : vp_in (nI i + 2) Lx) (kk : ∀ M2, IV M2 M2 → lwK l Lx xs n Q i 1156 M2) : lwK l Lx xs (n + 2) Q i 167 M := by
  obtain ⟨D, N, J, S, fr, ov, tt, im, sa, ga, h⟩ := hI
  intro v5 v6
  obtain ⟨h1, g, hI2, h60⟩ := st_gen (f := fun B => mo_hole B (lwA xs i) (lwB xs i)) (G := fun t b => ag (pe_hole M (lwA xs i) (lwB xs i)).1 xIA xIS t b) (A' := (pe_hole M (lwA xs i) (lwB xs i)).2) (M1 := wrM (pe_hole M (lwA xs i) (lwB xs i)).1 (pe_hole M (lwA xs i) (lwB xs i)).2) h (fun B hB => op_hole hB _ _) (fun c hc _ => fa_hole hc) (fun B c hc => fb_hole hc) (fun c hc => wrM_off hc)
  exact mx_En (n := n + 1) (by omega) (ls_hole hl i1 i2 (wr_hole hl _ _ (ct_Pe_hole (d := 27) hl _ _) g) (ct_Mo_hole (d := 28) hl _ _) rfl (hb_of g h60) (kk _ hI2) v5 v6)
theorem cf_Pe {D : Nat → Bool} {N J S sa ga : Nat} {fr ov tt : Nat → Nat} {im : Nat → Nat → Nat} {sc : Nat × (Nat → Int32)} {d : Nat} (hl : l.stackTraces = false) (h : iv M M D N J S fr ov tt im sa ga) : mx_Ct l (pg_L sc) mY_Pe_freeze (d + 4) 1 [.ref 0] M (mx_rA (pe_freeze M D N).1 (pe_freeze M D N).2) := by
  have n20 := h.n20
  unfold pe_freeze
  by_cases c : pg_cb M = 0
  · rw [if_pos c]
    exact ct_Pe_freeze0 hl c
  · rw [if_neg c]
    have u : M 1 4 = 0 := by
      apply Classical.byContradiction
      intro y
      apply c
      unfold pg_cb
      rw [if_pos y]
    have hN : ¬ N = 0 := by
      intro y
      apply c
      unfold pg_cb
      rw [if_neg (fun y => y u), h.n, y, nI_0, if_pos (by decide)]
    obtain ⟨eJ, eS, _⟩ := h.un u
    have e5 : M 1 5 = nI (N - 1 + 1) := by rw [h.n]; congr 1; omega
    exact ct_Pe_freeze1 hl c h.d (by rw [← h.nD]; exact n20) (by omega) e5 (by rw [h.j, eJ, nI_0]) (by rw [h.s, eS, nI_0]) h.t
theorem cf_Mo {A : mx_M} {D : Nat → Bool} {N J S sa ga t : Nat} {fr ov tt : Nat → Nat} {im : Nat → Nat → Nat} {sc : Nat × (Nat → Int32)} {d : Nat} (hl : l.stackTraces = false) (h : iv A M D N J S fr ov tt im sa ga) (ht : t = if A 1 3 = 0 then 4 else 6) : mx_Ct l (pg_L sc) mY_Mo_freeze (d + 3) 0 [.ref 41] M (mx_rI (mo_freeze M D t N).1 (mo_freeze M D t N).2) := by
  have n20 := h.n20
  unfold mo_freeze
  by_cases c : ¬ M 41 2 = 0 ∨ M 41 3 = 0
  · rw [if_pos c]
    exact ct_Mo_freeze0 hl c
  · rw [if_neg c]
    have f0 : M 41 2 = 0 := Classical.byContradiction (fun y => c (Or.inl y))
    have u : A 1 4 = 0 := by rw [← h.f2]; exact f0
    obtain ⟨eJ, eS, _⟩ := h.un u
    have e : (if M 41 1 = 0 then 4 else 6 : Int32) = nI t := by
      rw [h.t2, ht]
      split <;> rfl
    exact ct_Mo_freeze1 hl f0 (fun y => c (Or.inr y)) h.d2 (by rw [← h.nD]; exact n20) n20 (by rw [ht]; split <;> omega) e h.n2 (by rw [h.j2, eJ, nI_0]) (by rw [h.s2, eS, nI_0])
theorem lz_freeze (hl : l.stackTraces = false) (hI : IV M M) (kk : ∀ M2, IV M2 M2 → lwK l Lx xs n Q i 1156 M2) : lwK l Lx xs (n + 2) Q i 235 M := by
  obtain ⟨D, N, J, S, fr, ov, tt, im, sa, ga, h⟩ := hI
  intro v5 v6
  obtain ⟨h1, g, hI2, h60⟩ := st_gen (f := fun B => mo_freeze B D (if M 1 3 = 0 then 4 else 6) N) (G := fun t b => ag1 (pe_freeze M D N).1 xIS t b) (A' := (pe_freeze M D N).2) (M1 := wrM (pe_freeze M D N).1 (pe_freeze M D N).2) h (fun B hB => op_freeze hB rfl) (fun c hc _ => fa_freeze (fun y => by
      have u : M 1 4 = 0 := by
        apply Classical.byContradiction
        intro z
        apply y
        unfold pg_cb
        rw [if_pos z]
      rw [h.s, (h.un u).2.1]) hc) (fun B c hc => fb_freeze hc) (fun c hc => wrM_off hc)
  exact mx_En (n := n + 1) (by omega) (ls_freeze hl (wr_freeze hl (cf_Pe (d := 24) hl h) g) (cf_Mo (d := 26) hl h1 rfl) rfl (hb_of1 g h60) (kk _ hI2) v5 v6)
theorem iv2 {D : Nat → Bool} {N J S sa ga : Nat} {fr ov tt : Nat → Nat} {im : Nat → Nat → Nat} (h : iv M M D N J S fr ov tt im sa ga) : IV (mx_up M 41 0 0) (mx_up M 41 0 0) :=
  IV_cong ⟨D, N, J, S, fr, ov, tt, im, sa, ga, iv_up h 0⟩ (fun c hc => mx_up_off (by omega)) (fun _ _ _ => rfl)
theorem lz_at (hl : l.stackTraces = false) (hI : IV M M) (i1 : vp_in (nI i + 1) Lx) (i2 : vp_in (nI i + 2) Lx) (kk : ∀ M2, IV M2 M2 → lwK l Lx xs n Q i 1156 M2) : lwK l Lx xs (n + 2) Q i 279 M := by
  obtain ⟨D, N, J, S, fr, ov, tt, im, sa, ga, h⟩ := hI
  intro v5 v6
  exact mx_En (n := n) (by omega) (ls_at hl i1 i2 (ct_Pe_at (d := 27) hl _ _) (ct_Mo_at (d := 27) hl _ _) (op_at h _ _) (kk _ (iv2 h)) v5 v6)
theorem lz_symmetries (hl : l.stackTraces = false) (hI : IV M M) (kk : ∀ M2, IV M2 M2 → lwK l Lx xs n Q i 1156 M2) : lwK l Lx xs (n + 2) Q i 808 M := by
  obtain ⟨D, N, J, S, fr, ov, tt, im, sa, ga, h⟩ := hI
  intro v5 v6
  exact mx_En (n := n) (by omega) (ls_symmetries hl (ct_Pe_symmetries (d := 28) hl) (ct_Mo_symmetries (d := 29) hl) (op_sym h) (kk _ (iv2 h)) v5 v6)
theorem lz_jump (hl : l.stackTraces = false) (hI : IV M M) (i1 : vp_in (nI i + 1) Lx) (i2 : vp_in (nI i + 2) Lx) (kk : ∀ M2, IV M2 M2 → lwK l Lx xs n Q i 1156 M2) : lwK l Lx xs (n + 2) Q i 316 M := by
  obtain ⟨D, N, J, S, fr, ov, tt, im, sa, ga, h⟩ := hI
  intro v5 v6
  obtain ⟨h1, g, hI2, h60⟩ := st_gen (f := fun B => mo_jump B (lwA xs i) (lwB xs i)) (G := fun t b => ag1 (pe_jump M (lwA xs i) (lwB xs i)) xIO t b) (A' := M) (M1 := wrM (pe_jump M (lwA xs i) (lwB xs i)) M) h (fun B hB => op_jump hB _ _) (fun c hc _ => rfl) (fun B c hc => fb_jump hc) (fun c hc => wrM_off hc)
  exact mx_En (n := n + 2) (by omega) (ls_jump hl i1 i2 (wr_jump hl _ _ (ct_Pe_jump (d := 26) hl h.j120 h.j _ _) g) (ct_Mo_jump (d := 28) hl h.j120 h1.j2 _ _) rfl (hb_of1 g h60) (kk _ hI2) v5 v6)
theorem lz_place (hl : l.stackTraces = false) (hI : IV M M) (i1 : vp_in (nI i + 1) Lx) (i2 : vp_in (nI i + 2) Lx) (kk : ∀ M2, IV M2 M2 → lwK l Lx xs n Q i 1156 M2) : lwK l Lx xs (n + 2) Q i 384 M := by
  obtain ⟨D, N, J, S, fr, ov, tt, im, sa, ga, h⟩ := hI
  intro v5 v6
  obtain ⟨h1, g, hI2, h60⟩ := st_gen (f := fun B => (0, mo_place B (lwz (lwA xs i)) (lwB xs i))) (G := fun t _ => agv1 (pe_place M (lwz (lwA xs i)) (lwB xs i)).1 xIA t) (A' := (pe_place M (lwz (lwA xs i)) (lwB xs i)).2) (M1 := wrM (pe_place M (lwz (lwA xs i)) (lwB xs i)).1 (pe_place M (lwz (lwA xs i)) (lwB xs i)).2) h (fun B hB => op_place hB _ _) (fun c hc _ => fa_place hc) (fun B c hc => fb_place hc) (fun c hc => wrM_off hc)
  exact mx_En (n := n + 1) (by omega) (ls_place hl i1 i2 (wr_place hl _ _ (lwz01 _) (ct_Pe_place (d := 25) hl _ _) g) (ct_Mo_place (d := 28) hl _ _) rfl (kk _ hI2) v5 v6)
theorem lz_after (hl : l.stackTraces = false) (hI : IV M M) (i1 : vp_in (nI i + 1) Lx) (i2 : vp_in (nI i + 2) Lx) (kk : ∀ M2, IV M2 M2 → lwK l Lx xs n Q i 1156 M2) : lwK l Lx xs (n + 2) Q i 448 M := by
  obtain ⟨D, N, J, S, fr, ov, tt, im, sa, ga, h⟩ := hI
  intro v5 v6
  obtain ⟨h1, g, hI2, h60⟩ := st_gen (f := fun B => mo_after B (lwA xs i) (lwB xs i)) (G := fun t b => ag (pe_after M (lwA xs i) (lwB xs i)) xIO xIA t b) (A' := M) (M1 := wrM (pe_after M (lwA xs i) (lwB xs i)) M) h (fun B hB => op_after hB _ _) (fun c hc _ => rfl) (fun B c hc => fb_after hc) (fun c hc => wrM_off hc)
  exact mx_En (n := n + 2) (by omega) (ls_after hl i1 i2 (wr_after hl _ _ (ct_Pe_after (d := 25) hl h.j120 h.j _ _) g) (ct_Mo_after (d := 27) hl h.j120 h1.j2 _ _) rfl (hb_of g h60) (kk _ hI2) v5 v6)
theorem lz_image (hl : l.stackTraces = false) (hI : IV M M) (i1 : vp_in (nI i + 1) Lx) (i2 : vp_in (nI i + 2) Lx) (kk : ∀ M2, IV M2 M2 → lwK l Lx xs n Q i 1156 M2) : lwK l Lx xs (n + 2) Q i 821 M := by
  obtain ⟨D, N, J, S, fr, ov, tt, im, sa, ga, h⟩ := hI
  intro v5 v6
  obtain ⟨h1, g, hI2, h60⟩ := st_gen (f := fun B => mo_image B (lwA xs i) (lwB xs i)) (G := fun t b => ag1 (pe_image M (lwA xs i) (lwB xs i)) xIO t b) (A' := M) (M1 := wrM (pe_image M (lwA xs i) (lwB xs i)) M) h (fun B hB => op_image hB _ _) (fun c hc _ => rfl) (fun B c hc => fb_image hc) (fun c hc => wrM_off hc)
  exact mx_En (n := n + 2) (by omega) (ls_image hl i1 i2 (wr_image hl _ _ (ct_Pe_image (d := 26) hl h.s12 h.s (iv_H20 h) (iv_peH h) _ _) g) (ct_Mo_image (d := 28) hl h.s12 h.n20 h1.s2 h1.n2 _ _) rfl (hb_of1 g h60) (kk _ hI2) v5 v6)
theorem lz_least (hl : l.stackTraces = false) (hI : IV M M) (i1 : vp_in (nI i + 1) Lx) (kk : ∀ M2, IV M2 M2 → lwK l Lx xs n Q i 1156 M2) : lwK l Lx xs (n + 2) Q i 889 M := by
  obtain ⟨D, N, J, S, fr, ov, tt, im, sa, ga, h⟩ := hI
  intro v5 v6
  obtain ⟨h1, g, hI2, h60⟩ := st_gen (f := fun B => mo_least B (lwA xs i) N S) (G := fun t b => ag (pe_least M (lwA xs i) N S) xIA xIS t b) (A' := M) (M1 := wrM (pe_least M (lwA xs i) N S) M) h (fun B hB => op_least hB _) (fun c hc _ => rfl) (fun B c hc => fb_least hc) (fun c hc => wrM_off hc)
  exact mx_En (n := n + 2) (by omega) (ls_least hl i1 (wr_least hl _ (ct_Pe_least (d := 25) hl h.f (fun u => ⟨h.n20, h.s12, (h.fz u).1, h.s⟩) _) g) (ct_Mo_least (d := 26) hl (fun _ => ⟨h.s12, h.n20, h1.s2, h1.n2⟩) _) rfl (hb_of g h60) (kk _ hI2) v5 v6)
theorem lz_parity (hl : l.stackTraces = false) (hI : IV M M) (i1 : vp_in (nI i + 1) Lx) (kk : ∀ M2, IV M2 M2 → lwK l Lx xs n Q i 1156 M2) : lwK l Lx xs (n + 2) Q i 945 M := by
  obtain ⟨D, N, J, S, fr, ov, tt, im, sa, ga, h⟩ := hI
  intro v5 v6
  obtain ⟨h1, g, hI2, h60⟩ := st_gen (f := fun B => mo_parity B (lwA xs i) N) (G := fun t b => ag1 (pe_parity M (lwA xs i) (iv_H M N)) xIA t b) (A' := M) (M1 := wrM (pe_parity M (lwA xs i) (iv_H M N)) M) h (fun B hB => op_parity hB _) (fun c hc _ => rfl) (fun B c hc => fb_parity hc) (fun c hc => wrM_off hc)
  exact mx_En (n := n + 1) (by omega) (ls_parity hl i1 (wr_parity hl _ (ct_Pe_parity (d := 25) hl h.t (iv_H20 h) (iv_peH h) _) g) (ct_Mo_parity (d := 28) hl h.n20 h1.n2 _) rfl (hb_of1 g h60) (kk _ hI2) v5 v6)
theorem lz_weight (hl : l.stackTraces = false) (hI : IV M M) (i1 : vp_in (nI i + 1) Lx) (i2 : vp_in (nI i + 2) Lx) (kk : ∀ M2, IV M2 M2 → lwK l Lx xs n Q i 1156 M2) : lwK l Lx xs (n + 2) Q i 1001 M := by
  obtain ⟨D, N, J, S, fr, ov, tt, im, sa, ga, h⟩ := hI
  intro v5 v6
  obtain ⟨h1, g, hI2, h60⟩ := st_gen (f := fun B => (0, mo_weight B (lwA xs i) (lwB xs i))) (G := fun t _ => agv (pe_weight M (lwA xs i) (lwB xs i)).1 xIO xIA t) (A' := (pe_weight M (lwA xs i) (lwB xs i)).2) (M1 := wrM (pe_weight M (lwA xs i) (lwB xs i)).1 (pe_weight M (lwA xs i) (lwB xs i)).2) h (fun B hB => op_weight hB _ _) (fun c hc _ => fa_weight hc) (fun B c hc => fb_weight hc) (fun c hc => wrM_off hc)
  exact mx_En (n := n + 2) (by omega) (ls_weight hl i1 i2 (wr_weight hl _ _ (ct_Pe_weight (d := 26) hl (iv_H20 h) (iv_peH h) _ _) g) (ct_Mo_weight (d := 28) hl h.n20 h1.n2 _ _) rfl (kk _ hI2) v5 v6)
theorem ju_of {D : Nat → Bool} {N J S sa ga H : Nat} {fr ov tt : Nat → Nat} {im : Nat → Nat → Nat} {B : mx_M} (h : iv M B D N J S fr ov tt im sa ga) (hH : 0 < J → N ≤ H) : ju_ok M J fr ov tt H ∧ mj_ok B J fr ov tt H := by
  refine ⟨⟨h.j, h.j120, fun k hk => ?_⟩, ⟨h.j2, h.j120, fun k hk => ?_⟩⟩
  · have := hH (by omega)
    obtain ⟨a1, a2, a3, _⟩ := h.jk k hk
    obtain ⟨b1, b2, b3, _⟩ := h.jb k hk
    exact ⟨a1, a2, a3, by omega, by omega, by omega⟩
  · have := hH (by omega)
    obtain ⟨a1, a2, a3⟩ := h.jk2 k hk
    obtain ⟨b1, b2, b3, _⟩ := h.jb k hk
    exact ⟨a1, a2, a3, by omega, by omega, by omega⟩
theorem lz_weights (hl : l.stackTraces = false) (hI : IV M M) (i1 : vp_in (nI i + 1) Lx) (kk : ∀ M2, IV M2 M2 → lwK l Lx xs n Q i 1156 M2) : lwK l Lx xs (n + 2) Q i 1049 M := by
  obtain ⟨D, N, J, S, fr, ov, tt, im, sa, ga, h⟩ := hI
  intro v5 v6
  obtain ⟨h1, g, hI2, h60⟩ := st_gen (f := fun B => mo_weights B fr ov tt J (lwA xs i)) (G := fun t b => ag1 (pe_weights M fr ov tt J (lwA xs i)) xIO t b) (A' := M) (M1 := wrM (pe_weights M fr ov tt J (lwA xs i)) M) h (fun B hB => op_weights hB _) (fun c hc _ => rfl) (fun B c hc => fb_weights hc) (fun c hc => wrM_off hc)
  exact mx_En (n := n + 2) (by omega) (ls_weights hl i1 (wr_weights hl _ (ct_Pe_weights (d := 26) hl (iv_H20 h) (iv_peH h) (ju_of h (fun _ => h.n20)).1 _) g) (ct_Mo_weights (d := 27) hl (ju_of h1 (fun _ => h.n20)).2 h.n20 h1.n2 _) rfl (hb_of1 g h60) (kk _ hI2) v5 v6)
theorem fd01 {fr ov tt : Nat → Nat} {J H : Nat} {s g : Int32} : ∀ m v (M : mx_M), (mo_fd fr ov tt J H s g m v M).1 = 0 ∨ (mo_fd fr ov tt J H s g m v M).1 = 1
  | 0, _, _ => Or.inl rfl
  | m + 1, v, M => by
    rw [mo_fd]
    split
    · exact fd01 m (v + 1) _
    · exact Or.inr rfl
theorem find01 {fr ov tt : Nat → Nat} {J H : Nat} : (mo_find M fr ov tt J H).1 = 0 ∨ (mo_find M fr ov tt J H).1 = 1 := by
  unfold mo_find
  split
  · exact fd01 _ _ _
  · exact Or.inl rfl
theorem lz_find (hl : l.stackTraces = false) (hI : IV M M) (kk : ∀ M2, IV M2 M2 → lwK l Lx xs n Q i 1156 M2) : lwK l Lx xs (n + 2) Q i 1105 M := by
  obtain ⟨D, N, J, S, fr, ov, tt, im, sa, ga, h⟩ := hI
  intro v5 v6
  obtain ⟨h1, g, hI2, h60⟩ := st_gen (f := fun B => mo_find B fr ov tt J N) (G := fun t b => ag1 (pe_find M fr ov tt J (iv_H M N)).1 xIS t b) (A' := (pe_find M fr ov tt J (iv_H M N)).2) (M1 := wrM (pe_find M fr ov tt J (iv_H M N)).1 (pe_find M fr ov tt J (iv_H M N)).2) h (fun B hB => op_find hB) (fun c hc _ => fa_find hc) (fun B c hc => fb_find hc) (fun c hc => wrM_off hc)
  have hj8 : iv_H M N ≤ 8 → ju_ok M J fr ov tt 8 := by
    intro h8
    refine (ju_of h (fun hJ => ?_)).1
    have u : ¬ M 1 4 = 0 := fun u => by have := (h.un u).1; omega
    rw [iv_H, if_neg u] at h8
    exact h8
  exact mx_En (n := n + 2) (by omega) (ls_find hl (wr_find hl find01 (ct_Pe_find (d := 16) hl (iv_H20 h) h.f (iv_peH h) hj8) g) (ct_Mo_find (d := 27) hl h.n20 h1.n2 (fun h8 => (ju_of h1 (fun _ => h8)).2)) find01 rfl (hb_of1 g h60) (kk _ hI2) v5 v6)
end LZ
