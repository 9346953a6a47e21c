/-! PegBoards$Reaching: a jump on the way, and the different leasts. -/
section WY
variable {l : Launch} {sc : Nat × (Nat → Int32)} {d : Nat} {M : mx_M}
theorem re_jw0 (hl : l.stackTraces = false) (hS : fo_ok (M 30)) (s g i : Int32) (h : re_no M g = -1 ∨ i < 0 ∨ pq_bc s - pq_bc g ≤ i) : mx_Ct l (pg_L sc) mY_Re_jumpOnWay (d + 3) 0 [.ref 27, .int s, .int g, .int i] M (mx_rI (-1) M) := by
  refine mx_bd (n0 := 4) hl (by decide +kernel) rfl rfl rfl ?_
  refine mx_cVi mo_Re_jumpOnWay 3 (As := [.int g]) (rest := []) rfl (ct_Fo0_numberOf hl hS g) rfl trivial rfl rfl rfl kv_Re_81 kd_Fo_numberOf rfl rfl rfl ?_
  change mx_E l (pg_L sc) mY_Re_jumpOnWay (d + 3) 0 _ 8 [.ref 27, .int s, .int g, .int i, .null, .null, .null] [.int (re_no M g)] M
  refine mx_cSi mo_Re_jumpOnWay 2 (As := [.int s]) (rest := []) rfl (ct_In_bitCount hl s) rfl trivial rfl ks_Re_84 kd_In_bitCount rfl rfl rfl ?_
  refine mx_cSi mo_Re_jumpOnWay 1 (As := [.int g]) (rest := [.int (pq_bc s)]) rfl (ct_In_bitCount hl g) rfl trivial rfl ks_Re_84 kd_In_bitCount rfl rfl rfl ?_
  generalize hn : pq_bc s - pq_bc g = n at h
  refine mx_go mo_Re_jumpOnWay 2 (pc' := 21) (ls' := [.ref 27, .int s, .int g, .int i, .int (re_no M g), .int n, .null]) (st' := []) (M' := M) (by rw [← hn]; rfl) trivial ?_
  have fin : mx_E l (pg_L sc) mY_Re_jumpOnWay (d + 3) 0 (mx_rI (-1) M) 37 [.ref 27, .int s, .int g, .int i, .int (re_no M g), .int n, .null] [] M :=
    mx_ret_i mo_Re_jumpOnWay rfl 1 rfl trivial rfl ⟨rfl, rfl⟩
  refine mx_if mo_Re_jumpOnWay 2 (t := 37) (f := 27) rfl trivial (fun _ => fin) (fun (q : ¬ re_no M g = -1) => ?_)
  refine mx_if mo_Re_jumpOnWay 1 (t := 37) (f := 31) rfl trivial (fun _ => fin) (fun (q1 : ¬ i < 0) => ?_)
  refine mx_if mo_Re_jumpOnWay 2 (t := 39) (f := 37) rfl trivial (fun (q2 : i < n) => ?_) (fun _ => fin)
  rcases h with h | h | h
  · exact absurd h q
  · exact absurd h q1
  · exact absurd h (Int32.not_le.mpr q2)
/-- w: the numbers on the way back from the goal -/
theorem re_jw1 (hl : l.stackTraces = false) (hS : fo_ok (M 30)) (s g : Int32) {j n : Nat} {w : Nat → Nat} (hg : re_no M g = nI (w 0)) (hn : pq_bc s - pq_bc g = nI n) (hj : j < n) (hn2 : n < 500) (hw : ∀ m, m ≤ n - 1 - j → w m < 500) (hc : ∀ m, m < n - 1 - j → M 34 (w m) = nI (w (m + 1))) : mx_Ct l (pg_L sc) mY_Re_jumpOnWay (d + 3) 0 [.ref 27, .int s, .int g, .int (nI j)] M (mx_rI (M 35 (w (n - 1 - j))) M) := by
  have loop : ∀ (r m : Nat), n - 1 - j - m = r → m ≤ n - 1 - j → mx_E l (pg_L sc) mY_Re_jumpOnWay (d + 3) 0 (mx_rI (M 35 (w (n - 1 - j))) M) 45 [.ref 27, .int s, .int g, .int (nI j), .int (nI (w m)), .int (nI n), .int (nI (n - 1 - m))] [] M := by
    intro r
    induction r with
    | zero =>
      intro m hm hle
      have e : m = n - 1 - j := by omega
      have hv : vp_in (nI (w m)) 500 := vp_in_nI (hw m hle) (by decide)
      have ev : (nI (w m)).toNatClampNeg = w m := nI_clamp (by have := hw m hle; omega)
      refine mx_if mo_Re_jumpOnWay 2 (t := 66) (f := 51) rfl trivial (fun _ => ?_) (fun (q : ¬ nI (n - 1 - m) ≤ nI j) => ?_)
      · refine mx_ret_i mo_Re_jumpOnWay rfl 4 (v := M 35 (nI (w m)).toNatClampNeg) rfl ⟨hv, trivial⟩ rfl ⟨by rw [ev, e], rfl⟩
      · exact absurd (nI_le (by omega) (by omega)) q
    | succ r ih =>
      intro m hm hle
      have hv : vp_in (nI (w m)) 500 := vp_in_nI (hw m hle) (by decide)
      have ev : (nI (w m)).toNatClampNeg = w m := nI_clamp (by have := hw m hle; omega)
      refine mx_if mo_Re_jumpOnWay 2 (t := 66) (f := 51) rfl trivial (fun (q : nI (n - 1 - m) ≤ nI j) => ?_) (fun _ => ?_)
      · exact absurd q (nI_ge (by omega) (by omega))
      · refine mx_go mo_Re_jumpOnWay 7 (pc' := 45) (ls' := [.ref 27, .int s, .int g, .int (nI j), .int (M 34 (nI (w m)).toNatClampNeg), .int (nI n), .int (nI (n - 1 - m) + (-1))]) (st' := []) (M' := M) rfl ⟨hv, trivial⟩ ?_
        rw [ev, hc m (by omega)]
        have e1 : nI (n - 1 - m) + (-1) = nI (n - 1 - (m + 1)) := by
          rw [show n - 1 - m = (n - 1 - (m + 1)) + 1 by omega, show ∀ x : Int32, x + (-1) = x - 1 from fun x => by rw [Int32.sub_eq_add_neg], nI_pred]
        rw [e1]
        exact ih (m + 1) (by omega) (by omega)
  refine mx_bd (n0 := 4) hl (by decide +kernel) rfl rfl rfl ?_
  refine mx_cVi mo_Re_jumpOnWay 3 (As := [.int g]) (rest := []) rfl (ct_Fo0_numberOf hl hS g) rfl trivial rfl rfl rfl kv_Re_81 kd_Fo_numberOf rfl rfl rfl ?_
  change mx_E l (pg_L sc) mY_Re_jumpOnWay (d + 3) 0 _ 8 [.ref 27, .int s, .int g, .int (nI j), .null, .null, .null] [.int (re_no M g)] M
  rw [hg]
  refine mx_cSi mo_Re_jumpOnWay 2 (As := [.int s]) (rest := []) rfl (ct_In_bitCount hl s) rfl trivial rfl ks_Re_84 kd_In_bitCount rfl rfl rfl ?_
  refine mx_cSi mo_Re_jumpOnWay 1 (As := [.int g]) (rest := [.int (pq_bc s)]) rfl (ct_In_bitCount hl g) rfl trivial rfl ks_Re_84 kd_In_bitCount rfl rfl rfl ?_
  refine mx_go mo_Re_jumpOnWay 2 (pc' := 21) (ls' := [.ref 27, .int s, .int g, .int (nI j), .int (nI (w 0)), .int (nI n), .null]) (st' := []) (M' := M) (by rw [← hn]; rfl) trivial ?_
  have h0 : w 0 < 500 := hw 0 (by omega)
  refine mx_if mo_Re_jumpOnWay 2 (t := 37) (f := 27) rfl trivial (fun (q : nI (w 0) = -1) => ?_) (fun _ => ?_)
  · have := nI_pos (n := w 0) (by omega)
    rw [q] at this
    exact absurd (by decide) this
  refine mx_if mo_Re_jumpOnWay 1 (t := 37) (f := 31) rfl trivial (fun (q1 : nI j < 0) => absurd q1 (nI_pos (by omega))) (fun _ => ?_)
  refine mx_if mo_Re_jumpOnWay 2 (t := 39) (f := 37) rfl trivial (fun _ => ?_) (fun (q2 : ¬ nI j < nI n) => ?_)
  · refine mx_go mo_Re_jumpOnWay 4 (pc' := 45) (ls' := [.ref 27, .int s, .int g, .int (nI j), .int (nI (w 0)), .int (nI n), .int (nI n - 1)]) (st' := []) (M' := M) rfl trivial ?_
    have e1 : nI n - 1 = nI (n - 1 - 0) := by
      rw [show n = (n - 1 - 0) + 1 by omega, nI_pred]; rfl
    rw [e1]
    exact loop (n - 1 - j) 0 (by omega) (by omega)
  · exact absurd (Int32.not_le.mp (nI_ge hj (by omega))) q2
/-- how many different numbers g has before n -/
def le_c (g : Nat → Int32) : Nat → Nat
  | 0 => 0
  | n + 1 => le_c g n + (if ∃ i, i < n ∧ g i = g n then 0 else 1)
def re_l0 (M : mx_M) : mx_M := mx_up (pg_fill M 33 1024 0) 31 2 0
def re_l1 (A : mx_M) (p : Int32) : mx_M := if A 33 (hs_f (A 33) (A 32) p 1024 (fo_h p)) = 0 then fo1_in A (A 31 2).toNatClampNeg (hs_f (A 33) (A 32) p 1024 (fo_h p)) p else A
def re_ls (M : mx_M) (g : Nat → Int32) : Nat → mx_M
  | 0 => re_l0 M
  | n + 1 => re_l1 (re_ls M g n) (g n)
theorem fo1_in_off {n t c : Nat} {p : Int32} (h1 : c ≠ 31) (h2 : c ≠ 32) (h3 : c ≠ 33) : fo1_in M n t p c = M c := by
  rw [fo1_in, mx_up_off h3, mx_up_off h1, mx_up_off h2]
theorem re_ls_off {g : Nat → Int32} {c : Nat} (h1 : c ≠ 31) (h2 : c ≠ 32) (h3 : c ≠ 33) : ∀ n, re_ls M g n c = M c := by
  intro n
  induction n with
  | zero =>
    rw [re_ls, re_l0, mx_up_off h1]
    funext j
    simp [pg_fill, mx_row, h3]
  | succ n ih =>
    rw [re_ls, re_l1]
    split
    · rw [fo1_in_off h1 h2 h3, ih]
    · exact ih
theorem re_ls_ok {g : Nat → Int32} : ∀ n, n ≤ 500 → le_c g n ≤ n ∧ re_ls M g n 31 2 = nI (le_c g n) ∧ hs_ok fo_h (re_ls M g n 33) (re_ls M g n 32) (le_c g n) ∧ ∀ p, (∃ i, i < le_c g n ∧ re_ls M g n 32 i = p) ↔ ∃ i, i < n ∧ g i = p := by
  intro n
  induction n with
  | zero =>
    intro _
    refine ⟨Nat.le_refl _, ?_, ?_, fun p => ?_⟩
    · rw [re_ls, re_l0, mx_up_row]; simp [upd, le_c]; rfl
    · refine hs_nil (fun p => (fo_hx p).2) (fun t ht => ?_)
      rw [re_ls, re_l0, mx_up_off (by decide)]; simp [pg_fill, mx_row, ht]
    · constructor
      · rintro ⟨i, hi, -⟩; exact absurd hi (Nat.not_lt_zero i)
      · rintro ⟨i, hi, -⟩; exact absurd hi (Nat.not_lt_zero i)
  | succ n ih =>
    intro hn
    obtain ⟨a1, a2, a3, a4⟩ := ih (by omega)
    have e28 : (re_ls M g n 31 2).toNatClampNeg = le_c g n := by rw [a2]; exact nI_clamp (by omega)
    obtain ⟨k, -, k2, -, k4⟩ := hs_find a3 (g n)
    rw [le_c, re_ls, re_l1, e28]
    rcases k4 with ⟨q1, q2⟩ | ⟨i, hi, q1, q2⟩
    · have hno : ¬ ∃ i, i < n ∧ g i = g n := fun h => by
        obtain ⟨i, hi, e⟩ := (a4 (g n)).mpr h
        exact q2 i hi e
      rw [if_neg hno, if_pos (by rw [k2]; exact q1)]
      have e32 : ∀ t, fo1_in (re_ls M g n) (le_c g n) t (g n) 32 = upd (re_ls M g n 32) (le_c g n) (g n) := fun t => by
        rw [fo1_in, mx_up_off (by decide), mx_up_off (by decide), mx_up_row]
      have e33 : ∀ t, fo1_in (re_ls M g n) (le_c g n) t (g n) 33 = upd (re_ls M g n 33) t (nI (le_c g n + 1)) := fun t => by
        rw [fo1_in, mx_up_row, mx_up_off (by decide), mx_up_off (by decide)]
      have e31 : ∀ t, fo1_in (re_ls M g n) (le_c g n) t (g n) 31 2 = nI (le_c g n + 1) := fun t => by
        rw [fo1_in, mx_up_off (by decide), mx_up_row]; simp [upd]
      refine ⟨by omega, e31 _, ?_, fun p => ?_⟩
      · rw [e32, e33]
        exact hs_add a3 (by omega) q2
      · rw [e32]
        constructor
        · rintro ⟨i, hi, e⟩
          by_cases hin : i = le_c g n
          · subst hin
            simp [upd] at e
            exact ⟨n, by omega, e⟩
          · simp [upd, hin] at e
            obtain ⟨i', hi', e'⟩ := (a4 p).mp ⟨i, by omega, e⟩
            exact ⟨i', by omega, e'⟩
        · rintro ⟨i, hi, e⟩
          by_cases hin : i = n
          · subst hin
            exact ⟨le_c g i, by omega, by simp [upd, e]⟩
          · obtain ⟨i', hi', e'⟩ := (a4 p).mpr ⟨i, by omega, e⟩
            exact ⟨i', by omega, by simp [upd, show i' ≠ le_c g n by omega, e']⟩
    · have hyes : ∃ i, i < n ∧ g i = g n := (a4 (g n)).mp ⟨i, hi, q1⟩
      rw [if_pos hyes, if_neg (by rw [k2, q2]; exact nI_ne0 (by omega) (by omega))]
      refine ⟨by omega, a2, a3, fun p => ?_⟩
      rw [Nat.add_zero, a4 p]
      constructor
      · rintro ⟨i, hi, e⟩; exact ⟨i, by omega, e⟩
      · rintro ⟨i, hi, e⟩
        by_cases hin : i = n
        · subst hin
          obtain ⟨j, hj, ej⟩ := hyes
          exact ⟨j, hj, by rw [ej, e]⟩
        · exact ⟨i, by omega, e⟩
theorem ct_Re_differentLeasts (hl : l.stackTraces = false) {s n N : Nat} (hn : n ≤ 20) (hs : s ≤ 12) (hh : M 11 3 = nI n) (hss : M 11 4 = nI s) (hN : N ≤ 500) (hf : M 28 2 = nI N) : mx_Ct l (pg_L sc) mY_Re_differentLeasts (d + 3) 0 [.ref 27, .ref 11] M (mx_rI (nI (le_c (fun i => sy_lo M (M 29 i) n s) N)) (re_ls M (fun i => sy_lo M (M 29 i) n s) N)) := by
  generalize hg : (fun i => sy_lo M (M 29 i) n s) = g
  have hgi : ∀ i, sy_lo M (M 29 i) n s = g i := fun i => by rw [← hg]
  have hlo : ∀ (A : mx_M), (∀ c, c < 31 → A c = M c) → ∀ p k, k ≤ 12 → sy_lo A p n k = sy_lo M p n k := by
    intro A hA p k
    induction k with
    | zero => intro _; rfl
    | succ k ih =>
      intro hk
      rw [sy_lo, sy_lo, ih (by omega), hA (13 + k) (by omega)]
  have loop : ∀ (m i : Nat), N - i = m → i ≤ N → mx_E l (pg_L sc) mY_Re_differentLeasts (d + 3) 0 (mx_rI (nI (le_c g N)) (re_ls M g N)) 9 [.ref 27, .ref 11, .int (nI i)] [] (re_ls M g i) := by
    intro m
    induction m with
    | zero =>
      intro i hm hle
      have e : i = N := by omega
      subst e
      obtain ⟨-, a2, -, -⟩ := re_ls_ok (M := M) (g := g) i hN
      refine mx_cVi mo_Re_differentLeasts 3 (rest := [.int (nI i)]) rfl (ct_Fo0_size hl) rfl trivial rfl rfl rfl kv_Re_45 kd_Fo_size rfl rfl rfl ?_
      rw [re_ls_off (by decide) (by decide) (by decide), hf]
      refine mx_if mo_Re_differentLeasts 0 (t := 49) (f := 20) rfl trivial (fun q => ?_) (fun q => ?_)
      · refine mx_cVi mo_Re_differentLeasts 2 (rest := []) rfl (ct_Fo1_size hl) rfl trivial rfl rfl rfl kv_Re_45 kd_Fo_size rfl rfl rfl ?_
        exact mx_ret_i mo_Re_differentLeasts rfl 0 rfl trivial rfl ⟨by rw [a2], rfl⟩
      · exact absurd (nI_le (Nat.le_refl i) (by omega)) q
    | succ m ih =>
      intro i hm hle
      obtain ⟨a1, a2, a3, -⟩ := re_ls_ok (M := M) (g := g) i (by omega)
      have hoff : ∀ c, c < 31 → re_ls M g i c = M c := fun c hc => re_ls_off (by omega) (by omega) (by omega) i
      refine mx_cVi mo_Re_differentLeasts 3 (rest := [.int (nI i)]) rfl (ct_Fo0_size hl) rfl trivial rfl rfl rfl kv_Re_45 kd_Fo_size rfl rfl rfl ?_
      rw [hoff 28 (by decide), hf]
      refine mx_if mo_Re_differentLeasts 0 (t := 49) (f := 20) rfl trivial (fun q => ?_) (fun q => ?_)
      · exact absurd q (nI_ge (by omega) (by omega))
      refine mx_cVi mo_Re_differentLeasts 7 (As := [.int (nI i)]) (rest := [.ref 11, .int (nI 500), .ref 31]) rfl (ct_Fo0_positionOf hl (by omega)) rfl trivial rfl rfl rfl kv_Re_53 kd_Fo_positionOf rfl rfl rfl ?_
      rw [hoff 29 (by decide)]
      refine mx_cVi mo_Re_differentLeasts 0 (As := [.int (M 29 i)]) (rest := [.int (nI 500), .ref 31]) rfl (ct_Sy_leastOf hl hn hs (by rw [hoff 11 (by decide)]; exact hh) (by rw [hoff 11 (by decide)]; exact hss) (M 29 i)) rfl trivial rfl rfl rfl kv_Re_89 kd_Sy_leastOf rfl rfl rfl ?_
      rw [hlo _ hoff _ s hs, hgi i]
      have next : ∀ v : Int32, mx_E l (pg_L sc) mY_Re_differentLeasts (d + 3) 0 (mx_rI (nI (le_c g N)) (re_ls M g N)) 42 [.ref 27, .ref 11, .int (nI i)] [.int v] (re_ls M g (i + 1)) := by
        intro v
        refine mx_go mo_Re_differentLeasts 3 (pc' := 9) (ls' := [.ref 27, .ref 11, .int (nI i + 1)]) (st' := []) rfl trivial ?_
        rw [nI_1]
        exact ih (i + 1) (by omega) (by omega)
      have hfo : fo_ok (re_ls M g i 33) := by
        intro t ht
        rcases a3.2.2.1 t ht with q | ⟨j, hj, q⟩
        · exact Or.inl q
        · exact Or.inr ⟨j, by omega, q⟩
      rw [re_ls, re_l1] at next
      by_cases hz : re_ls M g i 33 (hs_f (re_ls M g i 33) (re_ls M g i 32) (g i) 1024 (fo_h (g i))) = 0
      · rw [if_pos hz, a2, nI_clamp (by omega)] at next
        refine mx_cVi mo_Re_differentLeasts 0 (As := [.int (nI 500), .int (g i)]) (rest := []) rfl (ct_Fo1_nwNew hl hfo (g i) a2 (by omega) (by omega) (by omega) hz) rfl trivial rfl rfl rfl kv_Re_41 kd_Fo_numberWithin rfl rfl rfl ?_
        exact next _
      · rw [if_neg hz] at next
        refine mx_cVi mo_Re_differentLeasts 0 (As := [.int (nI 500), .int (g i)]) (rest := []) rfl (ct_Fo1_nwOld hl hfo (nI 500) (g i) hz) rfl trivial rfl rfl rfl kv_Re_41 kd_Fo_numberWithin rfl rfl rfl ?_
        exact next _
  refine mx_bd (n0 := 2) hl (by decide +kernel) rfl rfl rfl ?_
  refine mx_cVv mo_Re_differentLeasts 2 (As := []) (rest := []) rfl (ct_Fo1_forget hl) rfl trivial rfl rfl rfl kv_Re_34 kd_Fo_forget rfl rfl rfl ?_
  exact mx_go mo_Re_differentLeasts 2 (pc' := 9) (ls' := [.ref 27, .ref 11, .int (nI 0)]) (st' := []) (M' := re_ls M g 0) rfl trivial (loop N 0 (by omega) (by omega))
end WY
