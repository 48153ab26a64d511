/-! PURE: count -/
theorem ct_s {p : Nat → Bool} {c : Nat} (h : p c = true) : fa_ct p (c + 1) = fa_ct p c + 1 := by rw [fa_ct, if_pos h]
theorem ct_n {p : Nat → Bool} {c : Nat} (h : p c = false) : fa_ct p (c + 1) = fa_ct p c := by rw [fa_ct, if_neg (by rw [h]; decide)]; rfl
theorem ho_where {S : iz_S} {B : Nat} (hB : S.1 13 0 = nI B) (hB2 : B ≤ 60) (x : Int32) : ∀ (j c n : Nat), c + j = B → j < n → Ho_blocksWhere_4 13 n x (nI (fa_ct (fun i => decide (S.1 16 i = x)) c)) (nI c) S = some (nI (fa_ct (fun i => decide (S.1 16 i = x)) B), S) := by
  intro j
  induction j with
  | zero =>
    intro c n hcj hn
    obtain ⟨m, rfl⟩ : ∃ m, n = m + 1 := ⟨n - 1, by omega⟩
    have hc : ¬ nI c < nI B := nI_nlt (by omega) (by omega)
    obtain rfl : c = B := by omega
    show Ho_blocksWhere_4b 13 (Ho_blocksWhere_4 13 m) x _ (nI c) S = _
    simp only [Ho_blocksWhere_4b, hB, if_neg hc]
  | succ j ih =>
    intro c n hcj hn
    obtain ⟨m, rfl⟩ : ∃ m, n = m + 1 := ⟨n - 1, by omega⟩
    have hc : nI c < nI B := nI_lt (by omega) (by omega)
    have i1 := in_ok (n := c) (N := 60) (by omega) (by decide)
    rw [← ih (c + 1) m (by omega) (by omega)]
    show Ho_blocksWhere_4b 13 (Ho_blocksWhere_4 13 m) x _ (nI c) S = _
    by_cases ht : S.1 16 c = x
    · rw [ct_s (c := c) (decide_eq_true ht)]
      simp only [Ho_blocksWhere_4b, Ho_blocksWhere_25, hB, if_pos hc, ck_t, lt_e, bI_s, bL_s, bV_s, one_n0, zero_0, if_true, if_false, rfs, i1, g_nI _ _ (show c < 2 ^ 31 by omega), if_pos ht, nI_1]
    · rw [ct_n (c := c) (decide_eq_false ht)]
      simp only [Ho_blocksWhere_4b, Ho_blocksWhere_25, hB, if_pos hc, ck_t, lt_e, bI_s, bL_s, bV_s, one_n0, zero_0, if_true, if_false, rfs, i1, g_nI _ _ (show c < 2 ^ 31 by omega), if_neg ht, nI_1]
theorem mo_where {S : iz_S} {B : Nat} (hB : S.1 82 3 = nI B) (hB2 : B ≤ 60) (x : Int32) : ∀ (j c n : Nat), c + j = B → j < n → Mo_placed_4 82 n x (nI (fa_ct (fun i => decide (S.1 88 i = x)) c)) (nI c) S = some (nI (fa_ct (fun i => decide (S.1 88 i = x)) B), S) := by
  intro j
  induction j with
  | zero =>
    intro c n hcj hn
    obtain ⟨m, rfl⟩ : ∃ m, n = m + 1 := ⟨n - 1, by omega⟩
    have hc : ¬ nI c < nI B := nI_nlt (by omega) (by omega)
    obtain rfl : c = B := by omega
    show Mo_placed_4b 82 (Mo_placed_4 82 m) x _ (nI c) S = _
    simp only [Mo_placed_4b, hB, if_neg hc]
  | succ j ih =>
    intro c n hcj hn
    obtain ⟨m, rfl⟩ : ∃ m, n = m + 1 := ⟨n - 1, by omega⟩
    have hc : nI c < nI B := nI_lt (by omega) (by omega)
    have i1 := in_ok (n := c) (N := 60) (by omega) (by decide)
    have z : ∀ y : Int32, y + 0 = y := fun y => Int32.add_zero y
    rw [← ih (c + 1) m (by omega) (by omega)]
    show Mo_placed_4b 82 (Mo_placed_4 82 m) x _ (nI c) S = _
    by_cases ht : S.1 88 c = x
    · rw [ct_s (c := c) (decide_eq_true ht)]
      simp only [Mo_placed_4b, Mo_placed_28, hB, if_pos hc, ck_t, lt_e, bI_s, bL_s, bV_s, one_n0, zero_0, if_true, if_false, rfs, i1, g_nI _ _ (show c < 2 ^ 31 by omega), if_pos ht, nI_1]
    · rw [ct_n (c := c) (decide_eq_false ht)]
      simp only [Mo_placed_4b, Mo_placed_28, hB, if_pos hc, ck_t, lt_e, bI_s, bL_s, bV_s, one_n0, zero_0, if_true, if_false, rfs, i1, g_nI _ _ (show c < 2 ^ 31 by omega), if_neg ht, nI_1, z]
theorem mo_served {S : iz_S} {B : Nat} (hB : S.1 82 14 = nI B) (hB2 : B ≤ 10) : ∀ (j c n : Nat), c + j = B → j < n → Mo_count_76 82 n (nI (fa_ct (fun i => decide (S.1 100 i ≠ 0)) c)) (nI c) S = some (nI (fa_ct (fun i => decide (S.1 100 i ≠ 0)) B), S) := by
  intro j
  induction j with
  | zero =>
    intro c n hcj hn
    obtain ⟨m, rfl⟩ : ∃ m, n = m + 1 := ⟨n - 1, by omega⟩
    have hc : ¬ nI c < nI B := nI_nlt (by omega) (by omega)
    obtain rfl : c = B := by omega
    show Mo_count_76b 82 (Mo_count_76 82 m) _ (nI c) S = _
    simp only [Mo_count_76b, hB, if_neg hc]
  | succ j ih =>
    intro c n hcj hn
    obtain ⟨m, rfl⟩ : ∃ m, n = m + 1 := ⟨n - 1, by omega⟩
    have hc : nI c < nI B := nI_lt (by omega) (by omega)
    have i1 := in_ok (n := c) (N := 10) (by omega) (by decide)
    have z : ∀ y : Int32, y + 0 = y := fun y => Int32.add_zero y
    rw [← ih (c + 1) m (by omega) (by omega)]
    show Mo_count_76b 82 (Mo_count_76 82 m) _ (nI c) S = _
    by_cases ht : S.1 100 c = 0
    · rw [ct_n (p := fun i => decide (S.1 100 i ≠ 0)) (c := c) (decide_eq_false (fun q => q ht))]
      simp only [Mo_count_76b, Mo_count_99, hB, if_pos hc, ck_t, lt_e, bI_s, bL_s, bV_s, one_n0, zero_0, if_true, if_false, rfs, i1, g_nI _ _ (show c < 2 ^ 31 by omega), if_pos ht, nI_1, z]
    · rw [ct_s (p := fun i => decide (S.1 100 i ≠ 0)) (c := c) (decide_eq_true ht)]
      simp only [Mo_count_76b, Mo_count_99, hB, if_pos hc, ck_t, lt_e, bI_s, bL_s, bV_s, one_n0, zero_0, if_true, if_false, rfs, i1, g_nI _ _ (show c < 2 ^ 31 by omega), if_neg ht, nI_1]
theorem pc_count {S : iz_S} (h : rl S) (x : Int32) : pc (Ic_count 0 x) (Mo_count 82 x) S := by
  by_cases hx : 0 ≤ x ∧ x ≤ 8
  · obtain ⟨B, w, hh, b, kd, wt, pl, ⟨c1, c2, c3, c4, c5⟩, ⟨m1, m2, m3, m4, m5, m6, m7⟩, ⟨i1, i2, i3, i4, i5, i6, i7⟩, hn, hl⟩ := id h.2.2.1
    obtain ⟨k, -, kl, rfl⟩ := nI_btw (a := 0) (b := 8) (by decide) hx.1 hx.2 (by decide)
    have fu := fu_ge
    have hw := fun a => ho_where c1 i1 a B 0 iz_FU (by omega) (by omega)
    have mw := fun a => mo_where m1 i1 a B 0 iz_FU (by omega) (by omega)
    have ew : ∀ a, fa_ct (fun i => decide (S.1 88 i = a)) B = fa_ct (fun i => decide (S.1 16 i = a)) B := fun a => ct_cong (fun i hi => by rw [(m3 i hi).2.2, (c3 i hi).2.2])
    obtain ⟨n, o1, o2, o3, o4, o5, o6⟩ := id h.2.2.2.1
    obtain ⟨n2, r1, r2, r3, -⟩ := id h.2.2.2.2.1
    obtain ⟨n3, w1, w2, w3, -⟩ := id h.2.2.2.2.2.1
    have ms := mo_served o3 o1 n 0 iz_FU (by omega) (by omega)
    have es : fa_ct (fun i => decide (S.1 100 i ≠ 0)) n = fa_ct (fun i => decide (S.1 44 i ≠ 0)) n := ct_cong (fun i hi => by rw [(o6 i (by omega)).2.2.2.2.2.1])
    have ef : ctT S 83 1 = ctT S 2 1 := ctT_cong (fun i hi => (h.1 i hi).1)
    have key : ∃ r, Ic_count 0 (nI k) S = some (r, S) ∧ Mo_count 82 (nI k) S = some (r, S) := by
      unfold Ic_count Mo_count
      have s1 := fun (os : List (Option (Int32 × iz_S))) od => sw_in (os := os) (od := od) (k := k) (hi := 8) kl (by decide)
      have e8 : ((8 : Nat) : Int) = 8 := rfl
      rw [e8] at s1
      rw [s1, s1]
      obtain rfl | rfl | rfl | rfl | rfl | rfl | rfl | rfl | rfl : k = 0 ∨ k = 1 ∨ k = 2 ∨ k = 3 ∨ k = 4 ∨ k = 5 ∨ k = 6 ∨ k = 7 ∨ k = 8 := by omega
      · refine ⟨nI B, ?_, ?_⟩
        · simp only [List.getD_cons_zero, ck_t, lt_e, bI_s, bL_s, bV_s, one_n0, zero_0, if_true, if_false, rfs, c1]
        · simp only [List.getD_cons_zero, m1]
      · refine ⟨nI (fa_ct (fun i => decide (S.1 16 i = 0)) B), ?_, ?_⟩
        · have := hw 0
          show iz_bI (Ho_blocksWhere (iz_rf 0 3) 0 S) (fun r S1 => some (r, S1)) = _
          simp only [ck_t, lt_e, bI_s, bL_s, bV_s, one_n0, zero_0, if_true, if_false, rfs, Ho_blocksWhere]
          rw [show Ho_blocksWhere_4 13 iz_FU 0 0 0 S = _ from this, bI_s]
        · have := mw 0
          rw [ew] at this
          show iz_bI (Mo_placed 82 0 S) (fun r S1 => some (r, S1)) = _
          rw [Mo_placed, show Mo_placed_4 82 iz_FU 0 0 0 S = _ from this, bI_s]
      · refine ⟨nI (fa_ct (fun i => decide (S.1 16 i = 1)) B), ?_, ?_⟩
        · have := hw 1
          show iz_bI (Ho_blocksWhere (iz_rf 0 3) 1 S) (fun r S1 => some (r, S1)) = _
          simp only [ck_t, lt_e, bI_s, bL_s, bV_s, one_n0, zero_0, if_true, if_false, rfs, Ho_blocksWhere]
          rw [show Ho_blocksWhere_4 13 iz_FU 1 0 0 S = _ from this, bI_s]
        · have := mw 1
          rw [ew] at this
          show iz_bI (Mo_placed 82 1 S) (fun r S1 => some (r, S1)) = _
          rw [Mo_placed, show Mo_placed_4 82 iz_FU 1 0 0 S = _ from this, bI_s]
      · refine ⟨nI n, ?_, ?_⟩
        · show some (S.1 (iz_rf 0 6) 0, S) = _
          simp only [ck_t, lt_e, bI_s, bL_s, bV_s, one_n0, zero_0, if_true, if_false, rfs, o2]
        · show some (S.1 82 14, S) = _
          rw [o3]
      · refine ⟨S.1 38 1, ?_, ?_⟩
        · show some (S.1 (iz_rf 0 6) 1, S) = _
          simp only [ck_t, lt_e, bI_s, bL_s, bV_s, one_n0, zero_0, if_true, if_false, rfs]
        · rw [es, ← o5] at ms
          exact ms
      · refine ⟨nI w, ?_, ?_⟩
        · show some (S.1 (iz_rf 0 3) 5, S) = _
          simp only [ck_t, lt_e, bI_s, bL_s, bV_s, one_n0, zero_0, if_true, if_false, rfs, c2]
        · show some (S.1 82 13, S) = _
          rw [m2]
      · refine ⟨nI n2, ?_, ?_⟩
        · show some (S.1 (iz_rf 0 8) 0, S) = _
          simp only [ck_t, lt_e, bI_s, bL_s, bV_s, one_n0, zero_0, if_true, if_false, rfs, r2]
        · show some (S.1 82 21, S) = _
          rw [r3]
      · refine ⟨nI n3, ?_, ?_⟩
        · show some (S.1 (iz_rf 0 9) 0, S) = _
          simp only [ck_t, lt_e, bI_s, bL_s, bV_s, one_n0, zero_0, if_true, if_false, rfs, w2]
        · show some (S.1 82 26, S) = _
          rw [w3]
      · refine ⟨nI (ctT S 2 1), ?_, ?_⟩
        · show iz_bI (La_frozenCells (iz_rf 0 0) S) (fun r S1 => some (r, S1)) = _
          simp only [ck_t, lt_e, bI_s, bL_s, bV_s, one_n0, zero_0, if_true, if_false, rfs, La_frozenCells, la_count]
        · show iz_bI (Mo_bearing 82 1 S) (fun r S1 => some (r, S1)) = _
          rw [mo_bearing, bI_s, ef]
    obtain ⟨r, g1, g2⟩ := key
    exact pc_of g1 g2 h
  · have s1 := fun (os : List (Option (Int32 × iz_S))) od => sw_out (x := x) (os := os) (od := od) (hi := 8) hx (by decide)
    have e8 : ((8 : Nat) : Int) = 8 := rfl
    rw [e8] at s1
    refine pc_of (r := -1000001) (S1 := iz_up S 81 1 (S.1 81 1 + 1)) ?_ ?_ (rl_find (k := 1) h)
    · simp only [Ic_count, s1, ic_f1, ck_t, lt_e, bI_s, bL_s, bV_s, one_n0, zero_0, if_true, if_false, rfs]
    · simp only [Mo_count, s1, mo_f1, ck_t, lt_e, bI_s, bL_s, bV_s, one_n0, zero_0, if_true, if_false, rfs]
