/-! PURE: the house is asked: as, at, count -/
theorem ho_has_t {S : iz_S} {q B i : Nat} (hB : S.1 q 0 = nI B) (hB2 : B ≤ 60) (hi : i < B) : Ho_hasBlock q (nI i) S = some (1, S) := by
  have h := (btw_iff (x := nI i) (n := B) (by omega)).mpr ⟨i, hi, rfl⟩
  simp only [Ho_hasBlock, ic_within, hB, if_pos h, bI_s, nb_1, decide_true, ck_t]
theorem ho_has_f {S : iz_S} {q B : Nat} {x : Int32} (hB : S.1 q 0 = nI B) (hB2 : B ≤ 60) (hi : ¬ ∃ i, i < B ∧ x = nI i) : Ho_hasBlock q x S = some (0, S) := by
  have h : ¬ (0 ≤ x ∧ x ≤ nI B - 1) := fun h => hi ((btw_iff (by omega)).mp h)
  simp only [Ho_hasBlock, ic_within, hB, if_neg h, bI_s, nb_0, decide_true, ck_t]
theorem mo_has_t {S : iz_S} {B i : Nat} (hB : S.1 82 3 = nI B) (hB2 : B ≤ 60) (hi : i < B) : Mo_isBlock 82 (nI i) S = some (1, S) := by
  have h := (lt_iff (x := nI i) (n := B) (by omega)).mpr ⟨i, hi, rfl⟩
  simp only [Mo_isBlock, Mo_isBlock_17, hB, if_neg h.1, if_pos h.2, nb_1, decide_true, ck_t]
theorem mo_has_f {S : iz_S} {B : Nat} {x : Int32} (hB : S.1 82 3 = nI B) (hB2 : B ≤ 60) (hi : ¬ ∃ i, i < B ∧ x = nI i) : Mo_isBlock 82 x S = some (0, S) := by
  by_cases h1 : x < 0
  · simp only [Mo_isBlock, Mo_isBlock_16, Mo_isBlock_17, if_pos h1, nb_0, decide_true, ck_t]
  · have h2 : ¬ x < nI B := fun h2 => hi ((lt_iff (by omega)).mp ⟨h1, h2⟩)
    simp only [Mo_isBlock, Mo_isBlock_16, Mo_isBlock_17, hB, if_neg h1, if_neg h2, nb_0, decide_true, ck_t]
theorem s_c6 (c l : Nat) : nI c * 6 + nI l = nI (6 * c + l) ∧ (6 : Int32) * nI c + nI l = nI (6 * c + l) := by
  have h6 : (6 : Int32) = nI 6 := rfl
  rw [h6, pk_mul, pk_mul, nI_add, nI_add, Nat.mul_comm c 6]
  exact ⟨rfl, rfl⟩
theorem ho_at_t {S : iz_S} {c l H : Nat} (hc : c < 16) (hH : S.1 17 c = nI H) (hH6 : H ≤ 6) (hl : l < H) : Ho_blockAt 13 (nI c) (nI l) S = some (S.1 18 (6 * c + l), S) := by
  have h := (btw_iff (x := nI l) (n := H) (by omega)).mpr ⟨l, hl, rfl⟩
  have i1 := in_ok (n := c) (N := 16) hc (by decide)
  have i2 := in_ok (n := 6 * c + l) (N := 96) (by omega) (by decide)
  simp only [Ho_blockAt, Ho_blockAt_31, ck_t, lt_e, bI_s, bL_s, bV_s, one_n0, zero_0, if_true, if_false, rfs, i1, g_nI _ _ (show c < 2 ^ 31 by omega), hH, ic_within, if_pos h, (s_c6 c l).1, i2, g_nI _ _ (show 6 * c + l < 2 ^ 31 by omega)]
theorem ho_at_f {S : iz_S} {c l H : Nat} (hc : c < 16) (hH : S.1 17 c = nI H) (hH6 : H ≤ 6) (hl : ¬ l < H) (hl2 : l < 2 ^ 31) : Ho_blockAt 13 (nI c) (nI l) S = some (-1, S) := by
  have h : ¬ (0 ≤ nI l ∧ nI l ≤ nI H - 1) := fun h => by
    obtain ⟨k, hk, e⟩ := (btw_iff (by omega)).mp h
    have := (nI_eq hl2 (by omega)).mp e
    omega
  have i1 := in_ok (n := c) (N := 16) hc (by decide)
  simp only [Ho_blockAt, Ho_blockAt_31, ck_t, lt_e, bI_s, bL_s, bV_s, one_n0, zero_0, if_true, if_false, rfs, i1, g_nI _ _ (show c < 2 ^ 31 by omega), hH, ic_within, if_neg h]
theorem mo_at {S : iz_S} {c l : Nat} (hc : c < 16) (hl : l < 6) : Mo_blockAt 82 (nI c) (nI l) S = some (S.1 90 (6 * c + l), S) := by
  have i2 := in_ok (n := 6 * c + l) (N := 96) (by omega) (by decide)
  simp only [Mo_blockAt, ck_t, lt_e, bI_s, bL_s, bV_s, one_n0, zero_0, if_true, if_false, rfs, (s_c6 c l).2, i2, g_nI _ _ (show 6 * c + l < 2 ^ 31 by omega)]
theorem pc_at {S : iz_S} (h : rl S) (x y : Int32) : pc (Ic_at 0 x y) (Mo_at 82 x y) S := by
  by_cases h1 : 0 ≤ x ∧ x ≤ 15
  · by_cases h2 : 0 ≤ y ∧ y ≤ 5
    · obtain ⟨B, w, hh, b, kd, wt, pl, ⟨c1, c2, c3, c4, c5⟩, ⟨m1, m2, m3, m4, m5, m6, m7⟩, ⟨i1, i2, i3, i4, i5, i6, i7⟩, hn, hl⟩ := id h.2.2.1
      obtain ⟨c, -, cl, rfl⟩ := nI_btw (a := 0) (b := 15) (by decide) h1.1 h1.2 (by decide)
      obtain ⟨l, -, ll, rfl⟩ := nI_btw (a := 0) (b := 5) (by decide) h2.1 h2.2 (by decide)
      have j1 := in_ok (n := c) (N := 16) (by omega) (by decide)
      by_cases hlt : l < hh c
      · have e1 := ho_at_t (S := S) (by omega) (c4 c (by omega)) (i4 c (by omega)) hlt
        rw [c5 c l (by omega) hlt] at e1
        have e2 := mo_at (S := S) (c := c) (l := l) (by omega) (by omega)
        rw [m5 c l (by omega) hlt] at e2
        have nb : ¬ nI (b c l) < 0 := nI_pos (by have := (i5 c l (by omega) hlt).1; omega)
        have lt : nI l < nI (hh c) := nI_lt hlt (by have := i4 c (by omega); omega)
        refine pc_of (r := nI (b c l)) (S1 := S) (S2 := S) ?_ ?_ h
        · simp only [Ic_at, Ic_at_45, ic_isColumn, ic_within, ck_t, lt_e, bI_s, bL_s, bV_s, one_n0, zero_0, if_true, if_false, rfs, if_pos h1, if_pos h2, e1, if_neg nb]
        · simp only [Mo_at, Mo_at_46, mo_isColumn, mo_isIn, ck_t, lt_e, bI_s, bL_s, bV_s, one_n0, zero_0, if_true, if_false, rfs, if_pos h1, if_pos h2, j1, g_nI _ _ (show c < 2 ^ 31 by omega), m4 c (by omega), if_pos lt, e2]
      · have e1 := ho_at_f (S := S) (by omega) (c4 c (by omega)) (i4 c (by omega)) hlt (by omega)
        have nb : (-1 : Int32) < 0 := by decide +kernel
        have lt : ¬ nI l < nI (hh c) := nI_nlt (by omega) (by omega)
        refine pc_of (r := -1000002) (S1 := iz_up S 81 2 (S.1 81 2 + 1)) ?_ ?_ (rl_find (k := 2) h)
        · simp only [Ic_at, Ic_at_45, ic_isColumn, ic_within, ck_t, lt_e, bI_s, bL_s, bV_s, one_n0, zero_0, if_true, if_false, rfs, if_pos h1, if_pos h2, e1, if_pos nb, ic_f2]
        · have q : (iz_up S 81 2 (S.1 81 2 + 1)).1 91 c = nI (hh c) := by rw [up_p _ _ _ _ (by decide), m4 c (by omega)]
          simp only [Mo_at, Mo_at_46, mo_isColumn, mo_isIn, ck_t, lt_e, bI_s, bL_s, bV_s, one_n0, zero_0, if_true, if_false, rfs, if_pos h1, if_pos h2, j1, g_nI _ _ (show c < 2 ^ 31 by omega), q, if_neg lt, mo_f2]
    · refine pc_of (r := -1000001) (S1 := iz_up S 81 1 (S.1 81 1 + 1)) ?_ ?_ (rl_find (k := 1) h)
      · simp only [Ic_at, Ic_at_16, ic_isColumn, ic_within, ck_t, lt_e, bI_s, bL_s, bV_s, one_n0, zero_0, if_true, if_false, rfs, if_pos h1, if_neg h2, ic_f1]
      · simp only [Mo_at, Mo_at_16, mo_isColumn, mo_isIn, ck_t, lt_e, bI_s, bL_s, bV_s, one_n0, zero_0, if_true, if_false, rfs, if_pos h1, if_neg h2, mo_f1]
  · refine pc_of (r := -1000001) (S1 := iz_up S 81 1 (S.1 81 1 + 1)) ?_ ?_ (rl_find (k := 1) h)
    · simp only [Ic_at, Ic_at_16, ic_isColumn, ck_t, lt_e, bI_s, bL_s, bV_s, one_n0, zero_0, if_true, if_false, rfs, if_neg h1, ic_f1]
    · simp only [Mo_at, Mo_at_16, mo_isColumn, ck_t, lt_e, bI_s, bL_s, bV_s, one_n0, zero_0, if_true, if_false, rfs, if_neg h1, mo_f1]
