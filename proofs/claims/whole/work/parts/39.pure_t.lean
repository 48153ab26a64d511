/-! PURE: warmth and walls -/
theorem s_d4 {s : Nat} (hs : s < 1000) : nI s / 4 = nI (s / 4) ∧ nI s - nI s / 4 * 4 = nI (s % 4) := by
  have e : nI s / 4 = nI (s / 4) := pk_div (d := 4) (by omega) (by decide) (by decide)
  have e2 : nI (s / 4) * 4 = nI (s / 4 * 4) := pk_mul (s / 4) 4
  refine ⟨e, ?_⟩
  rw [e, e2, nI_sb (by omega) (by omega)]
  congr 1
  omega
/-- the warmth of a week -/
def wk_w (W : Nat → Nat) (w : Nat) : Nat := if w < 100 then W w else 10
theorem sh_warm {S : iz_S} {W : Nat → Nat} (hW : ∀ i, i < 100 → S.1 12 i = nI (W i)) {w : Nat} (hw : w < 2 ^ 31) : Sh_warmthOf 9 (nI w) S = some (nI (wk_w W w), S) := by
  have e : (0 ≤ nI w ∧ nI w ≤ 99) = (w < 100) := by
    have h99 : (99 : Int32) = nI 99 := rfl
    rw [h99, nI_leP hw (by decide)]
    have := nI_pos' hw
    apply propext
    constructor
    · intro q; omega
    · intro q; exact ⟨this, by omega⟩
  unfold wk_w
  by_cases h : w < 100
  · have i1 := in_ok (n := w) (N := 100) h (by decide)
    simp only [Sh_warmthOf, Sh_warmthOf_21, ic_within, e, h, ck_t, lt_e, bI_s, bL_s, bV_s, one_n0, zero_0, if_true, if_false, rfs, i1, g_nI _ _ hw, hW w h]
  · simp only [Sh_warmthOf, Sh_warmthOf_21, ic_within, e, h, ck_t, lt_e, bI_s, bL_s, bV_s, one_n0, zero_0, if_true, if_false, rfs]
    rfl
theorem mo_warm {S : iz_S} {W : Nat → Nat} (hW : ∀ i, i < 100 → S.1 94 i = nI (W i)) {w : Nat} (hw : w < 2 ^ 31) : Mo_warmthOf 82 (nI w) S = some (nI (wk_w W w), S) := by
  have e : (nI w < 100) = (w < 100) := propext (nI_ltI (b := 100) hw (by decide))
  unfold wk_w
  by_cases h : w < 100
  · have i1 := in_ok (n := w) (N := 100) h (by decide)
    simp only [Mo_warmthOf, Mo_warmthOf_17, e, h, ck_t, lt_e, bI_s, bL_s, bV_s, one_n0, zero_0, if_true, if_false, rfs, i1, g_nI _ _ hw, hW w h]
  · simp only [Mo_warmthOf, Mo_warmthOf_17, e, h, ck_t, lt_e, bI_s, bL_s, bV_s, one_n0, zero_0, if_true, if_false, rfs]
    rfl
/-- tenths of a column's outer walls -/
def wl_r (d : Nat → Nat) (c : Nat) : Nat := if c / 4 = 0 then 10 - d 0 else if c / 4 = 3 then 10 - d 1 else 0
def wl_s (d : Nat → Nat) (c : Nat) : Nat := if c % 4 = 0 then 10 - d 2 else if c % 4 = 3 then 10 - d 3 else 0
theorem sh_tn {S : iz_S} {d : Nat → Nat} (hd : ∀ i, i < 4 → S.1 10 i = nI (d i) ∧ d i ≤ 10) {i : Nat} (hi : i < 4) : Sh_tenthsAt 9 (nI i) S = some (nI (10 - d i), S) := by
  have n0 : ¬ nI i < 0 := nI_pos (by omega)
  have i1 := in_ok (n := i) (N := 4) hi (by decide)
  have e : (10 : Int32) - nI (d i) = nI (10 - d i) := nI_sb (a := 10) (hd i hi).2 (by decide)
  simp only [Sh_tenthsAt, Sh_tenthsAt_17, if_neg n0, ck_t, lt_e, bI_s, bL_s, bV_s, one_n0, zero_0, if_true, if_false, rfs, i1, g_nI _ _ (show i < 2 ^ 31 by omega), (hd i hi).1, e]
theorem sh_tm (S : iz_S) : Sh_tenthsAt 9 (-1) S = some (0, S) := by
  have n0 : (-1 : Int32) < 0 := by decide +kernel
  simp only [Sh_tenthsAt, Sh_tenthsAt_17, if_pos n0]
theorem sh_wall {S : iz_S} {d : Nat → Nat} (hd : ∀ i, i < 4 → S.1 10 i = nI (d i) ∧ d i ≤ 10) {c : Nat} (hc : c < 16) : Sh_wallTenths 9 (nI c) S = some (nI (wl_r d c + wl_s d c), S) := by
  have d4 := s_d4 (s := c) (by omega)
  have e0 : ∀ k, k < 4 → (nI k = 0) = (k = 0) := fun k hk => n0_iff (by omega)
  have e3 : ∀ k, k < 4 → (nI k = 3) = (k = 3) := fun k hk => propext (nI_eq (b := 3) (by omega) (by decide))
  have r : ∃ x, Sh_rowWall (nI c) S = some (x, S) ∧ Sh_tenthsAt 9 x S = some (nI (wl_r d c), S) := by
    unfold wl_r
    simp only [Sh_rowWall, Sh_rowWall_22, lt_e, d4.1, e0 (c / 4) (by omega), e3 (c / 4) (by omega)]
    by_cases h0 : c / 4 = 0
    · rw [if_pos h0, if_pos h0]; exact ⟨_, rfl, sh_tn hd (i := 0) (by decide)⟩
    · rw [if_neg h0, if_neg h0]
      by_cases h3 : c / 4 = 3
      · rw [if_pos h3, if_pos h3]; exact ⟨_, rfl, sh_tn hd (i := 1) (by decide)⟩
      · rw [if_neg h3, if_neg h3]; exact ⟨_, rfl, sh_tm S⟩
  have q : ∃ x, Sh_sideWall (nI c) S = some (x, S) ∧ Sh_tenthsAt 9 x S = some (nI (wl_s d c), S) := by
    unfold wl_s
    simp only [Sh_sideWall, Sh_sideWall_22, lt_e, d4.2, e0 (c % 4) (by omega), e3 (c % 4) (by omega)]
    by_cases h0 : c % 4 = 0
    · rw [if_pos h0, if_pos h0]; exact ⟨_, rfl, sh_tn hd (i := 2) (by decide)⟩
    · rw [if_neg h0, if_neg h0]
      by_cases h3 : c % 4 = 3
      · rw [if_pos h3, if_pos h3]; exact ⟨_, rfl, sh_tn hd (i := 3) (by decide)⟩
      · rw [if_neg h3, if_neg h3]; exact ⟨_, rfl, sh_tm S⟩
  obtain ⟨x, x1, x2⟩ := r
  obtain ⟨y, y1, y2⟩ := q
  simp only [Sh_wallTenths, x1, x2, y1, y2, bI_s, nI_add]
