/-! PURE: as, count -/
theorem un_s (n : Nat) (a k c : Int32) (S : iz_S) : Ic_isUnder_4 (n + 1) a k c S = Ic_isUnder_4b (Ic_isUnder_4 n) a k c S := rfl
def un_p (k a : Nat) : Bool := a == 0 || k == a || (a == 1 && k == 3)
theorem un_neg (n : Nat) (a c : Int32) (S : iz_S) (hc : c < 4) : Ic_isUnder_4 (n + 1) a (-1) c S = some (0, S) := by
  have h : ¬ ((0 : Int32) ≤ -1 ∧ (-1 : Int32) ≤ 3) := by decide +kernel
  rw [un_s]
  simp only [Ic_isUnder_4b, Ic_isUnder_37, if_pos hc, ic_within, if_neg h, ck_t, lt_e, bI_s, bL_s, bV_s, one_n0, zero_0, if_true, if_false, rfs, nb_0, decide_true]
theorem un_hit (n : Nat) (a c : Int32) (S : iz_S) (hc : c < 4) (ha : 0 ≤ a ∧ a ≤ 3) : Ic_isUnder_4 (n + 1) a a c S = some (1, S) := by
  rw [un_s]
  simp only [Ic_isUnder_4b, Ic_isUnder_37, if_pos hc, ic_within, if_pos ha, ck_t, lt_e, bI_s, bL_s, bV_s, one_n0, zero_0, if_true, if_false, rfs, nb_1, decide_true]
theorem un_go (n : Nat) (a k c : Int32) (S : iz_S) (hc : c < 4) (hk : 0 ≤ k ∧ k ≤ 3) (hi : iz_in k 4 = true) (hne : ¬ k = a) : Ic_isUnder_4 (n + 1) a k c S = Ic_isUnder_4 n a (iz_zV 1 (Int32.toNatClampNeg k)) (c + 1) S := by
  rw [un_s]
  simp only [Ic_isUnder_4b, Ic_isUnder_37, if_pos hc, ic_within, if_pos hk, ck_t, lt_e, bI_s, bL_s, bV_s, one_n0, zero_0, if_true, if_false, rfs, if_neg hne, hi]
theorem un_all (S : iz_S) (n : Nat) : ∀ k, k < 4 → ∀ a, a < 4 → Ic_isUnder_4 (n + 4) (nI a) (nI k) 0 S = some (if un_p k a then 1 else 0, S) := by
  have v0 : iz_zV 1 (Int32.toNatClampNeg (nI 0)) = -1 := by decide +kernel
  have v1 : iz_zV 1 (Int32.toNatClampNeg (nI 1)) = nI 0 := by decide +kernel
  have v2 : iz_zV 1 (Int32.toNatClampNeg (nI 2)) = nI 0 := by decide +kernel
  have v3 : iz_zV 1 (Int32.toNatClampNeg (nI 3)) = nI 1 := by decide +kernel
  have c0 : (0 : Int32) < 4 := by decide +kernel
  have c1 : (0 : Int32) + 1 < 4 := by decide +kernel
  have c2 : (0 : Int32) + 1 + 1 < 4 := by decide +kernel
  have c3 : (0 : Int32) + 1 + 1 + 1 < 4 := by decide +kernel
  have hb : ∀ k, k < 4 → 0 ≤ nI k ∧ nI k ≤ 3 := by decide +kernel
  have hin : ∀ k, k < 4 → iz_in (nI k) 4 = true := by decide +kernel
  have hne : ∀ k, k < 4 → ∀ a, a < 4 → k ≠ a → ¬ nI k = nI a := by decide +kernel
  have z0 : ∀ a, a < 4 → a ≠ 0 → ∀ m c, c < 4 → c + 1 < 4 → Ic_isUnder_4 (m + 2) (nI a) (nI 0) c S = some (0, S) := fun a ha h0 m c h1 h2 => by
    rw [un_go (m + 1) _ _ _ _ h1 (hb 0 (by decide)) (hin 0 (by decide)) (hne 0 (by decide) a ha (fun e => h0 e.symm)), v0, un_neg _ _ _ _ h2]
  intro k hk a ha
  by_cases e : k = a
  · subst e
    rw [un_hit (n + 3) _ _ _ c0 (hb k hk)]
    simp [un_p]
  · rw [un_go (n + 3) _ _ _ _ c0 (hb k hk) (hin k hk) (hne k hk a ha e)]
    obtain rfl | rfl | rfl | rfl : k = 0 ∨ k = 1 ∨ k = 2 ∨ k = 3 := by omega
    · rw [v0, un_neg _ _ _ _ c1]
      have : un_p 0 a = false := by simp [un_p]; omega
      rw [this]; rfl
    · rw [v1]
      by_cases e0 : a = 0
      · subst e0
        rw [un_hit (n + 2) _ _ _ c1 (hb 0 (by decide))]; rfl
      · rw [z0 a ha e0 (n + 1) _ c1 c2]
        have : un_p 1 a = false := by simp [un_p]; omega
        rw [this]; rfl
    · rw [v2]
      by_cases e0 : a = 0
      · subst e0
        rw [un_hit (n + 2) _ _ _ c1 (hb 0 (by decide))]; rfl
      · rw [z0 a ha e0 (n + 1) _ c1 c2]
        have : un_p 2 a = false := by simp [un_p]; omega
        rw [this]; rfl
    · rw [v3]
      by_cases e1 : a = 1
      · subst e1
        rw [un_hit (n + 2) _ _ _ c1 (hb 1 (by decide))]; rfl
      · rw [un_go (n + 2) _ _ _ _ c1 (hb 1 (by decide)) (hin 1 (by decide)) (hne 1 (by decide) a ha (fun e => e1 e.symm)), v1]
        by_cases e0 : a = 0
        · subst e0
          rw [un_hit (n + 1) _ _ _ c2 (hb 0 (by decide))]; rfl
        · rw [z0 a ha e0 n _ c2 c3]
          have : un_p 3 a = false := by simp [un_p]; omega
          rw [this]; rfl
theorem ic_under (S : iz_S) {k a : Nat} (hk : k ≤ 3) (ha : a ≤ 3) : Ic_isUnder (nI k) (nI a) S = some (if un_p k a then 1 else 0, S) := un_all S 19996 k (by omega) a (by omega)
theorem pc_as {S : iz_S} (h : rl S) (x y : Int32) : pc (Ic_as 0 x y) (Mo_as 82 x y) S := by
  obtain ⟨B, w, hh, b, kd, wt, pl, ⟨c1, c2, c3, c4, c5⟩, ⟨m1, m2, m3, m4, m5, m6, m7⟩, ⟨i1, i2, i3, i4, i5, i6, i7⟩, hn, hl⟩ := id h.2.2.1
  have m1' : ∀ k v, (iz_up S 81 k v).1 82 3 = nI B := fun k v => by rw [up_p _ _ _ _ (by decide), m1]
  by_cases hx : ∃ i, i < B ∧ x = nI i
  · obtain ⟨i, hi, rfl⟩ := hx
    have o1 := ho_has_t c1 i1 hi
    by_cases h2 : 0 ≤ y ∧ y ≤ 3
    · obtain ⟨a, -, al, rfl⟩ := nI_btw (a := 0) (b := 3) (by decide) h2.1 h2.2 (by decide)
      obtain ⟨k1, k2, k3⟩ := i3 i hi
      have j1 := in_ok (n := i) (N := 60) (by omega) (by decide)
      have u := ic_under S k1 al
      have n1 : (nI a = 0) = (a = 0) := n0_iff (by omega)
      have n2 : (nI (kd i) = nI a) = (kd i = a) := propext (nI_eq (by omega) (by omega))
      have n3 : (nI a = 1) = (a = 1) := propext (nI_eq (b := 1) (by omega) (by decide))
      have n4 : (nI (kd i) = 3) = (kd i = 3) := propext (nI_eq (b := 3) (by omega) (by decide))
      by_cases hu : un_p (kd i) a = true
      · rw [if_pos hu] at u
        refine pc_of (r := nI (wt i)) (S1 := S) (S2 := S) ?_ ?_ h
        · simp only [Ic_as, Ic_as_59, ck_t, lt_e, bI_s, bL_s, bV_s, one_n0, zero_0, if_true, if_false, rfs, o1, ic_within, if_pos h2, j1, g_nI _ _ (show i < 2 ^ 31 by omega), (c3 i hi).1, u, (c3 i hi).2.1]
        · simp only [Mo_as, Mo_as_52, Mo_as_61, Mo_as_66, ck_t, lt_e, bI_s, bL_s, bV_s, one_n0, zero_0, if_true, if_false, rfs, mo_has_t m1 i1 hi, mo_isIn, if_pos h2, j1, g_nI _ _ (show i < 2 ^ 31 by omega), (m3 i hi).1, (m3 i hi).2.1, n1, n2, n3, n4]
          simp only [un_p, Bool.or_eq_true, Bool.and_eq_true, beq_iff_eq] at hu
          by_cases e1 : a = 0
          · rw [if_pos e1]
          · rw [if_neg e1]
            by_cases e2 : kd i = a
            · rw [if_pos e2]
            · rw [if_neg e2, if_pos (by omega), if_pos (by omega)]
      · rw [if_neg hu] at u
        refine pc_of (r := -1000005) (S1 := iz_up S 81 5 (S.1 81 5 + 1)) ?_ ?_ (rl_find (k := 5) h)
        · simp only [Ic_as, Ic_as_59, ck_t, lt_e, bI_s, bL_s, bV_s, one_n0, zero_0, if_true, if_false, rfs, o1, ic_within, if_pos h2, j1, g_nI _ _ (show i < 2 ^ 31 by omega), (c3 i hi).1, u, ic_f5]
        · have q : (iz_up S 81 5 (S.1 81 5 + 1)).1 86 i = nI (kd i) := by rw [up_p _ _ _ _ (by decide), (m3 i hi).1]
          simp only [Mo_as, Mo_as_52, Mo_as_61, Mo_as_66, ck_t, lt_e, bI_s, bL_s, bV_s, one_n0, zero_0, if_true, if_false, rfs, mo_has_t (m1' _ _) i1 hi, mo_isIn, if_pos h2, j1, g_nI _ _ (show i < 2 ^ 31 by omega), q, n1, n2, n3, n4, mo_f5]
          simp only [un_p, Bool.or_eq_true, Bool.and_eq_true, beq_iff_eq] at hu
          rw [if_neg (by omega), if_neg (by omega)]
          by_cases e1 : a = 1
          · rw [if_pos e1, if_neg (by omega)]
          · rw [if_neg e1]
    · refine pc_of (r := -1000001) (S1 := iz_up S 81 1 (S.1 81 1 + 1)) ?_ ?_ (rl_find (k := 1) h)
      · simp only [Ic_as, Ic_as_20, ck_t, lt_e, bI_s, bL_s, bV_s, one_n0, zero_0, if_true, if_false, rfs, o1, ic_within, if_neg h2, ic_f1]
      · simp only [Mo_as, Mo_as_17, ck_t, lt_e, bI_s, bL_s, bV_s, one_n0, zero_0, if_true, if_false, rfs, mo_has_t (m1' _ _) i1 hi, mo_isIn, if_neg h2, mo_f1]
  · refine pc_of (r := -1000001) (S1 := iz_up S 81 1 (S.1 81 1 + 1)) ?_ ?_ (rl_find (k := 1) h)
    · simp only [Ic_as, Ic_as_20, ck_t, lt_e, bI_s, bL_s, bV_s, one_n0, zero_0, if_true, if_false, rfs, ho_has_f c1 i1 hx, ic_f1]
    · simp only [Mo_as, Mo_as_17, ck_t, lt_e, bI_s, bL_s, bV_s, one_n0, zero_0, if_true, if_false, rfs, mo_has_f (m1' _ _) i1 hx, mo_f1]
