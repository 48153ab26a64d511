/-! PURE: ledger -/
theorem pc_ledger {S : iz_S} (h : rl S) (x : Int32) : pc (Ic_ledger 0 x) (Mo_ledger 82 x) S := by
  by_cases hx : 0 ≤ x ∧ x ≤ 6
  · obtain ⟨B, w, hh, b, kd, wt, pl, hc, hm, hi, hn, hl⟩ := id h.2.2.1
    obtain ⟨k, -, kl, rfl⟩ := nI_btw (a := 0) (b := 6) (by decide) hx.1 hx.2 (by decide)
    have fu := fu_ge
    have aw := ho_all hq_13 hc hi 16 0 iz_FU 0 (by omega) (by omega)
    have am := mo_all hm hi 16 0 iz_FU 0 (by omega) (by omega)
    rw [nI_0] at aw am
    obtain ⟨n, o1, o2, o3, o4, o5, o6⟩ := id h.2.2.2.1
    have key : ∃ r, Ic_ledger 0 (nI k) S = some (r, S) ∧ Mo_ledger 82 (nI k) S = some (r, S) := by
      have s1 := fun (os : List (Option (Int32 × iz_S))) od => sw_in (os := os) (od := od) (k := k) (hi := 6) kl (by decide)
      have e6 : ((6 : Nat) : Int) = 6 := rfl
      rw [e6] at s1
      unfold Ic_ledger
      rw [s1]
      by_cases k5 : k < 5
      · refine ⟨S.1 13 (6 + k), ?_, ?_⟩
        · obtain rfl | rfl | rfl | rfl | rfl : k = 0 ∨ k = 1 ∨ k = 2 ∨ k = 3 ∨ k = 4 := by omega
          · show some (S.1 (iz_rf 0 3) 6, S) = _
            simp only [ck_t, lt_e, bI_s, bL_s, bV_s, one_n0, zero_0, if_true, if_false, rfs]
          · show some (S.1 (iz_rf 0 3) 7, S) = _
            simp only [ck_t, lt_e, bI_s, bL_s, bV_s, one_n0, zero_0, if_true, if_false, rfs]
          · show some (S.1 (iz_rf 0 3) 8, S) = _
            simp only [ck_t, lt_e, bI_s, bL_s, bV_s, one_n0, zero_0, if_true, if_false, rfs]
          · show some (S.1 (iz_rf 0 3) 9, S) = _
            simp only [ck_t, lt_e, bI_s, bL_s, bV_s, one_n0, zero_0, if_true, if_false, rfs]
          · show some (S.1 (iz_rf 0 3) 10, S) = _
            simp only [ck_t, lt_e, bI_s, bL_s, bV_s, one_n0, zero_0, if_true, if_false, rfs]
        · have hlt : nI k < 5 := nI_lt (b := 5) k5 (by decide)
          have i1 := in_ok (n := k) (N := 6) (by omega) (by decide)
          simp only [Mo_ledger, Mo_ledger_48, mo_isIn, ck_t, lt_e, bI_s, bL_s, bV_s, one_n0, zero_0, if_true, if_false, rfs, if_pos hx, if_pos hlt, i1, g_nI _ _ (show k < 2 ^ 31 by omega), hl k k5]
      · have hlt : ¬ nI k < 5 := nI_nlt (b := 5) (by omega) (by omega)
        by_cases k6 : k = 5
        · subst k6
          have e5 : nI 5 = 5 := rfl
          refine ⟨nI (0 + hs_tw hh b wt 0 16), ?_, ?_⟩
          · show iz_bI (Ho_allWeight (iz_rf 0 3) S) (fun r S1 => some (r, S1)) = _
            simp only [ck_t, lt_e, bI_s, bL_s, bV_s, one_n0, zero_0, if_true, if_false, rfs, Ho_allWeight, aw]
          · simp only [Mo_ledger, Mo_ledger_48, Mo_allWeight, mo_isIn, ck_t, lt_e, bI_s, bL_s, bV_s, one_n0, zero_0, if_true, if_false, rfs, if_pos hx, if_neg hlt, if_pos e5, am]
        · obtain rfl : k = 6 := by omega
          have e5 : ¬ nI 6 = 5 := by decide +kernel
          have i1 : iz_in 5 6 = true := by decide +kernel
          have g5 : iz_g S 104 5 = S.1 104 5 := g_nI S 104 (k := 5) (by decide)
          refine ⟨S.1 38 2, ?_, ?_⟩
          · show some (S.1 (iz_rf 0 6) 2, S) = _
            simp only [ck_t, lt_e, bI_s, bL_s, bV_s, one_n0, zero_0, if_true, if_false, rfs]
          · simp only [Mo_ledger, Mo_ledger_48, mo_isIn, ck_t, lt_e, bI_s, bL_s, bV_s, one_n0, zero_0, if_true, if_false, rfs, if_pos hx, if_neg hlt, if_neg e5, i1, g5, o4]
    obtain ⟨r, g1, g2⟩ := key
    exact pc_of g1 g2 h
  · have s1 := fun (os : List (Option (Int32 × iz_S))) od => sw_out (x := x) (os := os) (od := od) (hi := 6) hx (by decide)
    have e6 : ((6 : Nat) : Int) = 6 := rfl
    rw [e6] at s1
    refine pc_of (r := -1000001) (S1 := iz_up S 81 1 (S.1 81 1 + 1)) ?_ ?_ (rl_find (k := 1) h)
    · simp only [Ic_ledger, s1, ic_f1, ck_t, lt_e, bI_s, bL_s, bV_s, one_n0, zero_0, if_true, if_false, rfs]
    · simp only [Mo_ledger, mo_isIn, ck_t, lt_e, bI_s, bL_s, bV_s, one_n0, zero_0, if_true, if_false, rfs, if_neg hx, mo_f1]
