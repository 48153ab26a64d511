/-! PURE: about -/
theorem wk_le {W : Nat → Nat} (hW : ∀ i, i < 100 → W i ≤ 40) (w : Nat) : wk_w W w ≤ 40 := by
  unfold wk_w
  split
  · exact hW _ (by assumption)
  · omega
theorem shel_f {S : iz_S} (h : rl_shel S) : ∃ d cv W : Nat → Nat, (∀ i, i < 4 → S.1 10 i = nI (d i) ∧ d i ≤ 10) ∧ (∀ i, i < 4 → S.1 92 i = nI (d i) ∧ d i ≤ 10) ∧ (∀ i, i < 16 → S.1 11 i = nI (cv i) ∧ cv i ≤ 10) ∧ (∀ i, i < 16 → S.1 93 i = nI (cv i) ∧ cv i ≤ 10) ∧ (∀ i, i < 100 → S.1 12 i = nI (W i) ∧ W i ≤ 40) ∧ ∀ i, i < 100 → S.1 94 i = nI (W i) ∧ W i ≤ 40 := by
  obtain ⟨h1, h2, h3⟩ := h
  have a1 : ∀ i, i < 4 → S.1 10 i = nI ((S.1 10 i).toNatClampNeg) ∧ (S.1 10 i).toNatClampNeg ≤ 10 := fun i hi => by
    obtain ⟨-, n, hn, e⟩ := h1 i hi
    rw [e, nI_clamp (by omega)]; exact ⟨rfl, hn⟩
  have a2 : ∀ i, i < 16 → S.1 11 i = nI ((S.1 11 i).toNatClampNeg) ∧ (S.1 11 i).toNatClampNeg ≤ 10 := fun i hi => by
    obtain ⟨-, n, hn, e⟩ := h2 i hi
    rw [e, nI_clamp (by omega)]; exact ⟨rfl, hn⟩
  have a3 : ∀ i, i < 100 → S.1 12 i = nI ((S.1 12 i).toNatClampNeg) ∧ (S.1 12 i).toNatClampNeg ≤ 40 := fun i hi => by
    obtain ⟨-, n, hn, e⟩ := h3 i hi
    rw [e, nI_clamp (by omega)]; exact ⟨rfl, hn⟩
  refine ⟨fun i => (S.1 10 i).toNatClampNeg, fun i => (S.1 11 i).toNatClampNeg, fun i => (S.1 12 i).toNatClampNeg, a1, fun i hi => ?_, a2, fun i hi => ?_, a3, fun i hi => ?_⟩
  · rw [(h1 i hi).1]; exact a1 i hi
  · rw [(h2 i hi).1]; exact a2 i hi
  · rw [(h3 i hi).1]; exact a3 i hi
theorem pc_about {S : iz_S} (h : rl S) (x y : Int32) : pc (Ic_about 0 x y) (Mo_about 82 x y) S := by
  obtain ⟨B, w, hh, b, kd, wt, pl, hc, hm, hi, hn, hl⟩ := id h.2.2.1
  have hB := hi.1
  have m1' : ∀ k v, (iz_up S 81 k v).1 82 3 = nI B := fun k v => by rw [up_p _ _ _ _ (by decide), hm.1]
  by_cases hx : ∃ i, i < B ∧ x = nI i
  · obtain ⟨i, hiB, rfl⟩ := hx
    have o1 := ho_has_t hc.1 hB hiB
    have o2 := mo_has_t hm.1 hB hiB
    have j1 := in_ok (n := i) (N := 60) (by omega) (by decide)
    have gi := fun T p => g_nI T p (show i < 2 ^ 31 by omega)
    have e6 : ((6 : Nat) : Int) = 6 := rfl
    by_cases hy : 0 ≤ y ∧ y ≤ 6
    · obtain ⟨k, -, kl, rfl⟩ := nI_btw (a := 0) (b := 6) (by decide) hy.1 hy.2 (by decide)
      have s6 := fun (os : List (Option (Int32 × iz_S))) od => sw_in (os := os) (od := od) (k := k) (hi := 6) kl (by decide)
      have e5 : ((5 : Nat) : Int) = 5 := rfl
      rw [e6] at s6
      have key : ∃ r, Ic_about 0 (nI i) (nI k) S = some (r, S) ∧ Mo_about 82 (nI i) (nI k) S = some (r, S) := by
        by_cases hp : pl i = 1
        · obtain ⟨c, l, c16, hll, e⟩ := hi.2.2.2.2.2.2 i hiB hp
          subst e
          have h6 := hi.2.2.2.1 c c16
          have so := ho_slotOf hq_13 hc hi c16 hll
          have lo := mo_levelOf hm hi c16 hll
          have p1 : S.1 88 (b c l) = 1 := by rw [(hm.2.2.1 _ hiB).2.2, hp]; rfl
          have sp : ¬ nI (6 * c + l) < 0 := nI_pos (by omega)
          have d := s_dm (s := 6 * c + l) (by omega)
          rw [show (6 * c + l) / 6 = c by omega, show (6 * c + l) % 6 = l by omega] at d
          have fu := fu_ge
          have ld := ho_load hq_13 hc hi c16 (hh c - (l + 1)) (l + 1) iz_FU 0 (by omega) (by omega)
          have lm := mo_load hm hi c16 (hh c - (l + 1)) (l + 1) iz_FU 0 (by omega) (by omega)
          rw [nI_0] at ld lm
          obtain ⟨dd, cv, W, q1, q2, q3, q4, q5, q6⟩ := shel_f h.2.1
          have ml := ho_melt hq_13 hc hi q3 q5 q1 c16 hll
          have mm := mo_melt hm hi q4 q2 (wk_le (fun i hi => (q5 i hi).2) w) c16 hll
          have wm := mo_warm (S := S) (W := W) (fun i hi => (q6 i hi).1) (w := w) (by have := hi.2.1; omega)
          simp only [Ic_about, Mo_about, Mo_about_39, ck_t, lt_e, bI_s, bL_s, bV_s, one_n0, zero_0, if_true, if_false, rfs, o1, so, o2, mo_isIn, if_pos hy, j1, gi, p1, s6, if_neg sp, d.2]
          simp only [d.1]
          by_cases k5 : k ≤ 5
          · have s5 := fun (os : List (Option (Int32 × iz_S))) od => sw_in (os := os) (od := od) (k := k) (hi := 5) k5 (by decide)
            rw [e5] at s5
            rw [s5]
            obtain rfl | rfl | rfl | rfl | rfl | rfl : k = 0 ∨ k = 1 ∨ k = 2 ∨ k = 3 ∨ k = 4 ∨ k = 5 := by omega
            · refine ⟨nI (kd (b c l)), ?_, ?_⟩
              · simp only [List.getD_cons_zero, List.getD_cons_succ, (hc.2.2.1 _ hiB).1]
              · simp only [List.getD_cons_zero, List.getD_cons_succ, (hm.2.2.1 _ hiB).1]
            · refine ⟨nI (wt (b c l)), ?_, ?_⟩
              · simp only [List.getD_cons_zero, List.getD_cons_succ, (hc.2.2.1 _ hiB).2.1]
              · simp only [List.getD_cons_zero, List.getD_cons_succ, (hm.2.2.1 _ hiB).2.1]
            · refine ⟨nI (pl (b c l)), ?_, ?_⟩
              · simp only [List.getD_cons_zero, List.getD_cons_succ, (hc.2.2.1 _ hiB).2.2]
              · simp only [List.getD_cons_zero, List.getD_cons_succ, ← (hm.2.2.1 _ hiB).2.2, p1]
            · refine ⟨nI c, ?_, ?_⟩
              · simp only [List.getD_cons_zero, List.getD_cons_succ, Ic_about_110]
              · simp only [List.getD_cons_zero, List.getD_cons_succ, hm.2.2.2.2.2.1 c l c16 hll]
            · refine ⟨nI l, ?_, ?_⟩
              · simp only [List.getD_cons_zero, List.getD_cons_succ, Ic_about_123]
              · simp only [List.getD_cons_zero, List.getD_cons_succ, Mo_about_121, lo, bI_s]
            · refine ⟨nI (0 + hs_ls (fun k => wt (b c k)) (hh c) (l + 1)), ?_, ?_⟩
              · simp only [List.getD_cons_zero, List.getD_cons_succ, Ic_about_147, Ho_loadOver, lt_e, nI_1, ld, bI_s]
              · simp only [List.getD_cons_zero, List.getD_cons_succ, Mo_about_145, Mo_loadOf, lo, lt_e, nI_1, hm.2.2.2.2.2.1 c l c16 hll, lm, bI_s]
          · obtain rfl : k = 6 := by omega
            have s5 := fun (os : List (Option (Int32 × iz_S))) od => sw_out (x := nI 6) (os := os) (od := od) (hi := 5) (by decide +kernel) (by decide)
            rw [e5] at s5
            rw [s5]
            refine ⟨nI (hml (wk_w W w) (hop hh cv c l + (wl_r dd c + wl_s dd c)) (hfk (kd (b c l))) (wt (b c l))), ?_, ?_⟩
            · simp only [List.getD_cons_zero, List.getD_cons_succ, Ic_about_171, ml, bI_s]
            · simp only [Mo_about_177, lo, bI_s, hm.2.1, wm, hm.2.2.2.2.2.1 c l c16 hll, mm]
        · have so := ho_slot_n hq_13 hc hi hiB hp
          have p2 := (hi.2.2.1 i hiB).2.2
          have p1 : ¬ S.1 88 i = 1 := by
            rw [(hm.2.2.1 i hiB).2.2]
            exact fun e => hp ((nI_eq (b := 1) (by omega) (by decide)).mp e)
          have sp : (-1 : Int32) < 0 := by decide +kernel
          have m1 := hm.2.2.2.2.2.2 i hiB hp
          simp only [Ic_about, Mo_about, Mo_about_39, ck_t, lt_e, bI_s, bL_s, bV_s, one_n0, zero_0, if_true, if_false, rfs, o1, so, o2, mo_isIn, if_pos hy, j1, gi, if_neg p1, s6, if_pos sp]
          by_cases k5 : k ≤ 5
          · have s5 := fun (os : List (Option (Int32 × iz_S))) od => sw_in (os := os) (od := od) (k := k) (hi := 5) k5 (by decide)
            rw [e5] at s5
            rw [s5]
            obtain rfl | rfl | rfl | rfl | rfl | rfl : k = 0 ∨ k = 1 ∨ k = 2 ∨ k = 3 ∨ k = 4 ∨ k = 5 := by omega
            · refine ⟨nI (kd i), ?_, ?_⟩
              · simp only [List.getD_cons_zero, List.getD_cons_succ, (hc.2.2.1 _ hiB).1]
              · simp only [List.getD_cons_zero, List.getD_cons_succ, (hm.2.2.1 _ hiB).1]
            · refine ⟨nI (wt i), ?_, ?_⟩
              · simp only [List.getD_cons_zero, List.getD_cons_succ, (hc.2.2.1 _ hiB).2.1]
              · simp only [List.getD_cons_zero, List.getD_cons_succ, (hm.2.2.1 _ hiB).2.1]
            · refine ⟨nI (pl i), ?_, ?_⟩
              · simp only [List.getD_cons_zero, List.getD_cons_succ, (hc.2.2.1 _ hiB).2.2]
              · simp only [List.getD_cons_zero, List.getD_cons_succ, (hm.2.2.1 _ hiB).2.2]
            · refine ⟨-1, ?_, ?_⟩
              · simp only [List.getD_cons_zero, List.getD_cons_succ, Ic_about_110]
              · simp only [List.getD_cons_zero, List.getD_cons_succ, m1]
            · refine ⟨-1, ?_, ?_⟩
              · simp only [List.getD_cons_zero, List.getD_cons_succ, Ic_about_123]
              · simp only [List.getD_cons_zero, List.getD_cons_succ, Mo_about_121]
            · refine ⟨0, ?_, ?_⟩
              · simp only [List.getD_cons_zero, List.getD_cons_succ, Ic_about_147]
              · simp only [List.getD_cons_zero, List.getD_cons_succ, Mo_about_145]
          · obtain rfl : k = 6 := by omega
            have s5 := fun (os : List (Option (Int32 × iz_S))) od => sw_out (x := nI 6) (os := os) (od := od) (hi := 5) (by decide +kernel) (by decide)
            rw [e5] at s5
            rw [s5]
            refine ⟨0, ?_, ?_⟩
            · simp only [List.getD_cons_zero, List.getD_cons_succ, Ic_about_171]
            · simp only [Mo_about_177]
      obtain ⟨r, g1, g2⟩ := key
      exact pc_of g1 g2 h
    · have s6 := fun (os : List (Option (Int32 × iz_S))) od => sw_out (x := y) (os := os) (od := od) (hi := 6) hy (by decide)
      rw [e6] at s6
      have so : ∃ r, Ho_slotOf 13 (nI i) S = some (r, S) := by
        by_cases hp : pl i = 1
        · obtain ⟨c, l, c16, hll, e⟩ := hi.2.2.2.2.2.2 i hiB hp
          subst e
          exact ⟨_, ho_slotOf hq_13 hc hi c16 hll⟩
        · exact ⟨_, ho_slot_n hq_13 hc hi hiB hp⟩
      obtain ⟨r, so⟩ := so
      refine pc_of (r := -1000001) (S1 := iz_up S 81 1 (S.1 81 1 + 1)) ?_ ?_ (rl_find (k := 1) h)
      · simp only [Ic_about, ck_t, lt_e, bI_s, bL_s, bV_s, one_n0, zero_0, if_true, if_false, rfs, o1, so, s6, ic_f1]
      · simp only [Mo_about, Mo_about_18, ck_t, lt_e, bI_s, bL_s, bV_s, one_n0, zero_0, if_true, if_false, rfs, mo_has_t (m1' _ _) hB hiB, mo_isIn, if_neg hy, mo_f1]
  · refine pc_of (r := -1000001) (S1 := iz_up S 81 1 (S.1 81 1 + 1)) ?_ ?_ (rl_find (k := 1) h)
    · simp only [Ic_about, ck_t, lt_e, bI_s, bL_s, bV_s, one_n0, zero_0, if_true, if_false, rfs, ho_has_f hc.1 hB hx, ic_f1]
    · simp only [Mo_about, Mo_about_18, ck_t, lt_e, bI_s, bL_s, bV_s, one_n0, zero_0, if_true, if_false, rfs, mo_has_f (m1' _ _) hB hx, mo_f1]
