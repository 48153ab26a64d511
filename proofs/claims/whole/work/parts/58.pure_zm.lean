/-! PURE: weeks -/
/-- n weeks of the reference -/
def mo_it : Nat → iz_S → Option iz_S
  | 0, S => some S
  | n + 1, S => iz_bV (Mo_weekGoes 82 S) (fun S1 => mo_it n S1)
theorem mo_its {B : Nat} {kd : Nat → Nat} {sh : Nat → Bool} {d cv W : Nat → Nat} : ∀ (j w : Nat) (S : iz_S) (wt : Nat → Nat) (col : Nat → List Nat), w + j ≤ 200 → hvm S B w kd wt sh col → hvi B w kd wt sh col → sm_ S d cv W →
    ∃ S2, mo_it j S = some S2 ∧ hvm S2 B (w + j) kd (wn d cv W kd w j wt col).1 sh (wn d cv W kd w j wt col).2 ∧ S2.1 104 1 = S.1 104 1 + nI (wn_t d cv W kd w j wt col) ∧ S2.1 104 2 = S.1 104 2 + nI (wn_b d cv W kd w j wt col) ∧ fr fhm S S2 := by
  intro j
  induction j with
  | zero =>
    intro w S wt col hw h hv hsm
    exact ⟨S, rfl, h, by rw [wn_t, nI_0, Int32.add_zero], by rw [wn_b, nI_0, Int32.add_zero], fr_rf _ _⟩
  | succ j ih =>
    intro w S wt col hw h hv hsm
    obtain ⟨S1, a1, a2, a3, a4, a5⟩ := mo_week h hv hsm
    obtain ⟨S2, b1, b2, b3, b4, b5⟩ := ih (w + 1) S1 _ _ (by omega) a2 (hvi_wk d cv W hv (by omega)) (sm_st hsm a5 (fun i => ⟨rfl, rfl, rfl⟩))
    refine ⟨S2, ?_, ?_, ?_, ?_, fr_tr a5 b5⟩
    · rw [mo_it, a1, bV_s, b1]
    · rw [show w + 1 + j = w + (j + 1) by omega] at b2
      exact b2
    · rw [b3, a3, wn_t, ← nI_add, Int32.add_assoc]
    · rw [b4, a4, wn_b, ← nI_add, Int32.add_assoc]
theorem it_cons {j : Nat} {S S2 : iz_S} (h : mo_it (j + 1) S = some S2) : ∃ S1, Mo_weekGoes 82 S = some S1 ∧ mo_it j S1 = some S2 := by
  rw [mo_it] at h
  cases e : Mo_weekGoes 82 S with
  | none => rw [e] at h; cases h
  | some S1 => rw [e] at h; exact ⟨S1, rfl, h⟩
theorem mo_wl {N : Nat} (hN : N ≤ 1000) : ∀ (j i n : Nat) (S S2 : iz_S), i + j = N → j < n → mo_it j S = some S2 → Mo_weeks_35 82 n (nI N) (nI i) S = iz_bI (Mo_allWeight 82 S2) (fun r S3 => some (r, S3)) := by
  intro j
  induction j with
  | zero =>
    intro i n S S2 hi hn h
    obtain ⟨m, rfl⟩ : ∃ m, n = m + 1 := ⟨n - 1, by omega⟩
    have lt : ¬ nI i < nI N := nI_nlt (by omega) (by omega)
    rw [← Option.some.inj h]
    show Mo_weeks_35b 82 (Mo_weeks_35 82 m) (nI N) (nI i) S = _
    rw [Mo_weeks_35b, if_neg lt]
  | succ j ih =>
    intro i n S S2 hi hn h
    obtain ⟨m, rfl⟩ : ∃ m, n = m + 1 := ⟨n - 1, by omega⟩
    have lt : nI i < nI N := nI_lt (by omega) (by omega)
    obtain ⟨S1, a1, a2⟩ := it_cons h
    show Mo_weeks_35b 82 (Mo_weeks_35 82 m) (nI N) (nI i) S = _
    rw [Mo_weeks_35b, if_pos lt, a1, bV_s, nI_1, ih (i + 1) m S1 S2 (by omega) (by omega) a2]
/-- all the weight in a house -/
def hl_aw (sh : Nat → Bool) (col : Nat → List Nat) (wt : Nat → Nat) : Nat := hs_tw (hl_h col) (hl_b col) (hl_w sh col wt) 0 16
theorem ho_aw {S : iz_S} {q B w : Nat} {kd wt : Nat → Nat} {sh : Nat → Bool} {col : Nat → List Nat} (hq : hq_p q) (h : hvc S q B w kd wt sh col) (hi : hvi B w kd wt sh col) : Ho_allWeight q S = some (nI (hl_aw sh col wt), S) := by
  have e := ho_all hq (hvc_c h) (hvi_i hi) 16 0 iz_FU 0 (by omega) (by have := fu_ge; omega)
  rw [nI_0, Nat.zero_add] at e
  exact e
theorem mo_aw {S : iz_S} {B w : Nat} {kd wt : Nat → Nat} {sh : Nat → Bool} {col : Nat → List Nat} (h : hvm S B w kd wt sh col) (hi : hvi B w kd wt sh col) : Mo_allWeight 82 S = some (nI (hl_aw sh col wt), S) := by
  have e := mo_all (hvm_m hi h) (hvi_i hi) 16 0 iz_FU 0 (by omega) (by have := fu_ge; omega)
  rw [nI_0, Nat.zero_add] at e
  exact e
theorem shel_s {S : iz_S} (h : rl_shel S) : ∃ d cv W, sf S d cv W ∧ sm_ S d cv W := by
  obtain ⟨d, cv, W, q1, q2, q3, q4, q5, q6⟩ := shel_f h
  exact ⟨d, cv, W, ⟨q1, q3, q5⟩, ⟨q2, q4, q6⟩⟩
theorem pc_weeks {S : iz_S} (h : rl S) (x : Int32) : pc (Ic_weeks 0 x) (Mo_weeks 82 x) S := by
  by_cases hx : 1 ≤ x ∧ x ≤ 20
  · obtain ⟨N, N1, N20, rfl⟩ := nI_btw (a := 1) (b := 20) (by decide) hx.1 hx.2 (by decide)
    obtain ⟨B, w, kd, wt, sh, col, hc, hm, hi, hw, hs, hl⟩ := house_l h.2.2.1
    obtain ⟨d, cv, W, s1, s2⟩ := shel_s h.2.1
    have le : (nI w + nI N ≤ 100) = (w + N ≤ 100) := by rw [nI_add]; exact nI_leP (b := 100) (by omega) (by decide)
    have c5 : S.1 13 5 = nI w := hc.2.1
    by_cases hN : w + N ≤ 100
    · obtain ⟨S1, a1, a2, a3, a4, a5⟩ := ho_weeks hq_13 (by decide) (N := N) (by omega) N 0 iz_FU w S wt col (by omega) (by have := fu_ge; omega) (by omega) hc hi s1
      have hi1 := hvi_wn d cv W hi (n := N) (by omega)
      have hm1 : hvm S1 B w kd wt sh col := hvm_st hm hi a5 rfl rfl (fun i => ⟨rfl, rfl, rfl, rfl, rfl, rfl⟩)
      obtain ⟨S2, b1, b2, b3, b4, b5⟩ := mo_its N w S1 wt col (by omega) hm1 hi (sm_st s2 a5 (fun i => ⟨rfl, rfl, rfl⟩))
      have l2 := mo_wl (N := N) (by omega) N 0 iz_FU S1 S2 (by omega) (by have := fu_ge; omega) b1
      rw [mo_aw b2 hi1, bI_s] at l2
      have m13 : S1.1 82 13 = nI w := hm1.2.1
      refine pc_of (r := nI (hl_aw sh (wn d cv W kd w N wt col).2 (wn d cv W kd w N wt col).1)) (S1 := S1) (S2 := S2) ?_ ?_ ?_
      · simp only [Ic_weeks, ic_within, ck_t, lt_e, bI_s, bL_s, bV_s, one_n0, zero_0, if_true, if_false, rfs, if_pos hx, c5, le, if_pos hN]
        rw [Ho_passWeeks, show Ho_passWeeks_2 13 iz_FU (nI N) 0 S = _ from a1, bV_s, ho_aw hq_13 a2 hi1, bI_s]
      · simp only [Mo_weeks, mo_isIn, ck_t, lt_e, bI_s, bL_s, bV_s, one_n0, zero_0, if_true, if_false, rfs, if_pos hx, m13, le, if_pos hN]
        exact l2
      · have hf : fr (fun p i => fhc 13 p i || fhm p i) S S2 := fr_or a5 b5
        refine ⟨st_lake hf (fun _ => ⟨rfl, rfl, rfl, rfl, rfl, rfl⟩) h.1, st_shel hf (fun _ => ⟨rfl, rfl, rfl, rfl, rfl, rfl⟩) h.2.1, l_house (B := B) (w := w + N) (kd := kd) (wt := (wn d cv W kd w N wt col).1) (sh := sh) (col := (wn d cv W kd w N wt col).2) ⟨hvc_st a2 hi1 b5 rfl rfl (fun i => ⟨rfl, rfl, rfl, rfl, rfl⟩), b2, hi1, hN, wn_st hs, ?_⟩, st_ord hf (fun _ => ⟨rfl, rfl, rfl, rfl, rfl, rfl, rfl, rfl, rfl, rfl, rfl, rfl, rfl⟩) rfl rfl h.2.2.2.1, st_rail hf (fun _ => ⟨rfl, rfl, rfl, rfl, rfl, rfl, rfl⟩) rfl h.2.2.2.2.1, st_wait hf (fun _ => ⟨rfl, rfl, rfl⟩) rfl h.2.2.2.2.2.1, st_sale hf (fun _ => ⟨rfl, rfl⟩) h.2.2.2.2.2.2.1, st_found hf (fun _ => ⟨rfl, rfl⟩) h.2.2.2.2.2.2.2⟩
        intro i i5
        have q := hl i i5
        by_cases e1 : i = 1
        · subst e1
          have z : S2.1 13 (6 + 1) = S1.1 13 7 := b5 13 7 rfl
          rw [z, a3, b3, a5 104 1 rfl, q]
        · by_cases e2 : i = 2
          · subst e2
            have z : S2.1 13 (6 + 2) = S1.1 13 8 := b5 13 8 rfl
            rw [z, a4, b4, a5 104 2 rfl, q]
          · rw [hf 104 i (by simp [fhc, fhm, e1, e2]), q, hf 13 (6 + i) (by simp [fhc, fhm]; omega)]
    · have u : (iz_up S 81 4 (S.1 81 4 + 1)).1 82 13 = nI w := by rw [up_p _ _ _ _ (by decide)]; exact hm.2.1
      refine pc_of (r := -1000004) (S1 := iz_up S 81 4 (S.1 81 4 + 1)) ?_ ?_ (rl_find (k := 4) h)
      · simp only [Ic_weeks, ic_within, ck_t, lt_e, bI_s, bL_s, bV_s, one_n0, zero_0, if_true, if_false, rfs, if_pos hx, c5, le, if_neg hN, ic_f4]
      · simp only [Mo_weeks, mo_isIn, ck_t, lt_e, bI_s, bL_s, bV_s, one_n0, zero_0, if_true, if_false, rfs, if_pos hx, u, le, if_neg hN, mo_f4]
  · refine pc_of (r := -1000001) (S1 := iz_up S 81 1 (S.1 81 1 + 1)) ?_ ?_ (rl_find (k := 1) h)
    · simp only [Ic_weeks, ic_within, ck_t, lt_e, bI_s, bL_s, bV_s, one_n0, zero_0, if_true, if_false, rfs, if_neg hx, ic_f1]
    · simp only [Mo_weeks, mo_isIn, ck_t, lt_e, bI_s, bL_s, bV_s, one_n0, zero_0, if_true, if_false, rfs, if_neg hx, mo_f1]
