/-! PURE: thaw, frost -/
theorem ctT_cong {S T : iz_S} {p q : Nat} {x : Int32} (h : ∀ i, i < 64 → S.1 p i = T.1 q i) : ctT S p x = ctT T q x := ct_cong (fun i hi => by rw [h i hi])
theorem th_n {t y : Nat} (ht : t ≤ 60) (hy : y ≤ 20) : th_t (nI t) (nI y) = nI (t - y) ∧ (if nI t ≤ nI y then 0 else nI t - nI y) = nI (t - y) := by
  unfold th_t
  by_cases h : t ≤ y
  · have h1 : nI t ≤ nI y := nI_le h (by omega)
    have h2 : ¬ 0 < nI t - nI y := by
      rw [fa_lt, fb_subI (by rw [nI_tI (by omega), nI_tI (by omega)]; omega) (by rw [nI_tI (by omega), nI_tI (by omega)]; omega), nI_tI (by omega), nI_tI (by omega)]
      have : (0 : Int32).toInt = 0 := rfl
      omega
    rw [if_pos h1, if_neg h2, show t - y = 0 by omega]
    exact ⟨rfl, rfl⟩
  · have e : nI t - nI y = nI (t - y) := by
      rw [fa_eq, fb_subI (by rw [nI_tI (by omega), nI_tI (by omega)]; omega) (by rw [nI_tI (by omega), nI_tI (by omega)]; omega), nI_tI (by omega), nI_tI (by omega), nI_tI (by omega)]
      omega
    have h1 : ¬ nI t ≤ nI y := by rw [fa_le, nI_tI (by omega), nI_tI (by omega)]; omega
    have h2 : 0 < nI (t - y) := nI_lt (a := 0) (by omega) (by omega)
    rw [if_neg h1, e, if_pos h2]
    exact ⟨rfl, rfl⟩
theorem n0_iff {t : Nat} (ht : t < 2 ^ 31) : (nI t = 0) = (t = 0) := propext (nI_eq (b := 0) ht (by decide))
theorem n0_le {t : Nat} (ht : t < 2 ^ 31) : (nI t ≤ 0) = (t = 0) := by
  apply propext
  rw [fa_le, nI_tI ht]
  have : (0 : Int32).toInt = 0 := rfl
  omega
theorem pc_thaw {S : iz_S} (h : rl S) (x : Int32) : pc (Ic_thaw 0 x) (Mo_thaw 82 x) S := by
  by_cases h1 : 1 ≤ x ∧ x ≤ 20
  · obtain ⟨y, y1, y2, rfl⟩ := nI_btw (a := 1) (b := 20) (by decide) h1.1 h1.2 (by decide)
    obtain ⟨S1, hS1⟩ : ∃ S1, S1 = mp S (gT S (nI y)) 0 64 := ⟨_, rfl⟩
    obtain ⟨S2, hS2⟩ : ∃ S2, S2 = mp S1 (gU S1 (nI y)) 0 64 := ⟨_, rfl⟩
    have k83 : S1.1 83 = S.1 83 := by rw [hS1]; exact mp_no (fun _ => rfl)
    have k85 : S1.1 85 = S.1 85 := by rw [hS1]; exact mp_no (fun _ => rfl)
    have z2 : ∀ c, c < 64 → S1.1 2 c = th_t (S.1 2 c) (nI y) := fun c hc => by rw [hS1, mp_in (by omega)]; rfl
    have z83 : ∀ c, c < 64 → S2.1 83 c = (if S.1 83 c ≤ nI y then 0 else S.1 83 c - nI y) := fun c hc => by
      rw [hS2, mp_in (by omega), ← k83]; rfl
    have hfr : fr (fun p _ => p == 2 || p == 3 || p == 4 || p == 83 || p == 84 || p == 85) S S2 := by
      rw [hS2, hS1]
      refine fr_tr (mp_fr (fun q i hq => ?_)) (mp_fr (fun q i hq => ?_))
      · simp only [Bool.or_eq_false_iff, beq_eq_false_iff_ne] at hq
        obtain ⟨⟨⟨⟨⟨a1, a2⟩, a3⟩, a4⟩, a5⟩, a6⟩ := hq
        simp [gT, a1, a2, a3]
      · simp only [Bool.or_eq_false_iff, beq_eq_false_iff_ne] at hq
        obtain ⟨⟨⟨⟨⟨a1, a2⟩, a3⟩, a4⟩, a5⟩, a6⟩ := hq
        simp [gU, a4, a5, a6]
    have ee : ctT S2 83 1 = ctT S1 2 1 := ctT_cong (fun c hc => by
      obtain ⟨g1, -, -, t, w, m, t1, w1, m1, e1, e2, e3, e4⟩ := h.1 c hc
      rw [z83 c hc, z2 c hc, g1, e1, (th_n t1 y2).1, (th_n t1 y2).2])
    refine pc_of (r := nI (ctT S1 2 1)) (S1 := S1) (S2 := S2) ?_ ?_ ?_
    · have hq : La_soften_2 1 iz_FU (nI y) 0 S = some (mp S (gT S (nI y)) 0 64) := la_thaw (nI y) S 64 0 iz_FU S (by omega) (by have := fu_ge; omega) (fun _ _ => ⟨rfl, rfl⟩)
      rw [← hS1] at hq
      simp only [Ic_thaw, ic_within, La_soften, La_frozenCells, ck_t, lt_e, bI_s, bL_s, bV_s, one_n0, zero_0, if_true, if_false, rfs, if_pos h1, hq, la_count]
    · have hq := mo_thaw (nI y) S1 64 0 iz_FU S1 (by omega) (by have := fu_ge; omega) (fun _ _ => ⟨rfl, rfl⟩)
      rw [← hS2, ee] at hq
      simp only [Mo_thaw, mo_isIn, ck_t, lt_e, bI_s, bL_s, bV_s, one_n0, zero_0, if_true, if_false, rfs, if_pos h1]
      exact hq
    · have hf := hfr
      refine ⟨fun c hc => ?_, st_shel hf (fun _ => ⟨rfl, rfl, rfl, rfl, rfl, rfl⟩) h.2.1, st_house hf (fun _ => ⟨rfl, rfl, rfl, rfl, rfl, rfl, rfl, rfl, rfl, rfl, rfl, rfl⟩) rfl rfl (fun _ _ => rfl) h.2.2.1, st_ord hf (fun _ => ⟨rfl, rfl, rfl, rfl, rfl, rfl, rfl, rfl, rfl, rfl, rfl, rfl, rfl⟩) rfl rfl h.2.2.2.1, st_rail hf (fun _ => ⟨rfl, rfl, rfl, rfl, rfl, rfl, rfl⟩) rfl h.2.2.2.2.1, st_wait hf (fun _ => ⟨rfl, rfl, rfl⟩) rfl h.2.2.2.2.2.1, st_sale hf (fun _ => ⟨rfl, rfl⟩) h.2.2.2.2.2.2.1, st_found hf (fun _ => ⟨rfl, rfl⟩) h.2.2.2.2.2.2.2⟩
      obtain ⟨g1, g2, g3, t, w, m, t1, w1, m1, e1, e2, e3, e4⟩ := h.1 c hc
      have a2 : S2.1 2 c = nI (t - y) := by
        rw [hS2, mp_no (fun _ => rfl), z2 c hc, e1, (th_n t1 y2).1]
      have a83 : S2.1 83 c = nI (t - y) := by rw [z83 c hc, g1, e1, (th_n t1 y2).2]
      have a3 : S2.1 3 c = 0 := by rw [hS2, mp_no (fun _ => rfl), hS1, mp_in (by omega)]; rfl
      have a84 : S2.1 84 c = 0 := by rw [hS2, mp_in (by omega)]; rfl
      have a4 : S2.1 4 c = nI (if t - y = 0 then 0 else m) := by
        rw [hS2, mp_no (fun _ => rfl), hS1, mp_in (by omega)]
        show th_m (S.1 2 c) (nI y) (S.1 4 c) = _
        unfold th_m
        rw [e1, e3, (th_n t1 y2).1]
        simp only [n0_iff (show m < 2 ^ 31 by omega), n0_le (show t - y < 2 ^ 31 by omega)]
        by_cases hm : m = 0
        · subst hm; rw [if_pos rfl]; split <;> rfl
        · obtain rfl : m = 1 := by omega
          rw [if_neg hm]
          by_cases hd : t - y = 0
          · rw [if_pos hd, if_pos hd]; rfl
          · rw [if_neg hd, if_neg hd]; rfl
      have a85 : S2.1 85 c = nI (if t - y = 0 then 0 else m) := by
        rw [hS2, mp_in (by omega)]
        show (if (if S1.1 83 c ≤ nI y then 0 else S1.1 83 c - nI y) = 0 then 0 else S1.1 85 c) = _
        rw [k83, k85, g1, e1, g3, e3, (th_n t1 y2).2]
        simp only [n0_iff (show t - y < 2 ^ 31 by omega)]
        by_cases hd : t - y = 0
        · rw [if_pos hd, if_pos hd]; rfl
        · rw [if_neg hd, if_neg hd]
      refine ⟨a83.trans a2.symm, a84.trans a3.symm, a85.trans a4.symm, t - y, 0, (if t - y = 0 then 0 else m), by omega, by omega, by split <;> omega, a2, a3, a4, fun q => ⟨rfl, by rw [if_pos q]⟩⟩
  · refine pc_of (r := -1000001) (S1 := iz_up S 81 1 (S.1 81 1 + 1)) ?_ ?_ (rl_find (k := 1) h)
    · simp only [Ic_thaw, ic_within, ck_t, lt_e, bI_s, bL_s, bV_s, one_n0, zero_0, if_true, if_false, rfs, if_neg h1, ic_f1]
    · simp only [Mo_thaw, mo_isIn, ck_t, lt_e, bI_s, bL_s, bV_s, one_n0, zero_0, if_true, if_false, rfs, if_neg h1, mo_f1]
