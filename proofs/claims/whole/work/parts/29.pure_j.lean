/-! PURE: thaw -/
def th_t (t x : Int32) : Int32 := if 0 < t - x then t - x else 0
def th_m (t x m : Int32) : Int32 := if m = 0 then 0 else if th_t t x ≤ 0 then 0 else 1
def gT (S0 : iz_S) (x : Int32) : Nat → Nat → Option Int32 := fun q i => if q = 2 then some (th_t (S0.1 2 i) x) else if q = 3 then some 0 else if q = 4 then some (th_m (S0.1 2 i) x (S0.1 4 i)) else none
theorem la_thaw (x : Int32) (S0 : iz_S) : ∀ (j c n : Nat) (S : iz_S), c + j = 64 → j < n → (∀ i, c ≤ i → S.1 2 i = S0.1 2 i ∧ S.1 4 i = S0.1 4 i) → La_soften_2 1 n x (nI c) S = some (mp S (gT S0 x) c j) := by
  intro j
  induction j with
  | zero =>
    intro c n S hcj hn hS
    obtain ⟨m, rfl⟩ : ∃ m, n = m + 1 := ⟨n - 1, by omega⟩
    have hc : ¬ nI c < 64 := nI_nlt (b := 64) (by omega) (by omega)
    show La_soften_2b 1 (La_soften_2 1 m) x (nI c) S = _
    simp only [La_soften_2b, if_neg hc, mp_0]
  | succ j ih =>
    intro c n S hcj hn hS
    obtain ⟨m, rfl⟩ : ∃ m, n = m + 1 := ⟨n - 1, by omega⟩
    have hc : nI c < 64 := nI_lt (b := 64) (by omega) (by omega)
    have i1 := in_ok (n := c) (N := 64) (by omega) (by decide)
    obtain ⟨q2, q4⟩ := hS c (Nat.le_refl c)
    obtain ⟨T, hT⟩ : ∃ T, T = iz_up (iz_up (iz_up S 2 c (th_t (S0.1 2 c) x)) 3 c 0) 4 c (th_m (S0.1 2 c) x (S0.1 4 c)) := ⟨_, rfl⟩
    have key : La_soften_2b 1 (La_soften_2 1 m) x (nI c) S = La_soften_2 1 m x (nI (c + 1)) T := by
      have w4 : (iz_up (iz_up S 2 c (th_t (S0.1 2 c) x)) 3 c 0).1 4 c = S0.1 4 c := by rw [up_ne _ _ _ _ (Or.inl (by decide)), up_ne _ _ _ _ (Or.inl (by decide)), q4]
      have w2 : (iz_up (iz_up S 2 c (th_t (S0.1 2 c) x)) 3 c 0).1 2 c = th_t (S0.1 2 c) x := by rw [up_ne _ _ _ _ (Or.inl (by decide)), up_same]
      have f1 : (if 0 < S0.1 2 c - x then S0.1 2 c - x else 0) = th_t (S0.1 2 c) x := rfl
      rw [hT]
      by_cases h4 : S0.1 4 c = 0
      · have e4 : th_m (S0.1 2 c) x (S0.1 4 c) = 0 := by unfold th_m; rw [if_pos h4]
        simp only [La_soften_2b, La_soften_60, La_soften_61, if_pos hc, ck_t, lt_e, bI_s, bL_s, bV_s, one_n0, zero_0, if_true, if_false, rfs, i1, g_nI _ _ (show c < 2 ^ 31 by omega), s_nI _ _ (show c < 2 ^ 31 by omega), nI_1, q2, f1, w4, w2, if_pos h4, e4, nb_0]
      · by_cases h2 : th_t (S0.1 2 c) x ≤ 0
        · have e4 : th_m (S0.1 2 c) x (S0.1 4 c) = 0 := by unfold th_m; rw [if_neg h4, if_pos h2]
          simp only [La_soften_2b, La_soften_60, La_soften_61, if_pos hc, ck_t, lt_e, bI_s, bL_s, bV_s, one_n0, zero_0, if_true, if_false, rfs, i1, g_nI _ _ (show c < 2 ^ 31 by omega), s_nI _ _ (show c < 2 ^ 31 by omega), nI_1, q2, f1, w4, w2, if_neg h4, if_pos h2, e4, nb_0]
        · have e4 : th_m (S0.1 2 c) x (S0.1 4 c) = 1 := by unfold th_m; rw [if_neg h4, if_neg h2]
          simp only [La_soften_2b, La_soften_60, La_soften_61, if_pos hc, ck_t, lt_e, bI_s, bL_s, bV_s, one_n0, zero_0, if_true, if_false, rfs, i1, g_nI _ _ (show c < 2 ^ 31 by omega), s_nI _ _ (show c < 2 ^ 31 by omega), nI_1, q2, f1, w4, w2, if_neg h4, if_neg h2, e4, nb_1]
    show La_soften_2b 1 (La_soften_2 1 m) x (nI c) S = _
    have hst : mp T (gT S0 x) (c + 1) j = mp S (gT S0 x) c (j + 1) := by
      refine mp_step (fun q i => ?_) (by rw [hT]; rfl)
      by_cases e : i = c
      · subst e
        rw [if_pos rfl, hT]
        by_cases e2 : q = 2
        · subst e2; simp [upA, upd, gT]
        · by_cases e3 : q = 3
          · subst e3; simp [upA, upd, gT]
          · by_cases e4 : q = 4
            · subst e4; simp [upA, upd, gT]
            · simp [upA, gT, e2, e3, e4]
      · rw [if_neg e, hT, up_ne _ _ _ _ (Or.inr e), up_ne _ _ _ _ (Or.inr e), up_ne _ _ _ _ (Or.inr e)]
    rw [key, ih (c + 1) m T (by omega) (by omega) (fun i hi => ?_), hst]
    rw [hT]
    have ne : i ≠ c := by omega
    simp only [up_ne _ _ _ _ (Or.inr ne)]
    exact hS i (by omega)
def gU (S0 : iz_S) (x : Int32) : Nat → Nat → Option Int32 := fun q i => if q = 83 then some (if S0.1 83 i ≤ x then 0 else S0.1 83 i - x) else if q = 84 then some 0 else if q = 85 then some (if (if S0.1 83 i ≤ x then 0 else S0.1 83 i - x) = 0 then 0 else S0.1 85 i) else none
theorem mo_thaw (x : Int32) (S0 : iz_S) : ∀ (j c n : Nat) (S : iz_S), c + j = 64 → j < n → (∀ i, c ≤ i → S.1 83 i = S0.1 83 i ∧ S.1 85 i = S0.1 85 i) → Mo_thaw_18 82 n x (nI c) S = some (nI (ctT (mp S (gU S0 x) c j) 83 1), mp S (gU S0 x) c j) := by
  intro j
  induction j with
  | zero =>
    intro c n S hcj hn hS
    obtain ⟨m, rfl⟩ : ∃ m, n = m + 1 := ⟨n - 1, by omega⟩
    have hc : ¬ nI c < 64 := nI_nlt (b := 64) (by omega) (by omega)
    show Mo_thaw_18b 82 (Mo_thaw_18 82 m) x (nI c) S = _
    simp only [Mo_thaw_18b, if_neg hc, mp_0, mo_bearing, ck_t, lt_e, bI_s, bL_s, bV_s, one_n0, zero_0, if_true, if_false, rfs]
  | succ j ih =>
    intro c n S hcj hn hS
    obtain ⟨m, rfl⟩ : ∃ m, n = m + 1 := ⟨n - 1, by omega⟩
    have hc : nI c < 64 := nI_lt (b := 64) (by omega) (by omega)
    have i1 := in_ok (n := c) (N := 64) (by omega) (by decide)
    obtain ⟨q2, q4⟩ := hS c (Nat.le_refl c)
    obtain ⟨v, hv⟩ : ∃ v, v = (if S0.1 83 c ≤ x then 0 else S0.1 83 c - x) := ⟨_, rfl⟩
    obtain ⟨T, hT⟩ : ∃ T, T = if v = 0 then iz_up (iz_up (iz_up (iz_up S 83 c v) 84 c 0) 84 c 0) 85 c 0 else iz_up (iz_up S 83 c v) 84 c 0 := ⟨_, rfl⟩
    have key : Mo_thaw_18b 82 (Mo_thaw_18 82 m) x (nI c) S = Mo_thaw_18 82 m x (nI (c + 1)) T := by
      have w : (iz_up (iz_up S 83 c v) 84 c 0).1 83 c = v := by rw [up_ne _ _ _ _ (Or.inl (by decide)), up_same]
      have st : Mo_thaw_51 82 (Mo_thaw_18 82 m) x (nI c) (nI c) v S = Mo_thaw_18 82 m x (nI (c + 1)) T := by
        rw [hT]
        by_cases h0 : v = 0
        · simp only [Mo_thaw_51, Mo_clean, Mo_clean_23, ck_t, lt_e, bI_s, bL_s, bV_s, one_n0, zero_0, if_true, if_false, rfs, i1, g_nI _ _ (show c < 2 ^ 31 by omega), s_nI _ _ (show c < 2 ^ 31 by omega), nI_1, w, if_pos h0, nb_0]
        · simp only [Mo_thaw_51, Mo_clean, Mo_clean_23, ck_t, lt_e, bI_s, bL_s, bV_s, one_n0, zero_0, if_true, if_false, rfs, i1, g_nI _ _ (show c < 2 ^ 31 by omega), s_nI _ _ (show c < 2 ^ 31 by omega), nI_1, w, if_neg h0]
      by_cases hx : S0.1 83 c ≤ x
      · rw [if_pos hx] at hv
        rw [← st, hv]
        simp only [Mo_thaw_18b, if_pos hc, ck_t, lt_e, bI_s, bL_s, bV_s, one_n0, zero_0, if_true, if_false, rfs, i1, g_nI _ _ (show c < 2 ^ 31 by omega), q2, if_pos hx]
      · rw [if_neg hx] at hv
        rw [← st, hv]
        simp only [Mo_thaw_18b, if_pos hc, ck_t, lt_e, bI_s, bL_s, bV_s, one_n0, zero_0, if_true, if_false, rfs, i1, g_nI _ _ (show c < 2 ^ 31 by omega), q2, if_neg hx]
    show Mo_thaw_18b 82 (Mo_thaw_18 82 m) x (nI c) S = _
    have hst : mp T (gU S0 x) (c + 1) j = mp S (gU S0 x) c (j + 1) := by
      refine mp_step (fun q i => ?_) (by rw [hT]; split <;> rfl)
      rw [hT]
      by_cases e : i = c
      · subst e
        rw [if_pos rfl]
        by_cases e2 : q = 83
        · subst e2
          by_cases h0 : v = 0
          · simp [upA, upd, gU, ← hv, h0]
          · simp [upA, upd, gU, ← hv, h0]
        · by_cases e3 : q = 84
          · subst e3
            by_cases h0 : v = 0
            · simp [upA, upd, gU, ← hv, h0]
            · simp [upA, upd, gU, ← hv, h0]
          · by_cases e4 : q = 85
            · subst e4
              by_cases h0 : v = 0
              · simp [upA, upd, gU, ← hv, h0]
              · simp [upA, upd, gU, ← hv, h0, q4]
            · by_cases h0 : v = 0
              · simp [upA, gU, e2, e3, e4, h0]
              · simp [upA, gU, e2, e3, e4, h0]
      · rw [if_neg e]
        by_cases h0 : v = 0
        · rw [if_pos h0]; simp only [up_ne _ _ _ _ (Or.inr e)]
        · rw [if_neg h0]; simp only [up_ne _ _ _ _ (Or.inr e)]
    rw [key, ih (c + 1) m T (by omega) (by omega) (fun i hi => ?_), hst]
    rw [hT]
    have ne : i ≠ c := by omega
    by_cases h0 : v = 0
    · rw [if_pos h0]; simp only [up_ne _ _ _ _ (Or.inr ne)]; exact hS i (by omega)
    · rw [if_neg h0]; simp only [up_ne _ _ _ _ (Or.inr ne)]; exact hS i (by omega)
