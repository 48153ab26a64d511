/-! PURE: melts -/
theorem ho_cm {S : iz_S} {q B w : Nat} {h : Nat → Nat} {b : Nat → Nat → Nat} {kd wt pl cv W : Nat → Nat} (hq : hq_p q) (hc : hs_c S q B w h b kd wt pl) (hi : hs_i B w h b kd wt pl) (hv : ∀ c, c < 16 → S.1 11 c = nI (cv c) ∧ cv c ≤ 10) (hW : ∀ i, i < 100 → S.1 12 i = nI (W i) ∧ W i ≤ 40) {c : Nat} (c16 : c < 16) {t : Nat} (t20 : t ≤ 20) : ∀ (j s n a : Nat), s + j = h c → j < n →
    Ho_columnMelts_5 q n (nI c) (nI t) (nI a) (nI s) S = some (nI (a + hs_ls (fun l => hml (wk_w W w) (hop h cv c l + t) (hfk (kd (b c l))) (wt (b c l))) (h c) s), S) := by
  intro j
  have h6 := hi.2.2.2.1 c c16
  have i1 := in_ok (n := c) (N := 16) c16 (by decide)
  have hH := hc.2.2.2.1 c c16
  have gc := fun (T : iz_S) p => g_nI T p (show c < 2 ^ 31 by omega)
  induction j with
  | zero =>
    intro s n a hs hn
    obtain ⟨m, rfl⟩ : ∃ m, n = m + 1 := ⟨n - 1, by omega⟩
    have hlt : ¬ nI s < nI (h c) := nI_nlt (by omega) (by omega)
    show Ho_columnMelts_5b q (Ho_columnMelts_5 q m) (nI c) (nI t) (nI a) (nI s) S = _
    rw [Ho_columnMelts_5b, i1, ck_t, hq.2.2.2.1, gc, hH, if_neg hlt, ls_0 _ (h c) s (by omega)]
    rfl
  | succ j ih =>
    intro s n a hs hn
    obtain ⟨m, rfl⟩ : ∃ m, n = m + 1 := ⟨n - 1, by omega⟩
    have hl : s < h c := by omega
    have hlt : nI s < nI (h c) := nI_lt hl (by omega)
    show Ho_columnMelts_5b q (Ho_columnMelts_5 q m) (nI c) (nI t) (nI a) (nI s) S = _
    rw [Ho_columnMelts_5b, i1, ck_t, hq.2.2.2.1, gc, hH, if_pos hlt, ho_behind hq hc hi hv hW c16 hl t20, bI_s, lt_e, nI_add, nI_1, ih (s + 1) m _ (by omega) (by omega), ls_s _ (h c) s hl, Nat.add_assoc]
theorem ho_colM {S : iz_S} {q B w : Nat} {h : Nat → Nat} {b : Nat → Nat → Nat} {kd wt pl cv W : Nat → Nat} (hq : hq_p q) (hc : hs_c S q B w h b kd wt pl) (hi : hs_i B w h b kd wt pl) (hv : ∀ c, c < 16 → S.1 11 c = nI (cv c) ∧ cv c ≤ 10) (hW : ∀ i, i < 100 → S.1 12 i = nI (W i) ∧ W i ≤ 40) {c : Nat} (c16 : c < 16) {t : Nat} (t20 : t ≤ 20) :
    Ho_columnMelts q (nI c) (nI t) S = some (nI (hs_ls (fun l => hml (wk_w W w) (hop h cv c l + t) (hfk (kd (b c l))) (wt (b c l))) (h c) 0), S) := by
  have e := ho_cm hq hc hi hv hW c16 t20 (h c) 0 iz_FU 0 (by omega) (by have := fu_ge; have := hi.2.2.2.1 c c16; omega)
  rw [nI_0, Nat.zero_add] at e
  exact e
/-- the sum over columns c .. c + j - 1 and their levels -/
def hs_tt (f : Nat → Nat → Nat) (h : Nat → Nat) : Nat → Nat → Nat
  | _, 0 => 0
  | c, j + 1 => hs_ls (f c) (h c) 0 + hs_tt f h (c + 1) j
/-- what melts at a place -/
def wk_m (d cv W kd : Nat → Nat) (w : Nat) (h : Nat → Nat) (b : Nat → Nat → Nat) (wt : Nat → Nat) (c l : Nat) : Nat := hml (wk_w W w) (hop h cv c l + (wl_r d c + wl_s d c)) (hfk (kd (b c l))) (wt (b c l))
theorem ho_allM {S : iz_S} {q B w : Nat} {h : Nat → Nat} {b : Nat → Nat → Nat} {kd wt pl cv W d : Nat → Nat} (hq : hq_p q) (hc : hs_c S q B w h b kd wt pl) (hi : hs_i B w h b kd wt pl) (hv : ∀ c, c < 16 → S.1 11 c = nI (cv c) ∧ cv c ≤ 10) (hW : ∀ i, i < 100 → S.1 12 i = nI (W i) ∧ W i ≤ 40) (hd : ∀ i, i < 4 → S.1 10 i = nI (d i) ∧ d i ≤ 10) : ∀ (j c n a : Nat), c + j = 16 → j < n →
    Ho_allMelts_4 q n (nI a) (nI c) S = some (nI (a + hs_tt (wk_m d cv W kd w h b wt) h c j), S) := by
  intro j
  induction j with
  | zero =>
    intro c n a hs hn
    obtain ⟨m, rfl⟩ : ∃ m, n = m + 1 := ⟨n - 1, by omega⟩
    have hlt : ¬ nI c < 16 := nI_nlt (b := 16) (by omega) (by omega)
    show Ho_allMelts_4b q (Ho_allMelts_4 q m) (nI a) (nI c) S = _
    rw [Ho_allMelts_4b, if_neg hlt]
    rfl
  | succ j ih =>
    intro c n a hs hn
    obtain ⟨m, rfl⟩ : ∃ m, n = m + 1 := ⟨n - 1, by omega⟩
    have hlt : nI c < 16 := nI_lt (b := 16) (by omega) (by omega)
    show Ho_allMelts_4b q (Ho_allMelts_4 q m) (nI a) (nI c) S = _
    rw [Ho_allMelts_4b, if_pos hlt, hq.2.2.2.2.2, sh_wall hd (show c < 16 by omega), bI_s, ho_colM hq hc hi hv hW (show c < 16 by omega) (wl_le d c), bI_s, lt_e, nI_add, nI_1, ih (c + 1) m _ (by omega) (by omega), hs_tt, Nat.add_assoc]
    rfl
theorem mo_allM1 {S : iz_S} {B w : Nat} {h : Nat → Nat} {b : Nat → Nat → Nat} {kd wt pl cv d W : Nat → Nat} (hc : hs_m S B w h b kd wt pl) (hi : hs_i B w h b kd wt pl) (hv : ∀ c, c < 16 → S.1 93 c = nI (cv c) ∧ cv c ≤ 10) (hW : ∀ i, i < 100 → S.1 94 i = nI (W i) ∧ W i ≤ 40) (hd : ∀ i, i < 4 → S.1 92 i = nI (d i) ∧ d i ≤ 10) (k4 : Int32 → Int32 → iz_S → Option (Int32 × iz_S)) {c : Nat} (c16 : c < 16) : ∀ (j s n a : Nat), s + j = h c → j < n →
    Mo_allMelts_12 82 k4 n (nI a) (nI c) (nI s) S = k4 (nI (a + hs_ls (wk_m d cv W kd w h b wt c) (h c) s)) (nI (c + 1)) S := by
  intro j
  have h6 := hi.2.2.2.1 c c16
  have i1 := in_ok (n := c) (N := 16) c16 (by decide)
  have hH := hc.2.2.2.1 c c16
  have gc := fun (T : iz_S) p => g_nI T p (show c < 2 ^ 31 by omega)
  have wm := mo_warm (S := S) (W := W) (fun i hi => (hW i hi).1) (w := w) (by have := hi.2.1; omega)
  have r9 : iz_rf 82 9 = 91 := rfl
  induction j with
  | zero =>
    intro s n a hs hn
    obtain ⟨m, rfl⟩ : ∃ m, n = m + 1 := ⟨n - 1, by omega⟩
    have hlt : ¬ nI s < nI (h c) := nI_nlt (by omega) (by omega)
    show Mo_allMelts_12b 82 k4 (Mo_allMelts_12 82 k4 m) (nI a) (nI c) (nI s) S = _
    rw [Mo_allMelts_12b, i1, ck_t, r9, gc, hH, if_neg hlt, ls_0 _ (h c) s (by omega), nI_1]
    rfl
  | succ j ih =>
    intro s n a hs hn
    obtain ⟨m, rfl⟩ : ∃ m, n = m + 1 := ⟨n - 1, by omega⟩
    have hl : s < h c := by omega
    have hlt : nI s < nI (h c) := nI_lt hl (by omega)
    show Mo_allMelts_12b 82 k4 (Mo_allMelts_12 82 k4 m) (nI a) (nI c) (nI s) S = _
    rw [Mo_allMelts_12b, i1, ck_t, r9, gc, hH, if_pos hlt, hc.2.1, wm, bI_s, mo_melt hc hi hv hd (wk_le (fun i hi => (hW i hi).2) w) c16 hl, bI_s, lt_e, nI_add, nI_1, ih (s + 1) m _ (by omega) (by omega), ls_s _ (h c) s hl]
    exact congrArg (fun z => k4 (nI z) (nI (c + 1)) S) (Nat.add_assoc a (wk_m d cv W kd w h b wt c s) _)
theorem mo_allM {S : iz_S} {B w : Nat} {h : Nat → Nat} {b : Nat → Nat → Nat} {kd wt pl cv d W : Nat → Nat} (hc : hs_m S B w h b kd wt pl) (hi : hs_i B w h b kd wt pl) (hv : ∀ c, c < 16 → S.1 93 c = nI (cv c) ∧ cv c ≤ 10) (hW : ∀ i, i < 100 → S.1 94 i = nI (W i) ∧ W i ≤ 40) (hd : ∀ i, i < 4 → S.1 92 i = nI (d i) ∧ d i ≤ 10) : ∀ (j c n a : Nat), c + j = 16 → j < n →
    Mo_allMelts_4 82 n (nI a) (nI c) S = some (nI (a + hs_tt (wk_m d cv W kd w h b wt) h c j), S) := by
  intro j
  induction j with
  | zero =>
    intro c n a hs hn
    obtain ⟨m, rfl⟩ : ∃ m, n = m + 1 := ⟨n - 1, by omega⟩
    have hlt : ¬ nI c < 16 := nI_nlt (b := 16) (by omega) (by omega)
    show Mo_allMelts_4b 82 (Mo_allMelts_4 82 m) (nI a) (nI c) S = _
    rw [Mo_allMelts_4b, if_neg hlt]
    rfl
  | succ j ih =>
    intro c n a hs hn
    obtain ⟨m, rfl⟩ : ∃ m, n = m + 1 := ⟨n - 1, by omega⟩
    have hlt : nI c < 16 := nI_lt (b := 16) (by omega) (by omega)
    have h6 := hi.2.2.2.1 c (by omega)
    have e1 := mo_allM1 hc hi hv hW hd (Mo_allMelts_4 82 m) (c := c) (by omega) (h c) 0 iz_FU a (by omega) (by have := fu_ge; omega)
    show Mo_allMelts_4b 82 (Mo_allMelts_4 82 m) (nI a) (nI c) S = _
    rw [Mo_allMelts_4b, if_pos hlt]
    rw [show Mo_allMelts_12 82 (Mo_allMelts_4 82 m) iz_FU (nI a) (nI c) 0 S = _ from e1, ih (c + 1) m _ (by omega) (by omega), hs_tt, Nat.add_assoc]
theorem pc_melts {S : iz_S} (h : rl S) : pc (Ic_melts 0) (Mo_melts 82) S := by
  obtain ⟨B, w, hh, b, kd, wt, pl, hc, hm, hi, hn, hl⟩ := id h.2.2.1
  obtain ⟨dd, cv, W, q1, q2, q3, q4, q5, q6⟩ := shel_f h.2.1
  have fu := fu_ge
  have e1 := ho_allM hq_13 hc hi q3 q5 q1 16 0 iz_FU 0 (by omega) (by omega)
  have e2 := mo_allM hm hi q4 q6 q2 16 0 iz_FU 0 (by omega) (by omega)
  rw [nI_0] at e1 e2
  refine pc_of (r := nI (0 + hs_tt (wk_m dd cv W kd w hh b wt) hh 0 16)) (S1 := S) (S2 := S) ?_ ?_ h
  · rw [Ic_melts, show iz_rf 0 3 = 13 from rfl, Ho_allMelts, e1, bI_s]
  · rw [Mo_melts, Mo_allMelts, e2, bI_s]
