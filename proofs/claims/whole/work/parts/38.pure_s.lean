/-! PURE: where a block lies -/
theorem nI_sb {a b : Nat} (h : b ≤ a) (ha : a < 2 ^ 31) : nI a - nI b = nI (a - b) := by
  rw [fa_eq, fb_subI (by rw [nI_tI ha, nI_tI (by omega)]; omega) (by rw [nI_tI ha, nI_tI (by omega)]; omega), nI_tI ha, nI_tI (by omega), nI_tI (by omega)]
  omega
theorem s_dm {s : Nat} (hs : s < 1000) : nI s / 6 = nI (s / 6) ∧ nI s - nI s / 6 * 6 = nI (s % 6) := by
  have e : nI s / 6 = nI (s / 6) := pk_div (d := 6) (by omega) (by decide) (by decide)
  have e2 : nI (s / 6) * 6 = nI (s / 6 * 6) := pk_mul (s / 6) 6
  refine ⟨e, ?_⟩
  rw [e, e2, nI_sb (by omega) (by omega)]
  congr 1
  omega
theorem hq_at_f {S : iz_S} {q c l H : Nat} (hq : hq_p q) (hc : c < 16) (hH : S.1 (q + 4) c = nI H) (hH6 : H ≤ 6) (hl : ¬ l < H) (hl2 : l < 2 ^ 31) : Ho_blockAt q (nI c) (nI l) S = some (-1, S) := by
  have h : ¬ (0 ≤ nI l ∧ nI l ≤ nI H - 1) := fun h => by
    obtain ⟨k, hk, e⟩ := (btw_iff (by omega)).mp h
    have := (nI_eq hl2 (by omega)).mp e
    omega
  have i1 := in_ok (n := c) (N := 16) hc (by decide)
  simp only [Ho_blockAt, Ho_blockAt_31, ck_t, bI_s, zero_0, if_true, hq.2.2.2.1, i1, g_nI _ _ (show c < 2 ^ 31 by omega), hH, ic_within, if_neg h]
theorem ho_slot {S : iz_S} {q B w : Nat} {h : Nat → Nat} {b : Nat → Nat → Nat} {kd wt pl : Nat → Nat} (hq : hq_p q) (hc : hs_c S q B w h b kd wt pl) (hi : hs_i B w h b kd wt pl) {c l : Nat} (c16 : c < 16) (hl : l < h c) : ∀ (j s n : Nat), s + j = 6 * c + l → j < n → Ho_slotOf_14 q n (nI (b c l)) (nI s) S = some (nI (6 * c + l), S) := by
  have h6 := hi.2.2.2.1 c c16
  have b60 := hi.1
  obtain ⟨g1, g2⟩ := hi.2.2.2.2.1 c l c16 hl
  intro j
  induction j with
  | zero =>
    intro s n hs hn
    obtain ⟨m, rfl⟩ : ∃ m, n = m + 1 := ⟨n - 1, by omega⟩
    obtain rfl : s = 6 * c + l := by omega
    have hlt : nI (6 * c + l) < 96 := nI_lt (b := 96) (by omega) (by omega)
    have e1 := hq_at hq c16 (hc.2.2.2.1 c c16) h6 hl
    rw [hc.2.2.2.2 c l c16 hl] at e1
    have d := s_dm (s := 6 * c + l) (by omega)
    rw [show (6 * c + l) / 6 = c by omega, show (6 * c + l) % 6 = l by omega] at d
    show Ho_slotOf_14b q (Ho_slotOf_14 q m) (nI (b c l)) (nI (6 * c + l)) S = _
    unfold Ho_slotOf_14b
    rw [if_pos hlt, d.2, d.1, e1, bI_s, if_pos rfl]
  | succ j ih =>
    intro s n hs hn
    obtain ⟨m, rfl⟩ : ∃ m, n = m + 1 := ⟨n - 1, by omega⟩
    have hlt : nI s < 96 := nI_lt (b := 96) (by omega) (by omega)
    have d := s_dm (s := s) (by omega)
    have s16 : s / 6 < 16 := by omega
    have hs6 := hi.2.2.2.1 (s / 6) s16
    show Ho_slotOf_14b q (Ho_slotOf_14 q m) (nI (b c l)) (nI s) S = _
    unfold Ho_slotOf_14b
    rw [if_pos hlt, d.2, d.1]
    by_cases hx : s % 6 < h (s / 6)
    · have e1 := hq_at hq s16 (hc.2.2.2.1 _ s16) hs6 hx
      rw [hc.2.2.2.2 _ _ s16 hx] at e1
      have ne : ¬ nI (b (s / 6) (s % 6)) = nI (b c l) := fun e => by
        have g3 := (hi.2.2.2.2.1 _ _ s16 hx).1
        have e' := (nI_eq (by omega) (by omega)).mp e
        have := hi.2.2.2.2.2.1 _ _ _ _ s16 hx c16 hl e'
        omega
      rw [e1, bI_s, if_neg ne, nI_1, ih (s + 1) m (by omega) (by omega)]
    · have e1 := hq_at_f hq s16 (hc.2.2.2.1 _ s16) hs6 hx (by omega)
      have ne : ¬ (-1 : Int32) = nI (b c l) := fun e => by
        rw [fa_eq, nI_tI (by omega)] at e
        have : (-1 : Int32).toInt = -1 := rfl
        omega
      rw [e1, bI_s, if_neg ne, nI_1, ih (s + 1) m (by omega) (by omega)]
theorem ho_slotOf {S : iz_S} {q B w : Nat} {h : Nat → Nat} {b : Nat → Nat → Nat} {kd wt pl : Nat → Nat} (hq : hq_p q) (hc : hs_c S q B w h b kd wt pl) (hi : hs_i B w h b kd wt pl) {c l : Nat} (c16 : c < 16) (hl : l < h c) : Ho_slotOf q (nI (b c l)) S = some (nI (6 * c + l), S) := by
  have b60 := hi.1
  have h6 := hi.2.2.2.1 c c16
  obtain ⟨g1, g2⟩ := hi.2.2.2.2.1 c l c16 hl
  have i1 := in_ok (n := b c l) (N := 60) (by omega) (by decide)
  have p1 : S.1 (q + 3) (b c l) = 1 := by rw [(hc.2.2.1 _ g1).2.2, g2]; rfl
  simp only [Ho_slotOf, ck_t, i1, hq.2.2.1, g_nI _ _ (show b c l < 2 ^ 31 by omega), if_pos p1]
  exact ho_slot hq hc hi c16 hl (6 * c + l) 0 iz_FU (by omega) (by have := fu_ge; omega)
theorem ho_slot_n {S : iz_S} {q B w : Nat} {h : Nat → Nat} {b : Nat → Nat → Nat} {kd wt pl : Nat → Nat} (hq : hq_p q) (hc : hs_c S q B w h b kd wt pl) (hi : hs_i B w h b kd wt pl) {i : Nat} (hB : i < B) (hp : pl i ≠ 1) : Ho_slotOf q (nI i) S = some (-1, S) := by
  have b60 := hi.1
  have i1 := in_ok (n := i) (N := 60) (by omega) (by decide)
  have p2 := (hi.2.2.1 i hB).2.2
  have p1 : ¬ S.1 (q + 3) i = 1 := by
    rw [(hc.2.2.1 i hB).2.2]
    exact fun e => hp ((nI_eq (b := 1) (by omega) (by decide)).mp e)
  simp only [Ho_slotOf, ck_t, i1, hq.2.2.1, g_nI _ _ (show i < 2 ^ 31 by omega), if_neg p1]
theorem mo_level {S : iz_S} {B w : Nat} {h : Nat → Nat} {b : Nat → Nat → Nat} {kd wt pl : Nat → Nat} (hc : hs_m S B w h b kd wt pl) (hi : hs_i B w h b kd wt pl) {c l : Nat} (c16 : c < 16) (hl : l < h c) : ∀ (j s n : Nat), s + j = l → j < n → Mo_levelOf_2 82 n (nI (b c l)) (nI s) S = some (nI l, S) := by
  have h6 := hi.2.2.2.1 c c16
  have b60 := hi.1
  obtain ⟨g1, g2⟩ := hi.2.2.2.2.1 c l c16 hl
  have i1 := in_ok (n := b c l) (N := 60) (by omega) (by decide)
  have hcol := hc.2.2.2.2.2.1 c l c16 hl
  intro j
  induction j with
  | zero =>
    intro s n hs hn
    obtain ⟨m, rfl⟩ : ∃ m, n = m + 1 := ⟨n - 1, by omega⟩
    obtain rfl : s = l := by omega
    have e1 := mo_at (S := S) c16 (show s < 6 by omega)
    rw [hc.2.2.2.2.1 c s c16 hl] at e1
    show Mo_levelOf_2b 82 (Mo_levelOf_2 82 m) (nI (b c s)) (nI s) S = _
    simp only [Mo_levelOf_2b, ck_t, lt_e, bI_s, bL_s, bV_s, one_n0, zero_0, if_true, if_false, rfs, i1, g_nI _ _ (show b c s < 2 ^ 31 by omega), hcol, e1]
  | succ j ih =>
    intro s n hs hn
    obtain ⟨m, rfl⟩ : ∃ m, n = m + 1 := ⟨n - 1, by omega⟩
    have hs2 : s < h c := by omega
    have e1 := mo_at (S := S) c16 (show s < 6 by omega)
    rw [hc.2.2.2.2.1 c s c16 hs2] at e1
    have ne : ¬ nI (b c s) = nI (b c l) := fun e => by
      have g3 := (hi.2.2.2.2.1 _ _ c16 hs2).1
      have e' := (nI_eq (by omega) (by omega)).mp e
      have := hi.2.2.2.2.2.1 _ _ _ _ c16 hs2 c16 hl e'
      omega
    show Mo_levelOf_2b 82 (Mo_levelOf_2 82 m) (nI (b c l)) (nI s) S = _
    simp only [Mo_levelOf_2b, ck_t, lt_e, bI_s, bL_s, bV_s, one_n0, zero_0, if_true, if_false, rfs, i1, g_nI _ _ (show b c l < 2 ^ 31 by omega), hcol, e1, if_neg ne, nI_1]
    exact ih (s + 1) m (by omega) (by omega)
theorem mo_levelOf {S : iz_S} {B w : Nat} {h : Nat → Nat} {b : Nat → Nat → Nat} {kd wt pl : Nat → Nat} (hc : hs_m S B w h b kd wt pl) (hi : hs_i B w h b kd wt pl) {c l : Nat} (c16 : c < 16) (hl : l < h c) : Mo_levelOf 82 (nI (b c l)) S = some (nI l, S) :=
  mo_level hc hi c16 hl l 0 iz_FU (by omega) (by have := fu_ge; have := hi.2.2.2.1 c c16; omega)
