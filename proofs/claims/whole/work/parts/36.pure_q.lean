/-! PURE: weights in a house; ledger -/
/-- the places of a house -/
def hq_p (q : Nat) : Prop := iz_rf q 1 = q + 1 ∧ iz_rf q 2 = q + 2 ∧ iz_rf q 3 = q + 3 ∧ iz_rf q 4 = q + 4 ∧ iz_rf q 12 = q + 5 ∧ iz_rf q 11 = 9
theorem hq_13 : hq_p 13 := by unfold hq_p; decide +kernel
theorem hq_19 : hq_p 19 := by unfold hq_p; decide +kernel
/-- the sum of f over s .. n - 1 -/
def hs_ls (f : Nat → Nat) : Nat → Nat → Nat
  | 0, _ => 0
  | n + 1, s => hs_ls f n s + if s ≤ n then f n else 0
theorem ls_0 (f : Nat → Nat) : ∀ (n s : Nat), n ≤ s → hs_ls f n s = 0
  | 0, _, _ => rfl
  | n + 1, s, h => by rw [hs_ls, ls_0 f n s (by omega), if_neg (by omega)]
theorem ls_s (f : Nat → Nat) : ∀ (n s : Nat), s < n → hs_ls f n s = f s + hs_ls f n (s + 1)
  | 0, _, h => absurd h (by omega)
  | n + 1, s, h => by
    rw [hs_ls, hs_ls, if_pos (by omega)]
    by_cases e : s = n
    · subst e
      rw [ls_0 f s s (Nat.le_refl s), ls_0 f s (s + 1) (by omega), if_neg (by omega)]
      omega
    · rw [ls_s f n s (by omega), if_pos (by omega)]
      omega
theorem ld_ls (wt : Nat → Nat) (b : Nat → Nat) : ∀ (n l : Nat), hs_ld wt b n l = hs_ls (fun k => wt (b k)) n (l + 1)
  | 0, _ => rfl
  | n + 1, l => by
    rw [hs_ld, hs_ls, ld_ls wt b n l]
    rfl
theorem hq_at {S : iz_S} {q c l H : Nat} (hq : hq_p q) (hc : c < 16) (hH : S.1 (q + 4) c = nI H) (hH6 : H ≤ 6) (hl : l < H) : Ho_blockAt q (nI c) (nI l) S = some (S.1 (q + 5) (6 * c + l), S) := by
  have h := (btw_iff (x := nI l) (n := H) (by omega)).mpr ⟨l, hl, rfl⟩
  have i1 := in_ok (n := c) (N := 16) hc (by decide)
  have i2 := in_ok (n := 6 * c + l) (N := 96) (by omega) (by decide)
  simp only [Ho_blockAt, Ho_blockAt_31, ck_t, bI_s, one_n0, if_false, hq.2.2.2.1, hq.2.2.2.2.1, i1, g_nI _ _ (show c < 2 ^ 31 by omega), hH, ic_within, if_pos h, (s_c6 c l).1, i2, g_nI _ _ (show 6 * c + l < 2 ^ 31 by omega)]
theorem ho_load {S : iz_S} {q B w : Nat} {h : Nat → Nat} {b : Nat → Nat → Nat} {kd wt pl : Nat → Nat} (hq : hq_p q) (hc : hs_c S q B w h b kd wt pl) (hi : hs_i B w h b kd wt pl) {c : Nat} (c16 : c < 16) : ∀ (j s n a : Nat), s + j = h c → j < n → Ho_loadOver_7 q n (nI c) (nI a) (nI s) S = some (nI (a + hs_ls (fun k => wt (b c k)) (h c) s), S) := by
  intro j
  have h6 := hi.2.2.2.1 c c16
  have i1 := in_ok (n := c) (N := 16) c16 (by decide)
  have hH := hc.2.2.2.1 c c16
  induction j with
  | zero =>
    intro s n a hs hn
    obtain ⟨m, rfl⟩ : ∃ m, n = m + 1 := ⟨n - 1, by omega⟩
    have hlt : ¬ nI s < nI (h c) := nI_nlt (by omega) (by omega)
    show Ho_loadOver_7b q (Ho_loadOver_7 q m) (nI c) (nI a) (nI s) S = _
    simp only [Ho_loadOver_7b, ck_t, i1, hq.2.2.2.1, g_nI _ _ (show c < 2 ^ 31 by omega), hH, if_neg hlt, ls_0 _ (h c) s (by omega), Nat.add_zero]
  | succ j ih =>
    intro s n a hs hn
    obtain ⟨m, rfl⟩ : ∃ m, n = m + 1 := ⟨n - 1, by omega⟩
    have hl : s < h c := by omega
    have hlt : nI s < nI (h c) := nI_lt hl (by omega)
    have e1 := hc.2.2.2.2 c s c16 hl
    obtain ⟨g1, g2⟩ := hi.2.2.2.2.1 c s c16 hl
    have b60 := hi.1
    have i2 := in_ok (n := b c s) (N := 60) (by omega) (by decide)
    have i3 := in_ok (n := 6 * c + s) (N := 96) (by omega) (by decide)
    show Ho_loadOver_7b q (Ho_loadOver_7 q m) (nI c) (nI a) (nI s) S = _
    simp only [Ho_loadOver_7b, ck_t, lt_e, i1, i2, i3, hq.2.1, hq.2.2.2.1, hq.2.2.2.2.1, (s_c6 c s).1, g_nI _ _ (show c < 2 ^ 31 by omega), hH, if_pos hlt, g_nI _ _ (show 6 * c + s < 2 ^ 31 by omega), e1, g_nI _ _ (show b c s < 2 ^ 31 by omega), (hc.2.2.1 (b c s) g1).2.1, nI_add, nI_1]
    rw [ih (s + 1) m (a + wt (b c s)) (by omega) (by omega), ls_s _ (h c) s hl, Nat.add_assoc]
theorem mo_load {S : iz_S} {B w : Nat} {h : Nat → Nat} {b : Nat → Nat → Nat} {kd wt pl : Nat → Nat} (hc : hs_m S B w h b kd wt pl) (hi : hs_i B w h b kd wt pl) {c : Nat} (c16 : c < 16) : ∀ (j s n a : Nat), s + j = h c → j < n → Mo_loadOf_7 82 n (nI c) (nI a) (nI s) S = some (nI (a + hs_ls (fun k => wt (b c k)) (h c) s), S) := by
  intro j
  have h6 := hi.2.2.2.1 c c16
  have i1 := in_ok (n := c) (N := 16) c16 (by decide)
  have hH := hc.2.2.2.1 c c16
  induction j with
  | zero =>
    intro s n a hs hn
    obtain ⟨m, rfl⟩ : ∃ m, n = m + 1 := ⟨n - 1, by omega⟩
    have hlt : ¬ nI s < nI (h c) := nI_nlt (by omega) (by omega)
    show Mo_loadOf_7b 82 (Mo_loadOf_7 82 m) (nI c) (nI a) (nI s) S = _
    simp only [Mo_loadOf_7b, ck_t, lt_e, bI_s, bL_s, bV_s, one_n0, zero_0, if_true, if_false, rfs, i1, g_nI _ _ (show c < 2 ^ 31 by omega), hH, if_neg hlt, ls_0 _ (h c) s (by omega), Nat.add_zero]
  | succ j ih =>
    intro s n a hs hn
    obtain ⟨m, rfl⟩ : ∃ m, n = m + 1 := ⟨n - 1, by omega⟩
    have hl : s < h c := by omega
    have hlt : nI s < nI (h c) := nI_lt hl (by omega)
    have e1 := mo_at (S := S) c16 (show s < 6 by omega)
    rw [hc.2.2.2.2.1 c s c16 hl] at e1
    obtain ⟨g1, g2⟩ := hi.2.2.2.2.1 c s c16 hl
    have b60 := hi.1
    have i2 := in_ok (n := b c s) (N := 60) (by omega) (by decide)
    show Mo_loadOf_7b 82 (Mo_loadOf_7 82 m) (nI c) (nI a) (nI s) S = _
    simp only [Mo_loadOf_7b, ck_t, lt_e, bI_s, bL_s, bV_s, one_n0, zero_0, if_true, if_false, rfs, i1, i2, g_nI _ _ (show c < 2 ^ 31 by omega), hH, if_pos hlt, e1, g_nI _ _ (show b c s < 2 ^ 31 by omega), (hc.2.2.1 (b c s) g1).2.1, nI_add, nI_1]
    rw [ih (s + 1) m (a + wt (b c s)) (by omega) (by omega), ls_s _ (h c) s hl, Nat.add_assoc]
/-- all the weights of the columns c .. c + j - 1 -/
def hs_tw (h : Nat → Nat) (b : Nat → Nat → Nat) (wt : Nat → Nat) : Nat → Nat → Nat
  | _, 0 => 0
  | c, j + 1 => hs_ls (fun k => wt (b c k)) (h c) 0 + hs_tw h b wt (c + 1) j
theorem ho_all {S : iz_S} {q B w : Nat} {h : Nat → Nat} {b : Nat → Nat → Nat} {kd wt pl : Nat → Nat} (hq : hq_p q) (hc : hs_c S q B w h b kd wt pl) (hi : hs_i B w h b kd wt pl) : ∀ (j c n a : Nat), c + j = 16 → j < n → Ho_allWeight_4 q n (nI a) (nI c) S = some (nI (a + hs_tw h b wt c j), S) := by
  intro j
  induction j with
  | zero =>
    intro c n a hs hn
    obtain ⟨m, rfl⟩ : ∃ m, n = m + 1 := ⟨n - 1, by omega⟩
    have hlt : ¬ nI c < 16 := nI_nlt (b := 16) (by omega) (by omega)
    show Ho_allWeight_4b q (Ho_allWeight_4 q m) (nI a) (nI c) S = _
    simp only [Ho_allWeight_4b, if_neg hlt, hs_tw, Nat.add_zero]
  | succ j ih =>
    intro c n a hs hn
    obtain ⟨m, rfl⟩ : ∃ m, n = m + 1 := ⟨n - 1, by omega⟩
    have hlt : nI c < 16 := nI_lt (b := 16) (by omega) (by omega)
    have h6 := hi.2.2.2.1 c (by omega)
    have e1 := ho_load hq hc hi (c := c) (by omega) (h c) 0 iz_FU 0 (by omega) (by have := fu_ge; omega)
    rw [nI_0, Nat.zero_add] at e1
    have z : (-1 : Int32) + 1 = 0 := by decide +kernel
    show Ho_allWeight_4b q (Ho_allWeight_4 q m) (nI a) (nI c) S = _
    simp only [Ho_allWeight_4b, Ho_columnWeight, Ho_loadOver, lt_e, bI_s, if_pos hlt, z, e1, nI_add, nI_1]
    rw [ih (c + 1) m _ (by omega) (by omega), hs_tw, Nat.add_assoc]
theorem mo_all1 {S : iz_S} {B w : Nat} {h : Nat → Nat} {b : Nat → Nat → Nat} {kd wt pl : Nat → Nat} (hc : hs_m S B w h b kd wt pl) (hi : hs_i B w h b kd wt pl) (k4 : Int32 → Int32 → iz_S → Option (Int32 × iz_S)) {c : Nat} (c16 : c < 16) : ∀ (j s n a : Nat), s + j = h c → j < n → Mo_allWeight_12 82 k4 n (nI a) (nI c) (nI s) S = k4 (nI (a + hs_ls (fun k => wt (b c k)) (h c) s)) (nI (c + 1)) S := by
  intro j
  have h6 := hi.2.2.2.1 c c16
  have i1 := in_ok (n := c) (N := 16) c16 (by decide)
  have hH := hc.2.2.2.1 c c16
  induction j with
  | zero =>
    intro s n a hs hn
    obtain ⟨m, rfl⟩ : ∃ m, n = m + 1 := ⟨n - 1, by omega⟩
    have hlt : ¬ nI s < nI (h c) := nI_nlt (by omega) (by omega)
    show Mo_allWeight_12b 82 k4 (Mo_allWeight_12 82 k4 m) (nI a) (nI c) (nI s) S = _
    simp only [Mo_allWeight_12b, ck_t, lt_e, bI_s, bL_s, bV_s, one_n0, zero_0, if_true, if_false, rfs, i1, g_nI _ _ (show c < 2 ^ 31 by omega), hH, if_neg hlt, ls_0 _ (h c) s (by omega), Nat.add_zero, nI_1]
  | succ j ih =>
    intro s n a hs hn
    obtain ⟨m, rfl⟩ : ∃ m, n = m + 1 := ⟨n - 1, by omega⟩
    have hl : s < h c := by omega
    have hlt : nI s < nI (h c) := nI_lt hl (by omega)
    have e1 := mo_at (S := S) c16 (show s < 6 by omega)
    rw [hc.2.2.2.2.1 c s c16 hl] at e1
    obtain ⟨g1, g2⟩ := hi.2.2.2.2.1 c s c16 hl
    have b60 := hi.1
    have i2 := in_ok (n := b c s) (N := 60) (by omega) (by decide)
    show Mo_allWeight_12b 82 k4 (Mo_allWeight_12 82 k4 m) (nI a) (nI c) (nI s) S = _
    simp only [Mo_allWeight_12b, ck_t, lt_e, bI_s, bL_s, bV_s, one_n0, zero_0, if_true, if_false, rfs, i1, i2, g_nI _ _ (show c < 2 ^ 31 by omega), hH, if_pos hlt, e1, g_nI _ _ (show b c s < 2 ^ 31 by omega), (hc.2.2.1 (b c s) g1).2.1, nI_add]
    rw [nI_1 s, ih (s + 1) m (a + wt (b c s)) (by omega) (by omega), ls_s _ (h c) s hl, Nat.add_assoc]
theorem mo_all {S : iz_S} {B w : Nat} {h : Nat → Nat} {b : Nat → Nat → Nat} {kd wt pl : Nat → Nat} (hc : hs_m S B w h b kd wt pl) (hi : hs_i B w h b kd wt pl) : ∀ (j c n a : Nat), c + j = 16 → j < n → Mo_allWeight_4 82 n (nI a) (nI c) S = some (nI (a + hs_tw h b wt c j), S) := by
  intro j
  induction j with
  | zero =>
    intro c n a hs hn
    obtain ⟨m, rfl⟩ : ∃ m, n = m + 1 := ⟨n - 1, by omega⟩
    have hlt : ¬ nI c < 16 := nI_nlt (b := 16) (by omega) (by omega)
    show Mo_allWeight_4b 82 (Mo_allWeight_4 82 m) (nI a) (nI c) S = _
    simp only [Mo_allWeight_4b, if_neg hlt, hs_tw, Nat.add_zero]
  | succ j ih =>
    intro c n a hs hn
    obtain ⟨m, rfl⟩ : ∃ m, n = m + 1 := ⟨n - 1, by omega⟩
    have hlt : nI c < 16 := nI_lt (b := 16) (by omega) (by omega)
    have h6 := hi.2.2.2.1 c (by omega)
    have e1 := mo_all1 hc hi (Mo_allWeight_4 82 m) (c := c) (by omega) (h c) 0 iz_FU a (by omega) (by have := fu_ge; omega)
    show Mo_allWeight_4b 82 (Mo_allWeight_4 82 m) (nI a) (nI c) S = _
    simp only [Mo_allWeight_4b, if_pos hlt]
    rw [show Mo_allWeight_12 82 (Mo_allWeight_4 82 m) iz_FU (nI a) (nI c) 0 S = _ from e1, ih (c + 1) m _ (by omega) (by omega), hs_tw, Nat.add_assoc]
