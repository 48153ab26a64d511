/-! PURE: open sides of a block -/
def hop_s (h : Nat → Nat) (c l : Nat) : Nat := if h c ≤ l then 10 else 0
theorem ho_side {S : iz_S} {q c l : Nat} {h : Nat → Nat} (hq : hq_p q) (hh : ∀ c, c < 16 → S.1 (q + 4) c = nI (h c) ∧ h c ≤ 6) (hc : c < 16) (hl : l < 6) : Ho_sideTenths q (nI c) (nI l) S = some (nI (hop_s h c l), S) := by
  have i1 := in_ok (n := c) (N := 16) hc (by decide)
  have h6 := (hh c hc).2
  unfold hop_s
  simp only [Ho_sideTenths, Ho_sideTenths_16, ck_t, i1, hq.2.2.2.1, g_nI _ _ (show c < 2 ^ 31 by omega), (hh c hc).1, nI_leP (show h c < 2 ^ 31 by omega) (show l < 2 ^ 31 by omega)]
  split <;> rfl
def hop_4 (h : Nat → Nat) (c l : Nat) : Nat := if c % 4 < 3 then hop_s h (c + 1) l else 0
def hop_3 (h : Nat → Nat) (c l : Nat) : Nat := if c % 4 ≤ 0 then 0 else hop_s h (c - 1) l
def hop_2 (h : Nat → Nat) (c l : Nat) : Nat := if c / 4 < 3 then hop_s h (c + 4) l else 0
def hop_1 (h : Nat → Nat) (c l : Nat) : Nat := if c / 4 ≤ 0 then 0 else hop_s h (c - 4) l
def hop_0 (h cv : Nat → Nat) (c l : Nat) : Nat := if l + 1 = h c then 10 - cv c else 0
theorem ho_o4 {S : iz_S} {q c l : Nat} {h : Nat → Nat} (hq : hq_p q) (hh : ∀ c, c < 16 → S.1 (q + 4) c = nI (h c) ∧ h c ≤ 6) (hc : c < 16) (hl : l < 6) (a : Nat) : Ho_openTenths_92 q (nI c) (nI l) (nI (c % 4)) (nI a) S = some (nI (a + hop_4 h c l), S) := by
  have e : (nI (c % 4) < 3) = (c % 4 < 3) := propext (nI_ltI (b := 3) (by omega) (by decide))
  unfold hop_4
  by_cases hx : c % 4 < 3
  · simp only [Ho_openTenths_92, Ho_openTenths_111, e, hx, if_true, nI_1, ho_side hq hh (show c + 1 < 16 by omega) hl, bI_s, lt_e, nI_add]
  · simp only [Ho_openTenths_92, Ho_openTenths_111, e, hx, if_false, Nat.add_zero]
theorem ho_o3 {S : iz_S} {q c l : Nat} {h : Nat → Nat} (hq : hq_p q) (hh : ∀ c, c < 16 → S.1 (q + 4) c = nI (h c) ∧ h c ≤ 6) (hc : c < 16) (hl : l < 6) (a : Nat) : Ho_openTenths_74 q (nI c) (nI l) (nI (c % 4)) (nI a) S = some (nI (a + hop_3 h c l + hop_4 h c l), S) := by
  have e : (nI (c % 4) ≤ 0) = (c % 4 ≤ 0) := nI_leP (b := 0) (by omega) (by decide)
  unfold hop_3
  by_cases hx : c % 4 ≤ 0
  · simp only [Ho_openTenths_74, e, hx, if_true, Nat.add_zero, ho_o4 hq hh hc hl]
  · have e1 : nI c - 1 = nI (c - 1) := nI_m1 (by omega)
    simp only [Ho_openTenths_74, e, hx, if_false, e1, ho_side hq hh (show c - 1 < 16 by omega) hl, bI_s, lt_e, nI_add, ho_o4 hq hh hc hl]
theorem ho_o2 {S : iz_S} {q c l : Nat} {h : Nat → Nat} (hq : hq_p q) (hh : ∀ c, c < 16 → S.1 (q + 4) c = nI (h c) ∧ h c ≤ 6) (hc : c < 16) (hl : l < 6) (a : Nat) : Ho_openTenths_56 q (nI c) (nI l) (nI (c / 4)) (nI (c % 4)) (nI a) S = some (nI (a + hop_2 h c l + hop_3 h c l + hop_4 h c l), S) := by
  have e : (nI (c / 4) < 3) = (c / 4 < 3) := propext (nI_ltI (b := 3) (by omega) (by decide))
  unfold hop_2
  by_cases hx : c / 4 < 3
  · have e1 : nI c + 4 = nI (c + 4) := nI_add c 4
    simp only [Ho_openTenths_56, e, hx, if_true, e1, ho_side hq hh (show c + 4 < 16 by omega) hl, bI_s, lt_e, nI_add, ho_o3 hq hh hc hl]
  · simp only [Ho_openTenths_56, e, hx, if_false, Nat.add_zero, ho_o3 hq hh hc hl]
theorem ho_o1 {S : iz_S} {q c l : Nat} {h : Nat → Nat} (hq : hq_p q) (hh : ∀ c, c < 16 → S.1 (q + 4) c = nI (h c) ∧ h c ≤ 6) (hc : c < 16) (hl : l < 6) (a : Nat) : Ho_openTenths_37 q (nI c) (nI l) (nI (c / 4)) (nI (c % 4)) (nI a) S = some (nI (a + hop_1 h c l + hop_2 h c l + hop_3 h c l + hop_4 h c l), S) := by
  have e : (nI (c / 4) ≤ 0) = (c / 4 ≤ 0) := nI_leP (b := 0) (by omega) (by decide)
  unfold hop_1
  by_cases hx : c / 4 ≤ 0
  · simp only [Ho_openTenths_37, e, hx, if_true, Nat.add_zero, ho_o2 hq hh hc hl]
  · have e1 : nI c - 4 = nI (c - 4) := nI_sb (b := 4) (by omega) (by omega)
    simp only [Ho_openTenths_37, e, hx, if_false, e1, ho_side hq hh (show c - 4 < 16 by omega) hl, bI_s, lt_e, nI_add, ho_o2 hq hh hc hl]
theorem ho_open {S : iz_S} {q c l : Nat} {h cv : Nat → Nat} (hq : hq_p q) (hh : ∀ c, c < 16 → S.1 (q + 4) c = nI (h c) ∧ h c ≤ 6) (hv : ∀ c, c < 16 → S.1 11 c = nI (cv c) ∧ cv c ≤ 10) (hc : c < 16) (hl : l < h c) : Ho_openTenths q (nI c) (nI l) S = some (nI (hop_0 h cv c l + hop_1 h c l + hop_2 h c l + hop_3 h c l + hop_4 h c l), S) := by
  have h6 := (hh c hc).2
  have d4 := s_d4 (s := c) (by omega)
  have i1 := in_ok (n := c) (N := 16) hc (by decide)
  have r9 : iz_rf 9 1 = 11 := rfl
  have e : (nI l = nI (h c) - 1) = (l + 1 = h c) := by
    rw [nI_m1 (by omega)]
    apply propext
    rw [nI_eq (by omega) (by omega)]
    omega
  unfold hop_0
  by_cases hx : l + 1 = h c
  · have e10 : (10 : Int32) - nI (cv c) = nI (10 - cv c) := nI_sb (a := 10) (hv c hc).2 (by decide)
    simp only [Ho_openTenths, lt_e, ck_t, i1, hq.2.2.2.1, hq.2.2.2.2.2, r9, g_nI _ _ (show c < 2 ^ 31 by omega), (hh c hc).1, (hv c hc).1, e, hx, if_true, d4.2, e10]
    rw [d4.1, ho_o1 hq hh hc (show l < 6 by omega)]
  · have z := ho_o1 hq hh hc (show l < 6 by omega) 0
    rw [nI_0] at z
    simp only [Ho_openTenths, lt_e, ck_t, i1, hq.2.2.2.1, g_nI _ _ (show c < 2 ^ 31 by omega), (hh c hc).1, e, hx, if_false, d4.2]
    rw [d4.1, z]
