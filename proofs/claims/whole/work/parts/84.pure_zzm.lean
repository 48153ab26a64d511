/-! PURE: the best dust, class: tables -/
def fdu (p _i : Nat) : Bool := decide (25 ≤ p) && decide (p ≤ 37)
/-- the column's melts, whatever the plan holds -/
def cmf (S : iz_S) (cm : Nat → Nat → Nat) : Prop := ∀ V, fr fdu S V → ∀ c t, c < 16 → t ≤ 20 → Ho_columnMelts 13 (nI c) (nI t) V = some (nI (cm c t), V)
theorem rf27 : ∀ k, k < 4 → iz_rf 27 k = 28 + k ∧ iz_rf 32 k = 33 + k ∧ (iz_sh (28 + k)).2 = 11 := by decide +kernel
theorem du_a1 {S : iz_S} {cm : Nat → Nat → Nat} (hC : cmf S cm) {c v : Nat} (c16 : c < 16) (v4 : v < 4) : ∀ (j i m : Nat) (V : iz_S), i + j = 11 → j < m → fr fdu S V → ∃ V2, Du_addColumn_78 25 13 m (nI c) (nI v) (nI i) V = some V2 ∧ (∀ d, i ≤ d → d < 11 → V2.1 (28 + v) d = V.1 (28 + v) d + nI (cm c (10 - d))) ∧ (∀ d, d < i → V2.1 (28 + v) d = V.1 (28 + v) d) ∧ fr (fun q _ => q == 28 + v) V V2 := by
  intro j
  induction j with
  | zero =>
    intro i m V hj hm hf
    obtain ⟨m, rfl⟩ : ∃ k, m = k + 1 := ⟨m - 1, by omega⟩
    have lt : ¬ nI i ≤ 10 := by rw [show (10 : Int32) = nI 10 from rfl, nI_leP (by omega) (by decide)]; omega
    refine ⟨V, ?_, fun k h1 h2 => by omega, fun k _ => rfl, fr_rf _ _⟩
    show Du_addColumn_78b 25 13 (Du_addColumn_78 25 13 m) (nI c) (nI v) (nI i) V = _
    rw [Du_addColumn_78b, if_neg lt, Du_addColumn_132]
  | succ j ih =>
    intro i m V hj hm hf
    obtain ⟨m, rfl⟩ : ∃ k, m = k + 1 := ⟨m - 1, by omega⟩
    have lt : nI i ≤ 10 := by rw [show (10 : Int32) = nI 10 from rfl, nI_leP (by omega) (by decide)]; omega
    have i1 := in_ok (n := i) (N := 11) (by omega) (by decide)
    have i2 := in_ok (n := v) (N := 4) v4 (by decide)
    have e10 : (10 : Int32) - nI i = nI (10 - i) := nI_sb (a := 10) (by omega) (by decide)
    have f1 : fr fdu S (iz_up V (28 + v) i (V.1 (28 + v) i + nI (cm c (10 - i)))) := fr_up hf (by simp [fdu]; omega)
    obtain ⟨V2, a1, a2, a3, a4⟩ := ih (i + 1) m _ (by omega) (by omega) f1
    refine ⟨V2, ?_, fun d h1 h2 => ?_, fun d hd => ?_, fr_tr (fr_up (fr_rf _ _) (by simp)) a4⟩
    · show Du_addColumn_78b 25 13 (Du_addColumn_78 25 13 m) (nI c) (nI v) (nI i) V = _
      rw [Du_addColumn_78b, if_pos lt, i2, ck_t, i1, ck_t, e10, hC V hf c (10 - i) c16 (by omega), bI_s, ck_t, lt_e, show iz_rf 25 4 = 27 from rfl, nI_clamp (show v < 2 ^ 31 by omega), (rf27 v v4).1, s_nI _ _ (show i < 2 ^ 31 by omega), g_nI _ _ (show i < 2 ^ 31 by omega), nI_1]
      exact a1
    · by_cases e : d = i
      · subst e
        rw [a3 d (by omega), up_same]
      · rw [a2 d (by omega) h2, up_ne _ _ _ _ (Or.inr e)]
    · rw [a3 d (by omega), up_ne _ _ _ _ (Or.inr (by omega))]
theorem du_a2 {S : iz_S} {cm : Nat → Nat → Nat} (hC : cmf S cm) {c v : Nat} (c16 : c < 16) (v4 : v < 4) : ∀ (j i m : Nat) (V : iz_S), i + j = 21 → j < m → fr fdu S V → ∃ V2, Du_addColumn_22 25 13 m (nI c) (nI v) (nI i) V = some V2 ∧ (∀ d, i ≤ d → d < 21 → V2.1 (33 + v) d = nI (cm c (20 - d))) ∧ (∀ d, d < i → V2.1 (33 + v) d = V.1 (33 + v) d) ∧ fr (fun q _ => q == 33 + v) V V2 := by
  intro j
  induction j with
  | zero =>
    intro i m V hj hm hf
    obtain ⟨m, rfl⟩ : ∃ k, m = k + 1 := ⟨m - 1, by omega⟩
    have lt : ¬ nI i ≤ 20 := by rw [show (20 : Int32) = nI 20 from rfl, nI_leP (by omega) (by decide)]; omega
    refine ⟨V, ?_, fun k h1 h2 => by omega, fun k _ => rfl, fr_rf _ _⟩
    show Du_addColumn_22b 25 13 (Du_addColumn_22 25 13 m) (nI c) (nI v) (nI i) V = _
    rw [Du_addColumn_22b, if_neg lt, Du_addColumn_132]
  | succ j ih =>
    intro i m V hj hm hf
    obtain ⟨m, rfl⟩ : ∃ k, m = k + 1 := ⟨m - 1, by omega⟩
    have lt : nI i ≤ 20 := by rw [show (20 : Int32) = nI 20 from rfl, nI_leP (by omega) (by decide)]; omega
    have i1 := in_ok (n := i) (N := 21) (by omega) (by decide)
    have i2 := in_ok (n := v) (N := 4) v4 (by decide)
    have e10 : (20 : Int32) - nI i = nI (20 - i) := nI_sb (a := 20) (by omega) (by decide)
    have f1 : fr fdu S (iz_up V (33 + v) i (nI (cm c (20 - i)))) := fr_up hf (by simp [fdu]; omega)
    obtain ⟨V2, a1, a2, a3, a4⟩ := ih (i + 1) m _ (by omega) (by omega) f1
    refine ⟨V2, ?_, fun d h1 h2 => ?_, fun d hd => ?_, fr_tr (fr_up (fr_rf _ _) (by simp)) a4⟩
    · show Du_addColumn_22b 25 13 (Du_addColumn_22 25 13 m) (nI c) (nI v) (nI i) V = _
      rw [Du_addColumn_22b, if_pos lt, i2, ck_t, e10, hC V hf c (20 - i) c16 (by omega), bI_s, i1, ck_t, lt_e, show iz_rf 25 5 = 32 from rfl, nI_clamp (show v < 2 ^ 31 by omega), (rf27 v v4).2.1, s_nI _ _ (show i < 2 ^ 31 by omega), nI_1]
      exact a1
    · by_cases e : d = i
      · subst e
        rw [a3 d (by omega), up_same]
      · rw [a2 d (by omega) h2]
    · rw [a3 d (by omega), up_ne _ _ _ _ (Or.inr (by omega))]
/-- which walls a column stands at -/
def bd_r (c : Nat) : Nat := if c / 4 = 0 then 0 else if c / 4 = 3 then 1 else 9
def bd_q (c : Nat) : Nat := if c % 4 = 0 then 2 else if c % 4 = 3 then 3 else 9
def bI9 (v : Nat) : Int32 := if v = 9 then -1 else nI v
theorem sh_rw (S : iz_S) {c : Nat} (hc : c < 16) : Sh_rowWall (nI c) S = some (bI9 (bd_r c), S) ∧ Sh_sideWall (nI c) S = some (bI9 (bd_q c), S) := by
  have d4 := s_d4 (s := c) (by omega)
  have e0 : ∀ k, k < 4 → (nI k = 0) = (k = 0) := fun k hk => n0_iff (by omega)
  have e3 : ∀ k, k < 4 → (nI k = 3) = (k = 3) := fun k hk => propext (nI_eq (b := 3) (by omega) (by decide))
  constructor
  · unfold bd_r
    simp only [Sh_rowWall, Sh_rowWall_22, lt_e, d4.1, e0 (c / 4) (by omega), e3 (c / 4) (by omega)]
    by_cases h0 : c / 4 = 0
    · rw [if_pos h0, if_pos h0]; rfl
    · rw [if_neg h0, if_neg h0]
      by_cases h3 : c / 4 = 3
      · rw [if_pos h3, if_pos h3]; rfl
      · rw [if_neg h3, if_neg h3]; rfl
  · unfold bd_q
    simp only [Sh_sideWall, Sh_sideWall_22, lt_e, d4.2, e0 (c % 4) (by omega), e3 (c % 4) (by omega)]
    by_cases h0 : c % 4 = 0
    · rw [if_pos h0, if_pos h0]; rfl
    · rw [if_neg h0, if_neg h0]
      by_cases h3 : c % 4 = 3
      · rw [if_pos h3, if_pos h3]; rfl
      · rw [if_neg h3, if_neg h3]; rfl
/-- the sums of the columns before c -/
def bd_in (cm : Nat → Nat → Nat) : Nat → Nat
  | 0 => 0
  | c + 1 => bd_in cm c + if bd_r c = 9 ∧ bd_q c = 9 then cm c 0 else 0
def bd_aw (cm : Nat → Nat → Nat) (w d : Nat) : Nat → Nat
  | 0 => 0
  | c + 1 => bd_aw cm w d c + if (bd_r c = w ∧ bd_q c = 9) ∨ (bd_r c = 9 ∧ bd_q c = w) then cm c (10 - d) else 0
/-- the tables after c columns -/
def bd_t (V : iz_S) (cm : Nat → Nat → Nat) (c : Nat) : Prop := V.1 25 3 = nI (bd_in cm c) ∧ (∀ w d, w < 4 → d < 11 → V.1 (28 + w) d = nI (bd_aw cm w d c)) ∧ ∀ c2, c2 < c → bd_r c2 ≠ 9 → bd_q c2 ≠ 9 → ∀ e, e < 21 → V.1 (33 + (2 * bd_r c2 + bd_q c2 - 2)) e = nI (cm c2 (20 - e))
theorem bd_rq : ∀ c, c < 16 → (bd_r c = 9 ∨ bd_r c < 2) ∧ (bd_q c = 9 ∨ bd_q c < 4 ∧ 2 ≤ bd_q c) := by decide +kernel
theorem bd_inj0 : ∀ c, c < 16 → ∀ c2, c2 < c → (bd_r c == 9 || bd_q c == 9 || bd_r c2 == 9 || bd_q c2 == 9 || !(2 * bd_r c2 + bd_q c2 - 2 == 2 * bd_r c + bd_q c - 2)) = true := by decide +kernel
theorem bd_inj (c : Nat) (hc : c < 16) (c2 : Nat) (h2 : c2 < c) (a1 : bd_r c ≠ 9) (a2 : bd_q c ≠ 9) (a3 : bd_r c2 ≠ 9) (a4 : bd_q c2 ≠ 9) : 2 * bd_r c2 + bd_q c2 - 2 ≠ 2 * bd_r c + bd_q c - 2 := by
  have := bd_inj0 c hc c2 h2
  simp only [Bool.or_eq_true, beq_iff_eq, Bool.not_eq_true', beq_eq_false_iff_ne, a1, a2, a3, a4, false_or] at this
  exact this
theorem bI9_n : ∀ v, v < 4 → bI9 v = nI v ∧ ¬ bI9 v < 0 := by decide +kernel
theorem bI9_9 : bI9 9 < 0 := by decide +kernel
def fdt (p i : Nat) : Bool := decide (28 ≤ p) && decide (p ≤ 36) || p == 25 && i == 3
/-- one wall only -/
theorem du_w1 {S : iz_S} {cm : Nat → Nat → Nat} (hC : cmf S cm) {c v : Nat} (c16 : c < 16) (v4 : v < 4) {V : iz_S} (hf : fr fdu S V) (ht : bd_t V cm c) (hv : (bd_r c = v ∧ bd_q c = 9) ∨ (bd_r c = 9 ∧ bd_q c = v)) : ∃ V2, Du_addColumn_78 25 13 iz_FU (nI c) (nI v) 0 V = some V2 ∧ bd_t V2 cm (c + 1) ∧ fr fdt V V2 := by
  obtain ⟨V2, a1, a2, a3, a4⟩ := du_a1 hC c16 v4 11 0 iz_FU V (by omega) (by have := fu_ge; omega) hf
  refine ⟨V2, a1, ⟨?_, fun w d w4 d11 => ?_, fun c2 h2 hr hq e he => ?_⟩, fr_mono a4 (fun p i hp => ?_)⟩
  · rw [a4 25 3 (by simp; omega), ht.1, bd_in, if_neg (by omega), Nat.add_zero]
  · rw [bd_aw]
    by_cases ew : w = v
    · subst ew
      rw [if_pos hv, a2 d (by omega) d11, ht.2.1 w d w4 d11, nI_add]
    · rw [if_neg (by omega), a4 (28 + w) d (by simp; omega), ht.2.1 w d w4 d11, Nat.add_zero]
  · have hc2 : c2 < c := by
      rcases Nat.lt_or_ge c2 c with q | q
      · exact q
      · obtain rfl : c2 = c := by omega
        omega
    rw [a4 _ e (by simp; omega)]
    exact ht.2.2 c2 hc2 hr hq e he
  · simp only [beq_iff_eq] at hp
    simp [fdt]
    omega
theorem du_add {S : iz_S} {cm : Nat → Nat → Nat} (hC : cmf S cm) {c : Nat} (c16 : c < 16) {V : iz_S} (hf : fr fdu S V) (ht : bd_t V cm c) : ∃ V2, Du_addColumn 25 13 (nI c) (bI9 (bd_r c)) (bI9 (bd_q c)) V = some V2 ∧ bd_t V2 cm (c + 1) ∧ fr fdt V V2 := by
  obtain ⟨k1, k2⟩ := bd_rq c c16
  by_cases hr : bd_r c = 9
  · by_cases hq : bd_q c = 9
    · rw [hr, hq]
      refine ⟨iz_up V 25 3 (V.1 25 3 + nI (cm c 0)), ?_, ⟨?_, fun w d w4 d11 => ?_, fun c2 h2 hr2 hq2 e he => ?_⟩, fr_up (fr_rf _ _) rfl⟩
      · rw [Du_addColumn, if_pos bI9_9, Du_addColumn_58, if_pos bI9_9, if_pos bI9_9]
        rw [show Ho_columnMelts 13 (nI c) 0 V = _ from hC V hf c 0 c16 (by omega), bI_s, lt_e, Du_addColumn_132]
      · rw [up_same, ht.1, bd_in, if_pos ⟨hr, hq⟩, nI_add]
      · rw [up_ne _ _ _ _ (Or.inl (by omega)), bd_aw, if_neg (by omega), Nat.add_zero]
        exact ht.2.1 w d w4 d11
      · have hc2 : c2 < c := by
          rcases Nat.lt_or_ge c2 c with q | q
          · exact q
          · obtain rfl : c2 = c := by omega
            omega
        rw [up_ne _ _ _ _ (Or.inl (by omega))]
        exact ht.2.2 c2 hc2 hr2 hq2 e he
    · obtain ⟨b1, b2⟩ := bI9_n (bd_q c) (by omega)
      obtain ⟨V2, a1, a2, a3⟩ := du_w1 hC c16 (v := bd_q c) (by omega) hf ht (Or.inr ⟨hr, rfl⟩)
      refine ⟨V2, ?_, a2, a3⟩
      rw [hr, Du_addColumn, if_pos bI9_9, Du_addColumn_58, if_pos bI9_9, if_neg b2, Du_addColumn_67, lt_e, if_pos (show bI9 9 < bI9 (bd_q c) by
        have : bd_q c = 2 ∨ bd_q c = 3 := by omega
        rcases this with q | q <;> rw [q] <;> decide +kernel), b1]
      exact a1
  · by_cases hq : bd_q c = 9
    · obtain ⟨b1, b2⟩ := bI9_n (bd_r c) (by omega)
      obtain ⟨V2, a1, a2, a3⟩ := du_w1 hC c16 (v := bd_r c) (by omega) hf ht (Or.inl ⟨rfl, hq⟩)
      refine ⟨V2, ?_, a2, a3⟩
      rw [hq, Du_addColumn, if_neg b2, if_pos bI9_9, Du_addColumn_58, if_neg b2, Du_addColumn_67, lt_e, if_neg (show ¬ bI9 (bd_r c) < bI9 9 by
        have : bd_r c = 0 ∨ bd_r c = 1 := by omega
        rcases this with q | q <;> rw [q] <;> decide +kernel), b1]
      exact a1
    · obtain ⟨b1, b2⟩ := bI9_n (bd_r c) (by omega)
      obtain ⟨b3, b4⟩ := bI9_n (bd_q c) (by omega)
      obtain ⟨V2, a1, a2, a3, a4⟩ := du_a2 hC c16 (v := 2 * bd_r c + bd_q c - 2) (by omega) 21 0 iz_FU V (by omega) (by have := fu_ge; omega) hf
      have ev : ((2 : Int32) * nI (bd_r c)) + nI (bd_q c) - 2 = nI (2 * bd_r c + bd_q c - 2) := by
        have : (bd_r c = 0 ∨ bd_r c = 1) ∧ (bd_q c = 2 ∨ bd_q c = 3) := by omega
        obtain ⟨q | q, q2 | q2⟩ := this <;> rw [q, q2] <;> decide +kernel
      refine ⟨V2, ?_, ⟨?_, fun w d w4 d11 => ?_, fun c2 h2 hr2 hq2 e he => ?_⟩, fr_mono a4 (fun p i hp => ?_)⟩
      · rw [Du_addColumn, if_neg b2, if_neg b4, lt_e, b1, b3, ev]
        exact a1
      · rw [a4 25 3 (by simp; omega), ht.1, bd_in, if_neg (by omega), Nat.add_zero]
      · rw [a4 (28 + w) d (by simp; omega), ht.2.1 w d w4 d11, bd_aw, if_neg (by omega), Nat.add_zero]
      · rcases Nat.lt_or_ge c2 c with q | q
        · have := bd_inj c c16 c2 q hr hq hr2 hq2
          rw [a4 _ e (by simp; omega)]
          exact ht.2.2 c2 q hr2 hq2 e he
        · obtain rfl : c2 = c := by omega
          exact a2 e (Nat.zero_le _) he
      · simp only [beq_iff_eq] at hp
        simp [fdt]
        omega
