/-! PURE: the best dust, class: the plan -/
theorem bd_sdB {cm : Nat → Nat → Nat} {T : Nat → Nat} (hT : ∀ a b c d, a < 11 → b < 11 → c < 11 → d < 11 → T (bd_x a b c d) = bd_tt cm a b c d) (TB : ∀ x, T x < 1000000) {a b d : Nat} (ha : a < 11) (hb : b < 11) (hd : d < 11) : bd_sd cm 3 a b d < 2 ^ 31 := by
  have h1 := hT a b 0 d ha hb (by omega) hd
  have h2 := TB (bd_x a b 0 d)
  rw [h1] at h2
  unfold bd_tt at h2
  omega
theorem du_sides {cm : Nat → Nat → Nat} {T : Nat → Nat} {n a b : Nat} (hT : ∀ a b c d, a < 11 → b < 11 → c < 11 → d < 11 → T (bd_x a b c d) = bd_tt cm a b c d) (TB : ∀ x, T x < 1000000) (ha : a < 11) (hb : b < 11) (hn : a + b ≤ n) (n40 : n ≤ 40) {V : iz_S} (hV : bd_T V cm) (hP : bd_P V T n (bd_x a b 0 0)) : ∃ V2, Du_trySides 25 (nI a) (nI b) (nI (n - a - b)) V = some V2 ∧ bd_P V2 T n (bd_x a (b + 1) 0 0) ∧ fr fdk V V2 := by
  have i1 := in_ok (n := a) (N := 11) ha (by decide)
  have i2 := in_ok (n := b) (N := 11) hb (by decide)
  have fu := fu_ge
  obtain ⟨V1, a1, a2, a3, a4⟩ := du_few (cm := cm) ha hb (fun d hd => bd_sdB hT TB ha hb hd) 11 0 iz_FU V (by omega) (by omega) hV
  have f1 : fr fdk V V1 := fr_mono a4 (fun p i hp => by
    simp only [beq_iff_eq] at hp
    simp [fdk, hp])
  obtain ⟨V2, b1, b2, b3⟩ := du_try hT TB ha hb hn n40 11 0 iz_FU V1 (by omega) (by omega) (bd_Ts hV f1) (fun k hk => a2 k (Nat.zero_le _) hk) (by
    unfold bd_P
    rw [a4 25 0 rfl, a4 25 2 rfl, show V1.1 26 = V.1 26 from funext fun i => a4 26 i rfl]
    exact hP)
  refine ⟨V2, ?_, ?_, fr_tr f1 b3⟩
  · rw [Du_trySides, show iz_in 0 4 = true from rfl, ck_t, i1, ck_t, show iz_in 1 4 = true from rfl, ck_t, i2, ck_t, lt_e, show iz_rf 25 4 = 27 from rfl, show iz_rf 27 (Int32.toNatClampNeg 0) = 28 from rfl, show iz_rf 27 (Int32.toNatClampNeg 1) = 29 from rfl, g_nI _ _ (show a < 2 ^ 31 by omega), g_nI _ _ (show b < 2 ^ 31 by omega), hV.1, show V.1 28 a = _ from hV.2.1 0 a (by omega) ha, show V.1 29 b = _ from hV.2.1 1 b (by omega) hb, nI_add, nI_add]
    rw [Du_fillFewest, show Du_fillFewest_5 25 iz_FU (nI a) (nI b) 0 0 V = _ from a1, bV_s]
    exact b1
  · rw [show bd_x a (b + 1) 0 0 = bd_x a b 11 0 by unfold bd_x; omega]
    exact b2
theorem du_p43 {cm : Nat → Nat → Nat} {T : Nat → Nat} {n a : Nat} (hT : ∀ a b c d, a < 11 → b < 11 → c < 11 → d < 11 → T (bd_x a b c d) = bd_tt cm a b c d) (TB : ∀ x, T x < 1000000) (ha : a < 11) (n40 : n ≤ 40) (k34 : Int32 → Int32 → iz_S → Option iz_S) : ∀ (j b m : Nat) (V : iz_S), b + j = 11 → j < m → bd_T V cm → bd_P V T n (bd_x a b 0 0) → ∃ V2, Du_plan_43 25 13 k34 m (nI n) (nI a) (nI b) V = k34 (nI n) (nI (a + 1)) V2 ∧ bd_P V2 T n (bd_x (a + 1) 0 0 0) ∧ fr fdk V V2 := by
  have out : ∀ b, b ≤ 11 → n < a + b ∨ b = 11 → mn (bd_k T n) (bd_x (a + 1) 0 0 0) = mn (bd_k T n) (bd_x a b 0 0) := fun b b11 hb => by
    refine bd_u (by unfold bd_x; omega) (fun x h1 h2 => ?_)
    unfold bd_x at h1 h2
    unfold bd_s
    have e1 : x / 1331 = a := by omega
    have e2 : b ≤ x / 121 % 11 := by omega
    omega
  intro j
  induction j with
  | zero =>
    intro b m V hj hm hV hP
    obtain ⟨m, rfl⟩ : ∃ k, m = k + 1 := ⟨m - 1, by omega⟩
    obtain rfl : b = 11 := by omega
    refine ⟨V, ?_, ?_, fr_rf _ _⟩
    · show Du_plan_43b 25 13 k34 (Du_plan_43 25 13 k34 m) (nI n) (nI a) (nI 11) V = _
      rw [Du_plan_43b, if_neg (show ¬ nI 11 ≤ 10 by decide +kernel), Du_plan_77, nI_1]
    · unfold bd_P
      rw [out 11 (by omega) (by omega)]
      exact hP
  | succ j ih =>
    intro b m V hj hm hV hP
    obtain ⟨m, rfl⟩ : ∃ k, m = k + 1 := ⟨m - 1, by omega⟩
    have lt : nI b ≤ 10 := by rw [show (10 : Int32) = nI 10 from rfl, nI_leP (by omega) (by decide)]; omega
    have lt2 : (nI a + nI b ≤ nI n) = (a + b ≤ n) := by rw [nI_add]; exact nI_leP (by omega) (by omega)
    by_cases hb : a + b ≤ n
    · obtain ⟨V1, a1, a2, a3⟩ := du_sides hT TB ha (b := b) (by omega) hb n40 hV hP
      obtain ⟨V2, b1, b2, b3⟩ := ih (b + 1) m V1 (by omega) (by omega) (bd_Ts hV a3) a2
      refine ⟨V2, ?_, b2, fr_tr a3 b3⟩
      show Du_plan_43b 25 13 k34 (Du_plan_43 25 13 k34 m) (nI n) (nI a) (nI b) V = _
      rw [Du_plan_43b, if_pos lt, if_pos (lt2.mpr hb), nI_sb (show a ≤ n by omega) (by omega), nI_sb (show b ≤ n - a by omega) (by omega), a1, bV_s, nI_1]
      exact b1
    · refine ⟨V, ?_, ?_, fr_rf _ _⟩
      · show Du_plan_43b 25 13 k34 (Du_plan_43 25 13 k34 m) (nI n) (nI a) (nI b) V = _
        rw [Du_plan_43b, if_pos lt, if_neg (fun h => hb (lt2.mp h)), Du_plan_77, nI_1]
      · unfold bd_P
        rw [out b (by omega) (by omega)]
        exact hP
theorem du_p34 {cm : Nat → Nat → Nat} {T : Nat → Nat} {n : Nat} (hT : ∀ a b c d, a < 11 → b < 11 → c < 11 → d < 11 → T (bd_x a b c d) = bd_tt cm a b c d) (TB : ∀ x, T x < 1000000) (n40 : n ≤ 40) : ∀ (j a m : Nat) (V : iz_S), a + j = 11 → j < m → bd_T V cm → bd_P V T n (bd_x a 0 0 0) → ∃ V2, Du_plan_34 25 13 m (nI n) (nI a) V = some V2 ∧ bd_P V2 T n 14641 ∧ fr fdk V V2 := by
  intro j
  induction j with
  | zero =>
    intro a m V hj hm hV hP
    obtain ⟨m, rfl⟩ : ∃ k, m = k + 1 := ⟨m - 1, by omega⟩
    obtain rfl : a = 11 := by omega
    refine ⟨V, ?_, hP, fr_rf _ _⟩
    show Du_plan_34b 25 13 (Du_plan_34 25 13 m) (nI n) (nI 11) V = _
    rw [Du_plan_34b, if_neg (show ¬ nI 11 ≤ 10 by decide +kernel)]
  | succ j ih =>
    intro a m V hj hm hV hP
    obtain ⟨m, rfl⟩ : ∃ k, m = k + 1 := ⟨m - 1, by omega⟩
    have lt : nI a ≤ 10 := by rw [show (10 : Int32) = nI 10 from rfl, nI_leP (by omega) (by decide)]; omega
    obtain ⟨V1, a1, a2, a3⟩ := du_p43 hT TB (a := a) (by omega) n40 (Du_plan_34 25 13 m) 11 0 iz_FU V (by omega) (by have := fu_ge; omega) hV hP
    obtain ⟨V2, b1, b2, b3⟩ := ih (a + 1) m V1 (by omega) (by omega) (bd_Ts hV a3) a2
    refine ⟨V2, ?_, b2, fr_tr a3 b3⟩
    show Du_plan_34b 25 13 (Du_plan_34 25 13 m) (nI n) (nI a) V = _
    rw [Du_plan_34b, if_pos lt]
    exact Eq.trans a1 b1
/-- nothing kept yet -/
def bd_0 (V : iz_S) : Prop := V.1 25 0 = 2147483647 ∧ V.1 25 2 = 2147483647
theorem du_clr1 : ∀ (j i m : Nat) (V : iz_S), i + j = 4 → j < m → ∃ V2, Du_clearTables_19 25 m (nI i) V = some V2 ∧ (∀ w d, i ≤ w → w < 4 → d < 11 → V2.1 (28 + w) d = 0) ∧ fr (fun p _ => decide (28 + i ≤ p) && decide (p < 32)) V V2 := by
  intro j
  induction j with
  | zero =>
    intro i m V hj hm
    obtain ⟨m, rfl⟩ : ∃ k, m = k + 1 := ⟨m - 1, by omega⟩
    have lt : ¬ nI i < 4 := nI_nlt (b := 4) (by omega) (by omega)
    refine ⟨V, ?_, fun w d h1 h2 => by omega, fr_rf _ _⟩
    show Du_clearTables_19b 25 (Du_clearTables_19 25 m) (nI i) V = _
    rw [Du_clearTables_19b, if_neg lt]
  | succ j ih =>
    intro i m V hj hm
    obtain ⟨m, rfl⟩ : ∃ k, m = k + 1 := ⟨m - 1, by omega⟩
    have lt : nI i < 4 := nI_lt (b := 4) (by omega) (by decide)
    have i1 := in_ok (n := i) (N := 4) (by omega) (by decide)
    obtain ⟨r1, r2, r3⟩ := rf27 i (by omega)
    obtain ⟨V1, a1, a2, a3, a4⟩ := ja_fill r3 (by decide) 0 11 0 iz_FU V (by omega) (by have := fu_ge; omega)
    obtain ⟨V2, b1, b2, b3⟩ := ih (i + 1) m V1 (by omega) (by omega)
    refine ⟨V2, ?_, fun w d h1 h2 h3 => ?_, fr_tr (fr_mono a4 (fun p k hp => ?_)) (fr_mono b3 (fun p k hp => ?_))⟩
    · show Du_clearTables_19b 25 (Du_clearTables_19 25 m) (nI i) V = _
      rw [Du_clearTables_19b, if_pos lt, i1, ck_t, show iz_rf 25 4 = 27 from rfl, nI_clamp (show i < 2 ^ 31 by omega), r1, Ja_fill, lt_e, r3]
      rw [show Ja_fill_5 (28 + i) iz_FU 0 0 (Int32.ofNat 11) V = some V1 from a1, bV_s, nI_1]
      exact b1
    · by_cases e : w = i
      · subst e
        rw [b3 (28 + w) d (by simp; omega), a2 d (Nat.zero_le _) h3]
      · exact b2 w d (by omega) h2 h3
    · simp only [beq_iff_eq] at hp
      simp
      omega
    · simp only [Bool.and_eq_true, decide_eq_true_eq] at hp ⊢
      omega
theorem du_clr (S : iz_S) (cm : Nat → Nat → Nat) : ∃ V, Du_clearTables 25 S = some V ∧ bd_t V cm 0 ∧ bd_0 V ∧ fr fdu S V := by
  obtain ⟨V2, a1, a2, a3⟩ := du_clr1 4 0 iz_FU (iz_up (iz_up (iz_up S 25 0 2147483647) 25 2 2147483647) 25 3 0) (by omega) (by have := fu_ge; omega)
  refine ⟨V2, ?_, ⟨?_, fun w d h1 h2 => a2 w d (Nat.zero_le _) h1 h2, fun c2 h => by omega⟩, ⟨?_, ?_⟩, fr_tr (fr_up (fr_up (fr_up (fr_rf _ _) rfl) rfl) rfl) (fr_mono a3 (fun p i hp => ?_))⟩
  · rw [Du_clearTables, lt_e, lt_e, lt_e]
    exact a1
  · rw [a3 25 3 rfl, up_same]; rfl
  · rw [a3 25 0 rfl]; simp [upA, upd]
  · rw [a3 25 2 rfl]; simp [upA, upd]
  · simp only [Bool.and_eq_true, decide_eq_true_eq] at hp
    simp [fdu]
    omega
theorem du_p6 {S : iz_S} {cm : Nat → Nat → Nat} (hC : cmf S cm) {n : Nat} : ∀ (j c m : Nat) (V : iz_S), c + j = 16 → j < m → fr fdu S V → bd_t V cm c → bd_0 V → ∃ V2, Du_plan_6 25 13 m (nI n) (nI c) V = Du_plan_34 25 13 iz_FU (nI n) 0 V2 ∧ bd_t V2 cm 16 ∧ bd_0 V2 ∧ fr fdu S V2 := by
  intro j
  induction j with
  | zero =>
    intro c m V hj hm hf ht h0
    obtain ⟨m, rfl⟩ : ∃ k, m = k + 1 := ⟨m - 1, by omega⟩
    obtain rfl : c = 16 := by omega
    refine ⟨V, ?_, ht, h0, hf⟩
    show Du_plan_6b 25 13 (Du_plan_6 25 13 m) (nI n) (nI 16) V = _
    rw [Du_plan_6b, if_neg (show ¬ nI 16 < 16 by decide +kernel)]
  | succ j ih =>
    intro c m V hj hm hf ht h0
    obtain ⟨m, rfl⟩ : ∃ k, m = k + 1 := ⟨m - 1, by omega⟩
    have lt : nI c < 16 := nI_lt (b := 16) (by omega) (by decide)
    obtain ⟨r1, r2⟩ := sh_rw V (c := c) (by omega)
    obtain ⟨V1, a1, a2, a3⟩ := du_add hC (c := c) (by omega) hf ht
    obtain ⟨V2, b1, b2, b3, b4⟩ := ih (c + 1) m V1 (by omega) (by omega) (fr_tr hf (fr_mono a3 (fun p i hp => by
      simp only [fdt, fdu, Bool.or_eq_true, Bool.and_eq_true, decide_eq_true_eq, beq_iff_eq] at hp ⊢
      omega))) a2 ⟨(a3 25 0 rfl).trans h0.1, (a3 25 2 rfl).trans h0.2⟩
    refine ⟨V2, ?_, b2, b3, b4⟩
    show Du_plan_6b 25 13 (Du_plan_6 25 13 m) (nI n) (nI c) V = _
    rw [Du_plan_6b, if_pos lt, r1, bI_s, r2, bI_s, a1, bV_s, nI_1]
    exact b1
theorem du_plan {S : iz_S} {cm : Nat → Nat → Nat} (hC : cmf S cm) {T : Nat → Nat} {n : Nat} (hT : ∀ a b c d, a < 11 → b < 11 → c < 11 → d < 11 → T (bd_x a b c d) = bd_tt cm a b c d) (TB : ∀ x, T x < 1000000) (n40 : n ≤ 40) : ∃ V, Du_plan 25 13 (nI n) S = some V ∧ bd_P V T n 14641 ∧ fr fdu S V := by
  have fu := fu_ge
  obtain ⟨V1, a1, a2, a3, a4⟩ := du_clr S cm
  obtain ⟨V2, b1, b2, b3, b4⟩ := du_p6 hC (n := n) 16 0 iz_FU V1 (by omega) (by omega) a4 a2 a3
  obtain ⟨V3, c1, c2, c3⟩ := du_p34 hT TB n40 11 0 iz_FU V2 (by omega) (by omega) (bd_tT b2) b3
  refine ⟨V3, ?_, c2, fr_tr b4 (fr_mono c3 (fun p i hp => ?_))⟩
  · rw [Du_plan, a1, bV_s]
    exact Eq.trans b1 c1
  · simp only [fdk, fdu, Bool.or_eq_true, Bool.and_eq_true, decide_eq_true_eq, beq_iff_eq] at hp ⊢
    omega
