/-! PURE: sales: the columns told -/
theorem cl_both (x : Int32) (_S : iz_S) : (∃ s, s < 16 ∧ x = nI s ∧ ∀ S, Ic_isColumn x S = some (1, S) ∧ Mo_isColumn x S = some (1, S)) ∨ ((∀ S, Ic_isColumn x S = some (0, S) ∧ Mo_isColumn x S = some (0, S)) ∧ ¬ ∃ s, s < 16 ∧ x = nI s) := by
  by_cases h : 0 ≤ x ∧ x ≤ 15
  · obtain ⟨c, -, c15, rfl⟩ := nI_btw (a := 0) (b := 15) (by decide) h.1 h.2 (by decide)
    exact Or.inl ⟨c, by omega, rfl, fun S => ⟨by rw [ic_isColumn, if_pos h], by rw [mo_isColumn, if_pos h]⟩⟩
  · refine Or.inr ⟨fun S => ⟨by rw [ic_isColumn, if_neg h], by rw [mo_isColumn, if_neg h]⟩, fun ⟨s, s16, e⟩ => h ?_⟩
    rw [e]
    exact ⟨nI_pos' (by omega), nI_le (b := 15) (by omega) (by decide)⟩
/-- columns that may be sold from -/
def clg (x : Nat → Int32) (n : Nat) (sq : Nat → Nat) : Prop := 1 ≤ n ∧ n ≤ 3 ∧ ¬ twn x n ∧ ∀ k, k < n → sq k < 16 ∧ x k = nI (sq k)
theorem sx_lp {T : iz_S} {n : Nat} (hr : T.1 45 7 = nI n) (n6 : n ≤ 3) : ∀ (j k m : Nat), k + j = n → j < m → (Sa_takeOver_14 45 79 m (nI k) T = some (if n = 0 then 0 else 1, T) ∧ ∀ i, k ≤ i → i < n → ∃ s, s < 16 ∧ T.1 46 i = nI s) ∨ (Sa_takeOver_14 45 79 m (nI k) T = some (0, T) ∧ ∃ i, i < n ∧ ¬ ∃ s, s < 16 ∧ T.1 46 i = nI s) := by
  intro j
  induction j with
  | zero =>
    intro k m hk hm
    obtain ⟨m, rfl⟩ : ∃ z, m = z + 1 := ⟨m - 1, by omega⟩
    have lt : ¬ nI k < nI n := nI_nlt (by omega) (by omega)
    have l0 : (nI n ≤ 0) = (n = 0) := n0_le (by omega)
    refine Or.inl ⟨?_, fun i h1 h2 => by omega⟩
    show Sa_takeOver_14b 45 79 (Sa_takeOver_14 45 79 m) (nI k) T = _
    rw [Sa_takeOver_14b, hr, if_neg lt]
    simp only [l0, Sa_takeOver_54, nb_0, nb_1, decide_true, ck_t]
    split <;> rfl
  | succ j ih =>
    intro k m hk hm
    obtain ⟨m, rfl⟩ : ∃ z, m = z + 1 := ⟨m - 1, by omega⟩
    have lt : nI k < nI n := nI_lt (by omega) (by omega)
    have i1 := in_ok (n := k) (N := 3) (by omega) (by decide)
    have head : Sa_takeOver_14 45 79 (m + 1) (nI k) T = iz_bI (Ic_isColumn (T.1 46 k) T) (fun r5 S4 => if r5 = 0 then iz_ck (decide (iz_nb 0 = 0)) (some (0, S4)) else Sa_takeOver_14 45 79 m (nI (k + 1)) S4) := by
      show Sa_takeOver_14b 45 79 (Sa_takeOver_14 45 79 m) (nI k) T = _
      rw [Sa_takeOver_14b, hr, if_pos lt, i1, ck_t, show iz_rf 45 0 = 46 from rfl, g_nI _ _ (show k < 2 ^ 31 by omega), nI_1]
    rw [head]
    rcases cl_both (T.1 46 k) T with ⟨s, s1, s2, s3⟩ | ⟨s3, s4⟩
    · rw [(s3 T).1, bI_s, if_neg (by decide)]
      rcases ih (k + 1) m (by omega) (by omega) with ⟨q1, q2⟩ | ⟨q1, q2⟩
      · refine Or.inl ⟨q1, fun i h1 h2 => ?_⟩
        by_cases e : i = k
        · subst e; exact ⟨s, s1, s2⟩
        · exact q2 i (by omega) h2
      · exact Or.inr ⟨q1, q2⟩
    · refine Or.inr ⟨?_, k, by omega, s4⟩
      rw [(s3 T).1, bI_s, if_pos rfl]
      simp only [nb_0, decide_true, ck_t]
def fsx (p i : Nat) : Bool := (p == 79 && i == 0) || p == 46 || (p == 45 && i == 7)
theorem sx_take {S : iz_S} {n : Nat} (hn : S.1 79 0 = nI n) (n16 : n ≤ 16) : ∃ S2, S2.1 79 0 = 0 ∧ fr fsx S S2 ∧ ((∃ sq, Sa_takeOver 45 79 S = some (1, S2) ∧ clg (S.1 80) n sq ∧ S2.1 45 7 = nI n ∧ ∀ i, i < n → S2.1 46 i = nI (sq i)) ∨ (Sa_takeOver 45 79 S = some (0, S2) ∧ ¬ ∃ sq, clg (S.1 80) n sq)) := by
  obtain ⟨r, S1, a1, a2, a3, a4⟩ := wa_hand (p := 46) (N := 3) hn n16 (by rw [sh_46]) (by decide) (by decide) (by decide)
  obtain ⟨T, hT⟩ : ∃ T, T = iz_up S1 45 7 (nI r) := ⟨_, rfl⟩
  have t79 : T.1 79 0 = 0 := by rw [hT, up_p _ _ _ _ (by decide)]; exact a2
  have fT : fr fsx S T := by
    rw [hT]
    refine fr_up (fr_mono a4 (fun p i hp => ?_)) rfl
    simp only [fsx, Bool.or_eq_true, Bool.and_eq_true, beq_iff_eq] at hp ⊢
    omega
  have hr : T.1 45 7 = nI r := by rw [hT, up_same]
  have hd : Sa_takeOver 45 79 S = Sa_takeOver_14 45 79 iz_FU 0 T := by
    rw [Sa_takeOver, show iz_rf 45 0 = 46 from rfl, a1, bI_s, lt_e, ← hT]
  rcases a3 with ⟨b1, b2, rfl, b4⟩ | ⟨b1, rfl⟩
  · have t7 : ∀ i, i < r → T.1 46 i = S.1 80 i := fun i hi => by rw [hT, up_p _ _ _ _ (by decide)]; exact b4 i hi
    rcases sx_lp hr b1 r 0 iz_FU (by omega) (by have := fu_ge; omega) with ⟨q1, q2⟩ | ⟨q1, i, i1, i2⟩
    · refine ⟨T, t79, fT, ?_⟩
      by_cases r0 : r = 0
      · refine Or.inr ⟨?_, fun ⟨sq, g1, _⟩ => by omega⟩
        rw [hd]
        refine Eq.trans q1 ?_
        rw [if_pos r0]
      · have q2' : ∀ i, ∃ s, i < r → s < 16 ∧ T.1 46 i = nI s := fun i => by
          by_cases hi : i < r
          · obtain ⟨s, s1, s2⟩ := q2 i (Nat.zero_le _) hi
            exact ⟨s, fun _ => ⟨s1, s2⟩⟩
          · exact ⟨0, fun q => absurd q hi⟩
        refine Or.inl ⟨fun i => Classical.choose (q2' i), ?_, ⟨by omega, b1, b2, fun k hk => ?_⟩, hr, fun i hi => (Classical.choose_spec (q2' i) hi).2⟩
        · rw [hd]
          refine Eq.trans q1 ?_
          rw [if_neg r0]
        · have := Classical.choose_spec (q2' k) hk
          exact ⟨this.1, (t7 k hk).symm.trans this.2⟩
    · refine ⟨T, t79, fT, Or.inr ⟨by rw [hd]; exact q1, fun ⟨sq, g⟩ => ?_⟩⟩
      have := g.2.2.2 i i1
      exact i2 ⟨sq i, this.1, (t7 i i1).trans this.2⟩
  · refine ⟨T, t79, fT, Or.inr ⟨?_, fun ⟨sq, g⟩ => b1 ⟨g.2.1, g.2.2.1⟩⟩⟩
    rw [hd]
    rcases sx_lp hr (by decide) 0 0 iz_FU (by omega) (by have := fu_ge; omega) with ⟨q1, q2⟩ | ⟨q1, i, i1, i2⟩
    · exact q1
    · exact q1
theorem mo_t55 {S : iz_S} {k : Nat} (k6 : k < 6) (k31 : Int32 → Int32 → Int32 → Int32 → iz_S → Option (Int32 × iz_S)) (x1 x2 : Int32) : ∀ (j i m : Nat) (b : Bool), i + j = k → j < m →
    Mo_sales_54 82 k31 m x1 x2 (bI_ b) (nI k) (nI i) S = k31 x1 x2 (bI_ (b && ne_ (S.1 105) k i j)) (nI (k + 1)) (iz_up S 109 k (S.1 105 k)) := by
  intro j
  have i1 := in_ok (n := k) (N := 16) (by omega) (by decide)
  have i6 := in_ok (n := k) (N := 6) k6 (by decide)
  have gk := fun (T : iz_S) p => g_nI T p (show k < 2 ^ 31 by omega)
  have r27 : iz_rf 82 27 = 105 := rfl
  have r31 : iz_rf 82 31 = 109 := rfl
  induction j with
  | zero =>
    intro i m b hi hm
    obtain ⟨m, rfl⟩ : ∃ z, m = z + 1 := ⟨m - 1, by omega⟩
    have lt : ¬ nI i < nI k := nI_nlt (by omega) (by omega)
    show Mo_sales_54b 82 k31 (Mo_sales_54 82 k31 m) x1 x2 (bI_ b) (nI k) (nI i) S = _
    rw [Mo_sales_54b, if_neg lt, i1, ck_t, i6, ck_t, lt_e, r27, r31, gk, s_nI _ _ (show k < 2 ^ 31 by omega), nI_1, ne_, Bool.and_true]
  | succ j ih =>
    intro i m b hi hm
    obtain ⟨m, rfl⟩ : ∃ z, m = z + 1 := ⟨m - 1, by omega⟩
    have lt : nI i < nI k := nI_lt (by omega) (by omega)
    have i2 := in_ok (n := i) (N := 16) (by omega) (by decide)
    show Mo_sales_54b 82 k31 (Mo_sales_54 82 k31 m) x1 x2 (bI_ b) (nI k) (nI i) S = _
    rw [Mo_sales_54b, if_pos lt, i2, ck_t, i1, ck_t, r27, gk, g_nI _ _ (show i < 2 ^ 31 by omega), Mo_sales_84, Mo_sales_84, lt_e, lt_e, nI_1, ne_]
    by_cases e : S.1 105 i = S.1 105 k
    · have d : decide (S.1 105 i ≠ S.1 105 k) = false := decide_eq_false (fun q => q e)
      rw [if_pos e, show (0 : Int32) = bI_ false from rfl, bI_and, ih (i + 1) m _ (by omega) (by omega), d]
      simp
    · have d : decide (S.1 105 i ≠ S.1 105 k) = true := decide_eq_true e
      rw [if_neg e, show (1 : Int32) = bI_ true from rfl, bI_and, ih (i + 1) m _ (by omega) (by omega), d]
      simp
theorem mo_t31 {x : Nat → Int32} {n : Nat} (n6 : n ≤ 3) (x1 : Int32) : ∀ (j k m : Nat) (S : iz_S) (b : Bool), k + j = n → j < m → (∀ i, i < 16 → S.1 105 i = x i) →
    ∃ S2 b2, Mo_sales_30 82 m x1 (nI n) (bI_ b) (nI k) S = Mo_sales_112 82 x1 (nI n) (bI_ b2) S2 ∧ (b2 = true ↔ b = true ∧ ∀ q, k ≤ q → q < n → (∃ s, s < 16 ∧ x q = nI s) ∧ ∀ i, i < q → x i ≠ x q) ∧ (b2 = true → ∀ q, k ≤ q → q < n → S2.1 109 q = x q) ∧ (∀ q, q < k → S2.1 109 q = S.1 109 q) ∧ fr f109 S S2 := by
  intro j
  induction j with
  | zero =>
    intro k m S b hk hm hx
    obtain ⟨m, rfl⟩ : ∃ z, m = z + 1 := ⟨m - 1, by omega⟩
    have lt : ¬ nI k < nI n := nI_nlt (by omega) (by omega)
    refine ⟨S, b, ?_, ⟨fun h => ⟨h, fun q h1 h2 => by omega⟩, fun h => h.1⟩, fun _ q h1 h2 => by omega, fun q _ => rfl, fr_rf _ _⟩
    show Mo_sales_30b 82 (Mo_sales_30 82 m) x1 (nI n) (bI_ b) (nI k) S = _
    rw [Mo_sales_30b, if_neg lt]
  | succ j ih =>
    intro k m S b hk hm hx
    obtain ⟨m, rfl⟩ : ∃ z, m = z + 1 := ⟨m - 1, by omega⟩
    have lt : nI k < nI n := nI_lt (by omega) (by omega)
    have i1 := in_ok (n := k) (N := 16) (by omega) (by decide)
    cases b with
    | false =>
      refine ⟨S, false, ?_, ⟨fun h => (by cases h), fun h => (by cases h.1)⟩, fun h => (by cases h), fun q _ => rfl, fr_rf _ _⟩
      show Mo_sales_30b 82 (Mo_sales_30 82 m) x1 (nI n) (bI_ false) (nI k) S = _
      rw [Mo_sales_30b, if_pos lt, if_pos (show bI_ false = 0 from rfl)]
    | true =>
      have n0 : ¬ bI_ true = 0 := by decide
      obtain ⟨b0, e0, g0⟩ : ∃ b0 : Bool, Mo_isColumn (S.1 105 k) S = some (bI_ b0, S) ∧ (b0 = true ↔ ∃ s, s < 16 ∧ S.1 105 k = nI s) := by
        rcases cl_both (S.1 105 k) S with ⟨s, s1, s2, s3⟩ | ⟨s3, s4⟩
        · exact ⟨true, (s3 S).2, ⟨fun _ => ⟨s, s1, s2⟩, fun _ => rfl⟩⟩
        · exact ⟨false, (s3 S).2, ⟨fun q => (by cases q), fun q => absurd q s4⟩⟩
      obtain ⟨T, hT⟩ : ∃ T, T = iz_up S 109 k (S.1 105 k) := ⟨_, rfl⟩
      have fT : fr f109 S T := by rw [hT]; exact fr_up (fr_rf _ _) rfl
      obtain ⟨S2, b2, a1, a2, a3, a4, a5⟩ := ih (k + 1) m T (b0 && ne_ (S.1 105) k 0 k) (by omega) (by omega) (fun i hi => by rw [fT 105 i rfl]; exact hx i hi)
      have xk := hx k (by omega)
      refine ⟨S2, b2, ?_, ?_, fun h q h1 h2 => ?_, fun q hq => ?_, fr_tr fT a5⟩
      · rw [← a1]
        show Mo_sales_30b 82 (Mo_sales_30 82 m) x1 (nI n) (bI_ true) (nI k) S = _
        rw [Mo_sales_30b, if_pos lt, if_neg n0, i1, ck_t, show iz_rf 82 27 = 105 from rfl, g_nI _ _ (show k < 2 ^ 31 by omega), e0, bI_s]
        have := mo_t55 (S := S) (show k < 6 by omega) (Mo_sales_30 82 m) x1 (nI n) k 0 iz_FU b0 (by omega) (by have := fu_ge; omega)
        refine Eq.trans this ?_
        rw [hT]
      · rw [a2, Bool.and_eq_true, g0, ne_iff]
        constructor
        · rintro ⟨⟨h1, h2⟩, h3⟩
          refine ⟨rfl, fun q h4 h5 => ?_⟩
          by_cases e : q = k
          · subst e
            rw [← xk]
            exact ⟨h1, fun i hi => by rw [← hx i (by omega)]; exact h2 i (Nat.zero_le _) (by omega)⟩
          · exact h3 q (by omega) h5
        · rintro ⟨-, h3⟩
          obtain ⟨h1, h2⟩ := h3 k (Nat.le_refl k) (by omega)
          rw [← xk] at h1 h2
          exact ⟨⟨h1, fun q _ h5 => by rw [hx q (by omega)]; exact h2 q (by omega)⟩, fun q h4 h5 => h3 q (by omega) h5⟩
      · by_cases e : q = k
        · subst e
          rw [a4 q (by omega), hT, up_same, xk]
        · exact a3 h q (by omega) h2
      · rw [a4 q (by omega), hT, up_ne _ _ _ _ (Or.inr (by omega))]
theorem mo_ttake {S : iz_S} {n : Nat} {x : Int32} (hx : ¬ x < 0) (hn : S.1 82 26 = nI n) (n16 : n ≤ 16) : ∃ S2, S2.1 82 26 = 0 ∧ fr fsm S S2 ∧ ((∃ sq, Mo_sales 82 x S = Mo_sales_112 82 x (nI n) 1 S2 ∧ clg (S.1 105) n sq ∧ ∀ i, i < n → S2.1 109 i = nI (sq i)) ∨ (Mo_sales 82 x S = Mo_sales_112 82 x (nI n) 0 S2 ∧ ¬ ∃ sq, clg (S.1 105) n sq)) := by
  obtain ⟨T, hT⟩ : ∃ T, T = iz_up S 82 26 0 := ⟨_, rfl⟩
  have fT : fr (fun p i => p == 82 && i == 26) S T := by rw [hT]; exact fr_1
  have fT2 : fr fsm S T := fr_mono fT (fun p i hp => by
    simp only [fsm, Bool.or_eq_true, Bool.and_eq_true, beq_iff_eq] at hp ⊢
    exact Or.inl hp)
  have t26 : T.1 82 26 = 0 := by rw [hT, up_same]
  have x105 : ∀ i, T.1 105 i = S.1 105 i := fun i => fT 105 i rfl
  by_cases hg : 1 ≤ n ∧ n ≤ 3
  · have iv : (1 : Int32) ≤ nI n ∧ nI n ≤ 3 := ⟨nI_le (a := 1) hg.1 (by omega), nI_le (b := 3) hg.2 (by decide)⟩
    obtain ⟨S2, b2, a1, a2, a3, a4, a5⟩ := mo_t31 (x := S.1 105) hg.2 x n 0 iz_FU T true (by omega) (by have := fu_ge; omega) (fun i _ => x105 i)
    have hd : Mo_sales 82 x S = Mo_sales_112 82 x (nI n) (bI_ b2) S2 := by
      rw [Mo_sales, if_neg hx, lt_e, lt_e, ← hT, hn, mo_isIn, bI_s, if_pos iv]
      exact a1
    have f2 : fr fsm S S2 := fr_tr fT2 (fr_mono a5 (fun p i hp => by
      simp only [fsm, f109, Bool.or_eq_true, Bool.and_eq_true, beq_iff_eq] at hp ⊢
      exact Or.inr hp))
    refine ⟨S2, by rw [a5 82 26 rfl]; exact t26, f2, ?_⟩
    cases b2 with
    | true =>
      obtain ⟨-, h3⟩ := a2.mp rfl
      have ch : ∀ q, ∃ s, q < n → s < 16 ∧ S.1 105 q = nI s := fun q => by
        by_cases hq : q < n
        · obtain ⟨⟨s, s1, s2⟩, -⟩ := h3 q (Nat.zero_le _) hq
          exact ⟨s, fun _ => ⟨s1, s2⟩⟩
        · exact ⟨0, fun z => absurd z hq⟩
      refine Or.inl ⟨fun q => Classical.choose (ch q), hd, ⟨hg.1, hg.2, ?_, fun k hk => Classical.choose_spec (ch k) hk⟩, fun i hi => ?_⟩
      · rintro ⟨i, k, h4, h5, h6⟩
        exact (h3 k (Nat.zero_le _) h5).2 i h4 h6
      · rw [a3 rfl i (Nat.zero_le _) hi]
        exact (Classical.choose_spec (ch i) hi).2
    | false =>
      refine Or.inr ⟨hd, fun ⟨sq, g1, g2, g3, g4⟩ => ?_⟩
      have : (false = true) := a2.mpr ⟨rfl, fun q _ h2 => ⟨⟨sq q, (g4 q h2).1, (g4 q h2).2⟩, fun i hi e => g3 ⟨i, q, hi, h2, e⟩⟩⟩
      cases this
  · have iv : ¬ ((1 : Int32) ≤ nI n ∧ nI n ≤ 3) := fun q => hg ⟨(nI_leI (a := 1) (by decide) (by omega)).mp q.1, (nI_leI (b := 3) (by omega) (by decide)).mp q.2⟩
    refine ⟨T, t26, fT2, Or.inr ⟨?_, fun ⟨sq, g1, g2, _⟩ => hg ⟨g1, g2⟩⟩⟩
    obtain ⟨m, hm⟩ : ∃ m, iz_FU = m + 1 := ⟨iz_FU - 1, by have := fu_ge; omega⟩
    rw [Mo_sales, if_neg hx, lt_e, lt_e, ← hT, hn, mo_isIn, bI_s, if_neg iv, hm]
    show Mo_sales_30b 82 (Mo_sales_30 82 m) x (nI n) 0 0 T = _
    rw [Mo_sales_30b, if_pos rfl]
    split <;> rfl
