/-! PURE: what waits is handed over, reference side -/
def bI_ (b : Bool) : Int32 := if b = true then 1 else 0
def ne_ (x : Nat → Int32) (k : Nat) : Nat → Nat → Bool
  | _, 0 => true
  | i, j + 1 => decide (x i ≠ x k) && ne_ x k (i + 1) j
theorem ne_iff {x : Nat → Int32} {k : Nat} : ∀ {j i : Nat}, ne_ x k i j = true ↔ ∀ q, i ≤ q → q < i + j → x q ≠ x k
  | 0, i => by
    constructor
    · intro _ q h1 h2; omega
    · intro _; rfl
  | j + 1, i => by
    rw [ne_, Bool.and_eq_true, decide_eq_true_eq, ne_iff]
    constructor
    · rintro ⟨h1, h2⟩ q h3 h4
      by_cases e : q = i
      · rw [e]; exact h1
      · exact h2 q (by omega) (by omega)
    · intro h
      exact ⟨h i (Nat.le_refl i) (by omega), fun q h1 h2 => h q (by omega) (by omega)⟩
theorem bI_and (a b : Bool) : bI_ a &&& bI_ b = bI_ (a && b) := by cases a <;> cases b <;> decide
theorem mo_s55 {S : iz_S} {k : Nat} (k6 : k < 6) (k31 : Int32 → Int32 → Int32 → Int32 → iz_S → Option (Int32 × iz_S)) (x1 x2 : Int32) : ∀ (j i m : Nat) (b : Bool), i + j = k → j < m →
    Mo_season_55 82 k31 m x1 x2 (bI_ b) (nI k) (nI i) S = k31 x1 x2 (bI_ (b && ne_ (S.1 105) k i j)) (nI (k + 1)) (iz_up S 109 k (S.1 105 k)) := by
  intro j
  have i1 := in_ok (n := k) (N := 16) (by omega) (by decide)
  have i6 := in_ok (n := k) (N := 6) k6 (by decide)
  have gk := fun (T : iz_S) p => g_nI T p (show k < 2 ^ 31 by omega)
  have r27 : iz_rf 82 27 = 105 := rfl
  have r31 : iz_rf 82 31 = 109 := rfl
  induction j with
  | zero =>
    intro i m b hi hm
    obtain ⟨m, rfl⟩ : ∃ z, m = z + 1 := ⟨m - 1, by omega⟩
    have lt : ¬ nI i < nI k := nI_nlt (by omega) (by omega)
    show Mo_season_55b 82 k31 (Mo_season_55 82 k31 m) x1 x2 (bI_ b) (nI k) (nI i) S = _
    rw [Mo_season_55b, if_neg lt, i1, ck_t, i6, ck_t, lt_e, r27, r31, gk, s_nI _ _ (show k < 2 ^ 31 by omega), nI_1, ne_, Bool.and_true]
  | succ j ih =>
    intro i m b hi hm
    obtain ⟨m, rfl⟩ : ∃ z, m = z + 1 := ⟨m - 1, by omega⟩
    have lt : nI i < nI k := nI_lt (by omega) (by omega)
    have i2 := in_ok (n := i) (N := 16) (by omega) (by decide)
    show Mo_season_55b 82 k31 (Mo_season_55 82 k31 m) x1 x2 (bI_ b) (nI k) (nI i) S = _
    rw [Mo_season_55b, if_pos lt, i2, ck_t, i1, ck_t, r27, gk, g_nI _ _ (show i < 2 ^ 31 by omega), Mo_season_85, Mo_season_85, lt_e, lt_e, nI_1, ne_]
    by_cases e : S.1 105 i = S.1 105 k
    · have d : decide (S.1 105 i ≠ S.1 105 k) = false := decide_eq_false (fun q => q e)
      rw [if_pos e, show (0 : Int32) = bI_ false from rfl, bI_and, ih (i + 1) m _ (by omega) (by omega), d]
      simp
    · have d : decide (S.1 105 i ≠ S.1 105 k) = true := decide_eq_true e
      rw [if_neg e, show (1 : Int32) = bI_ true from rfl, bI_and, ih (i + 1) m _ (by omega) (by omega), d]
      simp
def f109 (p _ : Nat) : Bool := p == 109
theorem mo_s31 {x : Nat → Int32} {n : Nat} (n6 : n ≤ 6) (x1 : Int32) : ∀ (j k m : Nat) (S : iz_S) (b : Bool), k + j = n → j < m → (∀ i, i < 16 → S.1 105 i = x i) →
    ∃ S2 b2, Mo_season_31 82 m x1 (nI n) (bI_ b) (nI k) S = Mo_season_113 82 x1 (nI n) (bI_ b2) S2 ∧ (b2 = true ↔ b = true ∧ ∀ q, k ≤ q → q < n → (∃ s, isq s = true ∧ x q = nI s) ∧ ∀ i, i < q → x i ≠ x q) ∧ (b2 = true → ∀ q, k ≤ q → q < n → S2.1 109 q = x q) ∧ (∀ q, q < k → S2.1 109 q = S.1 109 q) ∧ fr f109 S S2 := by
  intro j
  induction j with
  | zero =>
    intro k m S b hk hm hx
    obtain ⟨m, rfl⟩ : ∃ z, m = z + 1 := ⟨m - 1, by omega⟩
    have lt : ¬ nI k < nI n := nI_nlt (by omega) (by omega)
    refine ⟨S, b, ?_, ⟨fun h => ⟨h, fun q h1 h2 => by omega⟩, fun h => h.1⟩, fun _ q h1 h2 => by omega, fun q _ => rfl, fr_rf _ _⟩
    show Mo_season_31b 82 (Mo_season_31 82 m) x1 (nI n) (bI_ b) (nI k) S = _
    rw [Mo_season_31b, if_neg lt]
  | succ j ih =>
    intro k m S b hk hm hx
    obtain ⟨m, rfl⟩ : ∃ z, m = z + 1 := ⟨m - 1, by omega⟩
    have lt : nI k < nI n := nI_lt (by omega) (by omega)
    have i1 := in_ok (n := k) (N := 16) (by omega) (by decide)
    cases b with
    | false =>
      refine ⟨S, false, ?_, ⟨fun h => (by cases h), fun h => (by cases h.1)⟩, fun h => (by cases h), fun q _ => rfl, fr_rf _ _⟩
      show Mo_season_31b 82 (Mo_season_31 82 m) x1 (nI n) (bI_ false) (nI k) S = _
      rw [Mo_season_31b, if_pos lt, if_pos (show bI_ false = 0 from rfl)]
    | true =>
      have n0 : ¬ bI_ true = 0 := by decide
      obtain ⟨b0, e0, g0⟩ : ∃ b0 : Bool, Mo_isSquare (S.1 105 k) S = some (bI_ b0, S) ∧ (b0 = true ↔ ∃ s, isq s = true ∧ S.1 105 k = nI s) := by
        rcases sq_both (S.1 105 k) S with ⟨s, s1, s2, s3⟩ | ⟨s3, s4⟩
        · exact ⟨true, (s3 S).2, ⟨fun _ => ⟨s, s1, s2⟩, fun _ => rfl⟩⟩
        · exact ⟨false, (s3 S).2, ⟨fun q => (by cases q), fun q => absurd q s4⟩⟩
      obtain ⟨T, hT⟩ : ∃ T, T = iz_up S 109 k (S.1 105 k) := ⟨_, rfl⟩
      have fT : fr f109 S T := by rw [hT]; exact fr_up (fr_rf _ _) rfl
      obtain ⟨S2, b2, a1, a2, a3, a4, a5⟩ := ih (k + 1) m T (b0 && ne_ (S.1 105) k 0 k) (by omega) (by omega) (fun i hi => by rw [fT 105 i rfl]; exact hx i hi)
      have xk := hx k (by omega)
      refine ⟨S2, b2, ?_, ?_, fun h q h1 h2 => ?_, fun q hq => ?_, fr_tr fT a5⟩
      · rw [← a1]
        show Mo_season_31b 82 (Mo_season_31 82 m) x1 (nI n) (bI_ true) (nI k) S = _
        rw [Mo_season_31b, if_pos lt, if_neg n0, i1, ck_t, show iz_rf 82 27 = 105 from rfl, g_nI _ _ (show k < 2 ^ 31 by omega), e0, bI_s]
        have := mo_s55 (S := S) (show k < 6 by omega) (Mo_season_31 82 m) x1 (nI n) k 0 iz_FU b0 (by omega) (by have := fu_ge; omega)
        refine Eq.trans this ?_
        rw [hT]
      · rw [a2, Bool.and_eq_true, g0, ne_iff]
        constructor
        · rintro ⟨⟨h1, h2⟩, h3⟩
          refine ⟨rfl, fun q h4 h5 => ?_⟩
          by_cases e : q = k
          · subst e
            rw [← xk]
            exact ⟨h1, fun i hi => by rw [← hx i (by omega)]; exact h2 i (Nat.zero_le _) (by omega)⟩
          · exact h3 q (by omega) h5
        · rintro ⟨-, h3⟩
          obtain ⟨h1, h2⟩ := h3 k (Nat.le_refl k) (by omega)
          rw [← xk] at h1 h2
          exact ⟨⟨h1, fun q _ h5 => by rw [hx q (by omega)]; exact h2 q (by omega)⟩, fun q h4 h5 => h3 q (by omega) h5⟩
      · by_cases e : q = k
        · subst e
          rw [a4 q (by omega), hT, up_same, xk]
        · exact a3 h q (by omega) h2
      · rw [a4 q (by omega), hT, up_ne _ _ _ _ (Or.inr (by omega))]
def fsm (p i : Nat) : Bool := (p == 82 && i == 26) || p == 109
theorem mo_stake {S : iz_S} {n : Nat} {x : Int32} (hx : ¬ x < 0) (hn : S.1 82 26 = nI n) (n16 : n ≤ 16) : ∃ S2, S2.1 82 26 = 0 ∧ fr fsm S S2 ∧ ((∃ sq, Mo_season 82 x S = Mo_season_113 82 x (nI n) 1 S2 ∧ sqg (S.1 105) n sq ∧ ∀ i, i < n → S2.1 109 i = nI (sq i)) ∨ (Mo_season 82 x S = Mo_season_113 82 x (nI n) 0 S2 ∧ ¬ ∃ sq, sqg (S.1 105) n sq)) := by
  obtain ⟨T, hT⟩ : ∃ T, T = iz_up S 82 26 0 := ⟨_, rfl⟩
  have fT : fr (fun p i => p == 82 && i == 26) S T := by rw [hT]; exact fr_1
  have fT2 : fr fsm S T := fr_mono fT (fun p i hp => by
    simp only [fsm, Bool.or_eq_true, Bool.and_eq_true, beq_iff_eq] at hp ⊢
    exact Or.inl hp)
  have t26 : T.1 82 26 = 0 := by rw [hT, up_same]
  have x105 : ∀ i, T.1 105 i = S.1 105 i := fun i => fT 105 i rfl
  by_cases hg : 1 ≤ n ∧ n ≤ 6
  · have iv : (1 : Int32) ≤ nI n ∧ nI n ≤ 6 := ⟨nI_le (a := 1) hg.1 (by omega), nI_le (b := 6) hg.2 (by decide)⟩
    obtain ⟨S2, b2, a1, a2, a3, a4, a5⟩ := mo_s31 (x := S.1 105) hg.2 x n 0 iz_FU T true (by omega) (by have := fu_ge; omega) (fun i _ => x105 i)
    have hd : Mo_season 82 x S = Mo_season_113 82 x (nI n) (bI_ b2) S2 := by
      rw [Mo_season, if_neg hx, lt_e, lt_e, ← hT, hn, mo_isIn, bI_s, if_pos iv]
      exact a1
    have f2 : fr fsm S S2 := fr_tr fT2 (fr_mono a5 (fun p i hp => by
      simp only [fsm, f109, Bool.or_eq_true, Bool.and_eq_true, beq_iff_eq] at hp ⊢
      exact Or.inr hp))
    refine ⟨S2, by rw [a5 82 26 rfl]; exact t26, f2, ?_⟩
    cases b2 with
    | true =>
      obtain ⟨-, h3⟩ := a2.mp rfl
      have ch : ∀ q, ∃ s, q < n → isq s = true ∧ S.1 105 q = nI s := fun q => by
        by_cases hq : q < n
        · obtain ⟨⟨s, s1, s2⟩, -⟩ := h3 q (Nat.zero_le _) hq
          exact ⟨s, fun _ => ⟨s1, s2⟩⟩
        · exact ⟨0, fun z => absurd z hq⟩
      refine Or.inl ⟨fun q => Classical.choose (ch q), hd, ⟨hg.1, hg.2, ?_, fun k hk => Classical.choose_spec (ch k) hk⟩, fun i hi => ?_⟩
      · rintro ⟨i, k, h4, h5, h6⟩
        exact (h3 k (Nat.zero_le _) h5).2 i h4 h6
      · rw [a3 rfl i (Nat.zero_le _) hi]
        exact (Classical.choose_spec (ch i) hi).2
    | false =>
      refine Or.inr ⟨hd, fun ⟨sq, g1, g2, g3, g4⟩ => ?_⟩
      have : (false = true) := a2.mpr ⟨rfl, fun q _ h2 => ⟨⟨sq q, (g4 q h2).1, (g4 q h2).2⟩, fun i hi e => g3 ⟨i, q, hi, h2, e⟩⟩⟩
      cases this
  · have iv : ¬ ((1 : Int32) ≤ nI n ∧ nI n ≤ 6) := fun q => hg ⟨(nI_leI (a := 1) (by decide) (by omega)).mp q.1, (nI_leI (b := 6) (by omega) (by decide)).mp q.2⟩
    refine ⟨T, t26, fT2, Or.inr ⟨?_, fun ⟨sq, g1, g2, _⟩ => hg ⟨g1, g2⟩⟩⟩
    obtain ⟨m, hm⟩ : ∃ m, iz_FU = m + 1 := ⟨iz_FU - 1, by have := fu_ge; omega⟩
    rw [Mo_season, if_neg hx, lt_e, lt_e, ← hT, hn, mo_isIn, bI_s, if_neg iv, hm]
    show Mo_season_31b 82 (Mo_season_31 82 m) x (nI n) 0 0 T = _
    rw [Mo_season_31b, if_pos rfl]
    split <;> rfl
