/-! PURE: what waits is handed over -/
def twn (x : Nat → Int32) (n : Nat) : Prop := ∃ i k, i < k ∧ k < n ∧ x i = x k
theorem wa_tw1 {S : iz_S} {n i : Nat} (hn : S.1 79 0 = nI n) (n16 : n ≤ 16) (hi : i < n) (k2 : Int32 → iz_S → Option (Int32 × iz_S)) : ∀ (j k m : Nat), k + j = n → i < k → j < m →
    (Wa_hasTwins_14 79 k2 m (nI i) (nI k) S = some (1, S) ∧ ∃ q, k ≤ q ∧ q < n ∧ S.1 80 i = S.1 80 q) ∨ (Wa_hasTwins_14 79 k2 m (nI i) (nI k) S = k2 (nI (i + 1)) S ∧ ∀ q, k ≤ q → q < n → S.1 80 i ≠ S.1 80 q) := by
  intro j
  have i1 := in_ok (n := i) (N := 16) (by omega) (by decide)
  induction j with
  | zero =>
    intro k m hk hik hm
    obtain ⟨m, rfl⟩ : ∃ z, m = z + 1 := ⟨m - 1, by omega⟩
    have lt : ¬ nI k < nI n := nI_nlt (by omega) (by omega)
    refine Or.inr ⟨?_, fun q h1 h2 => by omega⟩
    show Wa_hasTwins_14b 79 k2 (Wa_hasTwins_14 79 k2 m) (nI i) (nI k) S = _
    rw [Wa_hasTwins_14b, hn, if_neg lt, nI_1]
  | succ j ih =>
    intro k m hk hik hm
    obtain ⟨m, rfl⟩ : ∃ z, m = z + 1 := ⟨m - 1, by omega⟩
    have lt : nI k < nI n := nI_lt (by omega) (by omega)
    have i2 := in_ok (n := k) (N := 16) (by omega) (by decide)
    have head : Wa_hasTwins_14 79 k2 (m + 1) (nI i) (nI k) S = if S.1 80 i = S.1 80 k then some (1, S) else Wa_hasTwins_14 79 k2 m (nI i) (nI (k + 1)) S := by
      show Wa_hasTwins_14b 79 k2 (Wa_hasTwins_14 79 k2 m) (nI i) (nI k) S = _
      rw [Wa_hasTwins_14b, hn, if_pos lt, i1, ck_t, i2, ck_t, show iz_rf 79 1 = 80 from rfl, g_nI _ _ (show i < 2 ^ 31 by omega), g_nI _ _ (show k < 2 ^ 31 by omega), nI_1]
      simp only [nb_1, decide_true, ck_t]
    rw [head]
    by_cases e : S.1 80 i = S.1 80 k
    · rw [if_pos e]
      exact Or.inl ⟨rfl, k, Nat.le_refl k, by omega, e⟩
    · rw [if_neg e]
      rcases ih (k + 1) m (by omega) (by omega) (by omega) with ⟨q1, q, q2, q3, q4⟩ | ⟨q1, q2⟩
      · exact Or.inl ⟨q1, q, by omega, q3, q4⟩
      · refine Or.inr ⟨q1, fun q h1 h2 => ?_⟩
        by_cases eq : q = k
        · subst eq; exact e
        · exact q2 q (by omega) h2
theorem wa_tw2 {S : iz_S} {n : Nat} (hn : S.1 79 0 = nI n) (n16 : n ≤ 16) : ∀ (j i m : Nat), i + j = n → j < m →
    (Wa_hasTwins_2 79 m (nI i) S = some (1, S) ∧ twn (S.1 80) n) ∨ (Wa_hasTwins_2 79 m (nI i) S = some (0, S) ∧ ∀ a b, i ≤ a → a < b → b < n → S.1 80 a ≠ S.1 80 b) := by
  intro j
  induction j with
  | zero =>
    intro i m hi hm
    obtain ⟨m, rfl⟩ : ∃ z, m = z + 1 := ⟨m - 1, by omega⟩
    have lt : ¬ nI i < nI n := nI_nlt (by omega) (by omega)
    refine Or.inr ⟨?_, fun a b h1 h2 h3 => by omega⟩
    show Wa_hasTwins_2b 79 (Wa_hasTwins_2 79 m) (nI i) S = _
    rw [Wa_hasTwins_2b, hn, if_neg lt]
    simp only [nb_0, decide_true, ck_t]
  | succ j ih =>
    intro i m hi hm
    obtain ⟨m, rfl⟩ : ∃ z, m = z + 1 := ⟨m - 1, by omega⟩
    have lt : nI i < nI n := nI_lt (by omega) (by omega)
    have head : Wa_hasTwins_2 79 (m + 1) (nI i) S = Wa_hasTwins_14 79 (Wa_hasTwins_2 79 m) iz_FU (nI i) (nI (i + 1)) S := by
      show Wa_hasTwins_2b 79 (Wa_hasTwins_2 79 m) (nI i) S = _
      rw [Wa_hasTwins_2b, hn, if_pos lt, lt_e, nI_1]
    rw [head]
    rcases wa_tw1 hn n16 (show i < n by omega) (Wa_hasTwins_2 79 m) (n - (i + 1)) (i + 1) iz_FU (by omega) (by omega) (by have := fu_ge; omega) with ⟨q1, q, q2, q3, q4⟩ | ⟨q1, q2⟩
    · exact Or.inl ⟨q1, i, q, by omega, q3, q4⟩
    · rw [q1]
      rcases ih (i + 1) m (by omega) (by omega) with ⟨r1, r2⟩ | ⟨r1, r2⟩
      · exact Or.inl ⟨r1, r2⟩
      · refine Or.inr ⟨r1, fun a b h1 h2 h3 => ?_⟩
        by_cases e : a = i
        · subst e; exact q2 b (by omega) h3
        · exact r2 a b (by omega) h2 h3
theorem wa_twins {S : iz_S} {n : Nat} (hn : S.1 79 0 = nI n) (n16 : n ≤ 16) : (Wa_hasTwins 79 S = some (1, S) ∧ twn (S.1 80) n) ∨ (Wa_hasTwins 79 S = some (0, S) ∧ ¬ twn (S.1 80) n) := by
  rcases wa_tw2 hn n16 n 0 iz_FU (by omega) (by have := fu_ge; omega) with ⟨q1, q2⟩ | ⟨q1, q2⟩
  · exact Or.inl ⟨q1, q2⟩
  · exact Or.inr ⟨q1, fun ⟨i, k, h1, h2, h3⟩ => q2 i k (Nat.zero_le _) h1 h2 h3⟩
/-- n numbers handed over into the row p, if they are few and no two the same -/
theorem wa_hand {S : iz_S} {n p N : Nat} (hn : S.1 79 0 = nI n) (n16 : n ≤ 16) (hp : (iz_sh p).2 = N) (N10 : N ≤ 16) (p79 : p ≠ 79) (p80 : p ≠ 80) : ∃ r S2, Wa_handOver 79 p S = some (nI r, S2) ∧ S2.1 79 0 = 0 ∧ ((n ≤ N ∧ ¬ twn (S.1 80) n ∧ r = n ∧ ∀ i, i < n → S2.1 p i = S.1 80 i) ∨ (¬ (n ≤ N ∧ ¬ twn (S.1 80) n) ∧ r = 0)) ∧ fr (fun q i => (q == 79 && i == 0) || q == p) S S2 := by
  have le : (nI n ≤ Int32.ofNat N) = (n ≤ N) := nI_leP (b := N) (by omega) (by omega)
  have t0 : Int32.toNatClampNeg 0 = 0 := by decide +kernel
  have e24 : ∀ r, r ≤ N → r ≤ 16 → Wa_handOver_24 79 p (nI r) S = some (nI r, iz_up (iz_cpy S 80 0 p 0 r) 79 0 0) := fun r h1 h2 => by
    have tr := nI_clamp (show r < 2 ^ 31 by omega)
    have ck : iz_cpk 0 0 (nI r) 16 N = true := by
      unfold iz_cpk
      have np : ¬ nI r < 0 := nI_pos (by omega)
      rw [tr, t0]
      simp [np, h1, h2]
    rw [Wa_handOver_24, hp, ck, ck_t, lt_e, show iz_rf 79 1 = 80 from rfl, t0, tr, Wa_clear, lt_e, bV_s]
  have fr24 : ∀ r, fr (fun q i => (q == 79 && i == 0) || q == p) S (iz_up (iz_cpy S 80 0 p 0 r) 79 0 0) := fun r q i hq => by
    simp only [Bool.or_eq_false_iff, Bool.and_eq_false_iff, beq_eq_false_iff_ne] at hq
    rw [up_ne _ _ _ _ hq.1]
    have : (iz_cpy S 80 0 p 0 r).1 q = S.1 q := if_neg hq.2
    rw [this]
  have z0 : ∀ r, (iz_up (iz_cpy S 80 0 p 0 r) 79 0 0).1 79 0 = 0 := fun r => up_same _ _ _ _
  by_cases h1 : n ≤ N
  · rcases wa_twins hn n16 with ⟨q1, q2⟩ | ⟨q1, q2⟩
    · refine ⟨0, iz_up (iz_cpy S 80 0 p 0 0) 79 0 0, ?_, z0 0, Or.inr ⟨fun q => q.2 q2, rfl⟩, fr24 0⟩
      rw [Wa_handOver, hn, hp, if_pos (by rw [le]; exact h1), q1, bI_s, if_neg (by decide), Wa_handOver_23]
      exact e24 0 (Nat.zero_le _) (by omega)
    · refine ⟨n, iz_up (iz_cpy S 80 0 p 0 n) 79 0 0, ?_, z0 n, Or.inl ⟨h1, q2, rfl, fun i hi => ?_⟩, fr24 n⟩
      · rw [Wa_handOver, hn, hp, if_pos (by rw [le]; exact h1), q1, bI_s, if_pos rfl, hn]
        exact e24 n h1 n16
      · rw [up_p _ _ _ _ p79]
        have : (iz_cpy S 80 0 p 0 n).1 p = va_cpy (S.1 80) (S.1 p) 0 0 n := if_pos rfl
        rw [this, pk_cpy_in (Nat.zero_le _) (by omega), Nat.zero_add, Nat.sub_zero]
  · refine ⟨0, iz_up (iz_cpy S 80 0 p 0 0) 79 0 0, ?_, z0 0, Or.inr ⟨fun q => h1 q.1, rfl⟩, fr24 0⟩
    rw [Wa_handOver, hn, hp, if_neg (by rw [le]; exact h1), Wa_handOver_23]
    exact e24 0 (Nat.zero_le _) (by omega)
/-- squares that may be planned with -/
def sqg (x : Nat → Int32) (n : Nat) (sq : Nat → Nat) : Prop := 1 ≤ n ∧ n ≤ 6 ∧ ¬ twn x n ∧ ∀ k, k < n → isq (sq k) = true ∧ x k = nI (sq k)
theorem se_lp {T : iz_S} {n : Nat} (hr : T.1 5 3 = nI n) (n6 : n ≤ 6) : ∀ (j k m : Nat), k + j = n → j < m → (Se_takeOver_14 5 79 m (nI k) T = some (if n = 0 then 0 else 1, T) ∧ ∀ i, k ≤ i → i < n → ∃ s, isq s = true ∧ T.1 7 i = nI s) ∨ (Se_takeOver_14 5 79 m (nI k) T = some (0, T) ∧ ∃ i, i < n ∧ ¬ ∃ s, isq s = true ∧ T.1 7 i = nI s) := by
  intro j
  induction j with
  | zero =>
    intro k m hk hm
    obtain ⟨m, rfl⟩ : ∃ z, m = z + 1 := ⟨m - 1, by omega⟩
    have lt : ¬ nI k < nI n := nI_nlt (by omega) (by omega)
    have l0 : (nI n ≤ 0) = (n = 0) := n0_le (by omega)
    refine Or.inl ⟨?_, fun i h1 h2 => by omega⟩
    show Se_takeOver_14b 5 79 (Se_takeOver_14 5 79 m) (nI k) T = _
    rw [Se_takeOver_14b, hr, if_neg lt]
    simp only [l0, Se_takeOver_54, nb_0, nb_1, decide_true, ck_t]
    split <;> rfl
  | succ j ih =>
    intro k m hk hm
    obtain ⟨m, rfl⟩ : ∃ z, m = z + 1 := ⟨m - 1, by omega⟩
    have lt : nI k < nI n := nI_lt (by omega) (by omega)
    have i1 := in_ok (n := k) (N := 6) (by omega) (by decide)
    have head : Se_takeOver_14 5 79 (m + 1) (nI k) T = iz_bI (La_isSquare (T.1 7 k) T) (fun r5 S4 => if r5 = 0 then iz_ck (decide (iz_nb 0 = 0)) (some (0, S4)) else Se_takeOver_14 5 79 m (nI (k + 1)) S4) := by
      show Se_takeOver_14b 5 79 (Se_takeOver_14 5 79 m) (nI k) T = _
      rw [Se_takeOver_14b, hr, if_pos lt, i1, ck_t, show iz_rf 5 2 = 7 from rfl, g_nI _ _ (show k < 2 ^ 31 by omega), nI_1]
    rw [head]
    rcases sq_both (T.1 7 k) T with ⟨s, s1, s2, s3⟩ | ⟨s3, s4⟩
    · rw [(s3 T).1, bI_s, if_neg (by decide)]
      rcases ih (k + 1) m (by omega) (by omega) with ⟨q1, q2⟩ | ⟨q1, q2⟩
      · refine Or.inl ⟨q1, fun i h1 h2 => ?_⟩
        by_cases e : i = k
        · subst e; exact ⟨s, s1, s2⟩
        · exact q2 i (by omega) h2
      · exact Or.inr ⟨q1, q2⟩
    · refine Or.inr ⟨?_, k, by omega, s4⟩
      rw [(s3 T).1, bI_s, if_pos rfl]
      simp only [nb_0, decide_true, ck_t]
def fse (p i : Nat) : Bool := (p == 79 && i == 0) || p == 7 || (p == 5 && i == 3)
theorem se_take {S : iz_S} {n : Nat} (hn : S.1 79 0 = nI n) (n16 : n ≤ 16) : ∃ S2, S2.1 79 0 = 0 ∧ fr fse S S2 ∧ ((∃ sq, Se_takeOver 5 79 S = some (1, S2) ∧ sqg (S.1 80) n sq ∧ S2.1 5 3 = nI n ∧ ∀ i, i < n → S2.1 7 i = nI (sq i)) ∨ (Se_takeOver 5 79 S = some (0, S2) ∧ ¬ ∃ sq, sqg (S.1 80) n sq)) := by
  obtain ⟨r, S1, a1, a2, a3, a4⟩ := wa_hand (p := 7) (N := 6) hn n16 (by rw [sh_7]) (by decide) (by decide) (by decide)
  obtain ⟨T, hT⟩ : ∃ T, T = iz_up S1 5 3 (nI r) := ⟨_, rfl⟩
  have t79 : T.1 79 0 = 0 := by rw [hT, up_p _ _ _ _ (by decide)]; exact a2
  have fT : fr fse S T := by
    rw [hT]
    refine fr_up (fr_mono a4 (fun p i hp => ?_)) rfl
    simp only [fse, Bool.or_eq_true, Bool.and_eq_true, beq_iff_eq] at hp ⊢
    omega
  have hr : T.1 5 3 = nI r := by rw [hT, up_same]
  have hd : Se_takeOver 5 79 S = Se_takeOver_14 5 79 iz_FU 0 T := by
    rw [Se_takeOver, show iz_rf 5 2 = 7 from rfl, a1, bI_s, lt_e, ← hT]
  rcases a3 with ⟨b1, b2, rfl, b4⟩ | ⟨b1, rfl⟩
  · have t7 : ∀ i, i < r → T.1 7 i = S.1 80 i := fun i hi => by rw [hT, up_p _ _ _ _ (by decide)]; exact b4 i hi
    rcases se_lp hr b1 r 0 iz_FU (by omega) (by have := fu_ge; omega) with ⟨q1, q2⟩ | ⟨q1, i, i1, i2⟩
    · refine ⟨T, t79, fT, ?_⟩
      by_cases r0 : r = 0
      · refine Or.inr ⟨?_, fun ⟨sq, g1, _⟩ => by omega⟩
        rw [hd]
        refine Eq.trans q1 ?_
        rw [if_pos r0]
      · have q2' : ∀ i, ∃ s, i < r → isq s = true ∧ T.1 7 i = nI s := fun i => by
          by_cases hi : i < r
          · obtain ⟨s, s1, s2⟩ := q2 i (Nat.zero_le _) hi
            exact ⟨s, fun _ => ⟨s1, s2⟩⟩
          · exact ⟨0, fun q => absurd q hi⟩
        refine Or.inl ⟨fun i => Classical.choose (q2' i), ?_, ⟨by omega, b1, b2, fun k hk => ?_⟩, hr, fun i hi => (Classical.choose_spec (q2' i) hi).2⟩
        · rw [hd]
          refine Eq.trans q1 ?_
          rw [if_neg r0]
        · have := Classical.choose_spec (q2' k) hk
          exact ⟨this.1, (t7 k hk).symm.trans this.2⟩
    · refine ⟨T, t79, fT, Or.inr ⟨by rw [hd]; exact q1, fun ⟨sq, g⟩ => ?_⟩⟩
      have := g.2.2.2 i i1
      exact i2 ⟨sq i, this.1, (t7 i i1).trans this.2⟩
  · refine ⟨T, t79, fT, Or.inr ⟨?_, fun ⟨sq, g⟩ => b1 ⟨g.2.1, g.2.2.1⟩⟩⟩
    rw [hd]
    rcases se_lp hr (by decide) 0 0 iz_FU (by omega) (by have := fu_ge; omega) with ⟨q1, q2⟩ | ⟨q1, i, i1, i2⟩
    · exact q1
    · exact q1
