/-! PURE: the best dust, reference -/
def fmo (p _i : Nat) : Bool := p == 92 || p == 116
theorem s_d11 {s : Nat} (hs : s < 20000) : nI s / 11 = nI (s / 11) ∧ nI s - nI s / 11 * 11 = nI (s % 11) := by
  have e : nI s / 11 = nI (s / 11) := pk_div (d := 11) (by omega) (by decide) (by decide)
  have e2 : nI (s / 11) * 11 = nI (s / 11 * 11) := pk_mul (s / 11) 11
  refine ⟨e, ?_⟩
  rw [e, e2, nI_sb (by omega) (by omega)]
  congr 1
  omega
theorem mo_52s (k34 : Int32 → Int32 → Int32 → Int32 → iz_S → Option (Int32 × iz_S)) (F : Nat) (n A B m : Int32) {x s i : Nat} (hx : x < 20000) (hi : i < 4) (S : iz_S) : Mo_findDust_52 82 k34 (F + 1) n A B m (nI x) (nI s) (nI i) S = Mo_findDust_52 82 k34 F n A B m (nI (x / 11)) (nI (s + x % 11)) (nI i + (-1)) (iz_up S 92 i (nI (x % 11))) := by
  have n0 : ¬ nI i < 0 := nI_pos (by omega)
  have i1 := in_ok (n := i) (N := 4) hi (by decide)
  obtain ⟨e1, e2⟩ := s_d11 hx
  show Mo_findDust_52b 82 k34 (Mo_findDust_52 82 k34 F) n A B m (nI x) (nI s) (nI i) S = _
  rw [Mo_findDust_52b, if_neg n0, i1, ck_t, lt_e, lt_e, ck_t, lt_e, show iz_rf 82 10 = 92 from rfl, e2, e1, s_nI _ _ (show i < 2 ^ 31 by omega), g_nI _ _ (show i < 2 ^ 31 by omega), up_same, nI_add]
/-- the dust of a way, laid -/
def bd_l (S : iz_S) (m : Nat) : iz_S := iz_up (iz_up (iz_up (iz_up S 92 3 (nI (bd_d 3 m))) 92 2 (nI (bd_d 2 m))) 92 1 (nI (bd_d 1 m))) 92 0 (nI (bd_d 0 m))
theorem bd_l4 (S : iz_S) (m i : Nat) (hi : i < 4) : (bd_l S m).1 92 i = nI (bd_d i m) := by
  have : i = 0 ∨ i = 1 ∨ i = 2 ∨ i = 3 := by omega
  unfold bd_l
  rcases this with rfl | rfl | rfl | rfl <;> simp [upA, upd]
theorem bd_lf (S : iz_S) (m : Nat) : fr (fun p _ => p == 92) S (bd_l S m) := fr_up (fr_up (fr_up (fr_up (fr_rf _ _) rfl) rfl) rfl) rfl
theorem mo_52 (k34 : Int32 → Int32 → Int32 → Int32 → iz_S → Option (Int32 × iz_S)) (F : Nat) (n A B : Int32) {m : Nat} (hm : m < 14641) (S : iz_S) : Mo_findDust_52 82 k34 (F + 5) n A B (nI m) (nI m) 0 3 S = Mo_findDust_52b 82 k34 (Mo_findDust_52 82 k34 F) n A B (nI m) (nI 0) (nI (bd_s m)) (-1) (bd_l S m) := by
  have s1 := mo_52s k34 (F + 4) n A B (nI m) (x := m) (s := 0) (i := 3) (by omega) (by omega) S
  have s2 := mo_52s k34 (F + 3) n A B (nI m) (x := m / 11) (s := 0 + m % 11) (i := 2) (by omega) (by omega) (iz_up S 92 3 (nI (m % 11)))
  have s3 := mo_52s k34 (F + 2) n A B (nI m) (x := m / 11 / 11) (s := 0 + m % 11 + m / 11 % 11) (i := 1) (by omega) (by omega) (iz_up (iz_up S 92 3 (nI (m % 11))) 92 2 (nI (m / 11 % 11)))
  have s4 := mo_52s k34 (F + 1) n A B (nI m) (x := m / 11 / 11 / 11) (s := 0 + m % 11 + m / 11 % 11 + m / 11 / 11 % 11) (i := 0) (by omega) (by omega) (iz_up (iz_up (iz_up S 92 3 (nI (m % 11))) 92 2 (nI (m / 11 % 11))) 92 1 (nI (m / 11 / 11 % 11)))
  rw [show Mo_findDust_52 82 k34 (F + 5) n A B (nI m) (nI m) 0 3 S = _ from s1, show nI 3 + (-1) = nI 2 from rfl, s2, show nI 2 + (-1) = nI 1 from rfl, s3, show nI 1 + (-1) = nI 0 from rfl, s4]
  have e0 : m / 11 / 11 / 11 / 11 = 0 := by omega
  have e1 : m / 11 / 11 / 11 % 11 = m / 1331 := by omega
  have e2 : m / 11 / 11 % 11 = m / 121 % 11 := by omega
  have e3 : 0 + m % 11 + m / 11 % 11 + m / 121 % 11 + m / 1331 = bd_s m := by unfold bd_s; omega
  rw [e0, e1, e2, e3]
  rfl
/-- copying the dust -/
theorem mo_133 (k34 : Int32 → Int32 → Int32 → Int32 → iz_S → Option (Int32 × iz_S)) (n A B m : Int32) : ∀ (j i F : Nat) (S : iz_S), i + j = 4 → j < F → ∃ S2, Mo_findDust_133 82 k34 F n A B m (nI i) S = k34 n A B (m + 1) S2 ∧ (∀ k, i ≤ k → k < 4 → S2.1 116 k = S.1 92 k) ∧ (∀ k, k < i → S2.1 116 k = S.1 116 k) ∧ fr (fun p _ => p == 116) S S2 := by
  intro j
  induction j with
  | zero =>
    intro i F S hj hF
    obtain ⟨F, rfl⟩ : ∃ k, F = k + 1 := ⟨F - 1, by omega⟩
    have lt : ¬ nI i < 4 := nI_nlt (b := 4) (by omega) (by omega)
    refine ⟨S, ?_, fun k h1 h2 => by omega, fun _ _ => rfl, fr_rf _ _⟩
    show Mo_findDust_133b 82 k34 (Mo_findDust_133 82 k34 F) n A B m (nI i) S = _
    rw [Mo_findDust_133b, if_neg lt, Mo_findDust_159]
  | succ j ih =>
    intro i F S hj hF
    obtain ⟨F, rfl⟩ : ∃ k, F = k + 1 := ⟨F - 1, by omega⟩
    have lt : nI i < 4 := nI_lt (b := 4) (by omega) (by decide)
    have i1 := in_ok (n := i) (N := 4) (by omega) (by decide)
    obtain ⟨S2, a1, a2, a3, a4⟩ := ih (i + 1) F (iz_up S 116 i (S.1 92 i)) (by omega) (by omega)
    refine ⟨S2, ?_, fun k h1 h2 => ?_, fun k hk => ?_, fr_tr (fr_up (fr_rf _ _) rfl) a4⟩
    · show Mo_findDust_133b 82 k34 (Mo_findDust_133 82 k34 F) n A B m (nI i) S = _
      rw [Mo_findDust_133b, if_pos lt, i1, ck_t, ck_t, lt_e, show iz_rf 82 42 = 116 from rfl, show iz_rf 82 10 = 92 from rfl, s_nI _ _ (show i < 2 ^ 31 by omega), g_nI _ _ (show i < 2 ^ 31 by omega), nI_1]
      exact a1
    · by_cases e : k = i
      · subst e
        rw [a3 k (by omega), up_same]
      · rw [a2 k (by omega) h2, up_p _ _ _ _ (by decide)]
    · rw [a3 k (by omega), up_ne _ _ _ _ (Or.inr (by omega))]
/-- all melts with the dust of a way laid -/
def amf (S : iz_S) (T : Nat → Nat) : Prop := ∀ V, fr fmo S V → ∀ m, m < 14641 → (∀ i, i < 4 → V.1 92 i = nI (bd_d i m)) → Mo_allMelts 82 V = some (nI (T m), V)
theorem mo_34s {S : iz_S} {T : Nat → Nat} (hA : amf S T) (TB : ∀ x, T x < 1000000) {n m : Nat} (n40 : n ≤ 40) (hm : m < 14641) (k34 : Int32 → Int32 → Int32 → Int32 → iz_S → Option (Int32 × iz_S)) {A B : Int32} {V : iz_S} (hf : fr fmo S V) (hP : bd_p T 1000000 (mn (bd_k T n) m) A B (V.1 116)) : ∃ A2 B2 V2, Mo_findDust_52 82 k34 iz_FU (nI n) A B (nI m) (nI m) 0 3 V = k34 (nI n) A2 B2 (nI (m + 1)) V2 ∧ fr fmo S V2 ∧ bd_p T 1000000 (mn (bd_k T n) (m + 1)) A2 B2 (V2.1 116) := by
  have lf := bd_lf V m
  have f1 : fr fmo S (bd_l V m) := fr_tr hf (fr_mono lf (fun p i hp => by
    simp only [beq_iff_eq] at hp
    simp [fmo, hp]))
  have e5 : Mo_findDust_52 82 k34 iz_FU (nI n) A B (nI m) (nI m) 0 3 V = _ := mo_52 k34 (iz_FU - 5) (nI n) A B hm V
  have le : (nI (bd_s m) ≤ nI n) = (bd_s m ≤ n) := nI_leP (by have := bd_sl hm; omega) (by omega)
  have e116 : (bd_l V m).1 116 = V.1 116 := funext fun i => lf 116 i rfl
  rw [e5, Mo_findDust_52b, if_pos (show (-1 : Int32) < 0 by decide +kernel)]
  by_cases hn : bd_s m ≤ n
  · have am := hA (bd_l V m) f1 m hm (fun i hi => bd_l4 V m i hi)
    obtain ⟨d1, d2⟩ := bd_c (M := 1000000) (n := n) (L := V.1 116) rfl (show m ≤ 14641 by omega) hP TB (by decide) (by decide) hm
    obtain ⟨W, w1, w2, w3, w4⟩ := mo_133 k34 (nI n) (nI (T m)) (nI (bd_s m)) (nI m) 4 0 iz_FU (bd_l V m) (by omega) (by have := fu_ge; omega)
    have w1' : Mo_findDust_124 82 k34 (nI n) (nI m) (nI (bd_s m)) (nI (T m)) (bd_l V m) = k34 (nI n) (nI (T m)) (nI (bd_s m)) (nI (m + 1)) W := by
      rw [Mo_findDust_124, ← nI_1]
      exact w1
    rw [if_pos (le.mpr hn), am, bI_s]
    by_cases hC : nI (T m) < A ∨ nI (T m) = A ∧ nI (bd_s m) < B
    · refine ⟨nI (T m), nI (bd_s m), W, ?_, fr_tr f1 (fr_mono w4 (fun p i hp => ?_)), ?_⟩
      · by_cases h1 : nI (T m) < A
        · rw [if_pos h1]
          exact w1'
        · have h2 := hC.resolve_left h1
          rw [if_neg h1, if_pos h2.1, if_pos h2.2]
          exact w1'
      · simp only [beq_iff_eq] at hp
        simp [fmo, hp]
      · rw [bd_1 hn, d1 hC]
        exact ⟨rfl, rfl, fun i hi => by rw [w2 i (Nat.zero_le _) hi]; exact bd_l4 V m i hi⟩
    · refine ⟨A, B, bd_l V m, ?_, f1, ?_⟩
      · rw [if_neg (fun h => hC (Or.inl h))]
        by_cases h1 : nI (T m) = A
        · rw [if_pos h1, if_neg (fun h => hC (Or.inr ⟨h1, h⟩)), Mo_findDust_159, nI_1]
        · rw [if_neg h1, Mo_findDust_159, nI_1]
      · rw [bd_1 hn, d2 hC, e116]
        exact hP
  · refine ⟨A, B, bd_l V m, ?_, f1, ?_⟩
    · rw [if_neg (fun h => hn (le.mp h)), Mo_findDust_159, nI_1]
    · rw [bd_u (a := m) (m := m + 1) (by omega) (fun x h1 h2 => by
        obtain rfl : x = m := by omega
        omega), e116]
      exact hP
theorem mo_34 {S : iz_S} {T : Nat → Nat} (hA : amf S T) (TB : ∀ x, T x < 1000000) {n : Nat} (n40 : n ≤ 40) : ∀ (j m F : Nat) (A B : Int32) (V : iz_S), m + j = 14641 → j < F → fr fmo S V → bd_p T 1000000 (mn (bd_k T n) m) A B (V.1 116) → ∃ A2 B2 V2, Mo_findDust_34 82 F (nI n) A B (nI m) V = Mo_findDust_168 82 iz_FU A2 0 V2 ∧ fr fmo S V2 ∧ bd_p T 1000000 (mn (bd_k T n) 14641) A2 B2 (V2.1 116) := by
  intro j
  induction j with
  | zero =>
    intro m F A B V hj hF hf hP
    obtain ⟨F, rfl⟩ : ∃ k, F = k + 1 := ⟨F - 1, by omega⟩
    obtain rfl : m = 14641 := hj
    refine ⟨A, B, V, ?_, hf, hP⟩
    show Mo_findDust_34b 82 (Mo_findDust_34 82 F) (nI n) A B (nI 14641) V = _
    rw [Mo_findDust_34b, if_neg (show ¬ nI 14641 < 14641 by decide +kernel)]
  | succ j ih =>
    intro m F A B V hj hF hf hP
    obtain ⟨F, rfl⟩ : ∃ k, F = k + 1 := ⟨F - 1, by omega⟩
    have lt : nI m < 14641 := nI_lt (b := 14641) (by omega) (by decide)
    obtain ⟨A2, B2, V2, a1, a2, a3⟩ := mo_34s hA TB n40 (m := m) (by omega) (Mo_findDust_34 82 F) hf hP
    obtain ⟨A3, B3, V3, b1, b2, b3⟩ := ih (m + 1) F A2 B2 V2 (by omega) (by omega) a2 a3
    refine ⟨A3, B3, V3, ?_, b2, b3⟩
    show Mo_findDust_34b 82 (Mo_findDust_34 82 F) (nI n) A B (nI m) V = _
    rw [Mo_findDust_34b, if_pos lt]
    exact Eq.trans a1 b1
theorem mo_168 (A : Int32) : ∀ (j i F : Nat) (S : iz_S), i + j = 4 → j < F → ∃ S2, Mo_findDust_168 82 F A (nI i) S = some (A, S2) ∧ (∀ k, i ≤ k → k < 4 → S2.1 92 k = S.1 115 k) ∧ (∀ k, k < i → S2.1 92 k = S.1 92 k) ∧ fr (fun p _ => p == 92) S S2 := by
  intro j
  induction j with
  | zero =>
    intro i F S hj hF
    obtain ⟨F, rfl⟩ : ∃ k, F = k + 1 := ⟨F - 1, by omega⟩
    have lt : ¬ nI i < 4 := nI_nlt (b := 4) (by omega) (by omega)
    refine ⟨S, ?_, fun k h1 h2 => by omega, fun _ _ => rfl, fr_rf _ _⟩
    show Mo_findDust_168b 82 (Mo_findDust_168 82 F) A (nI i) S = _
    rw [Mo_findDust_168b, if_neg lt]
  | succ j ih =>
    intro i F S hj hF
    obtain ⟨F, rfl⟩ : ∃ k, F = k + 1 := ⟨F - 1, by omega⟩
    have lt : nI i < 4 := nI_lt (b := 4) (by omega) (by decide)
    have i1 := in_ok (n := i) (N := 4) (by omega) (by decide)
    obtain ⟨S2, a1, a2, a3, a4⟩ := ih (i + 1) F (iz_up S 92 i (S.1 115 i)) (by omega) (by omega)
    refine ⟨S2, ?_, fun k h1 h2 => ?_, fun k hk => ?_, fr_tr (fr_up (fr_rf _ _) rfl) a4⟩
    · show Mo_findDust_168b 82 (Mo_findDust_168 82 F) A (nI i) S = _
      rw [Mo_findDust_168b, if_pos lt, i1, ck_t, ck_t, lt_e, show iz_rf 82 41 = 115 from rfl, show iz_rf 82 10 = 92 from rfl, s_nI _ _ (show i < 2 ^ 31 by omega), g_nI _ _ (show i < 2 ^ 31 by omega), nI_1]
      exact a1
    · by_cases e : k = i
      · subst e
        rw [a3 k (by omega), up_same]
      · rw [a2 k (by omega) h2, up_p _ _ _ _ (by decide)]
    · rw [a3 k (by omega), up_ne _ _ _ _ (Or.inr (by omega))]
theorem mo_fd2 (n : Int32) : ∀ (j i F : Nat) (S : iz_S), i + j = 4 → j < F → ∃ S2, Mo_findDust_2 82 F n (nI i) S = Mo_findDust_34 82 iz_FU n 1000000 1000000 0 S2 ∧ (∀ k, i ≤ k → k < 4 → S2.1 115 k = S.1 92 k) ∧ (∀ k, k < i → S2.1 115 k = S.1 115 k) ∧ fr (fun p _ => p == 115) S S2 := by
  intro j
  induction j with
  | zero =>
    intro i F S hj hF
    obtain ⟨F, rfl⟩ : ∃ k, F = k + 1 := ⟨F - 1, by omega⟩
    have lt : ¬ nI i < 4 := nI_nlt (b := 4) (by omega) (by omega)
    refine ⟨S, ?_, fun k h1 h2 => by omega, fun _ _ => rfl, fr_rf _ _⟩
    show Mo_findDust_2b 82 (Mo_findDust_2 82 F) n (nI i) S = _
    rw [Mo_findDust_2b, if_neg lt]
  | succ j ih =>
    intro i F S hj hF
    obtain ⟨F, rfl⟩ : ∃ k, F = k + 1 := ⟨F - 1, by omega⟩
    have lt : nI i < 4 := nI_lt (b := 4) (by omega) (by decide)
    have i1 := in_ok (n := i) (N := 4) (by omega) (by decide)
    obtain ⟨S2, a1, a2, a3, a4⟩ := ih (i + 1) F (iz_up S 115 i (S.1 92 i)) (by omega) (by omega)
    refine ⟨S2, ?_, fun k h1 h2 => ?_, fun k hk => ?_, fr_tr (fr_up (fr_rf _ _) rfl) a4⟩
    · show Mo_findDust_2b 82 (Mo_findDust_2 82 F) n (nI i) S = _
      rw [Mo_findDust_2b, if_pos lt, i1, ck_t, ck_t, lt_e, show iz_rf 82 41 = 115 from rfl, show iz_rf 82 10 = 92 from rfl, s_nI _ _ (show i < 2 ^ 31 by omega), g_nI _ _ (show i < 2 ^ 31 by omega), nI_1]
      exact a1
    · by_cases e : k = i
      · subst e
        rw [a3 k (by omega), up_same]
      · rw [a2 k (by omega) h2, up_p _ _ _ _ (by decide)]
    · rw [a3 k (by omega), up_ne _ _ _ _ (Or.inr (by omega))]
