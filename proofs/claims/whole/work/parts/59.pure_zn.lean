/-! PURE: the trial house; what the reference lays aside -/
theorem ho_like (S : iz_S) : ∃ S2, Ho_becomeLike 19 13 S = some S2 ∧ S2.1 19 0 = S.1 13 0 ∧ S2.1 19 5 = S.1 13 5 ∧ (∀ i, i < 60 → S2.1 20 i = S.1 14 i ∧ S2.1 21 i = S.1 15 i ∧ S2.1 22 i = S.1 16 i) ∧ (∀ i, i < 16 → S2.1 23 i = S.1 17 i) ∧ (∀ i, i < 96 → S2.1 24 i = S.1 18 i) ∧ fr (fun p _ => p == 19 || p == 20 || p == 21 || p == 22 || p == 23 || p == 24) S S2 := by
  have k60 : iz_cpk 0 0 60 60 60 = true := by decide +kernel
  have k16 : iz_cpk 0 0 16 16 16 = true := by decide +kernel
  have k96 : iz_cpk 0 0 96 96 96 = true := by decide +kernel
  have t0 : Int32.toNatClampNeg 0 = 0 := by decide +kernel
  have t60 : Int32.toNatClampNeg 60 = 60 := by decide +kernel
  have t16 : Int32.toNatClampNeg 16 = 16 := by decide +kernel
  have t96 : Int32.toNatClampNeg 96 = 96 := by decide +kernel
  have cp : ∀ (T : iz_S) (p q n r : Nat), r ≠ q → (iz_cpy T p 0 q 0 n).1 r = T.1 r := fun T p q n r h => if_neg h
  have ci : ∀ (T : iz_S) (p q n i : Nat), i < n → (iz_cpy T p 0 q 0 n).1 q i = T.1 p i := fun T p q n i h => by
    have : (iz_cpy T p 0 q 0 n).1 q = va_cpy (T.1 p) (T.1 q) 0 0 n := if_pos rfl
    rw [this, pk_cpy_in (Nat.zero_le _) (by omega), Nat.zero_add, Nat.sub_zero]
  refine ⟨iz_cpy (iz_cpy (iz_cpy (iz_cpy (iz_cpy (iz_up (iz_up S 19 0 (S.1 13 0)) 19 5 ((iz_up S 19 0 (S.1 13 0)).1 13 5)) 14 0 20 0 60) 15 0 21 0 60) 16 0 22 0 60) 17 0 23 0 16) 18 0 24 0 96, by simp only [Ho_becomeLike, k60, k16, k96, t0, t60, t16, t96, ck_t, lt_e, bI_s, bL_s, bV_s, one_n0, zero_0, if_true, if_false, rfs], ?_, ?_, ?_, ?_, ?_, ?_⟩
  · rw [cp _ _ _ _ _ (by decide), cp _ _ _ _ _ (by decide), cp _ _ _ _ _ (by decide), cp _ _ _ _ _ (by decide), cp _ _ _ _ _ (by decide), up_ne _ _ _ _ (Or.inr (by decide)), up_same]
  · rw [cp _ _ _ _ _ (by decide), cp _ _ _ _ _ (by decide), cp _ _ _ _ _ (by decide), cp _ _ _ _ _ (by decide), cp _ _ _ _ _ (by decide), up_same, up_p _ _ _ _ (by decide)]
  · intro i hi
    refine ⟨?_, ?_, ?_⟩
    · rw [cp _ _ _ _ _ (by decide), cp _ _ _ _ _ (by decide), cp _ _ _ _ _ (by decide), cp _ _ _ _ _ (by decide), ci _ _ _ _ _ hi, up_p _ _ _ _ (by decide), up_p _ _ _ _ (by decide)]
    · rw [cp _ _ _ _ _ (by decide), cp _ _ _ _ _ (by decide), cp _ _ _ _ _ (by decide), ci _ _ _ _ _ hi, cp _ _ _ _ _ (by decide), up_p _ _ _ _ (by decide), up_p _ _ _ _ (by decide)]
    · rw [cp _ _ _ _ _ (by decide), cp _ _ _ _ _ (by decide), ci _ _ _ _ _ hi, cp _ _ _ _ _ (by decide), cp _ _ _ _ _ (by decide), up_p _ _ _ _ (by decide), up_p _ _ _ _ (by decide)]
  · intro i hi
    rw [cp _ _ _ _ _ (by decide), ci _ _ _ _ _ hi, cp _ _ _ _ _ (by decide), cp _ _ _ _ _ (by decide), cp _ _ _ _ _ (by decide), up_p _ _ _ _ (by decide), up_p _ _ _ _ (by decide)]
  · intro i hi
    rw [ci _ _ _ _ _ hi, cp _ _ _ _ _ (by decide), cp _ _ _ _ _ (by decide), cp _ _ _ _ _ (by decide), cp _ _ _ _ _ (by decide), up_p _ _ _ _ (by decide), up_p _ _ _ _ (by decide)]
  · intro p i hp
    simp only [Bool.or_eq_false_iff, beq_eq_false_iff_ne] at hp
    obtain ⟨⟨⟨⟨⟨p1, p2⟩, p3⟩, p4⟩, p5⟩, p6⟩ := hp
    rw [cp _ _ _ _ _ p6, cp _ _ _ _ _ p5, cp _ _ _ _ _ p4, cp _ _ _ _ _ p3, cp _ _ _ _ _ p2, up_p _ _ _ _ p1, up_p _ _ _ _ p1]
def ftr (p : Nat) (_ : Nat) : Bool := p == 19 || p == 20 || p == 21 || p == 22 || p == 23 || p == 24
theorem hvc_like {S : iz_S} {B w : Nat} {kd wt : Nat → Nat} {sh : Nat → Bool} {col : Nat → List Nat} (h : hvc S 13 B w kd wt sh col) (hi : hvi B w kd wt sh col) : ∃ S2, Ho_becomeLike 19 13 S = some S2 ∧ hvc S2 19 B w kd wt sh col ∧ fr ftr S S2 := by
  obtain ⟨S2, a1, a2, a3, a4, a5, a6, a7⟩ := ho_like S
  have B60 := hi.1
  refine ⟨S2, a1, ⟨a2.trans h.1, a3.trans h.2.1, fun i hiB => ?_, fun c hc => ?_, fun c l hc hl => ?_⟩, a7⟩
  · have q := h.2.2.1 i hiB
    obtain ⟨e1, e2, e3⟩ := a4 i (by omega)
    refine ⟨e1.trans q.1, e2.trans q.2.1, e3.trans q.2.2⟩
  · exact (a5 c hc).trans (h.2.2.2.1 c hc)
  · have l6 := (hi.2.2.2.1 c hc).1
    unfold hl_h at hl
    exact (a6 (6 * c + l) (by omega)).trans (h.2.2.2.2 c l hc hl)
theorem lays_in {p L o : Nat} (hp : p ≠ 82 ∧ p ≠ 114) (hL : (iz_sh p).2 = L) (ho : o + L ≤ 320) : ∀ (j k n : Nat) (S : iz_S), k + j = L → j < n → S.1 82 39 = nI (o + k) →
    ∃ S2, Mo_lays_2 82 p n 1 (nI k) S = some S2 ∧ S2.1 82 39 = nI (o + L) ∧ (∀ i, k ≤ i → i < L → S2.1 114 (o + i) = S.1 p i) ∧ fr (fun q i => (q == 82 && i == 39) || (q == 114 && decide (o + k ≤ i ∧ i < o + L))) S S2 := by
  intro j
  have r38 : iz_rf 82 38 = 114 := rfl
  induction j with
  | zero =>
    intro k n S hk hn hS
    obtain ⟨m, rfl⟩ : ∃ m, n = m + 1 := ⟨n - 1, by omega⟩
    have lt : ¬ nI k < Int32.ofNat L := nI_nlt (b := L) (by omega) (by omega)
    refine ⟨S, ?_, by rw [hS, show o + k = o + L by omega], fun i h1 h2 => by omega, fr_rf _ _⟩
    show Mo_lays_2b 82 p (Mo_lays_2 82 p m) 1 (nI k) S = _
    rw [Mo_lays_2b, hL, if_neg lt]
  | succ j ih =>
    intro k n S hk hn hS
    obtain ⟨m, rfl⟩ : ∃ m, n = m + 1 := ⟨n - 1, by omega⟩
    have lt : nI k < Int32.ofNat L := nI_lt (b := L) (by omega) (by omega)
    have i1 := in_ok (n := k) (N := L) (by omega) (by omega)
    have i2 := in_ok (n := o + k) (N := 320) (by omega) (by decide)
    have n1 : ¬ (1 : Int32) = 0 := by decide
    obtain ⟨T, hT⟩ : ∃ T, T = iz_up (iz_up S 114 (o + k) (S.1 p k)) 82 39 (nI (o + k) + 1) := ⟨_, rfl⟩
    have fT : fr (fun q i => (q == 82 && i == 39) || (q == 114 && i == o + k)) S T := by
      rw [hT]
      exact fr_up (fr_up (fr_rf _ _) (by simp)) (by simp)
    obtain ⟨S2, a1, a2, a3, a4⟩ := ih (k + 1) m T (by omega) (by omega) (by rw [hT, up_same, nI_1]; rfl)
    refine ⟨S2, ?_, a2, fun i h1 h2 => ?_, fr_tr (fr_mono fT ?_) (fr_mono a4 ?_)⟩
    · rw [← a1]
      show Mo_lays_2b 82 p (Mo_lays_2 82 p m) 1 (nI k) S = _
      have u : (iz_up S 114 (o + k) (S.1 p k)).1 82 39 = nI (o + k) := by rw [up_p _ _ _ _ (by decide)]; exact hS
      rw [Mo_lays_2b, hL, if_pos lt, if_neg n1, i1, ck_t, hS, i2, ck_t, lt_e, r38, g_nI _ _ (show k < 2 ^ 31 by omega), s_nI _ _ (show o + k < 2 ^ 31 by omega), Mo_lays_39, lt_e, u, ← hT, nI_1]
    · by_cases e : i = k
      · subst e
        rw [a4 114 (o + i) (by simp; omega), hT, up_p _ _ _ _ (by decide), up_same]
      · rw [a3 i (by omega) h2]
        exact fT p i (by simp [hp.1, hp.2])
    · intro q i hq
      simp only [Bool.or_eq_true, Bool.and_eq_true, beq_iff_eq, decide_eq_true_eq] at hq ⊢
      omega
    · intro q i hq
      simp only [Bool.or_eq_true, Bool.and_eq_true, beq_iff_eq, decide_eq_true_eq] at hq ⊢
      omega
theorem lays_out {p L o : Nat} (hp : p ≠ 82 ∧ p ≠ 114) (hL : (iz_sh p).2 = L) (ho : o + L ≤ 320) : ∀ (j k n : Nat) (S : iz_S), k + j = L → j < n → S.1 82 39 = nI (o + k) →
    ∃ S2, Mo_lays_2 82 p n 0 (nI k) S = some S2 ∧ S2.1 82 39 = nI (o + L) ∧ (∀ i, k ≤ i → i < L → S2.1 p i = S.1 114 (o + i)) ∧ fr (fun q i => (q == 82 && i == 39) || (q == p && decide (k ≤ i ∧ i < L))) S S2 := by
  intro j
  have r38 : iz_rf 82 38 = 114 := rfl
  induction j with
  | zero =>
    intro k n S hk hn hS
    obtain ⟨m, rfl⟩ : ∃ m, n = m + 1 := ⟨n - 1, by omega⟩
    have lt : ¬ nI k < Int32.ofNat L := nI_nlt (b := L) (by omega) (by omega)
    refine ⟨S, ?_, by rw [hS, show o + k = o + L by omega], fun i h1 h2 => by omega, fr_rf _ _⟩
    show Mo_lays_2b 82 p (Mo_lays_2 82 p m) 0 (nI k) S = _
    rw [Mo_lays_2b, hL, if_neg lt]
  | succ j ih =>
    intro k n S hk hn hS
    obtain ⟨m, rfl⟩ : ∃ m, n = m + 1 := ⟨n - 1, by omega⟩
    have lt : nI k < Int32.ofNat L := nI_lt (b := L) (by omega) (by omega)
    have i1 := in_ok (n := k) (N := L) (by omega) (by omega)
    have i2 := in_ok (n := o + k) (N := 320) (by omega) (by decide)
    obtain ⟨T, hT⟩ : ∃ T, T = iz_up (iz_up S p k (S.1 114 (o + k))) 82 39 (nI (o + k) + 1) := ⟨_, rfl⟩
    have fT : fr (fun q i => (q == 82 && i == 39) || (q == p && i == k)) S T := by
      rw [hT]
      exact fr_up (fr_up (fr_rf _ _) (by simp)) (by simp)
    obtain ⟨S2, a1, a2, a3, a4⟩ := ih (k + 1) m T (by omega) (by omega) (by rw [hT, up_same, nI_1]; rfl)
    refine ⟨S2, ?_, a2, fun i h1 h2 => ?_, fr_tr (fr_mono fT ?_) (fr_mono a4 ?_)⟩
    · rw [← a1]
      show Mo_lays_2b 82 p (Mo_lays_2 82 p m) 0 (nI k) S = _
      have u : (iz_up S p k (S.1 114 (o + k))).1 82 39 = nI (o + k) := by rw [up_p _ _ _ _ (fun q => hp.1 q.symm)]; exact hS
      rw [Mo_lays_2b, hL, if_pos lt, if_pos rfl, hS, i2, ck_t, i1, ck_t, lt_e, r38, g_nI _ _ (show o + k < 2 ^ 31 by omega), s_nI _ _ (show k < 2 ^ 31 by omega), Mo_lays_39, lt_e, u, ← hT, nI_1]
    · by_cases e : i = k
      · subst e
        rw [a4 p i (by simp [hp.1]; omega), hT, up_p _ _ _ _ hp.1, up_same]
      · rw [a3 i (by omega) h2]
        exact fT 114 (o + i) (by simp; exact fun q => absurd q.symm hp.2)
    · intro q i hq
      simp only [Bool.or_eq_true, Bool.and_eq_true, beq_iff_eq, decide_eq_true_eq] at hq ⊢
      omega
    · intro q i hq
      simp only [Bool.or_eq_true, Bool.and_eq_true, beq_iff_eq, decide_eq_true_eq] at hq ⊢
      omega
theorem mo_laysI {p L o : Nat} (hp : p ≠ 82 ∧ p ≠ 114) (hL : (iz_sh p).2 = L) (ho : o + L ≤ 320) (S : iz_S) (hS : S.1 82 39 = nI o) : ∃ S2, Mo_lays 82 p 1 S = some S2 ∧ S2.1 82 39 = nI (o + L) ∧ (∀ i, i < L → S2.1 114 (o + i) = S.1 p i) ∧ fr (fun q i => (q == 82 && i == 39) || (q == 114 && decide (o ≤ i ∧ i < o + L))) S S2 := by
  obtain ⟨S2, a1, a2, a3, a4⟩ := lays_in hp hL ho L 0 iz_FU S (by omega) (by have := fu_ge; omega) hS
  exact ⟨S2, a1, a2, fun i hi => a3 i (Nat.zero_le _) hi, a4⟩
theorem mo_laysO {p L o : Nat} (hp : p ≠ 82 ∧ p ≠ 114) (hL : (iz_sh p).2 = L) (ho : o + L ≤ 320) (S : iz_S) (hS : S.1 82 39 = nI o) : ∃ S2, Mo_lays 82 p 0 S = some S2 ∧ S2.1 82 39 = nI (o + L) ∧ (∀ i, i < L → S2.1 p i = S.1 114 (o + i)) ∧ fr (fun q i => (q == 82 && i == 39) || (q == p && decide (0 ≤ i ∧ i < L))) S S2 := by
  obtain ⟨S2, a1, a2, a3, a4⟩ := lays_out hp hL ho L 0 iz_FU S (by omega) (by have := fu_ge; omega) hS
  exact ⟨S2, a1, a2, fun i hi => a3 i (Nat.zero_le _) hi, a4⟩
theorem mo_asideI (S : iz_S) : ∃ T, Mo_layAside 82 1 S = some T ∧ (∀ i, i < 60 → T.1 114 i = S.1 87 i) ∧ (∀ i, i < 60 → T.1 114 (60 + i) = S.1 88 i) ∧ (∀ i, i < 60 → T.1 114 (120 + i) = S.1 89 i) ∧ (∀ i, i < 96 → T.1 114 (180 + i) = S.1 90 i) ∧ (∀ i, i < 16 → T.1 114 (276 + i) = S.1 91 i) ∧ (∀ i, i < 6 → T.1 114 (292 + i) = S.1 104 i) ∧ T.1 82 40 = S.1 82 13 ∧ fr (fun q i => (q == 82 && (i == 39 || i == 40)) || q == 114) S T := by
  obtain ⟨S0, h0⟩ : ∃ S0, S0 = iz_up S 82 39 0 := ⟨_, rfl⟩
  have f0 : fr (fun q i => q == 82 && i == 39) S S0 := by rw [h0]; exact fr_1
  obtain ⟨S1, a1, a2, a3, a4⟩ := mo_laysI (p := 87) (L := 60) (o := 0) (by decide) (by rw [sh_87]) (by decide) S0 (by rw [h0, up_same]; rfl)
  obtain ⟨S2, b1, b2, b3, b4⟩ := mo_laysI (p := 88) (L := 60) (o := 60) (by decide) (by rw [sh_88]) (by decide) S1 a2
  obtain ⟨S3, c1, c2, c3, c4⟩ := mo_laysI (p := 89) (L := 60) (o := 120) (by decide) (by rw [sh_89]) (by decide) S2 b2
  obtain ⟨S4, d1, d2, d3, d4⟩ := mo_laysI (p := 90) (L := 96) (o := 180) (by decide) (by rw [sh_90]) (by decide) S3 c2
  obtain ⟨S5, e1, e2, e3, e4⟩ := mo_laysI (p := 91) (L := 16) (o := 276) (by decide) (by rw [sh_91]) (by decide) S4 d2
  obtain ⟨S6, g1, g2, g3, g4⟩ := mo_laysI (p := 104) (L := 6) (o := 292) (by decide) (by rw [sh_104]) (by decide) S5 e2
  have n1 : ¬ (1 : Int32) = 0 := by decide
  have f7 : fr (fun q i => q == 82 && i == 40) S6 (iz_up S6 82 40 (S6.1 82 13)) := fr_1
  refine ⟨iz_up S6 82 40 (S6.1 82 13), ?_, ?_, ?_, ?_, ?_, ?_, ?_, ?_, ?_⟩
  · simp only [Mo_layAside, Mo_layAside_82, lt_e, bV_s, rfs, ← h0, a1, b1, c1, d1, e1, g1, if_neg n1]
  · intro i hi
    have := a3 i hi
    rw [Nat.zero_add] at this
    rw [f7 _ _ rfl, g4 _ _ (by simp; omega), e4 _ _ (by simp; omega), d4 _ _ (by simp; omega), c4 _ _ (by simp; omega), b4 _ _ (by simp; omega), this, f0 _ _ rfl]
  · intro i hi
    rw [f7 _ _ rfl, g4 _ _ (by simp; omega), e4 _ _ (by simp; omega), d4 _ _ (by simp; omega), c4 _ _ (by simp; omega), b3 i hi, a4 88 _ rfl, f0 _ _ rfl]
  · intro i hi
    rw [f7 _ _ rfl, g4 _ _ (by simp; omega), e4 _ _ (by simp; omega), d4 _ _ (by simp; omega), c3 i hi, b4 89 _ rfl, a4 89 _ rfl, f0 _ _ rfl]
  · intro i hi
    rw [f7 _ _ rfl, g4 _ _ (by simp; omega), e4 _ _ (by simp; omega), d3 i hi, c4 90 _ rfl, b4 90 _ rfl, a4 90 _ rfl, f0 _ _ rfl]
  · intro i hi
    rw [f7 _ _ rfl, g4 _ _ (by simp; omega), e3 i hi, d4 91 _ rfl, c4 91 _ rfl, b4 91 _ rfl, a4 91 _ rfl, f0 _ _ rfl]
  · intro i hi
    rw [f7 _ _ rfl, g3 i hi, e4 104 _ rfl, d4 104 _ rfl, c4 104 _ rfl, b4 104 _ rfl, a4 104 _ rfl, f0 _ _ rfl]
  · rw [up_same, g4 82 13 rfl, e4 82 13 rfl, d4 82 13 rfl, c4 82 13 rfl, b4 82 13 rfl, a4 82 13 rfl, f0 _ _ rfl]
  · refine fr_tr (fr_tr (fr_tr (fr_tr (fr_tr (fr_tr (fr_tr (fr_mono f0 ?_) (fr_mono a4 ?_)) (fr_mono b4 ?_)) (fr_mono c4 ?_)) (fr_mono d4 ?_)) (fr_mono e4 ?_)) (fr_mono g4 ?_)) (fr_mono f7 ?_) <;>
    · intro p i hp
      simp only [Bool.or_eq_true, Bool.and_eq_true, beq_iff_eq, decide_eq_true_eq] at hp ⊢
      omega
theorem mo_asideO (S : iz_S) : ∃ T, Mo_layAside 82 0 S = some T ∧ (∀ i, i < 60 → T.1 87 i = S.1 114 i) ∧ (∀ i, i < 60 → T.1 88 i = S.1 114 (60 + i)) ∧ (∀ i, i < 60 → T.1 89 i = S.1 114 (120 + i)) ∧ (∀ i, i < 96 → T.1 90 i = S.1 114 (180 + i)) ∧ (∀ i, i < 16 → T.1 91 i = S.1 114 (276 + i)) ∧ (∀ i, i < 6 → T.1 104 i = S.1 114 (292 + i)) ∧ T.1 82 13 = S.1 82 40 ∧ fr (fun q i => (q == 82 && (i == 39 || i == 13)) || ((q == 87 || q == 88 || q == 89) && decide (i < 60)) || (q == 90 && decide (i < 96)) || (q == 91 && decide (i < 16)) || (q == 104 && decide (i < 6))) S T := by
  obtain ⟨S0, h0⟩ : ∃ S0, S0 = iz_up S 82 39 0 := ⟨_, rfl⟩
  have f0 : fr (fun q i => q == 82 && i == 39) S S0 := by rw [h0]; exact fr_1
  obtain ⟨S1, a1, a2, a3, a4⟩ := mo_laysO (p := 87) (L := 60) (o := 0) (by decide) (by rw [sh_87]) (by decide) S0 (by rw [h0, up_same]; rfl)
  obtain ⟨S2, b1, b2, b3, b4⟩ := mo_laysO (p := 88) (L := 60) (o := 60) (by decide) (by rw [sh_88]) (by decide) S1 a2
  obtain ⟨S3, c1, c2, c3, c4⟩ := mo_laysO (p := 89) (L := 60) (o := 120) (by decide) (by rw [sh_89]) (by decide) S2 b2
  obtain ⟨S4, d1, d2, d3, d4⟩ := mo_laysO (p := 90) (L := 96) (o := 180) (by decide) (by rw [sh_90]) (by decide) S3 c2
  obtain ⟨S5, e1, e2, e3, e4⟩ := mo_laysO (p := 91) (L := 16) (o := 276) (by decide) (by rw [sh_91]) (by decide) S4 d2
  obtain ⟨S6, g1, g2, g3, g4⟩ := mo_laysO (p := 104) (L := 6) (o := 292) (by decide) (by rw [sh_104]) (by decide) S5 e2
  have f7 : fr (fun q i => q == 82 && i == 13) S6 (iz_up S6 82 13 (S6.1 82 40)) := fr_1
  refine ⟨iz_up S6 82 13 (S6.1 82 40), ?_, ?_, ?_, ?_, ?_, ?_, ?_, ?_, ?_⟩
  · simp only [Mo_layAside, Mo_layAside_82, lt_e, bV_s, rfs, ← h0, a1, b1, c1, d1, e1, g1, if_true]
  · intro i hi
    have := a3 i hi
    rw [Nat.zero_add] at this
    rw [f7 _ _ rfl, g4 87 _ rfl, e4 87 _ rfl, d4 87 _ rfl, c4 87 _ rfl, b4 87 _ rfl, this, f0 _ _ rfl]
  · intro i hi
    rw [f7 _ _ rfl, g4 88 _ rfl, e4 88 _ rfl, d4 88 _ rfl, c4 88 _ rfl, b3 i hi, a4 114 _ rfl, f0 _ _ rfl]
  · intro i hi
    rw [f7 _ _ rfl, g4 89 _ rfl, e4 89 _ rfl, d4 89 _ rfl, c3 i hi, b4 114 _ rfl, a4 114 _ rfl, f0 _ _ rfl]
  · intro i hi
    rw [f7 _ _ rfl, g4 90 _ rfl, e4 90 _ rfl, d3 i hi, c4 114 _ rfl, b4 114 _ rfl, a4 114 _ rfl, f0 _ _ rfl]
  · intro i hi
    rw [f7 _ _ rfl, g4 91 _ rfl, e3 i hi, d4 114 _ rfl, c4 114 _ rfl, b4 114 _ rfl, a4 114 _ rfl, f0 _ _ rfl]
  · intro i hi
    rw [f7 _ _ rfl, g3 i hi, e4 114 _ rfl, d4 114 _ rfl, c4 114 _ rfl, b4 114 _ rfl, a4 114 _ rfl, f0 _ _ rfl]
  · rw [up_same, g4 82 40 rfl, e4 82 40 rfl, d4 82 40 rfl, c4 82 40 rfl, b4 82 40 rfl, a4 82 40 rfl, f0 _ _ rfl]
  · refine fr_tr (fr_tr (fr_tr (fr_tr (fr_tr (fr_tr (fr_tr (fr_mono f0 ?_) (fr_mono a4 ?_)) (fr_mono b4 ?_)) (fr_mono c4 ?_)) (fr_mono d4 ?_)) (fr_mono e4 ?_)) (fr_mono g4 ?_)) (fr_mono f7 ?_) <;>
    · intro p i hp
      simp only [Bool.or_eq_true, Bool.and_eq_true, beq_iff_eq, decide_eq_true_eq] at hp ⊢
      omega
/-- what may differ once all is laid back -/
def fas (p i : Nat) : Bool := (p == 82 && (i == 39 || i == 40)) || p == 113 || p == 114 || ((p == 87 || p == 88 || p == 89) && decide (60 ≤ i)) || (p == 90 && decide (96 ≤ i)) || (p == 91 && decide (16 ≤ i)) || (p == 104 && decide (6 ≤ i))
/-- aside, weeks, back -/
theorem mo_back {S T U : iz_S} (h1 : Mo_layAside 82 1 S = some T) (h2 : fr fhm T U) : ∃ V, Mo_layAside 82 0 U = some V ∧ fr fas S V := by
  obtain ⟨T', a0, a1, a2, a3, a4, a5, a6, a7, a8⟩ := mo_asideI S
  obtain rfl : T = T' := Option.some.inj (h1.symm.trans a0)
  obtain ⟨V, b0, b1, b2, b3, b4, b5, b6, b7, b8⟩ := mo_asideO U
  refine ⟨V, b0, fun p i hp => ?_⟩
  have u114 : ∀ k, U.1 114 k = T.1 114 k := fun k => h2 114 k rfl
  simp only [fas, Bool.or_eq_false_iff, Bool.and_eq_false_iff, beq_eq_false_iff_ne, decide_eq_false_iff_not] at hp
  obtain ⟨⟨⟨⟨⟨⟨p1, p2⟩, p3⟩, p4⟩, p5⟩, p6⟩, p7⟩ := hp
  by_cases e1 : p = 87
  · subst e1
    have hi : i < 60 := by omega
    rw [b1 i hi, u114, a1 i hi]
  · by_cases e2 : p = 88
    · subst e2
      have hi : i < 60 := by omega
      rw [b2 i hi, u114, a2 i hi]
    · by_cases e3 : p = 89
      · subst e3
        have hi : i < 60 := by omega
        rw [b3 i hi, u114, a3 i hi]
      · by_cases e4 : p = 90
        · subst e4
          have hi : i < 96 := by omega
          rw [b4 i hi, u114, a4 i hi]
        · by_cases e5 : p = 91
          · subst e5
            have hi : i < 16 := by omega
            rw [b5 i hi, u114, a5 i hi]
          · by_cases e6 : p = 104
            · subst e6
              have hi : i < 6 := by omega
              rw [b6 i hi, u114, a6 i hi]
            · by_cases e7 : p = 82 ∧ i = 13
              · obtain ⟨rfl, rfl⟩ := e7
                rw [b7, h2 82 40 rfl, a7]
              · rw [b8 p i (by simp [e1, e2, e3, e4, e5, e6]; omega), h2 p i (by simp [fhm, e1, e2, e3, e4, e5, e6, p2]; omega), a8 p i (by simp [p3]; omega)]
theorem rl_as {S S1 V : iz_S} (h : rl S) (f1 : fr ftr S S1) (f2 : fr fas S1 V) : rl V := by
  have hf : fr (fun p i => ftr p i || fas p i) S V := fr_or f1 f2
  obtain ⟨B, w, kd, wt, sh, col, hc, hm, hi, hw, hs, hl⟩ := house_l h.2.2.1
  have B60 := hi.1
  have l6 := fun c hc => (hi.2.2.2.1 c hc).1
  refine ⟨st_lake hf (fun _ => ⟨rfl, rfl, rfl, rfl, rfl, rfl⟩) h.1, st_shel hf (fun _ => ⟨rfl, rfl, rfl, rfl, rfl, rfl⟩) h.2.1, l_house (B := B) (w := w) (kd := kd) (wt := wt) (sh := sh) (col := col) ⟨hvc_st hc hi hf rfl rfl (fun i => ⟨rfl, rfl, rfl, rfl, rfl⟩), ⟨(hf _ _ rfl).trans hm.1, (hf _ _ rfl).trans hm.2.1, hvg_st hm.2.2.1 ?_ ?_ ?_ ?_ ?_ l6, ?_, ?_⟩, hi, hw, hs, ?_⟩, st_ord hf (fun _ => ⟨rfl, rfl, rfl, rfl, rfl, rfl, rfl, rfl, rfl, rfl, rfl, rfl, rfl⟩) rfl rfl h.2.2.2.1, st_rail hf (fun _ => ⟨rfl, rfl, rfl, rfl, rfl, rfl, rfl⟩) rfl h.2.2.2.2.1, st_wait hf (fun _ => ⟨rfl, rfl, rfl⟩) rfl h.2.2.2.2.2.1, st_sale hf (fun _ => ⟨rfl, rfl⟩) h.2.2.2.2.2.2.1, st_found hf (fun _ => ⟨rfl, rfl⟩) h.2.2.2.2.2.2.2⟩
  · exact fun i _ => hf _ _ rfl
  · exact fun i hiB => hf _ _ (by simp [ftr, fas]; omega)
  · exact fun i hiB => hf _ _ (by simp [ftr, fas]; omega)
  · exact fun i hiB => hf _ _ (by simp [ftr, fas]; omega)
  · exact fun i hiB => hf _ _ (by simp [ftr, fas]; omega)
  · intro c i q1 q2
    have := (hi.2.2.2.2.1 c i q1 q2).1
    rw [hf _ _ (by simp [ftr, fas]; omega)]
    exact hm.2.2.2.1 c i q1 q2
  · intro i q1 q2
    rw [hf _ _ (by simp [ftr, fas]; omega)]
    exact hm.2.2.2.2 i q1 q2
  · intro i i5
    rw [hf 104 i (by simp [ftr, fas]; omega), hf 13 _ rfl]
    exact hl i i5
