/-! PURE: sales, the reference's half -/
theorem mo_fin {S S1 V T : iz_S} (h : rl S) {x : Int32} (hx : ¬ x < 0) {N : Nat} {col : Nat → Nat} {F : sl_B} (n16 : N ≤ 16) (w3 : S.1 82 26 = nI N) (w4 : ∀ i, i < N → S.1 80 i = S.1 105 i) (hg : clg (S.1 80) N col) (a1 : S1.1 79 0 = 0) (a2 : fr fsx S S1) (p2 : sa_d V (fun _ => false) (fun _ => 0) [] F) (p3 : fr fsc S1 V)
    (p8 : ∀ U, (∀ p i, fch2 p i = false → ¬ (p = 79 ∧ i = 0) → ¬ (p = 82 ∧ i = 26) → p ≠ 81 → U.1 p i = S.1 p i) → (∀ k, k < 10 → U.1 100 k = S.1 100 k) → (∀ c, U.1 91 c = S.1 91 c) → U.1 82 32 = nI N → U.1 82 46 = 0 → U.1 82 45 = 0 → (∀ p, p < N → U.1 109 p = nI (col p)) → ∃ U2, Mo_trySales 10 82 0 0 U = some U2 ∧ U2.1 82 46 = nI F.1 ∧ U2.1 82 45 = nI F.2.length ∧ (∀ i y, F.2[i]? = some y → U2.1 118 (2 * i) = nI y.1 ∧ U2.1 118 (2 * i + 1) = nI (col y.2)) ∧ (∀ k, k < 10 → U2.1 100 k = S.1 100 k) ∧ (∀ c, c < 16 → U2.1 91 c = S.1 91 c) ∧ fr fsmr U U2)
    (hT : ∀ p i, ¬ (p = 81 ∧ i = 2) → T.1 p i = V.1 p i) : ∃ U2, Mo_sales 82 x T = (if x < 2 then (if x = 0 then some (nI F.1, U2) else some (nI F.2.length, U2)) else if x - 2 < (2 : Int32) * nI F.2.length then iz_ck (iz_in (x - 2) 8) (some (iz_g U2 118 (x - 2), U2)) else iz_bI (Mo_finding 82 2 U2) (fun r S => some (r, S))) ∧ (∀ i y, F.2[i]? = some y → U2.1 118 (2 * i) = nI y.1 ∧ U2.1 118 (2 * i + 1) = nI (col y.2)) ∧ U2.1 79 0 = 0 ∧ U2.1 82 26 = 0 ∧ (∀ k, k < 10 → U2.1 100 k = S.1 100 k) ∧ (∀ c, c < 16 → U2.1 91 c = S.1 91 c) ∧ (∀ i, i < 10 → U2.1 51 i = 0) ∧ (∀ i, i < 3 → U2.1 52 i = 0) ∧ U2.1 81 2 = T.1 81 2 ∧ ∀ p i, fch2 p i = false → ¬ (p = 79 ∧ i = 0) → ¬ (p = 82 ∧ i = 26) → ¬ (p = 81 ∧ i = 2) → U2.1 p i = S.1 p i := by
  have tS : ∀ p i, fch2 p i = false → ¬ (p = 79 ∧ i = 0) → ¬ (p = 81 ∧ i = 2) → T.1 p i = S.1 p i := fun p i q1 q2 q3 => by
    simp only [fch2, Bool.or_eq_false_iff, Bool.and_eq_false_iff, beq_eq_false_iff_ne] at q1
    rw [hT p i q3, p3 p i (by simp only [fsc, Bool.or_eq_false_iff, Bool.and_eq_false_iff, beq_eq_false_iff_ne]; omega), a2 p i (by simp only [fsx, Bool.or_eq_false_iff, Bool.and_eq_false_iff, beq_eq_false_iff_ne]; omega)]
  have x105 : ∀ k, k < N → T.1 105 k = S.1 80 k := fun k hk => by rw [tS 105 k rfl (by omega) (by omega)]; exact (w4 k hk).symm
  obtain ⟨S4, c1, c2, c3⟩ := mo_ttake (S := T) (x := x) hx (by rw [tS 82 26 rfl (by omega) (by omega)]; exact w3) n16
  rcases c3 with ⟨col', d1, d2, d3⟩ | ⟨d1, d2⟩
  · obtain ⟨U, hU⟩ : ∃ U, U = iz_up (iz_up (iz_up S4 82 32 (nI N)) 82 46 0) 82 45 0 := ⟨_, rfl⟩
    have u4 : ∀ p i, ¬ (p = 82 ∧ (i = 32 ∨ i = 46 ∨ i = 45)) → U.1 p i = S4.1 p i := fun p i q => by rw [hU, up_ne _ _ _ _ (by omega), up_ne _ _ _ _ (by omega), up_ne _ _ _ _ (by omega)]
    have uS : ∀ p i, fch2 p i = false → ¬ (p = 79 ∧ i = 0) → ¬ (p = 82 ∧ i = 26) → ¬ (p = 81 ∧ i = 2) → U.1 p i = S.1 p i := fun p i q1 q2 q3 q4 => by
      have q1' := q1
      simp only [fch2, Bool.or_eq_false_iff, Bool.and_eq_false_iff, beq_eq_false_iff_ne] at q1'
      rw [u4 p i (by omega), c2 p i (by simp only [fsm, Bool.or_eq_false_iff, Bool.and_eq_false_iff, beq_eq_false_iff_ne]; omega), tS p i q1 q2 q4]
    have u100 : ∀ p i, p = 100 ∨ p = 91 → U.1 p i = S.1 p i := fun p i q => by
      rw [u4 p i (by omega), c2 p i (by simp only [fsm, Bool.or_eq_false_iff, Bool.and_eq_false_iff, beq_eq_false_iff_ne]; omega), hT p i (by omega), p3 p i (by simp only [fsc, Bool.or_eq_false_iff, Bool.and_eq_false_iff, beq_eq_false_iff_ne]; omega), a2 p i (by simp only [fsx, Bool.or_eq_false_iff, Bool.and_eq_false_iff, beq_eq_false_iff_ne]; omega)]
    have u51 : ∀ p i, p = 51 ∨ p = 52 → U.1 p i = V.1 p i := fun p i q => by
      rw [u4 p i (by omega), c2 p i (by simp only [fsm, Bool.or_eq_false_iff, Bool.and_eq_false_iff, beq_eq_false_iff_ne]; omega), hT p i (by omega)]
    obtain ⟨U2, e1, e2, e3, e4, e5, e6, e7⟩ := p8 U (fun p i q1 q2 q3 q4 => uS p i q1 q2 q3 (fun z => q4 z.1)) (fun k _ => u100 100 k (Or.inl rfl)) (fun c => u100 91 c (Or.inr rfl)) (by rw [hU, up_ne _ _ _ _ (by omega), up_ne _ _ _ _ (by omega), up_same]) (by rw [hU, up_ne _ _ _ _ (by omega), up_same]) (by rw [hU, up_same]) (fun p hp => by
      rw [u4 109 p (by omega), d3 p hp, ← (d2.2.2.2 p hp).2, x105 p hp]; exact (hg.2.2.2 p hp).2)
    refine ⟨U2, ?_, e4, ?_, ?_, e5, e6, fun i hi => ?_, fun i hi => ?_, ?_, fun p i q1 q2 q3 q4 => ?_⟩
    · rw [d1, Mo_sales_112, if_neg (by decide), lt_e, lt_e, lt_e, ← hU, e1, bV_s, e2, e3, Mo_sales_163, Mo_sales_163, Mo_sales_192, show iz_rf 82 44 = 118 from rfl]
      rfl
    · rw [e7 79 0 rfl, u4 79 0 (by omega), c2 79 0 rfl, hT 79 0 (by omega), p3 79 0 rfl]; exact a1
    · rw [e7 82 26 rfl, u4 82 26 (by omega)]; exact c1
    · rw [e7 51 i rfl, u51 51 i (Or.inl rfl), p2.1 i hi]; rfl
    · rw [e7 52 i rfl, u51 52 i (Or.inr rfl), p2.2.1 i hi]; rfl
    · rw [e7 81 2 rfl, u4 81 2 (by omega), c2 81 2 rfl]
    · rw [e7 p i (by
        simp only [fch2, Bool.or_eq_false_iff, Bool.and_eq_false_iff, beq_eq_false_iff_ne] at q1
        simp only [fsmr, Bool.or_eq_false_iff, Bool.and_eq_false_iff, beq_eq_false_iff_ne]; omega)]
      exact uS p i q1 q2 q3 q4
  · exfalso
    obtain ⟨g1, g2, g3, g4⟩ := hg
    refine d2 ⟨col, g1, g2, ?_, fun k hk => ⟨(g4 k hk).1, by rw [x105 k hk]; exact (g4 k hk).2⟩⟩
    rintro ⟨i, k, q1, q2, q3⟩
    rw [x105 i (by omega), x105 k q2] at q3
    exact g3 ⟨i, k, q1, q2, q3⟩
