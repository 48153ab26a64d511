/-! PURE: season, both -/
theorem opu_0 (sq : Nat → Nat) : ∀ (n c : Nat), opu sq n 0 c = false
  | 0, _ => rfl
  | n + 1, c => by rw [opu, opu_0 sq n c]; simp
theorem cnt_0 : ∀ n, cnt n 0 = 0
  | 0 => rfl
  | n + 1 => by
    have := cnt_0 n
    unfold cnt at this ⊢
    rw [fa_ct, this]
    simp
theorem pc_season {S : iz_S} (h : rl S) (x : Int32) : pc (Ic_season 0 x) (Mo_season 82 x) S := by
  by_cases hx : x < 0
  · refine pc_of (r := -1000001) (S1 := iz_up S 81 1 (S.1 81 1 + 1)) ?_ ?_ (rl_find (k := 1) h)
    · rw [Ic_season, if_pos hx, ic_f1, bI_s]
    · rw [Mo_season, if_pos hx, mo_f1, bI_s]
  · obtain ⟨n, n16, w2, w3, w4⟩ := id h.2.2.2.2.2.1
    obtain ⟨S1, a1, a2, a3⟩ := se_take w2 n16
    have ih1 : ∀ r S', Se_takeOver 5 79 S = some (r, S') → Ic_season 0 x S = (if r = 0 then iz_bI (Ic_finding 0 3 S') (fun r7 S6 => some (r7, S6)) else iz_bV (Se_plan 5 1 S') (fun S3 => if x = 0 then some (S3.1 5 1, S3) else if x ≤ S3.1 5 1 then iz_ck (iz_in (x - 1) 6) (Ic_season_83 0 (iz_g S3 6 (x - 1)) S3) else iz_bI (Ic_finding 0 2 S3) (fun r5 S4 => Ic_season_83 0 r5 S4))) := fun r S' e => by
      rw [Ic_season, if_neg hx, show iz_rf 0 1 = 5 from rfl, show iz_rf 0 9 = 79 from rfl, show iz_rf 0 0 = 1 from rfl, show iz_rf 5 0 = 6 from rfl, e, bI_s]
    rcases a3 with ⟨sq, b1, b2, b3, b4⟩ | ⟨b1, b2⟩
    · obtain ⟨g1, g2, g3, g4⟩ := b2
      obtain ⟨S2, L, p1, p2, p3, p4, p5⟩ := se_plan g1 g2 b3 (fun i hi => ⟨b4 i hi, (g4 i hi).1⟩)
      have e2 : S1.1 2 = S.1 2 := funext fun i => a2 2 i rfl
      rw [e2] at p2 p4
      have ich := ih1 1 S1 b1
      rw [if_neg (by decide), p1, bV_s, p3] at ich
      have L6 : L 0 + cnt n 0 ≤ n := (p2 0 (Nat.two_pow_pos n)).2
      rw [cnt_0] at L6
      -- the reference from any store that differs in what was found alone
      have mo : ∀ S3 : iz_S, (∀ p i, ¬ (p = 81 ∧ i = 2) → S3.1 p i = S2.1 p i) → ∃ V, Mo_season 82 x S3 = (if x = 0 then some (nI (L 0), V) else if x ≤ nI (L 0) then iz_ck (iz_in (x - 1) 6) (Mo_season_174 82 (iz_g V 111 (x - 1)) V) else iz_bI (Mo_finding 82 2 V) (fun r13 S12 => Mo_season_174 82 r13 S12)) ∧ (∀ j k, (wlk (mbf (S.1 2) sq n) L n (L 0) 0)[j]? = some k → V.1 111 j = nI (sq k)) ∧ (∀ c, c < 64 → V.1 83 c = S.1 83 c) ∧ V.1 82 26 = 0 ∧ ∀ p i, fts p i = false → fsm p i = false → ¬ (p = 82 ∧ i = 32) → V.1 p i = S3.1 p i := fun S3 h3 => by
        have f12 : ∀ p i, ¬ (p = 81 ∧ i = 2) → fse p i = false → fsl p i = false → S3.1 p i = S.1 p i := fun p i q1 q2 q3 => by rw [h3 p i q1, p5 p i q3, a2 p i q2]
        obtain ⟨S4, c1, c2, c3⟩ := mo_stake (S := S3) (x := x) hx (by rw [f12 82 26 (by omega) rfl rfl]; exact w3) n16
        have x105 : ∀ k, k < n → S3.1 105 k = S.1 80 k := fun k hk => by rw [f12 105 k (by omega) rfl rfl]; exact (w4 k hk).symm
        rcases c3 with ⟨sq', d1, d2, d3⟩ | ⟨d1, d2⟩
        · obtain ⟨S6, h6⟩ : ∃ S6, S6 = iz_up (iz_up S4 82 32 (nI n)) 82 35 0 := ⟨_, rfl⟩
          have f6 : fr (fun p i => p == 82 && (i == 32 || i == 35)) S4 S6 := by rw [h6]; exact fr_up (fr_up (fr_rf _ _) rfl) rfl
          have t83 : ∀ c, c < 64 → S6.1 83 c = S.1 83 c := fun c hc => by rw [f6 83 c rfl, c2 83 c rfl, f12 83 c (by omega) rfl rfl]
          obtain ⟨V, v1, v2, v3⟩ := mo_ts (f := S.1 2) (sq := sq) g2 p2 n 0 0 10 (by omega) (by omega) (Nat.two_pow_pos n) (cnt_0 n) S6 0 (fun _ => 0) ⟨by rw [h6, up_ne _ _ _ _ (Or.inr (by decide)), up_same], fun k hk => by
            rw [f6 109 k rfl, d3 k hk, ← (d2.2.2.2 k hk).2, x105 k hk]
            exact ⟨(g4 k hk).2, (g4 k hk).1⟩⟩ (fun c hc => by
            rw [t83 c hc]
            unfold fu_
            rw [opu_0, if_neg (by decide)]
            exact (h.1 c hc).1) (fun j hj => absurd hj (Nat.not_lt_zero j)) (by rw [h6, up_same]; rfl) (by decide)
          have v35 : V.1 82 35 = nI (L 0) := by
            by_cases z : 0 < 0 + L 0
            · rw [(v2.1 z).1, Nat.zero_add]
            · rw [(v2.2 z).1, show L 0 = 0 by omega]
          refine ⟨V, ?_, fun j k hjk => ?_, fun c hc => by rw [v3.1 c hc, t83 c hc], ?_, fun p i q1 q2 q3 => ?_⟩
          · rw [d1, Mo_season_113, if_neg (by decide), lt_e, lt_e, ← h6, show Mo_trySeason 10 82 0 0 S6 = some V from v1, bV_s, v35, Mo_season_174, show iz_rf 82 34 = 111 from rfl]
          · have lt : 0 < 0 + L 0 := by
              rw [Nat.zero_add]
              cases e : L 0 with
              | zero => rw [e] at hjk; cases j <;> cases hjk
              | succ q => omega
            have := (v2.1 lt).2.2 j k hjk
            rw [Nat.zero_add] at this
            exact this
          · rw [v3.2.2.2 82 26 rfl, f6 82 26 rfl, c1]
          · rw [v3.2.2.2 p i q1, f6 p i ?_, c2 p i q2]
            simp only [fts, Bool.or_eq_false_iff, Bool.and_eq_false_iff, beq_eq_false_iff_ne] at q1
            simp
            omega
        · exfalso
          refine d2 ⟨sq, g1, g2, ?_, fun k hk => ⟨(g4 k hk).1, by rw [x105 k hk]; exact (g4 k hk).2⟩⟩
          rintro ⟨i, k, q1, q2, q3⟩
          rw [x105 i (by omega), x105 k q2] at q3
          exact g3 ⟨i, k, q1, q2, q3⟩
      -- what is left behind belongs together
      have fin : ∀ (S3 V : iz_S), (∀ p i, ¬ (p = 81 ∧ i = 2) → S3.1 p i = S2.1 p i) → (∀ c, c < 64 → V.1 83 c = S.1 83 c) → V.1 82 26 = 0 → (∀ p i, fts p i = false → fsm p i = false → ¬ (p = 82 ∧ i = 32) → V.1 p i = S3.1 p i) → ∀ p i, ¬ (p = 81 ∧ i = 2) → fch p i = false → V.1 p i = (wt0 S).1 p i := fun S3 V q3 q83 q26 qf p i q1 q2 => by
        have q2' := q2
        simp only [fch, Bool.or_eq_false_iff, Bool.and_eq_false_iff, beq_eq_false_iff_ne] at q2'
        by_cases e26 : p = 82 ∧ i = 26
        · obtain ⟨rfl, rfl⟩ := e26
          rw [q26]; unfold wt0; rw [up_same]
        · have z1 : fts p i = false := by simp only [fts, Bool.or_eq_false_iff, Bool.and_eq_false_iff, beq_eq_false_iff_ne]; omega
          have z2 : fsm p i = false := by simp only [fsm, Bool.or_eq_false_iff, Bool.and_eq_false_iff, beq_eq_false_iff_ne]; omega
          have z3 : fsl p i = false := by simp only [fsl, Bool.or_eq_false_iff, Bool.and_eq_false_iff, beq_eq_false_iff_ne]; omega
          rw [qf p i z1 z2 (by omega), q3 p i q1, p5 p i z3]
          unfold wt0
          rw [up_ne _ _ _ _ (by omega)]
          by_cases e79 : p = 79 ∧ i = 0
          · obtain ⟨rfl, rfl⟩ := e79
            rw [a1, up_same]
          · have z4 : fse p i = false := by simp only [fse, Bool.or_eq_false_iff, Bool.and_eq_false_iff, beq_eq_false_iff_ne]; omega
            rw [a2 p i z4, up_ne _ _ _ _ (by omega)]
      have s0 : ∀ c, (wt0 S).1 83 c = S.1 83 c := fun c => by unfold wt0; rw [up_p _ _ _ _ (by decide), up_p _ _ _ _ (by decide)]
      by_cases x0 : x = 0
      · rw [if_pos x0] at ich
        obtain ⟨V, m1, m2, m3, m4, m5⟩ := mo S2 (fun _ _ _ => rfl)
        rw [if_pos x0] at m1
        refine pc_of ich m1 (rl_sea (rl_wt0 h) (fun c hc => by rw [m3 c hc, s0]) (fun p i q => ?_))
        by_cases e81 : p = 81 ∧ i = 2
        · obtain ⟨rfl, rfl⟩ := e81
          rw [m5 81 2 rfl rfl (by omega), p5 81 2 rfl, a2 81 2 rfl]
          unfold wt0
          rw [up_p _ _ _ _ (by decide), up_p _ _ _ _ (by decide)]
        · exact fin S2 V (fun _ _ _ => rfl) m3 m4 m5 p i e81 q
      · rw [if_neg x0] at ich
        by_cases xl : x ≤ nI (L 0)
        · rw [if_pos xl] at ich
          obtain ⟨V, m1, m2, m3, m4, m5⟩ := mo S2 (fun _ _ _ => rfl)
          rw [if_neg x0, if_pos xl] at m1
          obtain ⟨w, wl, rfl⟩ : ∃ w, w ≤ L 0 ∧ x = nI w := by
            obtain ⟨w, -, q1, q2⟩ := nI_btw (a := 0) (b := L 0) (by omega) (Int32.not_lt.mp hx) xl (by decide)
            exact ⟨w, q1, q2⟩
          have w1 : 1 ≤ w := by
            cases w with
            | zero => exact absurd rfl x0
            | succ w => omega
          have xm : nI w - 1 = nI (w - 1) := nI_m1 (by omega)
          have i6 := in_ok (n := w - 1) (N := 6) (by omega) (by decide)
          obtain ⟨k, k1, k2, k3⟩ := p4 (w - 1) (by omega)
          rw [xm, i6, ck_t, g_nI _ _ (show w - 1 < 2 ^ 31 by omega), k3, Ic_season_83] at ich
          rw [xm, i6, ck_t, g_nI _ _ (show w - 1 < 2 ^ 31 by omega), m2 _ k k1, Mo_season_174] at m1
          refine pc_of ich m1 (rl_sea (rl_wt0 h) (fun c hc => by rw [m3 c hc, s0]) (fun p i q => ?_))
          by_cases e81 : p = 81 ∧ i = 2
          · obtain ⟨rfl, rfl⟩ := e81
            rw [m5 81 2 rfl rfl (by omega), p5 81 2 rfl, a2 81 2 rfl]
            unfold wt0
            rw [up_p _ _ _ _ (by decide), up_p _ _ _ _ (by decide)]
          · exact fin S2 V (fun _ _ _ => rfl) m3 m4 m5 p i e81 q
        · rw [if_neg xl, ic_f2, bI_s, Ic_season_83] at ich
          obtain ⟨S3, hS3⟩ : ∃ S3, S3 = iz_up S2 81 2 (S2.1 81 2 + 1) := ⟨_, rfl⟩
          rw [← hS3] at ich
          have h3 : ∀ p i, ¬ (p = 81 ∧ i = 2) → S3.1 p i = S2.1 p i := fun p i q => by rw [hS3, up_ne _ _ _ _ (by omega)]
          obtain ⟨V, m1, m2, m3, m4, m5⟩ := mo S3 h3
          rw [if_neg x0, if_neg xl, mo_f2, bI_s, Mo_season_174] at m1
          refine pc_of ich m1 ?_
          obtain ⟨Z, hZ⟩ : ∃ Z, Z = iz_up V 81 2 (S.1 81 2) := ⟨_, rfl⟩
          have rZ : rl Z := rl_sea (rl_wt0 h) (fun c hc => by rw [hZ, up_p _ _ _ _ (by decide), m3 c hc, s0]) (fun p i q => by
            by_cases e81 : p = 81 ∧ i = 2
            · obtain ⟨rfl, rfl⟩ := e81
              rw [hZ, up_same]
              unfold wt0
              rw [up_p _ _ _ _ (by decide), up_p _ _ _ _ (by decide)]
            · rw [hZ, up_ne _ _ _ _ (by omega)]
              exact fin S3 V h3 m3 m4 m5 p i e81 q)
          refine rl_fnd (k := 2) rZ (fun p i q1 q2 => ?_) ?_ ?_
          · rw [up_ne _ _ _ _ (by omega), hZ, up_ne _ _ _ _ (by omega)]
          · rw [up_p _ _ _ _ (by decide), hZ, up_same, m5 81 2 rfl rfl (by omega), hS3, up_same, p5 81 2 rfl, a2 81 2 rfl]
          · rw [up_same, hZ, up_p _ _ _ _ (by decide)]
    · have ich := ih1 0 S1 b1
      rw [if_pos rfl, ic_f3, bI_s] at ich
      obtain ⟨S3, hS3⟩ : ∃ S3, S3 = iz_up S1 81 3 (S1.1 81 3 + 1) := ⟨_, rfl⟩
      rw [← hS3] at ich
      have h3 : ∀ p i, ¬ (p = 81 ∧ i = 3) → fse p i = false → S3.1 p i = S.1 p i := fun p i q1 q2 => by rw [hS3, up_ne _ _ _ _ (by omega), a2 p i q2]
      obtain ⟨S4, c1, c2, c3⟩ := mo_stake (S := S3) (x := x) hx (by rw [h3 82 26 (by omega) rfl]; exact w3) n16
      have x105 : ∀ k, k < n → S3.1 105 k = S.1 80 k := fun k hk => by rw [h3 105 k (by omega) rfl]; exact (w4 k hk).symm
      rcases c3 with ⟨sq', d1, d2, d3⟩ | ⟨d1, d2⟩
      · exfalso
        obtain ⟨g1, g2, g3, g4⟩ := d2
        refine b2 ⟨sq', g1, g2, ?_, fun k hk => ⟨(g4 k hk).1, by rw [← x105 k hk]; exact (g4 k hk).2⟩⟩
        rintro ⟨i, k, q1, q2, q3⟩
        rw [← x105 i (by omega), ← x105 k q2] at q3
        exact g3 ⟨i, k, q1, q2, q3⟩
      · rw [Mo_season_113, if_pos rfl, mo_f3, bI_s] at d1
        refine pc_of ich d1 ?_
        obtain ⟨Z, hZ⟩ : ∃ Z, Z = iz_up S4 81 3 (S.1 81 3) := ⟨_, rfl⟩
        have rZ : rl Z := rl_sea (rl_wt0 h) (fun c hc => by
          rw [hZ, up_p _ _ _ _ (by decide), c2 83 c rfl, h3 83 c (by omega) rfl]
          unfold wt0
          rw [up_p _ _ _ _ (by decide), up_p _ _ _ _ (by decide)]) (fun p i q => by
          have q' := q
          simp only [fch, Bool.or_eq_false_iff, Bool.and_eq_false_iff, beq_eq_false_iff_ne] at q'
          by_cases e81 : p = 81 ∧ i = 3
          · obtain ⟨rfl, rfl⟩ := e81
            rw [hZ, up_same]
            unfold wt0
            rw [up_p _ _ _ _ (by decide), up_p _ _ _ _ (by decide)]
          · rw [hZ, up_ne _ _ _ _ (by omega)]
            by_cases e26 : p = 82 ∧ i = 26
            · obtain ⟨rfl, rfl⟩ := e26
              rw [c1]; unfold wt0; rw [up_same]
            · have z2 : fsm p i = false := by simp only [fsm, Bool.or_eq_false_iff, Bool.and_eq_false_iff, beq_eq_false_iff_ne]; omega
              rw [c2 p i z2, hS3, up_ne _ _ _ _ (by omega)]
              unfold wt0
              rw [up_ne _ _ _ _ (by omega)]
              by_cases e79 : p = 79 ∧ i = 0
              · obtain ⟨rfl, rfl⟩ := e79
                rw [a1, up_same]
              · have z4 : fse p i = false := by simp only [fse, Bool.or_eq_false_iff, Bool.and_eq_false_iff, beq_eq_false_iff_ne]; omega
                rw [a2 p i z4, up_ne _ _ _ _ (by omega)])
        refine rl_fnd (k := 3) rZ (fun p i q1 q2 => ?_) ?_ ?_
        · rw [up_ne _ _ _ _ (by omega), hZ, up_ne _ _ _ _ (by omega)]
        · rw [up_p _ _ _ _ (by decide), hZ, up_same, c2 81 3 rfl, hS3, up_same, a2 81 3 rfl]
        · rw [up_same, hZ, up_p _ _ _ _ (by decide)]
