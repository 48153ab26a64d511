/-! PURE: sales, pc_sales -/
theorem nn_nI {x : Int32} (hx : ¬ x < 0) : ∃ X, X < 2 ^ 31 ∧ x = nI X := by
  have l : x ≤ nI 2147483647 := by
    rw [Int32.le_iff_toInt_le, nI_tI (by decide)]
    have := Int32.toInt_lt x
    omega
  obtain ⟨X, -, q1, q2⟩ := nI_btw (x := x) (a := 0) (b := 2147483647) (by decide) (Int32.not_lt.mp hx) l (by decide)
  exact ⟨X, by omega, q2⟩
theorem pc_sales {S : iz_S} (h : rl S) (x : Int32) : pc (Ic_sales 0 x) (Mo_sales 82 x) S := by
  by_cases hx : x < 0
  · refine pc_of (r := -1000001) (S1 := iz_up S 81 1 (S.1 81 1 + 1)) ?_ ?_ (rl_find (k := 1) h)
    · rw [Ic_sales, if_pos hx, ic_f1, bI_s]
    · rw [Mo_sales, if_pos hx, mo_f1, bI_s]
  · obtain ⟨N, n16, w2, w3, w4⟩ := id h.2.2.2.2.2.1
    obtain ⟨S1, a1, a2, a3⟩ := sx_take w2 n16
    rcases a3 with ⟨col, b1, b2, b3, b4⟩ | ⟨b1, b2⟩
    · obtain ⟨n, pr, fit, V, F, p1, p2, p3, p4, p5, p6, p7, p8⟩ := sa_fin h b2 a2 b3 b4
      have v1 := p2.2.2.2.1
      have v2 := p2.2.2.2.2.1
      have v81 : V.1 81 2 = S.1 81 2 := by rw [p3 81 2 rfl, a2 81 2 rfl]
      have v46 : ∀ p, p < N → V.1 46 p = nI (col p) := fun p hp => by rw [p3 46 p rfl]; exact b4 p hp
      have head : Ic_sales 0 x S = if x = 0 then some (V.1 45 1, V) else if x = 1 then some (V.1 45 2, V) else iz_lt ((x - 2) / 2) (fun v4 => if v4 < V.1 45 2 then (if (x - x / 2 * 2) = 0 then iz_ck (iz_in v4 4) (Ic_sales_120 0 (iz_g V 47 v4) V) else iz_ck (iz_in v4 4) (iz_ck (iz_in (iz_g V 48 v4) 3) (Ic_sales_120 0 (iz_g V 46 (iz_g V 48 v4)) V))) else iz_bI (Ic_finding 0 2 V) (fun r6 S5 => some (r6, S5))) := by
        rw [Ic_sales, if_neg hx, show iz_rf 0 7 = 45 from rfl, show iz_rf 0 9 = 79 from rfl, b1, bI_s, if_neg (by decide), p1, bV_s]
        rfl
      obtain ⟨X, X31, rfl⟩ := nn_nI hx
      have N3 := b2.2.1
      have x0 : (nI X = 0) = (X = 0) := n0_iff X31
      have x1 : (nI X = 1) = (X = 1) := propext (nI_eq (b := 1) X31 (by decide))
      have x2 : (nI X < 2) = (X < 2) := propext (nI_ltI (b := 2) X31 (by decide))
      by_cases X2 : X < 2
      · obtain ⟨U, m1, m2, m3, m4, m5, m6, m7, m8, m9, m10⟩ := mo_fin h hx n16 w3 w4 b2 a1 a2 p2 p3 p8 (T := V) (fun _ _ _ => rfl)
        rw [if_pos (x2.mpr X2)] at m1
        have rU : rl U := sal_e1 h m3 m4 m5 m6 m7 m8 (fun p i q1 q2 q3 => by
          by_cases e : p = 81 ∧ i = 2
          · obtain ⟨rfl, rfl⟩ := e; rw [m9, v81]
          · exact m10 p i q1 q2 q3 e)
        by_cases X0 : X = 0
        · rw [if_pos (x0.mpr X0)] at m1 head
          rw [v1] at head
          exact pc_of head m1 rU
        · rw [if_neg (fun q => X0 (x0.mp q))] at m1 head
          rw [if_pos (x1.mpr (by omega)), v2] at head
          exact pc_of head m1 rU
      · have sb : nI X - 2 = nI (X - 2) := nI_sb (b := 2) (by omega) X31
        have dv : nI (X - 2) / 2 = nI ((X - 2) / 2) := pk_div (d := 2) (by omega) (by decide) (by decide)
        have dv2 : nI X / 2 = nI (X / 2) := pk_div (d := 2) (by omega) (by decide) (by decide)
        have ev : nI X - nI (X / 2) * 2 = nI (X % 2) := by
          rw [show nI (X / 2) * 2 = nI (X / 2 * 2) from pk_mul (X / 2) 2, nI_sb (by omega) X31]
          congr 1
          omega
        have lt1 : (nI ((X - 2) / 2) < nI F.2.length) = ((X - 2) / 2 < F.2.length) := propext (nI_ltI (by omega) (by omega))
        have lt2 : (nI (X - 2) < nI (2 * F.2.length)) = (X - 2 < 2 * F.2.length) := propext (nI_ltI (by omega) (by omega))
        rw [if_neg (fun q => by have := x0.mp q; omega), if_neg (fun q => by have := x1.mp q; omega), lt_e, sb, dv, dv2, ev, v2] at head
        by_cases c : X - 2 < 2 * F.2.length
        · obtain ⟨U, m1, m2, m3, m4, m5, m6, m7, m8, m9, m10⟩ := mo_fin h hx n16 w3 w4 b2 a1 a2 p2 p3 p8 (T := V) (fun _ _ _ => rfl)
          rw [if_neg (fun q => X2 (x2.mp q)), sb, nI_2m, if_pos (lt2.mpr c), in_ok (n := X - 2) (N := 8) (by omega) (by decide), ck_t, g_nI _ _ (show X - 2 < 2 ^ 31 by omega)] at m1
          have rU : rl U := sal_e1 h m3 m4 m5 m6 m7 m8 (fun p i q1 q2 q3 => by
            by_cases e : p = 81 ∧ i = 2
            · obtain ⟨rfl, rfl⟩ := e; rw [m9, v81]
            · exact m10 p i q1 q2 q3 e)
          have il : (X - 2) / 2 < F.2.length := by omega
          obtain ⟨y, hy⟩ : ∃ y, F.2[(X - 2) / 2]? = some y := ⟨_, List.getElem?_eq_getElem il⟩
          have y2 := p7 y (List.mem_of_getElem? hy)
          obtain ⟨u1, u2⟩ := m2 _ y hy
          obtain ⟨z1, z2⟩ := p2.2.2.2.2.2 _ y hy
          rw [if_pos (lt1.mpr il), in_ok (n := (X - 2) / 2) (N := 4) (by omega) (by decide), ck_t, ck_t, g_nI _ _ (show (X - 2) / 2 < 2 ^ 31 by omega), g_nI _ _ (show (X - 2) / 2 < 2 ^ 31 by omega), z1, z2, in_ok (n := y.2) (N := 3) (by omega) (by decide), ck_t, g_nI _ _ (show y.2 < 2 ^ 31 by omega), v46 y.2 y2, Ic_sales_120, Ic_sales_120] at head
          by_cases e2 : X % 2 = 0
          · rw [if_pos (show nI (X % 2) = 0 by rw [e2]; rfl)] at head
            rw [show X - 2 = 2 * ((X - 2) / 2) by omega, u1] at m1
            exact pc_of head m1 rU
          · rw [if_neg (fun q => e2 ((n0_iff (by omega)).mp q))] at head
            rw [show X - 2 = 2 * ((X - 2) / 2) + 1 by omega, u2] at m1
            exact pc_of head m1 rU
        · rw [if_neg (fun q => by have := lt1.mp q; omega), ic_f2, bI_s] at head
          obtain ⟨U, m1, m2, m3, m4, m5, m6, m7, m8, m9, m10⟩ := mo_fin h hx n16 w3 w4 b2 a1 a2 p2 p3 p8 (T := iz_up V 81 2 (V.1 81 2 + 1)) (fun p i q => up_ne _ _ _ _ (by omega))
          rw [if_neg (fun q => X2 (x2.mp q)), sb, nI_2m, if_neg (fun q => c (lt2.mp q)), mo_f2, bI_s] at m1
          refine pc_of head m1 (sal_e2 h (k := 2) ?_ ?_ (fun k hk => ?_) (fun k hk => ?_) (fun k hk => ?_) (fun k hk => ?_) ?_ ?_ (fun p i q1 q2 q3 q4 q5 => ?_))
          · rw [up_p _ _ _ _ (by decide)]; exact m3
          · rw [up_p _ _ _ _ (by decide)]; exact m4
          · rw [up_p _ _ _ _ (by decide)]; exact m5 k hk
          · rw [up_p _ _ _ _ (by decide)]; exact m6 k hk
          · rw [up_p _ _ _ _ (by decide)]; exact m7 k hk
          · rw [up_p _ _ _ _ (by decide)]; exact m8 k hk
          · rw [up_p _ _ _ _ (by decide), m9, up_same, v81]
          · rw [up_same, m10 106 2 rfl (by omega) (by omega) (by omega)]
          · rw [up_ne _ _ _ _ (by omega)]; exact m10 p i q1 q2 q3 q4
    · have head : Ic_sales 0 x S = some (-1000003, iz_up S1 81 3 (S1.1 81 3 + 1)) := by
        rw [Ic_sales, if_neg hx, show iz_rf 0 7 = 45 from rfl, show iz_rf 0 9 = 79 from rfl, b1, bI_s, if_pos rfl, ic_f3, bI_s]
      obtain ⟨S3, hS3⟩ : ∃ S3, S3 = iz_up S1 81 3 (S1.1 81 3 + 1) := ⟨_, rfl⟩
      rw [← hS3] at head
      have h3 : ∀ p i, ¬ (p = 81 ∧ i = 3) → fsx p i = false → S3.1 p i = S.1 p i := fun p i q1 q2 => by rw [hS3, up_ne _ _ _ _ (by omega), a2 p i q2]
      obtain ⟨S4, c1, c2, c3⟩ := mo_ttake (S := S3) (x := x) hx (by rw [h3 82 26 (by omega) rfl]; exact w3) n16
      have x105 : ∀ k, k < N → S3.1 105 k = S.1 80 k := fun k hk => by rw [h3 105 k (by omega) rfl]; exact (w4 k hk).symm
      rcases c3 with ⟨col', d1, d2, d3⟩ | ⟨d1, d2⟩
      · exfalso
        obtain ⟨g1, g2, g3, g4⟩ := d2
        refine b2 ⟨col', g1, g2, ?_, fun k hk => ⟨(g4 k hk).1, by rw [← x105 k hk]; exact (g4 k hk).2⟩⟩
        rintro ⟨i, k, q1, q2, q3⟩
        rw [← x105 i (by omega), ← x105 k q2] at q3
        exact g3 ⟨i, k, q1, q2, q3⟩
      · rw [Mo_sales_112, if_pos rfl, mo_f3, bI_s] at d1
        refine pc_of head d1 (sal_e2 h (k := 3) ?_ ?_ (fun k hk => ?_) (fun k hk => ?_) (fun k hk => ?_) (fun k hk => ?_) ?_ ?_ (fun p i q1 q2 q3 q4 q5 => ?_))
        · rw [up_p _ _ _ _ (by decide), c2 79 0 rfl, hS3, up_p _ _ _ _ (by decide)]; exact a1
        · rw [up_p _ _ _ _ (by decide)]; exact c1
        · rw [up_p _ _ _ _ (by decide), c2 100 k rfl, h3 100 k (by omega) rfl]
        · rw [up_p _ _ _ _ (by decide), c2 91 k rfl, h3 91 k (by omega) rfl]
        · rw [up_p _ _ _ _ (by decide), c2 51 k rfl, h3 51 k (by omega) rfl]; exact h.2.2.2.2.2.2.1.1 k hk
        · rw [up_p _ _ _ _ (by decide), c2 52 k rfl, h3 52 k (by omega) rfl]; exact h.2.2.2.2.2.2.1.2 k hk
        · rw [up_p _ _ _ _ (by decide), c2 81 3 rfl, hS3, up_same, a2 81 3 rfl]
        · rw [up_same, c2 106 3 rfl, h3 106 3 (by omega) rfl]
        · simp only [fch2, Bool.or_eq_false_iff, Bool.and_eq_false_iff, beq_eq_false_iff_ne] at q1
          rw [up_ne _ _ _ _ (by omega), c2 p i (by simp only [fsm, Bool.or_eq_false_iff, Bool.and_eq_false_iff, beq_eq_false_iff_ne]; omega), h3 p i q4 (by simp only [fsx, Bool.or_eq_false_iff, Bool.and_eq_false_iff, beq_eq_false_iff_ne]; omega)]
