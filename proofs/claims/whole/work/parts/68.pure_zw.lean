/-! PURE: icing -/
theorem pc_icing {S : iz_S} (h : rl S) (x y z : Int32) : pc (Ic_icing 0 x y z) (Mo_icing 82 x y z) S := by
  obtain ⟨n, pr, ck, wy, hs, hm, hb⟩ := rail_f h.2.2.2.2.1
  have n9 := hb.1
  have n1 : ¬ (1 : Int32) = 0 := by decide
  have r8 : iz_rf 0 8 = 55 := rfl
  have u21 : ∀ k v, (iz_up S 81 k v).1 82 21 = nI n := fun k v => by rw [up_p _ _ _ _ (by decide), hm.1]
  by_cases hx : 1 ≤ x ∧ x ≤ 60
  · obtain ⟨r, r1, r60, rfl⟩ := nI_btw (a := 1) (b := 60) (by decide) hx.1 hx.2 (by decide)
    by_cases hy : 0 ≤ y ∧ y ≤ nI r
    · obtain ⟨c, -, cr, rfl⟩ := nI_btw (a := 0) (b := r) (by omega) hy.1 hy.2 (by decide)
      have lt2 : (nI n < 2) = (n < 2) := propext (nI_ltI (b := 2) (by omega) (by decide))
      by_cases hn : n < 2
      · refine pc_of (r := -1000003) (S1 := iz_up S 81 3 (S.1 81 3 + 1)) ?_ ?_ (rl_find (k := 3) h)
        · simp only [Ic_icing, ic_within, ck_t, lt_e, bI_s, bL_s, bV_s, one_n0, zero_0, if_true, if_false, rfs, if_pos hx, if_pos hy, hs.1, lt2, if_pos hn, ic_f3]
        · simp only [Mo_icing, mo_isIn, ck_t, lt_e, bI_s, bL_s, bV_s, one_n0, zero_0, if_true, if_false, rfs, if_pos hx, if_pos hy, u21, lt2, if_pos hn, mo_f3]
      · have x2 : nI n - 2 = nI (n - 2) := by rw [show (2 : Int32) = nI 2 from rfl, nI_sb (by omega) (by omega)]
        by_cases hz : -1 ≤ z ∧ z ≤ nI (n - 2)
        · obtain ⟨S1, a1, a2, a3⟩ := ra_plan hs hb (by omega) r60
          have hs1 := rs_st hs a3 (fun i => ⟨rfl, rfl, rfl, rfl⟩)
          have hm1 := rm_st hm a3 rfl (fun i => ⟨rfl, rfl, rfl⟩)
          have x1 : nI n - 1 = nI (n - 1) := nI_m1 (by omega)
          have i61 := in_ok (n := c) (N := 61) (by omega) (by decide)
          have i549 := in_ok (n := c) (N := 549) (by omega) (by decide)
          have gc := fun (T : iz_S) p => g_nI T p (show c < 2 ^ 31 by omega)
          have cf : Ra_costFrom 55 (nI c) S1 = some (eC (fk pr ck wy r n 0 c), S1) := by
            have i0 : iz_in 0 9 = true := by decide +kernel
            have t0 : Int32.toNatClampNeg 0 = 0 := by decide +kernel
            have ev := (a2 0 c (Nat.le_refl 0) (by omega) cr).1
            rw [Ra_costFrom, i0, ck_t, i61, ck_t, show iz_rf 55 4 = 59 from rfl, t0, (rf59 0 (by decide)).1, gc, ev]
          have head : ∀ S3, rm_ S3 n pr ck wy → ∃ S2 m2, Mo_icing 82 (nI r) (nI c) z S3 = Mo_icing_67b 82 m2 (nI r) (nI c) z (nI 0 - 1) S2 ∧ rM S2 n r pr ck wy 0 ∧ fr fr9 S3 S2 := fun S3 h3 => by
            obtain ⟨S2, m2, b1, b2, b3⟩ := mo_rows hb r60 (nI c) z n iz_FU S3 (Nat.le_refl n) (by have := fu_ge; omega) h3 (fun k i h1 h2 => by omega)
            refine ⟨S2, m2, ?_, b2, b3⟩
            rw [Mo_icing, mo_isIn, bI_s, if_pos hx, if_neg n1, mo_isIn, bI_s, if_pos hy, if_neg n1, h3.1, if_neg (by rw [lt2]; exact hn), x2, mo_isIn, bI_s, if_pos hz, if_neg n1, lt_e, h3.1, b1]
          have ichead : Ic_icing 0 (nI r) (nI c) z S = if eC (fk pr ck wy r n 0 c) < 0 then iz_bI (Ic_finding 0 2 S1) (fun r13 S12 => some (r13, S12)) else (if z < 0 then Ic_icing_112 0 (eC (fk pr ck wy r n 0 c)) S1 else iz_bI (Ra_boughtAt 55 z (nI c) S1) (fun r11 S10 => Ic_icing_112 0 r11 S10)) := by
            rw [Ic_icing, ic_within, bI_s, if_pos hx, if_neg n1, ic_within, bI_s, if_pos hy, if_neg n1, r8, hs.1, if_neg (by rw [lt2]; exact hn), x2, ic_within, bI_s, if_pos hz, if_neg n1, a1, bV_s, cf, bI_s]
          have ng : nI 0 - 1 < 0 := by decide +kernel
          have rlV : ∀ S2, fr fr9 S1 S2 → rl S2 := fun S2 f2 => by
            have hf : fr (fun p i => fra p i || fr9 p i) S S2 := fr_or a3 f2
            exact ⟨st_lake hf (fun _ => ⟨rfl, rfl, rfl, rfl, rfl, rfl⟩) h.1, st_shel hf (fun _ => ⟨rfl, rfl, rfl, rfl, rfl, rfl⟩) h.2.1, st_house hf (fun _ => ⟨rfl, rfl, rfl, rfl, rfl, rfl, rfl, rfl, rfl, rfl, rfl, rfl⟩) rfl rfl (fun _ _ => rfl) h.2.2.1, st_ord hf (fun _ => ⟨rfl, rfl, rfl, rfl, rfl, rfl, rfl, rfl, rfl, rfl, rfl, rfl, rfl⟩) rfl rfl h.2.2.2.1, st_rail hf (fun _ => ⟨rfl, rfl, rfl, rfl, rfl, rfl, rfl⟩) rfl h.2.2.2.2.1, st_wait hf (fun _ => ⟨rfl, rfl, rfl⟩) rfl h.2.2.2.2.2.1, st_sale hf (fun _ => ⟨rfl, rfl⟩) h.2.2.2.2.2.2.1, st_found hf (fun _ => ⟨rfl, rfl⟩) h.2.2.2.2.2.2.2⟩
          cases e : fk pr ck wy r n 0 c with
          | none =>
            have lt : eC none < 0 := by decide +kernel
            rw [e, if_pos lt, ic_f2, bI_s] at ichead
            obtain ⟨S3, hS3⟩ : ∃ S3, S3 = iz_up S1 81 2 (S1.1 81 2 + 1) := ⟨_, rfl⟩
            rw [← hS3] at ichead
            have f3 : fr (fun p i => p == 81 && i == 2) S1 S3 := by rw [hS3]; exact fr_1
            obtain ⟨S2, m2, b1, b2, b3⟩ := head S3 (rm_st hm1 f3 rfl (fun i => ⟨rfl, rfl, rfl⟩))
            have ev := b2 0 c (Nat.le_refl 0) (by omega) cr
            rw [Nat.mul_zero, Nat.zero_add, e] at ev
            rw [Mo_icing_67b, if_pos ng, i549, ck_t, show iz_rf 82 47 = 119 from rfl, gc, ev, if_pos (show eM none = 1000000 from rfl), mo_f2, bI_s] at b1
            refine pc_of ichead b1 ?_
            have cm : S2 = iz_up (iz_up S2 81 2 (S1.1 81 2)) 81 2 ((iz_up S2 81 2 (S1.1 81 2)).1 81 2 + 1) := by
              have zz : S2.1 81 2 = S1.1 81 2 + 1 := by rw [b3 81 2 rfl, hS3, up_same]
              refine Prod.ext (funext fun p => funext fun i => ?_) rfl
              by_cases e : p = 81 ∧ i = 2
              · obtain ⟨rfl, rfl⟩ := e
                rw [up_same, up_same, zz]
              · rw [up_ne _ _ _ _ (by omega), up_ne _ _ _ _ (by omega)]
            have r0 := rlV (iz_up S2 81 2 (S1.1 81 2)) (fun p i hp => by
              by_cases e : p = 81 ∧ i = 2
              · obtain ⟨rfl, rfl⟩ := e
                rw [up_same]
              · rw [up_ne _ _ _ _ (by omega), b3 p i hp, hS3, up_ne _ _ _ _ (by omega)])
            have r1 := rl_find (k := 2) r0
            rw [← cm] at r1
            exact r1
          | some v =>
            have v4 := fk_le r60 hb.2.1 n9 e
            have np : ¬ eC (some v) < 0 := nI_pos (by omega)
            have ne : ¬ eM (some v) = 1000000 := fun q => by
              have := (nI_eq (a := v) (b := 1000000) (by omega) (by decide)).mp q
              omega
            rw [e, if_neg np] at ichead
            obtain ⟨S2, m2, b1, b2, b3⟩ := head S1 hm1
            have ev := b2 0 c (Nat.le_refl 0) (by omega) cr
            rw [Nat.mul_zero, Nat.zero_add, e] at ev
            rw [Mo_icing_67b, if_pos ng, i549, ck_t, show iz_rf 82 47 = 119 from rfl, gc, ev, if_neg ne, ck_t] at b1
            by_cases z0 : z < 0
            · rw [if_pos z0, Ic_icing_112] at ichead
              rw [if_pos z0] at b1
              exact pc_of ichead b1 (rlV S2 b3)
            · rw [if_neg z0] at ichead b1
              obtain ⟨wh, -, whn, rfl⟩ := nI_btw (a := 0) (b := n - 2) (by omega) (Int32.not_lt.mp z0) hz.2 (by decide)
              have q1 := ra_bt hs1 hb r60 a2 (wh := wh) (by omega) wh 0 c iz_FU v (by omega) (by have := fu_ge; omega) cr e
              have q2 := mo_bt (rm_st hm1 b3 rfl (fun i => ⟨rfl, rfl, rfl⟩)) hb r60 b2 (wh := wh) (by omega) wh 0 c iz_FU v 0 (by omega) (by have := fu_ge; omega) cr e
              rw [Ra_boughtAt, show Ra_boughtAt_5 55 iz_FU (nI wh) (nI c) 0 S1 = _ from q1, bI_s, Ic_icing_112] at ichead
              rw [show Mo_icing_219 82 iz_FU (nI r) (nI wh) (nI c) 0 0 S2 = _ from q2] at b1
              exact pc_of ichead b1 (rlV S2 b3)
        · refine pc_of (r := -1000001) (S1 := iz_up S 81 1 (S.1 81 1 + 1)) ?_ ?_ (rl_find (k := 1) h)
          · simp only [Ic_icing, ic_within, ck_t, lt_e, bI_s, bL_s, bV_s, one_n0, zero_0, if_true, if_false, rfs, if_pos hx, if_pos hy, hs.1, lt2, if_neg hn, x2, if_neg hz, ic_f1]
          · simp only [Mo_icing, mo_isIn, ck_t, lt_e, bI_s, bL_s, bV_s, one_n0, zero_0, if_true, if_false, rfs, if_pos hx, if_pos hy, u21, lt2, if_neg hn, x2, if_neg hz, mo_f1]
    · refine pc_of (r := -1000001) (S1 := iz_up S 81 1 (S.1 81 1 + 1)) ?_ ?_ (rl_find (k := 1) h)
      · simp only [Ic_icing, Ic_icing_19, ic_within, ck_t, lt_e, bI_s, bL_s, bV_s, one_n0, zero_0, if_true, if_false, rfs, if_pos hx, if_neg hy, ic_f1]
      · simp only [Mo_icing, Mo_icing_19, mo_isIn, ck_t, lt_e, bI_s, bL_s, bV_s, one_n0, zero_0, if_true, if_false, rfs, if_pos hx, if_neg hy, mo_f1]
  · refine pc_of (r := -1000001) (S1 := iz_up S 81 1 (S.1 81 1 + 1)) ?_ ?_ (rl_find (k := 1) h)
    · simp only [Ic_icing, Ic_icing_19, ic_within, ck_t, lt_e, bI_s, bL_s, bV_s, one_n0, zero_0, if_true, if_false, rfs, if_neg hx, ic_f1]
    · simp only [Mo_icing, Mo_icing_19, mo_isIn, ck_t, lt_e, bI_s, bL_s, bV_s, one_n0, zero_0, if_true, if_false, rfs, if_neg hx, mo_f1]
