/-! PURE: put -/
theorem pc_put {S : iz_S} (h : rl S) (x y : Int32) : pc (Ic_put 0 x y) (Mo_put 82 x y) S := by
  obtain ⟨B, w, kd, wt, sh, col, hc, hm, hi, hw, hs, hl⟩ := house_l h.2.2.1
  have B60 := hi.1
  have m1' : ∀ k v, (iz_up S 81 k v).1 82 3 = nI B := fun k v => by rw [up_p _ _ _ _ (by decide), hm.1]
  by_cases hx : ∃ i, i < B ∧ x = nI i
  · obtain ⟨i, iB, rfl⟩ := hx
    have o1 := ho_has_t hc.1 B60 iB
    have i2 := in_ok (n := i) (N := 60) (by omega) (by decide)
    have gi := fun (T : iz_S) p => g_nI T p (show i < 2 ^ 31 by omega)
    have si := fun (T : iz_S) p => s_nI T p (show i < 2 ^ 31 by omega)
    by_cases hy : 0 ≤ y ∧ y ≤ 15
    · obtain ⟨c, -, c15, rfl⟩ := nI_btw (a := 0) (b := 15) (by decide) hy.1 hy.2 (by decide)
      have c16 : c < 16 := by omega
      have hH := hc.2.2.2.1 c c16
      have mH := hm.2.2.1.2.1 c c16
      have l6 : hl_h col c ≤ 6 := (hi.2.2.2.1 c c16).1
      have i1 := in_ok (n := c) (N := 16) c16 (by decide)
      have gc := fun (T : iz_S) p => g_nI T p (show c < 2 ^ 31 by omega)
      have p1 := (hc.2.2.1 i iB).2.2
      have p2 := (hm.2.2.1.1 i iB).2.2
      have w1 := (hc.2.2.1 i iB).2.1
      have w2 := (hm.2.2.1.1 i iB).2.1
      have pp : hl_p sh col i ≤ 2 := ((hvi_i hi).2.2.1 i iB).2.2.1
      have fl := ho_ful c16 hH l6
      have ep : (nI (hl_p sh col i) = 0) = (hl_p sh col i = 0) := n0_iff (by omega)
      have e6 : (nI (hl_h col c) = 6) = (hl_h col c = 6) := propext (nI_eq (b := 6) (by omega) (by decide))
      have u88 : ∀ v, (iz_up S 81 3 v).1 88 i = nI (hl_p sh col i) := fun v => by rw [up_p _ _ _ _ (by decide), p2]
      have u91 : ∀ v, (iz_up S 81 3 v).1 91 c = nI (hl_h col c) := fun v => by rw [up_p _ _ _ _ (by decide), mH]
      have p1' : S.1 16 i = nI (hl_p sh col i) := p1
      by_cases hp : hl_p sh col i = 0
      · by_cases hf6 : hl_h col c < 6
        · rw [if_pos hf6] at fl
          have n6 : ¬ hl_h col c = 6 := by omega
          have hsi : sh i = true := by
            unfold hl_p at hp
            by_cases q : sh i = true
            · exact q
            · rw [if_neg q] at hp
              by_cases q2 : hl_in col i = true
              · rw [if_pos q2] at hp; omega
              · rw [if_neg q2] at hp; omega
          have ni : ∀ d, d < 16 → i ∉ col d := fun d hd q => by
            have := (hi.2.2.2.2.1 d i hd q).2
            rw [hsi] at this
            cases this
          have ew : hl_w sh col wt i = wt i := by unfold hl_w; rw [if_pos hsi]
          rw [ew] at w1 w2
          have w1' : S.1 15 i = nI (wt i) := w1
          have hi2 := hvi_lay hi (c := c) iB hsi hf6
          obtain ⟨col2, hcol2⟩ : ∃ col2, col2 = hl_r col c (col c ++ [i]) := ⟨_, rfl⟩
          rw [← hcol2] at hi2
          have e2c : col2 c = col c ++ [i] := by rw [hcol2, r_same]
          obtain ⟨M, hM⟩ := bk_last kd wt i (col c)
          obtain ⟨T0, hT0⟩ : ∃ T0, T0 = iz_up (iz_up S 16 i 1) 13 6 (S.1 13 6 + nI (wt i)) := ⟨_, rfl⟩
          obtain ⟨T, hT⟩ : ∃ T, T = iz_up (iz_up T0 18 (6 * c + hl_h col c) (nI i)) 17 c (nI (hl_h col c + 1)) := ⟨_, rfl⟩
          have fT : fr (fun p k => p == 16 || (p == 13 && k == 6) || p == 17 || p == 18) S T := by
            rw [hT, hT0]
            exact fr_up (fr_up (fr_up (fr_up (fr_rf _ _) rfl) rfl) rfl) rfl
          have vT : hvc T 13 B w kd wt (shU sh i) col2 := by
            refine ⟨(fT _ _ rfl).trans hc.1, (fT _ _ rfl).trans hc.2.1, ?_⟩
            rw [hcol2]
            refine hvg_lay hc.2.2 hi c16 hsi hf6 (fun k => fT _ _ rfl) (fun k => fT _ _ rfl) ?_ ?_ ?_ ?_ ?_ ?_
            · intro k hk
              rw [hT, up_p _ _ _ _ (by decide), up_p _ _ _ _ (by decide), hT0, up_p _ _ _ _ (by decide), up_ne _ _ _ _ (Or.inr hk)]
            · rw [hT, up_p _ _ _ _ (by decide), up_p _ _ _ _ (by decide), hT0, up_p _ _ _ _ (by decide), up_same]
            · intro k hk
              rw [hT, up_ne _ _ _ _ (Or.inr hk), up_p _ _ _ _ (by decide), hT0, up_p _ _ _ _ (by decide), up_p _ _ _ _ (by decide)]
            · rw [hT, up_same]; rfl
            · intro k hk
              have hk2 : k ≠ 6 * c + hl_h col c := hk
              rw [hT, up_p _ _ _ _ (by decide), up_ne _ _ _ _ (Or.inr hk2), hT0, up_p _ _ _ _ (by decide), up_p _ _ _ _ (by decide)]
            · rw [hT, up_p _ _ _ _ (by decide)]; exact up_same _ _ _ _
          obtain ⟨S1, a1, a2, a3, a4⟩ := ho_break hq_13 c16 vT hi2
          rw [e2c] at a2 a3
          have f1 : fr (fun p k => p == 13 && (k == 6 || k == 8) || p == 15 || p == 16 || p == 17 || p == 18) S S1 := by
            refine fr_tr (fr_mono fT ?_) (fr_mono a4 ?_) <;>
            · intro p k hp
              simp only [fhb, Bool.or_eq_true, Bool.and_eq_true, beq_iff_eq] at hp ⊢
              omega
          have hm1 : hvm S1 B w kd wt sh col := hvm_st hm hi f1 rfl rfl (fun i => ⟨rfl, rfl, rfl, rfl, rfl, rfl⟩)
          obtain ⟨U, hU⟩ : ∃ U, U = iz_up (iz_up (iz_up (iz_up (iz_up S1 90 (6 * c + hl_h col c) (nI i)) 91 c (nI (hl_h col c + 1))) 89 i (nI c)) 88 i 1) 104 0 (S1.1 104 0 + nI (wt i)) := ⟨_, rfl⟩
          have fU : fr (fun p k => p == 88 || p == 89 || p == 90 || p == 91 || (p == 104 && k == 0)) S1 U := by
            rw [hU]
            exact fr_up (fr_up (fr_up (fr_up (fr_up (fr_rf _ _) rfl) rfl) rfl) rfl) rfl
          have vU : hvm U B w kd wt (shU sh i) col2 := by
            rw [hcol2]
            refine ⟨(fU _ _ rfl).trans hm1.1, (fU _ _ rfl).trans hm1.2.1, hvg_lay hm1.2.2.1 hi c16 hsi hf6 (fun k => fU _ _ rfl) (fun k => fU _ _ rfl) ?_ ?_ ?_ ?_ ?_ ?_, hv9_lay hm1.2.2.2 c16 ni ?_ ?_⟩
            · intro k hk
              rw [hU, up_p _ _ _ _ (by decide), up_ne _ _ _ _ (Or.inr hk), up_p _ _ _ _ (by decide), up_p _ _ _ _ (by decide), up_p _ _ _ _ (by decide)]
            · rw [hU, up_p _ _ _ _ (by decide), up_same]
            · intro k hk
              rw [hU, up_p _ _ _ _ (by decide), up_p _ _ _ _ (by decide), up_p _ _ _ _ (by decide), up_ne _ _ _ _ (Or.inr hk), up_p _ _ _ _ (by decide)]
            · rw [hU, up_p _ _ _ _ (by decide), up_p _ _ _ _ (by decide), up_p _ _ _ _ (by decide), up_same]; rfl
            · intro k hk
              have hk2 : k ≠ 6 * c + hl_h col c := hk
              rw [hU, up_p _ _ _ _ (by decide), up_p _ _ _ _ (by decide), up_p _ _ _ _ (by decide), up_p _ _ _ _ (by decide), up_ne _ _ _ _ (Or.inr hk2)]
            · rw [hU, up_p _ _ _ _ (by decide), up_p _ _ _ _ (by decide), up_p _ _ _ _ (by decide), up_p _ _ _ _ (by decide)]; exact up_same _ _ _ _
            · intro k hk
              rw [hU, up_p _ _ _ _ (by decide), up_p _ _ _ _ (by decide), up_ne _ _ _ _ (Or.inr hk), up_p _ _ _ _ (by decide), up_p _ _ _ _ (by decide)]
            · rw [hU, up_p _ _ _ _ (by decide), up_p _ _ _ _ (by decide), up_same]
          obtain ⟨S2, b1, b2, b3, b4⟩ := mo_breakAll vU hi2
          have st : ∀ k, k < 16 → k ≠ c → hl_bk kd wt (col2 k) = col2 k := fun k k16 e => by rw [hcol2, r_ne e]; exact hs k k16
          rw [f_one c16 st, e2c] at b2
          rw [ts_one (d := c) (by omega) (by omega) (fun k _ q1 q2 => st k (by omega) q2), e2c] at b3
          obtain ⟨col3, hcol3⟩ : ∃ col3, col3 = hl_r col2 c (hl_bk kd wt (col c ++ [i])) := ⟨_, rfl⟩
          rw [← hcol3] at a2 b2
          have hi3 : hvi B w kd wt (shU sh i) col3 := by
            rw [hcol3]
            exact hvi_out hi2 (by rw [e2c]; exact bk_sub _ _ _)
          have e3c : col3 c = M ++ [i] := by rw [hcol3, r_same, hM]
          have h3 : hl_h col3 c = M.length + 1 := by unfold hl_h; rw [e3c, List.length_append]; rfl
          have h36 : hl_h col3 c ≤ 6 := (hi3.2.2.2.1 c c16).1
          have lv := mo_levelOf (hvm_m hi3 b2) (hvi_i hi3) c16 (l := M.length) (by omega)
          rw [show hl_b col3 c M.length = i by unfold hl_b; rw [e3c, get_r (Nat.le_refl _), Nat.sub_self]; rfl] at lv
          have z17 : S1.1 17 c = nI (M.length + 1) := by rw [← h3]; exact a2.2.2.2.1 c c16
          have e1 : nI (M.length + 1) - 1 = nI M.length := nI_m1 (by omega)
          refine pc_of (r := nI M.length) (S1 := S1) (S2 := S2) ?_ ?_ ?_
          · have u1 : (iz_up S 16 i 1).1 15 i = nI (wt i) := by rw [up_p _ _ _ _ (by decide)]; exact w1'
            have u2 : (iz_up S 16 i 1).1 13 6 = S.1 13 6 := by rw [up_p _ _ _ _ (by decide)]
            have u3 : T0.1 17 c = nI (hl_h col c) := by rw [hT0, up_p _ _ _ _ (by decide), up_p _ _ _ _ (by decide)]; exact hH
            have ly := ho_lay (S := T0) (a := i) hq_13 c16 u3 hf6
            rw [show iz_up (iz_up T0 (13 + 5) (6 * c + hl_h col c) (nI i)) (13 + 4) c (nI (hl_h col c + 1)) = T from hT.symm, a1, bV_s] at ly
            simp only [Ic_put, Ho_bringIn, ic_isColumn, ck_t, lt_e, bI_s, bL_s, bV_s, one_n0, zero_0, if_true, if_false, rfs, o1, if_pos hy, i2, gi, si, p1', ep, if_pos hp, fl, u1, u2, ← hT0, ly, i1, gc, z17, e1]
          · have q0 : iz_in 0 6 = true := by decide +kernel
            have g0 : ∀ T : iz_S, iz_g T 104 0 = T.1 104 0 := g104 0 (by decide)
            have s0 : ∀ (T : iz_S) v, iz_s T 104 0 v = iz_up T 104 0 v := s104 0 (by decide)
            have mH1 : S1.1 91 c = nI (hl_h col c) := hm1.2.2.1.2.1 c c16
            have p21 : S1.1 88 i = nI (hl_p sh col i) := (hm1.2.2.1.1 i iB).2.2
            have w21 : S1.1 87 i = nI (wt i) := by rw [← ew]; exact (hm1.2.2.1.1 i iB).2.1
            have ly := mo_lay (a := i) c16 mH1 hf6 (by omega)
            have u1 : (iz_up (iz_up (iz_up (iz_up S1 90 (6 * c + hl_h col c) (nI i)) 91 c (nI (hl_h col c + 1))) 89 i (nI c)) 88 i 1).1 87 i = nI (wt i) := by
              rw [up_p _ _ _ _ (by decide), up_p _ _ _ _ (by decide), up_p _ _ _ _ (by decide), up_p _ _ _ _ (by decide)]; exact w21
            have u2 : (iz_up (iz_up (iz_up (iz_up S1 90 (6 * c + hl_h col c) (nI i)) 91 c (nI (hl_h col c + 1))) 89 i (nI c)) 88 i 1).1 104 0 = S1.1 104 0 := by
              rw [up_p _ _ _ _ (by decide), up_p _ _ _ _ (by decide), up_p _ _ _ _ (by decide), up_p _ _ _ _ (by decide)]
            simp only [Mo_put, mo_isColumn, ck_t, lt_e, bI_s, bL_s, bV_s, one_n0, zero_0, if_true, if_false, rfs, mo_has_t hm1.1 B60 iB, if_pos hy, i1, i2, gi, si, gc, p21, ep, if_pos hp, mH1, e6, if_neg n6, ly, q0, g0, s0, u1, u2, ← hU, b1, lv]
          · have hf : fr (fun p k => p == 13 && (k == 6 || k == 8) || p == 15 || p == 16 || p == 17 || p == 18 || p == 87 || p == 88 || p == 89 || p == 90 || p == 91 || (p == 104 && (k == 0 || k == 2))) S S2 := by
              refine fr_tr (fr_tr (fr_mono f1 ?_) (fr_mono fU ?_)) (fr_mono b4 ?_) <;>
              · intro p k hp
                simp only [fmb, Bool.or_eq_true, Bool.and_eq_true, beq_iff_eq] at hp ⊢
                omega
            have f2 : fr (fun p k => p == 87 || p == 88 || p == 89 || p == 90 || p == 91 || (p == 104 && (k == 0 || k == 2))) S1 S2 := by
              refine fr_tr (fr_mono fU ?_) (fr_mono b4 ?_) <;>
              · intro p k hp
                simp only [fmb, Bool.or_eq_true, Bool.and_eq_true, beq_iff_eq] at hp ⊢
                omega
            refine ⟨st_lake hf (fun _ => ⟨rfl, rfl, rfl, rfl, rfl, rfl⟩) h.1, st_shel hf (fun _ => ⟨rfl, rfl, rfl, rfl, rfl, rfl⟩) h.2.1, l_house (B := B) (w := w) (kd := kd) (wt := wt) (sh := shU sh i) (col := col3) ⟨hvc_st a2 hi3 f2 rfl rfl (fun i => ⟨rfl, rfl, rfl, rfl, rfl⟩), b2, hi3, hw, ?_, ?_⟩, st_ord hf (fun _ => ⟨rfl, rfl, rfl, rfl, rfl, rfl, rfl, rfl, rfl, rfl, rfl, rfl, rfl⟩) rfl rfl h.2.2.2.1, st_rail hf (fun _ => ⟨rfl, rfl, rfl, rfl, rfl, rfl, rfl⟩) rfl h.2.2.2.2.1, st_wait hf (fun _ => ⟨rfl, rfl, rfl⟩) rfl h.2.2.2.2.2.1, st_sale hf (fun _ => ⟨rfl, rfl⟩) h.2.2.2.2.2.2.1, st_found hf (fun _ => ⟨rfl, rfl⟩) h.2.2.2.2.2.2.2⟩
            · intro k k16
              rw [hcol3]
              by_cases ek : k = c
              · subst ek
                rw [r_same, bk_bk]
              · rw [r_ne ek]; exact st k k16 ek
            · intro k k5
              have q := hl k k5
              by_cases e0 : k = 0
              · subst e0
                have z0 : S2.1 13 (6 + 0) = S1.1 13 6 := f2 13 6 rfl
                have z1 : S1.1 13 6 = S.1 13 6 + nI (wt i) := by rw [a4 13 6 rfl, hT, up_p _ _ _ _ (by decide), up_p _ _ _ _ (by decide), hT0, up_same]
                have z2 : S2.1 104 0 = S.1 104 0 + nI (wt i) := by rw [b4 104 0 rfl, hU, up_same, f1 104 0 rfl]
                rw [z0, z1, z2, q]
              · by_cases e2 : k = 2
                · subst e2
                  have z0 : S2.1 13 (6 + 2) = S1.1 13 8 := f2 13 8 rfl
                  rw [z0, a3, b3, fU 104 2 rfl, f1 104 2 rfl, q, fT 13 8 rfl]
                · rw [hf 104 k (by simp [e0, e2]), q, hf 13 (6 + k) (by simp; omega)]
        · have n6 : hl_h col c = 6 := by omega
          rw [if_neg hf6] at fl
          refine pc_of (r := -1000003) (S1 := iz_up S 81 3 (S.1 81 3 + 1)) ?_ ?_ (rl_find (k := 3) h)
          · simp only [Ic_put, Ic_put_47, ic_isColumn, ck_t, lt_e, bI_s, bL_s, bV_s, one_n0, zero_0, if_true, if_false, rfs, o1, if_pos hy, i2, gi, p1', ep, if_pos hp, fl, ic_f3]
          · simp only [Mo_put, Mo_put_41, mo_isColumn, ck_t, lt_e, bI_s, bL_s, bV_s, one_n0, zero_0, if_true, if_false, rfs, mo_has_t (m1' _ _) B60 iB, if_pos hy, i1, i2, gi, gc, u88, ep, if_pos hp, u91, e6, if_pos n6, mo_f3]
      · refine pc_of (r := -1000003) (S1 := iz_up S 81 3 (S.1 81 3 + 1)) ?_ ?_ (rl_find (k := 3) h)
        · simp only [Ic_put, Ic_put_47, ic_isColumn, ck_t, lt_e, bI_s, bL_s, bV_s, one_n0, zero_0, if_true, if_false, rfs, o1, if_pos hy, i2, gi, p1', ep, if_neg hp, ic_f3]
        · simp only [Mo_put, Mo_put_41, mo_isColumn, ck_t, lt_e, bI_s, bL_s, bV_s, one_n0, zero_0, if_true, if_false, rfs, mo_has_t (m1' _ _) B60 iB, if_pos hy, i2, gi, u88, ep, if_neg hp, mo_f3]
    · refine pc_of (r := -1000001) (S1 := iz_up S 81 1 (S.1 81 1 + 1)) ?_ ?_ (rl_find (k := 1) h)
      · simp only [Ic_put, Ic_put_18, ic_isColumn, ck_t, lt_e, bI_s, bL_s, bV_s, one_n0, zero_0, if_true, if_false, rfs, o1, if_neg hy, ic_f1]
      · simp only [Mo_put, Mo_put_15, mo_isColumn, ck_t, lt_e, bI_s, bL_s, bV_s, one_n0, zero_0, if_true, if_false, rfs, mo_has_t (m1' _ _) B60 iB, if_neg hy, mo_f1]
  · refine pc_of (r := -1000001) (S1 := iz_up S 81 1 (S.1 81 1 + 1)) ?_ ?_ (rl_find (k := 1) h)
    · simp only [Ic_put, Ic_put_18, ck_t, lt_e, bI_s, bL_s, bV_s, one_n0, zero_0, if_true, if_false, rfs, ho_has_f hc.1 B60 hx, ic_f1]
    · simp only [Mo_put, Mo_put_15, ck_t, lt_e, bI_s, bL_s, bV_s, one_n0, zero_0, if_true, if_false, rfs, mo_has_f (m1' _ _) B60 hx, mo_f1]
