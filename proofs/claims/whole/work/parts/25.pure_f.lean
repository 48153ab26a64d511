/-! PURE: order, cell -/
def ok_or (g w u t p : Int32) : Prop := (0 ≤ g ∧ g ≤ 2) ∧ (1 ≤ w ∧ w ≤ 2000) ∧ (0 ≤ u ∧ u ≤ 100) ∧ (0 ≤ t ∧ t ≤ 20) ∧ (1 ≤ p ∧ p ≤ 1000)
theorem ic_order_f {g w u t p : Int32} (h : ¬ ok_or g w u t p) (S : iz_S) : Ic_order 0 g w u t p S = some (-1000001, iz_up S 81 1 (S.1 81 1 + 1)) := by
  by_cases h1 : 0 ≤ g ∧ g ≤ 2
  · by_cases h2 : 1 ≤ w ∧ w ≤ 2000
    · by_cases h3 : 0 ≤ u ∧ u ≤ 100
      · by_cases h4 : 0 ≤ t ∧ t ≤ 20
        · by_cases h5 : 1 ≤ p ∧ p ≤ 1000
          · exact absurd ⟨h1, h2, h3, h4, h5⟩ h
          · simp only [Ic_order, Ic_order_57, Ic_order_58, ic_within, ck_t, lt_e, bI_s, bL_s, bV_s, one_n0, zero_0, if_true, if_false, rfs, if_pos h1, if_pos h2, if_pos h3, if_pos h4, if_neg h5, ic_f1]
        · simp only [Ic_order, Ic_order_57, Ic_order_58, ic_within, ck_t, lt_e, bI_s, bL_s, bV_s, one_n0, zero_0, if_true, if_false, rfs, if_pos h1, if_pos h2, if_pos h3, if_neg h4, ic_f1]
      · simp only [Ic_order, Ic_order_57, Ic_order_58, ic_within, ck_t, lt_e, bI_s, bL_s, bV_s, one_n0, zero_0, if_true, if_false, rfs, if_pos h1, if_pos h2, if_neg h3, ic_f1]
    · simp only [Ic_order, Ic_order_57, Ic_order_58, ic_within, ck_t, lt_e, bI_s, bL_s, bV_s, one_n0, zero_0, if_true, if_false, rfs, if_pos h1, if_neg h2, ic_f1]
  · simp only [Ic_order, Ic_order_57, Ic_order_58, ic_within, ck_t, lt_e, bI_s, bL_s, bV_s, one_n0, zero_0, if_true, if_false, rfs, if_neg h1, ic_f1]
theorem mo_order_f {g w u t p : Int32} (h : ¬ ok_or g w u t p) (S : iz_S) : Mo_order 82 g w u t p S = some (-1000001, iz_up S 106 1 (S.1 106 1 + 1)) := by
  by_cases h1 : 0 ≤ g ∧ g ≤ 2
  · by_cases h2 : 1 ≤ w ∧ w ≤ 2000
    · by_cases h3 : 0 ≤ u ∧ u ≤ 100
      · by_cases h4 : 0 ≤ t ∧ t ≤ 20
        · by_cases h5 : 1 ≤ p ∧ p ≤ 1000
          · exact absurd ⟨h1, h2, h3, h4, h5⟩ h
          · simp only [Mo_order, Mo_order_53, mo_isIn, ck_t, lt_e, bI_s, bL_s, bV_s, one_n0, zero_0, if_true, if_false, rfs, if_pos h1, if_pos h2, if_pos h3, if_pos h4, if_neg h5, mo_f1]
        · simp only [Mo_order, Mo_order_53, mo_isIn, ck_t, lt_e, bI_s, bL_s, bV_s, one_n0, zero_0, if_true, if_false, rfs, if_pos h1, if_pos h2, if_pos h3, if_neg h4, mo_f1]
      · simp only [Mo_order, Mo_order_53, mo_isIn, ck_t, lt_e, bI_s, bL_s, bV_s, one_n0, zero_0, if_true, if_false, rfs, if_pos h1, if_pos h2, if_neg h3, mo_f1]
    · simp only [Mo_order, Mo_order_53, mo_isIn, ck_t, lt_e, bI_s, bL_s, bV_s, one_n0, zero_0, if_true, if_false, rfs, if_pos h1, if_neg h2, mo_f1]
  · simp only [Mo_order, Mo_order_53, mo_isIn, ck_t, lt_e, bI_s, bL_s, bV_s, one_n0, zero_0, if_true, if_false, rfs, if_neg h1, mo_f1]
theorem ct_cong {p q : Nat → Bool} : ∀ {n : Nat}, (∀ k, k < n → p k = q k) → fa_ct p n = fa_ct q n
  | 0, _ => rfl
  | n + 1, h => by
    unfold fa_ct
    rw [ct_cong (fun k hk => h k (by omega)), h n (by omega)]
theorem ct_le (p : Nat → Bool) : ∀ n, fa_ct p n ≤ n
  | 0 => Nat.le_refl 0
  | n + 1 => by
    have := ct_le p n
    unfold fa_ct
    split <;> omega
def rl_oc (S : iz_S) (n : Nat) (g w u t p : Int32) : iz_S := iz_up (iz_up (iz_up (iz_up (iz_up (iz_up S 40 n g) 41 n w) 42 n u) 43 n t) 39 n p) 38 0 (nI (n + 1))
def rl_om (S : iz_S) (n : Nat) (g w u t p : Int32) : iz_S := iz_up (iz_up (iz_up (iz_up (iz_up (iz_up S 95 n g) 96 n w) 97 n u) 98 n t) 99 n p) 82 14 (nI (n + 1))
theorem pc_order {S : iz_S} (h : rl S) (g w u t p : Int32) : pc (Ic_order 0 g w u t p) (Mo_order 82 g w u t p) S := by
  by_cases ho : ok_or g w u t p
  · obtain ⟨n, hn, e1, e2, e3, e4, e5⟩ := id h.2.2.2.1
    obtain ⟨o1, o2, o3, o4, o5⟩ := id ho
    by_cases hc : n = 10
    · subst hc
      refine pc_of (r := -1000004) (S1 := iz_up S 81 4 (S.1 81 4 + 1)) ?_ ?_ (rl_find (k := 4) h)
      · have : ¬ (nI 10 < 10) := by decide +kernel
        simp only [Ic_order, Ic_order_58, ic_within, ck_t, lt_e, bI_s, bL_s, bV_s, one_n0, zero_0, if_true, if_false, rfs, if_pos o1, if_pos o2, if_pos o3, if_pos o4, if_pos o5, e1, if_neg this, ic_f4]
      · have : (iz_up S 81 4 (S.1 81 4 + 1)).1 82 14 = 10 := by rw [up_p _ _ _ _ (by decide), e2]; rfl
        simp only [Mo_order, mo_isIn, ck_t, lt_e, bI_s, bL_s, bV_s, one_n0, zero_0, if_true, if_false, rfs, if_pos o1, if_pos o2, if_pos o3, if_pos o4, if_pos o5, if_pos this, mo_f4]
    · have hlt : n < 10 := by omega
      have c1 : nI n < 10 := nI_lt hlt (by decide)
      have c2 : ¬ nI n = 10 := fun e => absurd ((nI_eq (b := 10) (by omega) (by decide)).mp e) (by omega)
      have i1 := in_ok (n := n) (N := 10) hlt (by decide)
      obtain ⟨S1, hS1⟩ : ∃ S1, S1 = rl_oc S n g w u t p := ⟨_, rfl⟩
      obtain ⟨S2, hS2⟩ : ∃ S2, S2 = rl_om S1 n g w u t p := ⟨_, rfl⟩
      have q2 : S1.1 82 14 = nI n := by simp [hS1, rl_oc, upA, e2]
      refine pc_of (r := nI n) (S1 := S1) (S2 := S2) ?_ ?_ ?_
      · have hx : ∀ T : iz_S, T.1 38 0 = nI n → Or_enter 38 g w u t p T = some (nI n, rl_oc T n g w u t p) := by
          intro T hT
          have s1 : (iz_up T 40 n g).1 38 0 = nI n := by simp [upA, hT]
          have s2 : (iz_up (iz_up T 40 n g) 41 n w).1 38 0 = nI n := by simp [upA, hT]
          have s3 : (iz_up (iz_up (iz_up T 40 n g) 41 n w) 42 n u).1 38 0 = nI n := by simp [upA, hT]
          have s4 : (iz_up (iz_up (iz_up (iz_up T 40 n g) 41 n w) 42 n u) 43 n t).1 38 0 = nI n := by simp [upA, hT]
          have s5 : (iz_up (iz_up (iz_up (iz_up (iz_up T 40 n g) 41 n w) 42 n u) 43 n t) 39 n p).1 38 0 = nI n := by simp [upA, hT]
          simp only [Or_enter, ck_t, lt_e, bI_s, bL_s, bV_s, one_n0, zero_0, if_true, if_false, rfs, hT, i1, s_nI _ _ (show n < 2 ^ 31 by omega), s1, s2, s3, s4, s5, nI_1, up_same, nI_pred]
          rfl
        simp only [Ic_order, Ic_order_58, ic_within, ck_t, lt_e, bI_s, bL_s, bV_s, one_n0, zero_0, if_true, if_false, rfs, if_pos o1, if_pos o2, if_pos o3, if_pos o4, if_pos o5, e1, if_pos c1, hx S e1]
        rw [hS1]
      · have s1 : (iz_up S1 95 n g).1 82 14 = nI n := by simp [upA, q2]
        have s2 : (iz_up (iz_up S1 95 n g) 96 n w).1 82 14 = nI n := by simp [upA, q2]
        have s3 : (iz_up (iz_up (iz_up S1 95 n g) 96 n w) 97 n u).1 82 14 = nI n := by simp [upA, q2]
        have s4 : (iz_up (iz_up (iz_up (iz_up S1 95 n g) 96 n w) 97 n u) 98 n t).1 82 14 = nI n := by simp [upA, q2]
        have s5 : (iz_up (iz_up (iz_up (iz_up (iz_up S1 95 n g) 96 n w) 97 n u) 98 n t) 99 n p).1 82 14 = nI n := by simp [upA, q2]
        simp only [Mo_order, mo_isIn, ck_t, lt_e, bI_s, bL_s, bV_s, one_n0, zero_0, if_true, if_false, rfs, if_pos o1, if_pos o2, if_pos o3, if_pos o4, if_pos o5, q2, if_neg c2, i1, s_nI _ _ (show n < 2 ^ 31 by omega), s1, s2, s3, s4, s5, nI_1, up_same, nI_pred]
        rw [hS2]
        rfl
      · have hf : fr (fun p i => (p == 38 && i == 0) || p == 39 || p == 40 || p == 41 || p == 42 || p == 43 || p == 95 || p == 96 || p == 97 || p == 98 || p == 99 || (p == 82 && i == 14)) S S2 := by
          rw [hS2, hS1]
          exact fr_up (fr_up (fr_up (fr_up (fr_up (fr_up (fr_up (fr_up (fr_up (fr_up (fr_up (fr_up (fr_rf _ S) rfl) rfl) rfl) rfl) rfl) rfl) rfl) rfl) rfl) rfl) rfl) rfl
        refine ⟨st_lake hf (fun _ => ⟨rfl, rfl, rfl, rfl, rfl, rfl⟩) h.1, st_shel hf (fun _ => ⟨rfl, rfl, rfl, rfl, rfl, rfl⟩) h.2.1, st_house hf (fun _ => ⟨rfl, rfl, rfl, rfl, rfl, rfl, rfl, rfl, rfl, rfl, rfl, rfl⟩) rfl rfl (fun _ _ => rfl) h.2.2.1, ?_, st_rail hf (fun _ => ⟨rfl, rfl, rfl, rfl, rfl, rfl, rfl⟩) rfl h.2.2.2.2.1, st_wait hf (fun _ => ⟨rfl, rfl, rfl⟩) rfl h.2.2.2.2.2.1, st_sale hf (fun _ => ⟨rfl, rfl⟩) h.2.2.2.2.2.2.1, st_found hf (fun _ => ⟨rfl, rfl⟩) h.2.2.2.2.2.2.2⟩
        have h44 : S2.1 44 = S.1 44 := funext fun i => hf 44 i rfl
        have h0 : S.1 44 n = 0 := (e5 n hlt).2.2.2.2.2.2.2.1 (Nat.le_refl n)
        refine ⟨n + 1, by omega, by simp [hS2, hS1, rl_om, rl_oc, upA, upd], by simp [hS2, rl_om, upA, upd], by rw [hf 104 5 rfl, hf 38 2 rfl, e3], ?_, fun i hi => ?_⟩
        · rw [hf 38 1 rfl, h44, e4]
          show nI (fa_ct _ n) = nI (fa_ct _ n + _)
          simp [h0]
        · rw [h44, hf 100 i rfl]
          obtain ⟨r1, r2, r3, r4, r5, r6, r7, r8, r9⟩ := e5 i hi
          by_cases e : i = n
          · subst e
            obtain ⟨gg, -, g2, rfl⟩ := nI_btw (a := 0) (b := 2) (by decide) o1.1 o1.2 (by decide)
            obtain ⟨ww, w1, w2, rfl⟩ := nI_btw (a := 1) (b := 2000) (by decide) o2.1 o2.2 (by decide)
            obtain ⟨uu, -, u2, rfl⟩ := nI_btw (a := 0) (b := 100) (by decide) o3.1 o3.2 (by decide)
            obtain ⟨tt, -, t2, rfl⟩ := nI_btw (a := 0) (b := 20) (by decide) o4.1 o4.2 (by decide)
            obtain ⟨pp, p1, p2, rfl⟩ := nI_btw (a := 1) (b := 1000) (by decide) o5.1 o5.2 (by decide)
            refine ⟨by simp [hS2, hS1, rl_om, rl_oc, upA, upd], by simp [hS2, hS1, rl_om, rl_oc, upA, upd], by simp [hS2, hS1, rl_om, rl_oc, upA, upd], by simp [hS2, hS1, rl_om, rl_oc, upA, upd], by simp [hS2, hS1, rl_om, rl_oc, upA, upd], r6, r7, fun q => absurd q (by omega), fun _ => ⟨gg, ww, uu, tt, pp, g2, w1, w2, u2, t2, p1, p2, by simp [hS2, hS1, rl_om, rl_oc, upA, upd]⟩⟩
          · have z40 : S2.1 40 i = S.1 40 i := by simp [hS2, hS1, rl_om, rl_oc, upA, upd, e]
            have z41 : S2.1 41 i = S.1 41 i := by simp [hS2, hS1, rl_om, rl_oc, upA, upd, e]
            have z42 : S2.1 42 i = S.1 42 i := by simp [hS2, hS1, rl_om, rl_oc, upA, upd, e]
            have z43 : S2.1 43 i = S.1 43 i := by simp [hS2, hS1, rl_om, rl_oc, upA, upd, e]
            have z39 : S2.1 39 i = S.1 39 i := by simp [hS2, hS1, rl_om, rl_oc, upA, upd, e]
            have z95 : S2.1 95 i = S.1 95 i := by simp [hS2, hS1, rl_om, rl_oc, upA, upd, e]
            have z96 : S2.1 96 i = S.1 96 i := by simp [hS2, hS1, rl_om, rl_oc, upA, upd, e]
            have z97 : S2.1 97 i = S.1 97 i := by simp [hS2, hS1, rl_om, rl_oc, upA, upd, e]
            have z98 : S2.1 98 i = S.1 98 i := by simp [hS2, hS1, rl_om, rl_oc, upA, upd, e]
            have z99 : S2.1 99 i = S.1 99 i := by simp [hS2, hS1, rl_om, rl_oc, upA, upd, e]
            rw [z40, z41, z42, z43, z39, z95, z96, z97, z98, z99]
            exact ⟨r1, r2, r3, r4, r5, r6, r7, fun q => r8 (by omega), fun q => r9 (by omega)⟩
  · exact pc_of (ic_order_f ho S) (mo_order_f ho _) (rl_find (k := 1) h)
theorem mo_isCell (v : Int32) (S : iz_S) : Mo_isCell v S = some (if 0 ≤ v ∧ v ≤ 63 then 1 else 0, S) := by
  unfold Mo_isCell
  rw [mo_isIn]
  by_cases h : 0 ≤ v ∧ v ≤ 63
  · simp only [if_pos h, bI_s]; rfl
  · simp only [if_neg h, bI_s]; rfl
theorem sw_in {α : Type} {k hi : Nat} {os : List (Option α)} {od : Option α} (hk : k ≤ hi) (hh : hi < 2 ^ 31) : iz_sw (nI k) 0 (hi : Int) os od = os.getD k none := by
  unfold iz_sw
  rw [nI_toInt (by omega), if_neg (by omega)]
  congr 1
theorem sw_out {α : Type} {x : Int32} {hi : Nat} {os : List (Option α)} {od : Option α} (h : ¬ (0 ≤ x ∧ x ≤ nI hi)) (hh : hi < 2 ^ 31) : iz_sw x 0 (hi : Int) os od = od := by
  unfold iz_sw
  refine if_pos ?_
  rw [fa_le, fa_le, nI_toInt hh] at h
  have e1 : (0 : Int32).toInt = 0 := rfl
  omega
theorem pc_cell {S : iz_S} (h : rl S) (x y : Int32) : pc (Ic_cell 0 x y) (Mo_cell 82 x y) S := by
  by_cases h1 : 0 ≤ x ∧ x ≤ 63
  · by_cases h2 : 0 ≤ y ∧ y ≤ 2
    · obtain ⟨c, -, c2, rfl⟩ := nI_btw (a := 0) (b := 63) (by decide) h1.1 h1.2 (by decide)
      obtain ⟨k, -, k2, rfl⟩ := nI_btw (a := 0) (b := 2) (by decide) h2.1 h2.2 (by decide)
      have i1 := in_ok (n := c) (N := 64) (by omega) (by decide)
      obtain ⟨r1, r2, r3, -⟩ := h.1 c (by omega)
      have hsw : ∀ {os : List (Option (Int32 × iz_S))} {od}, iz_sw (nI k) 0 2 os od = os.getD k none := sw_in k2 (by decide)
      rcases (show k = 0 ∨ k = 1 ∨ k = 2 by omega) with rfl | rfl | rfl
      · refine pc_of (r := S.1 2 c) (S1 := S) (S2 := S) ?_ ?_ h
        · simp only [Ic_cell, ic_within, ck_t, lt_e, bI_s, bL_s, bV_s, one_n0, zero_0, if_true, if_false, rfs, if_pos h1, hsw, List.getD_cons_zero, i1, g_nI _ _ (show c < 2 ^ 31 by omega)]
        · simp only [Mo_cell, Mo_cell_63, mo_isCell, mo_isIn, ck_t, lt_e, bI_s, bL_s, bV_s, one_n0, zero_0, if_true, if_false, rfs, if_pos h1, if_pos h2, if_pos (show nI 0 = 0 from rfl), i1, g_nI _ _ (show c < 2 ^ 31 by omega), r1]
      · refine pc_of (r := S.1 3 c) (S1 := S) (S2 := S) ?_ ?_ h
        · simp only [Ic_cell, ic_within, ck_t, lt_e, bI_s, bL_s, bV_s, one_n0, zero_0, if_true, if_false, rfs, if_pos h1, hsw, List.getD_cons_succ, List.getD_cons_zero, i1, g_nI _ _ (show c < 2 ^ 31 by omega)]
        · simp only [Mo_cell, Mo_cell_63, mo_isCell, mo_isIn, ck_t, lt_e, bI_s, bL_s, bV_s, one_n0, zero_0, if_true, if_false, rfs, if_pos h1, if_pos h2, if_neg (show ¬ nI 1 = 0 by decide +kernel), if_pos (show nI 1 = 1 from rfl), i1, g_nI _ _ (show c < 2 ^ 31 by omega), r2]
      · by_cases hz : S.1 4 c = 0
        · refine pc_of (r := 0) (S1 := S) (S2 := S) ?_ ?_ h
          · simp only [Ic_cell, Ic_cell_81, ic_within, ck_t, lt_e, bI_s, bL_s, bV_s, one_n0, zero_0, if_true, if_false, rfs, if_pos h1, hsw, List.getD_cons_succ, List.getD_cons_zero, i1, g_nI _ _ (show c < 2 ^ 31 by omega), if_pos hz]
          · simp only [Mo_cell, Mo_cell_63, mo_isCell, mo_isIn, ck_t, lt_e, bI_s, bL_s, bV_s, one_n0, zero_0, if_true, if_false, rfs, if_pos h1, if_pos h2, if_neg (show ¬ nI 2 = 0 by decide +kernel), if_neg (show ¬ nI 2 = 1 by decide +kernel), i1, g_nI _ _ (show c < 2 ^ 31 by omega), r3, if_pos hz]
        · refine pc_of (r := 1) (S1 := S) (S2 := S) ?_ ?_ h
          · simp only [Ic_cell, Ic_cell_81, ic_within, ck_t, lt_e, bI_s, bL_s, bV_s, one_n0, zero_0, if_true, if_false, rfs, if_pos h1, hsw, List.getD_cons_succ, List.getD_cons_zero, i1, g_nI _ _ (show c < 2 ^ 31 by omega), if_neg hz]
          · simp only [Mo_cell, Mo_cell_63, mo_isCell, mo_isIn, ck_t, lt_e, bI_s, bL_s, bV_s, one_n0, zero_0, if_true, if_false, rfs, if_pos h1, if_pos h2, if_neg (show ¬ nI 2 = 0 by decide +kernel), if_neg (show ¬ nI 2 = 1 by decide +kernel), i1, g_nI _ _ (show c < 2 ^ 31 by omega), r3, if_neg hz]
    · have hsw : ∀ {os : List (Option (Int32 × iz_S))} {od}, iz_sw y 0 2 os od = od := sw_out (hi := 2) h2 (by decide)
      refine pc_of (r := -1000001) (S1 := iz_up S 81 1 (S.1 81 1 + 1)) ?_ ?_ (rl_find (k := 1) h)
      · simp only [Ic_cell, ic_within, ck_t, lt_e, bI_s, bL_s, bV_s, one_n0, zero_0, if_true, if_false, rfs, if_pos h1, hsw, ic_f1]
      · simp only [Mo_cell, Mo_cell_16, mo_isCell, mo_isIn, ck_t, lt_e, bI_s, bL_s, bV_s, one_n0, zero_0, if_true, if_false, rfs, if_pos h1, if_neg h2, mo_f1]
  · refine pc_of (r := -1000001) (S1 := iz_up S 81 1 (S.1 81 1 + 1)) ?_ ?_ (rl_find (k := 1) h)
    · simp only [Ic_cell, ic_within, ck_t, lt_e, bI_s, bL_s, bV_s, one_n0, zero_0, if_true, if_false, rfs, if_neg h1, ic_f1]
    · simp only [Mo_cell, Mo_cell_16, mo_isCell, mo_isIn, ck_t, lt_e, bI_s, bL_s, bV_s, one_n0, zero_0, if_true, if_false, rfs, if_neg h1, mo_f1]
