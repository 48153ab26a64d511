/-! PURE: take -/
theorem top_of {L : List Nat} (h : L ≠ []) : ∃ K a, L = K ++ [a] := ⟨L.dropLast, L.getLast h, (List.dropLast_concat_getLast h).symm⟩
theorem ho_lift {S : iz_S} {q B w : Nat} {kd wt : Nat → Nat} {sh : Nat → Bool} {col : Nat → List Nat} (hq : hq_p q) (h : hvc S q B w kd wt sh col) (hi : hvi B w kd wt sh col) {c a : Nat} {K : List Nat} (c16 : c < 16) (e : col c = K ++ [a]) :
    S.1 (q + 4) c = nI (K.length + 1) ∧ Ho_topOf q (nI c) S = some (nI a, S) ∧ Ho_liftTop q (nI c) S = some (nI a, iz_up S (q + 4) c (nI K.length)) := by
  have hl6 := (hi.2.2.2.1 c c16).1
  have eh : hl_h col c = K.length + 1 := by unfold hl_h; rw [e, List.length_append]; rfl
  have l6 : K.length + 1 ≤ 6 := by rw [← eh]; exact hl6
  have hH := h.2.2.2.1 c c16
  rw [eh] at hH
  have b1 := (ho_breaks hq h hi c16 e).1
  have i1 := in_ok (n := c) (N := 16) c16 (by decide)
  have gc := fun (T : iz_S) p => g_nI T p (show c < 2 ^ 31 by omega)
  have e1 : nI (K.length + 1) - 1 = nI K.length := nI_m1 (by omega)
  have t : Ho_topOf q (nI c) S = some (nI a, S) := by
    simp only [Ho_topOf, ck_t, i1, hq.2.2.2.1, gc, hH, e1, b1, bI_s]
  have r := ho_remove (S := S) hq c16 l6 hH (l := K.length) (by omega)
  rw [shP_0 (by omega), show K.length + 1 - 1 = K.length by omega] at r
  refine ⟨hH, t, ?_⟩
  simp only [Ho_liftTop, t, bI_s, bV_s, ck_t, i1, hq.2.2.2.1, gc, hH, e1, r]
theorem hvc_top {S T : iz_S} {q B w : Nat} {kd wt : Nat → Nat} {sh : Nat → Bool} {col : Nat → List Nat} (h : hvc S q B w kd wt sh col) (hi : hvi B w kd wt sh col) {c a : Nat} {K : List Nat} (c16 : c < 16) (e : col c = K ++ [a])
    (hf : fr (fun p i => (p == q + 4 && i == c) || (p == q && decide (6 ≤ i))) S T) (h4 : T.1 (q + 4) c = nI K.length) : hvc (iz_up (iz_up T (q + 2) a 0) (q + 3) a 2) q B w kd wt sh (hl_r col c K) := by
  have hp : ∀ p i, p ≠ q → p ≠ q + 4 → T.1 p i = S.1 p i := fun p i h1 h2 => hf p i (by simp [h1, h2])
  have v := hvg_out (T := iz_up (iz_up T (q + 2) a 0) (q + 3) a 2) (K := K) (R := []) h.2.2 hi c16 e ?_ ?_ ?_ ?_ ?_ ?_ ?_ ?_ ?_
  · rw [List.append_nil] at v
    refine ⟨?_, ?_, v⟩
    · rw [up_p _ _ _ _ (by omega), up_p _ _ _ _ (by omega), hf q 0 (by simp)]; exact h.1
    · rw [up_p _ _ _ _ (by omega), up_p _ _ _ _ (by omega), hf q 5 (by simp)]; exact h.2.1
  · funext i
    rw [up_p _ _ _ _ (by omega), up_p _ _ _ _ (by omega), hp _ _ (by omega) (by omega)]
  · intro i hia
    rw [up_p _ _ _ _ (by omega), up_ne _ _ _ _ (Or.inr hia), hp _ _ (by omega) (by omega)]
  · rw [up_p _ _ _ _ (by omega), up_same]
  · intro i hia
    rw [up_ne _ _ _ _ (Or.inr hia), up_p _ _ _ _ (by omega), hp _ _ (by omega) (by omega)]
  · rw [up_same]
  · intro i hic
    rw [up_p _ _ _ _ (by omega), up_p _ _ _ _ (by omega), hf _ _ (by simp [hic])]
  · rw [up_p _ _ _ _ (by omega), up_p _ _ _ _ (by omega), h4]; rfl
  · intro i _
    rw [up_p _ _ _ _ (by omega), up_p _ _ _ _ (by omega), hp _ _ (by omega) (by omega)]
  · intro i hn
    simp only [List.length_nil] at hn
    omega
theorem bk_last (kd wt : Nat → Nat) (a : Nat) : ∀ L : List Nat, ∃ M, hl_bk kd wt (L ++ [a]) = M ++ [a]
  | [] => ⟨[], by
    show hl_bk kd wt [a] = [a]
    rw [hl_bk, if_neg (by rw [hl_sm]; omega)]
    rfl⟩
  | b :: R => by
    obtain ⟨M, hM⟩ := bk_last kd wt a R
    rw [List.cons_append, hl_bk]
    by_cases q : kd b = 3 ∧ 2 * wt b < hl_sm wt (R ++ [a])
    · rw [if_pos q]; exact ⟨M, hM⟩
    · rw [if_neg q, hM]; exact ⟨b :: M, rfl⟩
theorem sm_app (wt : Nat → Nat) (M : List Nat) : ∀ L : List Nat, hl_sm wt (L ++ M) = hl_sm wt L + hl_sm wt M
  | [] => by rw [List.nil_append, hl_sm, Nat.zero_add]
  | a :: R => by rw [List.cons_append, hl_sm, hl_sm, sm_app wt M R, Nat.add_assoc]
/-- a row of which the top is taken stays whole -/
theorem bk_take {kd wt : Nat → Nat} {a : Nat} : ∀ {K : List Nat}, hl_bk kd wt (K ++ [a]) = K ++ [a] → hl_bk kd wt K = K
  | [], _ => rfl
  | b :: R, h => by
    rw [List.cons_append, hl_bk] at h
    by_cases q : kd b = 3 ∧ 2 * wt b < hl_sm wt (R ++ [a])
    · rw [if_pos q] at h
      have h1 := (bk_sub kd wt (R ++ [a])).length_le
      rw [h, List.length_cons] at h1
      omega
    · rw [if_neg q] at h
      rw [sm_app] at q
      rw [hl_bk, if_neg (by omega), bk_take (List.cons.inj h).2]
theorem ho_emp {S : iz_S} {c H : Nat} (c16 : c < 16) (hH : S.1 17 c = nI H) (h6 : H ≤ 6) : Ho_isEmpty 13 (nI c) S = some (if H = 0 then 1 else 0, S) := by
  have i1 := in_ok (n := c) (N := 16) c16 (by decide)
  have e : (nI H = 0) = (H = 0) := n0_iff (by omega)
  simp only [Ho_isEmpty, Ho_isEmpty_14, ck_t, lt_e, bI_s, bL_s, bV_s, one_n0, zero_0, if_true, if_false, rfs, i1, g_nI _ _ (show c < 2 ^ 31 by omega), hH, e, nb_0, nb_1, decide_true]
  split <;> rfl
theorem pc_take {S : iz_S} (h : rl S) (x : Int32) : pc (Ic_take 0 x) (Mo_take 82 x) S := by
  by_cases hx : 0 ≤ x ∧ x ≤ 15
  · obtain ⟨c, -, c15, rfl⟩ := nI_btw (a := 0) (b := 15) (by decide) hx.1 hx.2 (by decide)
    have c16 : c < 16 := by omega
    obtain ⟨B, w, kd, wt, sh, col, hc, hm, hi, hw, hs, hl⟩ := house_l h.2.2.1
    have hH := hc.2.2.2.1 c c16
    have mH := hm.2.2.1.2.1 c c16
    have l6 : hl_h col c ≤ 6 := (hi.2.2.2.1 c c16).1
    have i1 := in_ok (n := c) (N := 16) c16 (by decide)
    have gc := fun (T : iz_S) p => g_nI T p (show c < 2 ^ 31 by omega)
    have em := ho_emp c16 hH l6
    by_cases hn : col c = []
    · have h0 : hl_h col c = 0 := by unfold hl_h; rw [hn]; rfl
      rw [h0] at hH mH
      rw [if_pos h0] at em
      have e0 : nI 0 = 0 := rfl
      refine pc_of (r := -1000002) (S1 := iz_up S 81 2 (S.1 81 2 + 1)) ?_ ?_ (rl_find (k := 2) h)
      · simp only [Ic_take, ic_isColumn, ck_t, lt_e, bI_s, bL_s, bV_s, one_n0, zero_0, if_true, if_false, rfs, if_pos hx, em, ic_f2]
      · simp only [Mo_take, mo_isColumn, ck_t, lt_e, bI_s, bL_s, bV_s, one_n0, zero_0, if_true, if_false, rfs, if_pos hx, i1, gc, up_p _ _ _ _ (show 91 ≠ 81 by decide), mH, if_pos e0, mo_f2]
    · obtain ⟨K, a, e⟩ := top_of hn
      have h0 : hl_h col c = K.length + 1 := by unfold hl_h; rw [e, List.length_append]; rfl
      rw [if_neg (by omega)] at em
      have ma : a ∈ col c := by rw [e]; simp
      have aB := (hi.2.2.2.2.1 c a c16 ma).1
      have B60 := hi.1
      have i2 := in_ok (n := a) (N := 60) (by omega) (by decide)
      have ga := fun (T : iz_S) p => g_nI T p (show a < 2 ^ 31 by omega)
      obtain ⟨t1, t2, t3⟩ := ho_lift hq_13 hc hi c16 e
      have wa := (ho_breaks hq_13 hc hi c16 e).2.1
      obtain ⟨T, hT⟩ : ∃ T, T = iz_up (iz_up S 17 c (nI K.length)) 13 10 (S.1 13 10 + nI (wt a)) := ⟨_, rfl⟩
      obtain ⟨S1, hS1⟩ : ∃ S1, S1 = iz_up (iz_up T 15 a 0) 16 a 2 := ⟨_, rfl⟩
      have fT : fr (fun p i => (p == 13 + 4 && i == c) || (p == 13 && decide (6 ≤ i))) S T := by
        rw [hT]
        exact fr_up (fr_up (fr_rf _ _) (by simp)) (by simp)
      have hc1 : hvc S1 13 B w kd wt sh (hl_r col c K) := by
        rw [hS1]
        exact hvc_top hc hi c16 e fT (by rw [hT, up_p _ _ _ _ (by decide), up_same])
      have f1 : fr (fun p i => p == 15 || p == 16 || p == 17 || (p == 13 && i == 10)) S S1 := by
        rw [hS1, hT]
        exact fr_up (fr_up (fr_up (fr_up (fr_rf _ _) rfl) rfl) rfl) rfl
      have hm1 : hvm S1 B w kd wt sh col := hvm_st hm hi f1 rfl rfl (fun i => ⟨rfl, rfl, rfl, rfl, rfl, rfl⟩)
      obtain ⟨b1, b2, -, -, -, -, -, -, -, b9⟩ := mo_breaks hm1 hi c16 e
      obtain ⟨S3, hS3⟩ : ∃ S3, S3 = iz_up S1 104 4 (S1.1 104 4 + nI (wt a)) := ⟨_, rfl⟩
      have f3 : fr (fun p2 i2 => p2 == 104 && i2 == 4) S1 S3 := by rw [hS3]; exact fr_1
      have hm3 : hvm S3 B w kd wt sh col := hvm_st hm1 hi f3 rfl rfl (fun i => ⟨rfl, rfl, rfl, rfl, rfl, rfl⟩)
      obtain ⟨S4, r1, r2, r3⟩ := hvm_out hm3 hi c16 e
      rw [List.append_nil] at r2
      have b93 : S3.1 91 c = nI (K.length + 1) := by rw [f3 91 c rfl]; exact b9
      have n1 : ¬ nI (K.length + 1) = 0 := nI_ne0 (by omega) (by omega)
      have e1 : nI (K.length + 1) - 1 = nI K.length := nI_m1 (by omega)
      have i4 : iz_in 4 6 = true := by decide +kernel
      have g4 : ∀ T : iz_S, iz_g T 104 4 = T.1 104 4 := g104 4 (by decide)
      have s4 : ∀ (T : iz_S) v, iz_s T 104 4 v = iz_up T 104 4 v := s104 4 (by decide)
      refine pc_of (r := nI a) (S1 := S1) (S2 := S4) ?_ ?_ ?_
      · have u1 : (iz_up S 17 c (nI K.length)).1 15 a = nI (wt a) := by rw [up_p _ _ _ _ (by decide)]; exact wa
        have u2 : (iz_up S 17 c (nI K.length)).1 13 10 = S.1 13 10 := by rw [up_p _ _ _ _ (by decide)]
        have lg := ho_let (S := T) (a := a) hq_13 (by omega)
        simp only [Ic_take, Ho_throwOut, ic_isColumn, ck_t, lt_e, bI_s, bL_s, bV_s, one_n0, zero_0, if_true, if_false, rfs, if_pos hx, em, t3, i2, ga, u1, u2, ← hT, lg, ← hS1]
      · rw [List.length_nil, Nat.add_zero] at b9
        simp only [Mo_take, mo_isColumn, ck_t, lt_e, bI_s, bL_s, bV_s, one_n0, zero_0, if_true, if_false, rfs, if_pos hx, i1, gc, b9, if_neg n1, e1, b1, i4, i2, ga, b2, g4, s4, ← hS3, b93, r1]
      · have hf : fr (fun p i => p == 15 || p == 16 || p == 17 || (p == 13 && i == 10) || p == 87 || p == 88 || p == 89 || p == 90 || p == 91 || (p == 104 && i == 4)) S S4 := by
          refine fr_tr (fr_tr (fr_mono f1 ?_) (fr_mono f3 ?_)) (fr_mono r3 ?_) <;>
          · intro p i hp
            simp only [Bool.or_eq_true, Bool.and_eq_true, beq_iff_eq] at hp ⊢
            omega
        refine ⟨st_lake hf (fun _ => ⟨rfl, rfl, rfl, rfl, rfl, rfl⟩) h.1, st_shel hf (fun _ => ⟨rfl, rfl, rfl, rfl, rfl, rfl⟩) h.2.1, l_house (B := B) (w := w) (kd := kd) (wt := wt) (sh := sh) (col := hl_r col c K) ⟨?_, r2, ?_, hw, ?_, ?_⟩, st_ord hf (fun _ => ⟨rfl, rfl, rfl, rfl, rfl, rfl, rfl, rfl, rfl, rfl, rfl, rfl, rfl⟩) rfl rfl h.2.2.2.1, st_rail hf (fun _ => ⟨rfl, rfl, rfl, rfl, rfl, rfl, rfl⟩) rfl h.2.2.2.2.1, st_wait hf (fun _ => ⟨rfl, rfl, rfl⟩) rfl h.2.2.2.2.2.1, st_sale hf (fun _ => ⟨rfl, rfl⟩) h.2.2.2.2.2.2.1, st_found hf (fun _ => ⟨rfl, rfl⟩) h.2.2.2.2.2.2.2⟩
        · have f4 : fr (fun p i => p == 87 || p == 88 || p == 89 || p == 90 || p == 91 || (p == 104 && i == 4)) S1 S4 := by
            refine fr_tr (fr_mono f3 ?_) (fr_mono r3 ?_) <;>
            · intro p i hp
              simp only [Bool.or_eq_true, Bool.and_eq_true, beq_iff_eq] at hp ⊢
              omega
          exact hvc_st hc1 (hvi_out hi (by rw [e]; exact List.sublist_append_left K [a])) f4 rfl rfl (fun i => ⟨rfl, rfl, rfl, rfl, rfl⟩)
        · exact hvi_out hi (by rw [e]; exact List.sublist_append_left K [a])
        · intro k k16
          by_cases ek : k = c
          · subst ek
            rw [r_same]
            have := hs k k16
            rw [e] at this
            exact bk_take this
          · rw [r_ne ek]; exact hs k k16
        · intro i i5
          have q := hl i i5
          by_cases e4 : i = 4
          · subst e4
            have z : S1.1 13 10 = S.1 13 10 + nI (wt a) := by rw [hS1, up_p _ _ _ _ (by decide), up_p _ _ _ _ (by decide), hT, up_same]
            have z4 : S4.1 13 (6 + 4) = S1.1 13 10 := (r3 13 10 rfl).trans (f3 13 10 rfl)
            rw [z4, z, r3 104 4 rfl, hS3, up_same, f1 104 4 rfl, q]
          · rw [hf 104 i (by simp [e4]), q, hf 13 (6 + i) (by simp; omega)]
  · refine pc_of (r := -1000001) (S1 := iz_up S 81 1 (S.1 81 1 + 1)) ?_ ?_ (rl_find (k := 1) h)
    · simp only [Ic_take, ic_isColumn, ck_t, lt_e, bI_s, bL_s, bV_s, one_n0, zero_0, if_true, if_false, rfs, if_neg hx, ic_f1]
    · simp only [Mo_take, mo_isColumn, ck_t, lt_e, bI_s, bL_s, bV_s, one_n0, zero_0, if_true, if_false, rfs, if_neg hx, mo_f1]
