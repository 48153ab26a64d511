/-! PURE: move -/
def hl_mv (col : Nat → List Nat) (c d a : Nat) (K : List Nat) : Nat → List Nat := hl_r (hl_r col c K) d (col d ++ [a])
theorem mv_c {col : Nat → List Nat} {c d a : Nat} {K : List Nat} (h : c ≠ d) : hl_mv col c d a K c = K := by unfold hl_mv; rw [r_ne h, r_same]
theorem mv_d (col : Nat → List Nat) (c d a : Nat) (K : List Nat) : hl_mv col c d a K d = col d ++ [a] := r_same _ _ _
theorem mv_n {col : Nat → List Nat} {c d a k : Nat} {K : List Nat} (h1 : k ≠ c) (h2 : k ≠ d) : hl_mv col c d a K k = col k := by unfold hl_mv; rw [r_ne h2, r_ne h1]
theorem mv_mem {col : Nat → List Nat} {c d a : Nat} {K : List Nat} (hcd : c ≠ d) (e : col c = K ++ [a]) {k i : Nat} (h : i ∈ hl_mv col c d a K k) : (i = a ∧ k = d) ∨ i ∈ col k := by
  by_cases e1 : k = d
  · subst e1
    rw [mv_d] at h
    rcases List.mem_append.mp h with q | q
    · exact Or.inr q
    · exact Or.inl ⟨List.mem_singleton.mp q, rfl⟩
  · by_cases e2 : k = c
    · subst e2
      rw [mv_c hcd] at h
      exact Or.inr (by rw [e]; exact List.mem_append_left _ h)
    · rw [mv_n e2 e1] at h
      exact Or.inr h
theorem mv_in {col : Nat → List Nat} {c d a : Nat} {K : List Nat} (hcd : c ≠ d) (c16 : c < 16) (d16 : d < 16) (e : col c = K ++ [a]) (i : Nat) : hl_in (hl_mv col c d a K) i = hl_in col i := by
  rw [Bool.eq_iff_iff, in_iff, in_iff]
  constructor
  · rintro ⟨k, hk, q⟩
    rcases mv_mem hcd e q with ⟨q1, -⟩ | q1
    · exact ⟨c, c16, by rw [e, q1]; simp⟩
    · exact ⟨k, hk, q1⟩
  · rintro ⟨k, hk, q⟩
    by_cases e1 : k = d
    · subst e1
      exact ⟨k, hk, by rw [mv_d]; exact List.mem_append_left _ q⟩
    · by_cases e2 : k = c
      · subst e2
        rw [e] at q
        rcases List.mem_append.mp q with q1 | q1
        · exact ⟨k, hk, by rw [mv_c hcd]; exact q1⟩
        · exact ⟨d, d16, by rw [mv_d]; exact List.mem_append_right _ q1⟩
      · exact ⟨k, hk, by rw [mv_n e2 e1]; exact q⟩
theorem hvg_move {S T : iz_S} {kp wp pp hp sp B w : Nat} {kd wt : Nat → Nat} {sh : Nat → Bool} {col : Nat → List Nat} (h : hvg S kp wp pp hp sp B kd wt sh col) (hi : hvi B w kd wt sh col) {c d a : Nat} {K : List Nat} (hcd : c ≠ d) (c16 : c < 16) (d16 : d < 16) (e : col c = K ++ [a]) (h5 : (col d).length < 6)
    (f1 : ∀ k, T.1 kp k = S.1 kp k) (f2 : ∀ k, T.1 wp k = S.1 wp k) (f3 : ∀ k, T.1 pp k = S.1 pp k) (f4 : ∀ k, k ≠ c → k ≠ d → T.1 hp k = S.1 hp k) (f4c : T.1 hp c = nI K.length) (f4d : T.1 hp d = nI ((col d).length + 1))
    (f5 : ∀ k, k ≠ 6 * d + (col d).length → T.1 sp k = S.1 sp k) (f5c : T.1 sp (6 * d + (col d).length) = nI a) : hvg T kp wp pp hp sp B kd wt sh (hl_mv col c d a K) := by
  refine ⟨fun k hk => ?_, fun k hk => ?_, fun k l hk hl => ?_⟩
  · obtain ⟨g1, g2, g3⟩ := h.1 k hk
    rw [f1, f2, f3]
    unfold hl_w at g2 ⊢
    unfold hl_p at g3 ⊢
    rw [mv_in hcd c16 d16 e]
    exact ⟨g1, g2, g3⟩
  · unfold hl_h
    by_cases e1 : k = d
    · subst e1
      rw [mv_d, f4d, List.length_append]
      rfl
    · by_cases e2 : k = c
      · subst e2
        rw [mv_c hcd, f4c]
      · rw [mv_n e2 e1, f4 k e2 e1]
        exact h.2.1 k hk
  · unfold hl_h at hl
    have l6 := (hi.2.2.2.1 k hk).1
    unfold hl_b
    by_cases e1 : k = d
    · subst e1
      rw [mv_d, List.length_append, List.length_cons, List.length_nil] at hl
      rw [mv_d]
      by_cases e2 : l = (col k).length
      · subst e2
        rw [f5c, get_r (Nat.le_refl _), Nat.sub_self]
        rfl
      · rw [f5 _ (by omega), get_l (by omega)]
        exact h.2.2 k l hk (by unfold hl_h; omega)
    · by_cases e2 : k = c
      · subst e2
        rw [mv_c hcd] at hl ⊢
        rw [e, List.length_append, List.length_cons, List.length_nil] at l6
        rw [f5 _ (by omega)]
        have := h.2.2 k l hk (by unfold hl_h; rw [e, List.length_append]; omega)
        unfold hl_b at this
        rw [e, get_l hl] at this
        exact this
      · rw [mv_n e2 e1] at hl ⊢
        rw [f5 _ (by omega)]
        exact h.2.2 k l hk hl
theorem hvi_move {B w : Nat} {kd wt : Nat → Nat} {sh : Nat → Bool} {col : Nat → List Nat} (hi : hvi B w kd wt sh col) {c d a : Nat} {K : List Nat} (hcd : c ≠ d) (c16 : c < 16) (d16 : d < 16) (e : col c = K ++ [a]) (h5 : (col d).length < 6) : hvi B w kd wt sh (hl_mv col c d a K) := by
  obtain ⟨h1, h2, h3, h4, h5', h6⟩ := hi
  have ac : a ∈ col c := by rw [e]; simp
  have nc := (h4 c c16).2
  rw [e, List.nodup_append] at nc
  have aK : a ∉ K := fun q => nc.2.2 a q a (by simp) rfl
  have ad : ∀ k, k < 16 → a ∈ hl_mv col c d a K k → k = d := fun k hk q => by
    by_cases e1 : k = d
    · exact e1
    · exfalso
      by_cases e2 : k = c
      · subst e2
        rw [mv_c hcd] at q
        exact aK q
      · rw [mv_n e2 e1] at q
        exact e2 (h6 k c a hk c16 q ac)
  refine ⟨h1, h2, h3, fun k hk => ?_, fun k i hk q => ?_, fun k k2 i hk hk2 q q2 => ?_⟩
  · by_cases e1 : k = d
    · subst e1
      rw [mv_d, List.length_append, List.length_cons, List.length_nil]
      refine ⟨by omega, List.nodup_append.mpr ⟨(h4 k hk).2, by simp, fun x hx y hy q => ?_⟩⟩
      rw [List.mem_singleton.mp hy] at q
      subst q
      exact hcd (h6 c k x c16 hk ac hx)
    · by_cases e2 : k = c
      · subst e2
        rw [mv_c hcd]
        have := (h4 k hk).1
        rw [e, List.length_append] at this
        exact ⟨by omega, nc.1⟩
      · rw [mv_n e2 e1]; exact h4 k hk
  · rcases mv_mem hcd e q with ⟨q1, -⟩ | q1
    · rw [q1]; exact h5' c a c16 ac
    · exact h5' k i hk q1
  · by_cases ea : i = a
    · subst ea
      rw [ad k hk q, ad k2 hk2 q2]
    · rcases mv_mem hcd e q with ⟨q1, -⟩ | q1
      · exact absurd q1 ea
      · rcases mv_mem hcd e q2 with ⟨q3, -⟩ | q3
        · exact absurd q3 ea
        · exact h6 k k2 i hk hk2 q1 q3
theorem hv9_move {S T : iz_S} {B w : Nat} {kd wt : Nat → Nat} {sh : Nat → Bool} {col : Nat → List Nat} (h : hv9 S B col) (hi : hvi B w kd wt sh col) {c d a : Nat} {K : List Nat} (hcd : c ≠ d) (c16 : c < 16) (d16 : d < 16) (e : col c = K ++ [a]) (f : ∀ k, k ≠ a → T.1 89 k = S.1 89 k) (fi : T.1 89 a = nI d) : hv9 T B (hl_mv col c d a K) := by
  have ac : a ∈ col c := by rw [e]; simp
  have nc := (hi.2.2.2.1 c c16).2
  rw [e, List.nodup_append] at nc
  refine ⟨fun k i hk q => ?_, fun k hk q => ?_⟩
  · by_cases ea : i = a
    · subst ea
      rw [fi]
      by_cases e1 : k = d
      · rw [e1]
      · exfalso
        by_cases e2 : k = c
        · subst e2
          rw [mv_c hcd] at q
          exact nc.2.2 i q i (by simp) rfl
        · rw [mv_n e2 e1] at q
          exact e2 (hi.2.2.2.2.2 k c i hk c16 q ac)
    · rw [f i ea]
      rcases mv_mem hcd e q with ⟨q1, -⟩ | q1
      · exact absurd q1 ea
      · exact h.1 k i hk q1
  · rw [mv_in hcd c16 d16 e] at q
    have ea : k ≠ a := fun ea => by
      subst ea
      rw [in_iff.mpr ⟨c, c16, ac⟩] at q
      cases q
    rw [f k ea]
    exact h.2 k hk q
theorem pc_move {S : iz_S} (h : rl S) (x y : Int32) : pc (Ic_move 0 x y) (Mo_move 82 x y) S := by
  obtain ⟨B, w, kd, wt, sh, col, hc, hm, hi, hw, hs, hl⟩ := house_l h.2.2.1
  have B60 := hi.1
  by_cases hx : 0 ≤ x ∧ x ≤ 15
  · by_cases hy : 0 ≤ y ∧ y ≤ 15
    · by_cases hxy : x = y
      · refine pc_of (r := -1000001) (S1 := iz_up S 81 1 (S.1 81 1 + 1)) ?_ ?_ (rl_find (k := 1) h)
        · simp only [Ic_move, Ic_move_19, ic_isColumn, ck_t, lt_e, bI_s, bL_s, bV_s, one_n0, zero_0, if_true, if_false, rfs, if_pos hx, if_pos hy, if_pos hxy, ic_f1]
        · simp only [Mo_move, Mo_move_19, mo_isColumn, ck_t, lt_e, bI_s, bL_s, bV_s, one_n0, zero_0, if_true, if_false, rfs, if_pos hx, if_pos hy, if_pos hxy, mo_f1]
      · obtain ⟨c, -, c15, rfl⟩ := nI_btw (a := 0) (b := 15) (by decide) hx.1 hx.2 (by decide)
        obtain ⟨d, -, d15, rfl⟩ := nI_btw (a := 0) (b := 15) (by decide) hy.1 hy.2 (by decide)
        have c16 : c < 16 := by omega
        have d16 : d < 16 := by omega
        have hcd : c ≠ d := fun q => hxy (by rw [q])
        have hH := hc.2.2.2.1 c c16
        have hHd := hc.2.2.2.1 d d16
        have mH := hm.2.2.1.2.1 c c16
        have mHd := hm.2.2.1.2.1 d d16
        have l6 : hl_h col c ≤ 6 := (hi.2.2.2.1 c c16).1
        have l6d : hl_h col d ≤ 6 := (hi.2.2.2.1 d d16).1
        have i1 := in_ok (n := c) (N := 16) c16 (by decide)
        have i2 := in_ok (n := d) (N := 16) d16 (by decide)
        have gc := fun (T : iz_S) p => g_nI T p (show c < 2 ^ 31 by omega)
        have gd := fun (T : iz_S) p => g_nI T p (show d < 2 ^ 31 by omega)
        have em := ho_emp c16 hH l6
        have fl := ho_ful d16 hHd l6d
        have e0 : (nI (hl_h col c) = 0) = (hl_h col c = 0) := n0_iff (by omega)
        have e6 : (nI (hl_h col d) = 6) = (hl_h col d = 6) := propext (nI_eq (b := 6) (by omega) (by decide))
        have u91 : ∀ k v, (iz_up S 81 k v).1 91 c = nI (hl_h col c) := fun k v => by rw [up_p _ _ _ _ (by decide), mH]
        have u91d : ∀ k v, (iz_up S 81 k v).1 91 d = nI (hl_h col d) := fun k v => by rw [up_p _ _ _ _ (by decide), mHd]
        by_cases hn : col c = []
        · have h0 : hl_h col c = 0 := by unfold hl_h; rw [hn]; rfl
          rw [if_pos h0] at em
          refine pc_of (r := -1000002) (S1 := iz_up S 81 2 (S.1 81 2 + 1)) ?_ ?_ (rl_find (k := 2) h)
          · simp only [Ic_move, ic_isColumn, ck_t, lt_e, bI_s, bL_s, bV_s, one_n0, zero_0, if_true, if_false, rfs, if_pos hx, if_pos hy, if_neg hxy, em, ic_f2]
          · simp only [Mo_move, mo_isColumn, ck_t, lt_e, bI_s, bL_s, bV_s, one_n0, zero_0, if_true, if_false, rfs, if_pos hx, if_pos hy, if_neg hxy, i1, gc, u91, e0, if_pos h0, mo_f2]
        · obtain ⟨K, a, e⟩ := top_of hn
          have hk : hl_h col c = K.length + 1 := by unfold hl_h; rw [e, List.length_append]; rfl
          have h0 : ¬ hl_h col c = 0 := by omega
          rw [if_neg h0] at em
          by_cases hf6 : hl_h col d < 6
          · rw [if_pos hf6] at fl
            have n6 : ¬ hl_h col d = 6 := by omega
            have ma : a ∈ col c := by rw [e]; simp
            have aB := (hi.2.2.2.2.1 c a c16 ma).1
            obtain ⟨t1, t2, t3⟩ := ho_lift hq_13 hc hi c16 e
            have hi2 := hvi_move hi hcd c16 d16 e hf6
            obtain ⟨col2, hcol2⟩ : ∃ col2, col2 = hl_mv col c d a K := ⟨_, rfl⟩
            rw [← hcol2] at hi2
            have e2d : col2 d = col d ++ [a] := by rw [hcol2, mv_d]
            obtain ⟨T0, hT0⟩ : ∃ T0, T0 = iz_up S 17 c (nI K.length) := ⟨_, rfl⟩
            obtain ⟨T, hT⟩ : ∃ T, T = iz_up (iz_up T0 18 (6 * d + hl_h col d) (nI a)) 17 d (nI (hl_h col d + 1)) := ⟨_, rfl⟩
            have fT : fr (fun p k => p == 17 || p == 18) S T := by
              rw [hT, hT0]
              exact fr_up (fr_up (fr_up (fr_rf _ _) rfl) rfl) rfl
            have vT : hvc T 13 B w kd wt sh col2 := by
              refine ⟨(fT _ _ rfl).trans hc.1, (fT _ _ rfl).trans hc.2.1, ?_⟩
              rw [hcol2]
              refine hvg_move hc.2.2 hi hcd c16 d16 e hf6 (fun k => fT _ _ rfl) (fun k => fT _ _ rfl) (fun k => fT _ _ rfl) ?_ ?_ ?_ ?_ ?_
              · intro k k1 k2
                rw [hT, up_ne _ _ _ _ (Or.inr k2), up_p _ _ _ _ (by decide), hT0, up_ne _ _ _ _ (Or.inr k1)]
              · rw [hT, up_ne _ _ _ _ (Or.inr hcd), up_p _ _ _ _ (by decide), hT0, up_same]
              · rw [hT, up_same]; rfl
              · intro k hk
                have hk2 : k ≠ 6 * d + hl_h col d := hk
                rw [hT, up_p _ _ _ _ (by decide), up_ne _ _ _ _ (Or.inr hk2), hT0, up_p _ _ _ _ (by decide)]
              · rw [hT, up_p _ _ _ _ (by decide)]; exact up_same _ _ _ _
            obtain ⟨S1, a1, a2, a3, a4⟩ := ho_break hq_13 d16 vT hi2
            rw [e2d] at a2 a3
            have f1 : fr (fun p k => (p == 13 && k == 8) || p == 15 || p == 16 || p == 17 || p == 18) S S1 := by
              refine fr_tr (fr_mono fT ?_) (fr_mono a4 ?_) <;>
              · intro p k hp
                simp only [fhb, Bool.or_eq_true, Bool.and_eq_true, beq_iff_eq] at hp ⊢
                omega
            have hm1 : hvm S1 B w kd wt sh col := hvm_st hm hi f1 rfl rfl (fun i => ⟨rfl, rfl, rfl, rfl, rfl, rfl⟩)
            obtain ⟨U0, hU0⟩ : ∃ U0, U0 = iz_up (iz_up S1 91 c (nI K.length)) 89 a (-1) := ⟨_, rfl⟩
            obtain ⟨U, hU⟩ : ∃ U, U = iz_up (iz_up (iz_up U0 90 (6 * d + hl_h col d) (nI a)) 91 d (nI (hl_h col d + 1))) 89 a (nI d) := ⟨_, rfl⟩
            have fU : fr (fun p k => p == 89 || p == 90 || p == 91) S1 U := by
              rw [hU, hU0]
              exact fr_up (fr_up (fr_up (fr_up (fr_up (fr_rf _ _) rfl) rfl) rfl) rfl) rfl
            have vU : hvm U B w kd wt sh col2 := by
              rw [hcol2]
              refine ⟨(fU _ _ rfl).trans hm1.1, (fU _ _ rfl).trans hm1.2.1, hvg_move hm1.2.2.1 hi hcd c16 d16 e hf6 (fun k => fU _ _ rfl) (fun k => fU _ _ rfl) (fun k => fU _ _ rfl) ?_ ?_ ?_ ?_ ?_, hv9_move hm1.2.2.2 hi hcd c16 d16 e ?_ ?_⟩
              · intro k k1 k2
                rw [hU, up_p _ _ _ _ (by decide), up_ne _ _ _ _ (Or.inr k2), up_p _ _ _ _ (by decide), hU0, up_p _ _ _ _ (by decide), up_ne _ _ _ _ (Or.inr k1)]
              · rw [hU, up_p _ _ _ _ (by decide), up_ne _ _ _ _ (Or.inr hcd), up_p _ _ _ _ (by decide), hU0, up_p _ _ _ _ (by decide), up_same]
              · rw [hU, up_p _ _ _ _ (by decide), up_same]; rfl
              · intro k hk
                have hk2 : k ≠ 6 * d + hl_h col d := hk
                rw [hU, up_p _ _ _ _ (by decide), up_p _ _ _ _ (by decide), up_ne _ _ _ _ (Or.inr hk2), hU0, up_p _ _ _ _ (by decide), up_p _ _ _ _ (by decide)]
              · rw [hU, up_p _ _ _ _ (by decide), up_p _ _ _ _ (by decide)]; exact up_same _ _ _ _
              · intro k hk
                rw [hU, up_ne _ _ _ _ (Or.inr hk), up_p _ _ _ _ (by decide), up_p _ _ _ _ (by decide), hU0, up_ne _ _ _ _ (Or.inr hk), up_p _ _ _ _ (by decide)]
              · rw [hU, up_same]
            obtain ⟨S2, b1, b2, b3, b4⟩ := mo_breakAll vU hi2
            have st : ∀ k, k < 16 → k ≠ d → hl_bk kd wt (col2 k) = col2 k := fun k k16 e1 => by
              rw [hcol2]
              by_cases e2 : k = c
              · subst e2
                rw [mv_c hcd]
                have := hs k k16
                rw [e] at this
                exact bk_take this
              · rw [mv_n e2 e1]; exact hs k k16
            rw [f_one d16 st, e2d] at b2
            rw [ts_one (d := d) (by omega) (by omega) (fun k _ q1 q2 => st k (by omega) q2), e2d] at b3
            obtain ⟨col3, hcol3⟩ : ∃ col3, col3 = hl_r col2 d (hl_bk kd wt (col d ++ [a])) := ⟨_, rfl⟩
            rw [← hcol3] at a2 b2
            have hi3 : hvi B w kd wt sh col3 := by
              rw [hcol3]
              exact hvi_out hi2 (by rw [e2d]; exact bk_sub _ _ _)
            refine pc_of (r := nI a) (S1 := S1) (S2 := S2) ?_ ?_ ?_
            · have u3 : T0.1 17 d = nI (hl_h col d) := by rw [hT0, up_ne _ _ _ _ (Or.inr (fun q => hcd q.symm))]; exact hHd
              have ly := ho_lay (S := T0) (a := a) hq_13 d16 u3 hf6
              rw [show iz_up (iz_up T0 (13 + 5) (6 * d + hl_h col d) (nI a)) (13 + 4) d (nI (hl_h col d + 1)) = T from hT.symm, a1, bV_s] at ly
              rw [show iz_up S (13 + 4) c (nI K.length) = T0 from hT0.symm] at t3
              simp only [Ic_move, ic_isColumn, ck_t, lt_e, bI_s, bL_s, bV_s, one_n0, zero_0, if_true, if_false, rfs, if_pos hx, if_pos hy, if_neg hxy, em, fl, t3, ly]
            · have mH1 : S1.1 91 c = nI (K.length + 1) := by rw [← hk]; exact hm1.2.2.1.2.1 c c16
              have mH2 : S1.1 91 d = nI (hl_h col d) := hm1.2.2.1.2.1 d d16
              obtain ⟨k1, k2, -, -, -, k60, -, -, -, -⟩ := mo_breaks hm1 hi c16 e
              have n1 : ¬ nI (K.length + 1) = 0 := nI_ne0 (by omega) (by omega)
              have e1 : nI (K.length + 1) - 1 = nI K.length := nI_m1 (by omega)
              have hb : S1.1 90 (6 * c + K.length) = nI a := by
                have := mo_at (S := S1) c16 (show K.length < 6 by omega)
                rw [k1] at this
                exact (congrArg Prod.fst (Option.some.inj this)).symm
              have tk := mo_take (S := S1) c16 (show K.length + 1 ≤ 6 by omega) k60 mH1 (l := K.length) (by omega) hb
              rw [shP_0 (by omega), show K.length + 1 - 1 = K.length by omega, ← hU0] at tk
              have u3 : U0.1 91 d = nI (hl_h col d) := by rw [hU0, up_p _ _ _ _ (by decide), up_ne _ _ _ _ (Or.inr (fun q => hcd q.symm))]; exact mH2
              have ly := mo_lay (S := U0) (a := a) d16 u3 hf6 k60
              rw [← hU] at ly
              simp only [Mo_move, mo_isColumn, ck_t, lt_e, bI_s, bL_s, bV_s, one_n0, zero_0, if_true, if_false, rfs, if_pos hx, if_pos hy, if_neg hxy, i1, i2, gc, gd, mH1, if_neg n1, mH2, e6, if_neg n6, e1, k1, tk, ly, b1]
            · have hf : fr (fun p k => (p == 13 && k == 8) || p == 15 || p == 16 || p == 17 || p == 18 || p == 87 || p == 88 || p == 89 || p == 90 || p == 91 || (p == 104 && k == 2)) S S2 := by
                refine fr_tr (fr_tr (fr_mono f1 ?_) (fr_mono fU ?_)) (fr_mono b4 ?_) <;>
                · intro p k hp
                  simp only [fmb, Bool.or_eq_true, Bool.and_eq_true, beq_iff_eq] at hp ⊢
                  omega
              have f2 : fr (fun p k => p == 87 || p == 88 || p == 89 || p == 90 || p == 91 || (p == 104 && k == 2)) S1 S2 := by
                refine fr_tr (fr_mono fU ?_) (fr_mono b4 ?_) <;>
                · intro p k hp
                  simp only [fmb, Bool.or_eq_true, Bool.and_eq_true, beq_iff_eq] at hp ⊢
                  omega
              refine ⟨st_lake hf (fun _ => ⟨rfl, rfl, rfl, rfl, rfl, rfl⟩) h.1, st_shel hf (fun _ => ⟨rfl, rfl, rfl, rfl, rfl, rfl⟩) h.2.1, l_house (B := B) (w := w) (kd := kd) (wt := wt) (sh := sh) (col := col3) ⟨hvc_st a2 hi3 f2 rfl rfl (fun i => ⟨rfl, rfl, rfl, rfl, rfl⟩), b2, hi3, hw, ?_, ?_⟩, st_ord hf (fun _ => ⟨rfl, rfl, rfl, rfl, rfl, rfl, rfl, rfl, rfl, rfl, rfl, rfl, rfl⟩) rfl rfl h.2.2.2.1, st_rail hf (fun _ => ⟨rfl, rfl, rfl, rfl, rfl, rfl, rfl⟩) rfl h.2.2.2.2.1, st_wait hf (fun _ => ⟨rfl, rfl, rfl⟩) rfl h.2.2.2.2.2.1, st_sale hf (fun _ => ⟨rfl, rfl⟩) h.2.2.2.2.2.2.1, st_found hf (fun _ => ⟨rfl, rfl⟩) h.2.2.2.2.2.2.2⟩
              · intro k k16
                rw [hcol3]
                by_cases ek : k = d
                · subst ek
                  rw [r_same, bk_bk]
                · rw [r_ne ek]; exact st k k16 ek
              · intro k k5
                have q := hl k k5
                by_cases e2 : k = 2
                · subst e2
                  have z0 : S2.1 13 (6 + 2) = S1.1 13 8 := f2 13 8 rfl
                  rw [z0, a3, b3, fU 104 2 rfl, f1 104 2 rfl, q, fT 13 8 rfl]
                · rw [hf 104 k (by simp [e2]), q, hf 13 (6 + k) (by simp; omega)]
          · have n6 : hl_h col d = 6 := by omega
            rw [if_neg hf6] at fl
            refine pc_of (r := -1000003) (S1 := iz_up S 81 3 (S.1 81 3 + 1)) ?_ ?_ (rl_find (k := 3) h)
            · simp only [Ic_move, ic_isColumn, ck_t, lt_e, bI_s, bL_s, bV_s, one_n0, zero_0, if_true, if_false, rfs, if_pos hx, if_pos hy, if_neg hxy, em, fl, ic_f3]
            · simp only [Mo_move, mo_isColumn, ck_t, lt_e, bI_s, bL_s, bV_s, one_n0, zero_0, if_true, if_false, rfs, if_pos hx, if_pos hy, if_neg hxy, i1, i2, gc, gd, u91, e0, if_neg h0, u91d, e6, if_pos n6, mo_f3]
    · refine pc_of (r := -1000001) (S1 := iz_up S 81 1 (S.1 81 1 + 1)) ?_ ?_ (rl_find (k := 1) h)
      · simp only [Ic_move, Ic_move_19, ic_isColumn, ck_t, lt_e, bI_s, bL_s, bV_s, one_n0, zero_0, if_true, if_false, rfs, if_pos hx, if_neg hy, ic_f1]
      · simp only [Mo_move, Mo_move_19, mo_isColumn, ck_t, lt_e, bI_s, bL_s, bV_s, one_n0, zero_0, if_true, if_false, rfs, if_pos hx, if_neg hy, mo_f1]
  · refine pc_of (r := -1000001) (S1 := iz_up S 81 1 (S.1 81 1 + 1)) ?_ ?_ (rl_find (k := 1) h)
    · simp only [Ic_move, Ic_move_19, ic_isColumn, ck_t, lt_e, bI_s, bL_s, bV_s, one_n0, zero_0, if_true, if_false, rfs, if_neg hx, ic_f1]
    · simp only [Mo_move, Mo_move_19, mo_isColumn, ck_t, lt_e, bI_s, bL_s, bV_s, one_n0, zero_0, if_true, if_false, rfs, if_neg hx, mo_f1]
