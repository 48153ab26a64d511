/-! PURE: the best dust -/
def bd_cm (cv W kd : Nat → Nat) (w : Nat) (h : Nat → Nat) (b : Nat → Nat → Nat) (wt : Nat → Nat) (c t : Nat) : Nat := hs_ls (fun l => hml (wk_w W w) (hop h cv c l + t) (hfk (kd (b c l))) (wt (b c l))) (h c) 0
def bd_TT (cv W kd : Nat → Nat) (w : Nat) (h : Nat → Nat) (b : Nat → Nat → Nat) (wt : Nat → Nat) (x : Nat) : Nat := hs_tt (wk_m (fun i => bd_d i x) cv W kd w h b wt) h 0 16
theorem bd_tq (cv W kd : Nat → Nat) (w : Nat) (h : Nat → Nat) (b : Nat → Nat → Nat) (wt : Nat → Nat) (d : Nat → Nat) (cm : Nat → Nat → Nat) (hcm : cm = bd_cm cv W kd w h b wt) : hs_tt (wk_m d cv W kd w h b wt) h 0 16 = cm 0 (10 - d 0 + (10 - d 2)) + (cm 1 (10 - d 0 + 0) + (cm 2 (10 - d 0 + 0) + (cm 3 (10 - d 0 + (10 - d 3)) + (cm 4 (0 + (10 - d 2)) + (cm 5 0 + (cm 6 0 + (cm 7 (0 + (10 - d 3)) + (cm 8 (0 + (10 - d 2)) + (cm 9 0 + (cm 10 0 + (cm 11 (0 + (10 - d 3)) + (cm 12 (10 - d 1 + (10 - d 2)) + (cm 13 (10 - d 1 + 0) + (cm 14 (10 - d 1 + 0) + (cm 15 (10 - d 1 + (10 - d 3)) + 0))))))))))))))) := by
  subst hcm
  rfl
theorem bd_inE (cm : Nat → Nat → Nat) : bd_in cm 16 = cm 5 0 + cm 6 0 + cm 9 0 + cm 10 0 := by simp [bd_in, bd_r, bd_q]
theorem bd_a0 (cm : Nat → Nat → Nat) (d : Nat) : bd_aw cm 0 d 16 = cm 1 (10 - d) + cm 2 (10 - d) := by simp [bd_aw, bd_r, bd_q]
theorem bd_a1 (cm : Nat → Nat → Nat) (d : Nat) : bd_aw cm 1 d 16 = cm 13 (10 - d) + cm 14 (10 - d) := by simp [bd_aw, bd_r, bd_q]
theorem bd_a2 (cm : Nat → Nat → Nat) (d : Nat) : bd_aw cm 2 d 16 = cm 4 (10 - d) + cm 8 (10 - d) := by simp [bd_aw, bd_r, bd_q]
theorem bd_a3 (cm : Nat → Nat → Nat) (d : Nat) : bd_aw cm 3 d 16 = cm 7 (10 - d) + cm 11 (10 - d) := by simp [bd_aw, bd_r, bd_q]
theorem bd_hT (cv W kd : Nat → Nat) (w : Nat) (h : Nat → Nat) (b : Nat → Nat → Nat) (wt : Nat → Nat) (a0 b0 c0 d0 : Nat) (ha : a0 < 11) (hb : b0 < 11) (hc : c0 < 11) (hd : d0 < 11) : bd_TT cv W kd w h b wt (bd_x a0 b0 c0 d0) = bd_tt (bd_cm cv W kd w h b wt) a0 b0 c0 d0 := by
  obtain ⟨q1, q2, q3, q4⟩ := bd_sx a0 b0 c0 d0 ha hb hc hd
  have e0 : bd_d 0 (bd_x a0 b0 c0 d0) = a0 := q1
  have e1 : bd_d 1 (bd_x a0 b0 c0 d0) = b0 := q2
  have e2 : bd_d 2 (bd_x a0 b0 c0 d0) = c0 := q3
  have e3 : bd_d 3 (bd_x a0 b0 c0 d0) = d0 := q4
  obtain ⟨cm, hcm⟩ : ∃ cm, cm = bd_cm cv W kd w h b wt := ⟨_, rfl⟩
  rw [← hcm, bd_TT, bd_tq cv W kd w h b wt _ cm hcm]
  show cm 0 (10 - bd_d 0 (bd_x a0 b0 c0 d0) + (10 - bd_d 2 (bd_x a0 b0 c0 d0))) + _ = _
  simp only [e0, e1, e2, e3]
  unfold bd_tt bd_sd
  rw [bd_inE, bd_a0, bd_a1, bd_a2, bd_a3, show bd_cc (2 - 2) = 0 from rfl, show bd_cc 2 = 12 from rfl, show bd_cc (3 - 2) = 3 from rfl, show bd_cc 3 = 15 from rfl]
  rw [show 10 - a0 + (10 - c0) = 20 - (a0 + c0) by omega, show 10 - a0 + (10 - d0) = 20 - (a0 + d0) by omega, show 10 - b0 + (10 - c0) = 20 - (b0 + c0) by omega, show 10 - b0 + (10 - d0) = 20 - (b0 + d0) by omega]
  simp only [Nat.add_zero, Nat.zero_add]
  omega
theorem tt_le {f : Nat → Nat → Nat} {h : Nat → Nat} : ∀ {j c : Nat}, (∀ k, c ≤ k → k < c + j → hs_ls (f k) (h k) 0 ≤ 7200) → hs_tt f h c j ≤ 7200 * j
  | 0, _, _ => Nat.zero_le _
  | j + 1, c, q => by
    have h1 := q c (Nat.le_refl c) (by omega)
    have h2 := tt_le (j := j) (c := c + 1) (fun k q1 q2 => q k (by omega) (by omega))
    rw [hs_tt, Nat.mul_succ]
    omega
theorem bd_TB {cv W kd : Nat → Nat} {B w : Nat} {h : Nat → Nat} {b : Nat → Nat → Nat} {wt pl : Nat → Nat} (hi : hs_i B w h b kd wt pl) (x : Nat) : bd_TT cv W kd w h b wt x < 1000000 := by
  have := tt_le (f := wk_m (fun i => bd_d i x) cv W kd w h b wt) (h := h) (j := 16) (c := 0) (fun k _ hk => by
    have h6 := hi.2.2.2.1 k (by omega)
    have := ls_le (f := wk_m (fun i => bd_d i x) cv W kd w h b wt k) (M := 1200) (n := h k) (s := 0) (fun l hl => by
      have h1 := (hi.2.2.1 _ (hi.2.2.2.2.1 k l (by omega) hl).1).2.1
      have h2 := hml_le (wk_w W w) (hop h cv k l + (wl_r (fun i => bd_d i x) k + wl_s (fun i => bd_d i x) k)) (hfk (kd (b k l))) (wt (b k l))
      exact Nat.le_trans h2 h1)
    have h3 : 1200 * h k ≤ 1200 * 6 := Nat.mul_le_mul_left 1200 h6
    omega)
  unfold bd_TT
  omega
theorem bd_some (T : Nat → Nat) (n : Nat) : ∃ p, mn (bd_k T n) 14641 = some p := by
  have e1 : mn (bd_k T n) (0 + 1) = _ := bd_1 (T := T) (n := n) (m := 0) (Nat.zero_le n)
  have e2 := mn_add (bd_k T n) 1 14640
  rw [show mn (bd_k T n) 1 = some (T 0 * 64 + bd_s 0, 0) from e1] at e2
  cases e3 : (mn (fun i => bd_k T n (1 + i)) 14640).map (fun q => (q.1, 1 + q.2)) with
  | none => rw [e3] at e2; exact ⟨_, e2⟩
  | some q =>
    rw [e3] at e2
    by_cases c : q.1 < T 0 * 64 + bd_s 0
    · exact ⟨q, e2.trans (if_pos c)⟩
    · exact ⟨_, e2.trans (if_neg c)⟩
def fbe (p _i : Nat) : Bool := decide (25 ≤ p) && decide (p ≤ 37) || p == 92 || p == 115 || p == 116
theorem rl_bst {S V : iz_S} (h : rl S) (h92 : ∀ i, i < 4 → V.1 92 i = S.1 92 i) (hf : fr fbe S V) : rl V := by
  refine ⟨st_lake hf (fun _ => ⟨rfl, rfl, rfl, rfl, rfl, rfl⟩) h.1, ⟨fun i hi => ?_, fun i hi => ?_, fun i hi => ?_⟩, st_house hf (fun _ => ⟨rfl, rfl, rfl, rfl, rfl, rfl, rfl, rfl, rfl, rfl, rfl, rfl⟩) rfl rfl (fun _ _ => rfl) h.2.2.1, st_ord hf (fun _ => ⟨rfl, rfl, rfl, rfl, rfl, rfl, rfl, rfl, rfl, rfl, rfl, rfl, rfl⟩) rfl rfl h.2.2.2.1, st_rail hf (fun _ => ⟨rfl, rfl, rfl, rfl, rfl, rfl, rfl⟩) rfl h.2.2.2.2.1, st_wait hf (fun _ => ⟨rfl, rfl, rfl⟩) rfl h.2.2.2.2.2.1, st_sale hf (fun _ => ⟨rfl, rfl⟩) h.2.2.2.2.2.2.1, st_found hf (fun _ => ⟨rfl, rfl⟩) h.2.2.2.2.2.2.2⟩
  · rw [h92 i hi, hf 10 i rfl]
    exact h.2.1.1 i hi
  · rw [hf 93 i rfl, hf 11 i rfl]
    exact h.2.1.2.1 i hi
  · rw [hf 94 i rfl, hf 12 i rfl]
    exact h.2.1.2.2 i hi
theorem mo_find {S : iz_S} {T : Nat → Nat} (hA : ∀ V, fr (fun p _ => p == 115) S V → amf V T) (TB : ∀ x, T x < 1000000) {n : Nat} (n40 : n ≤ 40) : ∃ A B V, Mo_findDust 82 (nI n) S = some (A, V) ∧ bd_p T 1000000 (mn (bd_k T n) 14641) A B (V.1 116) ∧ (∀ i, i < 4 → V.1 92 i = S.1 92 i) ∧ fr (fun p _ => p == 92 || p == 115 || p == 116) S V := by
  have fu := fu_ge
  obtain ⟨S1, a1, a2, a3, a4⟩ := mo_fd2 (nI n) 4 0 iz_FU S (by omega) (by omega)
  obtain ⟨A, B, S2, b1, b2, b3⟩ := mo_34 (hA S1 a4) TB n40 14641 0 iz_FU 1000000 1000000 S1 (by omega) (by omega) (fr_rf _ _) ⟨rfl, rfl⟩
  obtain ⟨S3, c1, c2, c3, c4⟩ := mo_168 A 4 0 iz_FU S2 (by omega) (by omega)
  refine ⟨A, B, S3, ?_, ?_, fun i hi => ?_, fr_tr (fr_mono a4 ?_) (fr_tr (fr_mono b2 ?_) (fr_mono c4 ?_))⟩
  · rw [Mo_findDust]
    exact (a1.trans b1).trans c1
  · rw [show S3.1 116 = S2.1 116 from funext fun i => c4 116 i rfl]
    exact b3
  · rw [c2 i (Nat.zero_le _) hi, b2 115 i rfl, a2 i (Nat.zero_le _) hi]
  · intro p i hp
    simp only [beq_iff_eq] at hp
    simp [hp]
  · intro p i hp
    simp only [fmo, Bool.or_eq_true, beq_iff_eq] at hp
    simp
    omega
  · intro p i hp
    simp only [beq_iff_eq] at hp
    simp [hp]
theorem hs_c_f {S V : iz_S} {B w : Nat} {h : Nat → Nat} {b : Nat → Nat → Nat} {kd wt pl : Nat → Nat} (hc : hs_c S 13 B w h b kd wt pl) {ch : Nat → Nat → Bool} (hf : fr ch S V) (h1 : ∀ i, ch 13 i = false ∧ ch 14 i = false ∧ ch 15 i = false ∧ ch 16 i = false ∧ ch 17 i = false ∧ ch 18 i = false) : hs_c V 13 B w h b kd wt pl :=
  ⟨(hf _ _ (h1 _).1).trans hc.1, (hf _ _ (h1 _).1).trans hc.2.1, fun i hi => ⟨(hf _ _ (h1 i).2.1).trans (hc.2.2.1 i hi).1, (hf _ _ (h1 i).2.2.1).trans (hc.2.2.1 i hi).2.1, (hf _ _ (h1 i).2.2.2.1).trans (hc.2.2.1 i hi).2.2⟩, fun c q => (hf _ _ (h1 c).2.2.2.2.1).trans (hc.2.2.2.1 c q), fun c l q1 q2 => (hf _ _ (h1 _).2.2.2.2.2).trans (hc.2.2.2.2 c l q1 q2)⟩
theorem hs_m_f {S V : iz_S} {B w : Nat} {h : Nat → Nat} {b : Nat → Nat → Nat} {kd wt pl : Nat → Nat} (hc : hs_m S B w h b kd wt pl) {ch : Nat → Nat → Bool} (hf : fr ch S V) (h1 : ∀ i, ch 82 i = false ∧ ch 86 i = false ∧ ch 87 i = false ∧ ch 88 i = false ∧ ch 91 i = false ∧ ch 90 i = false ∧ ch 89 i = false) : hs_m V B w h b kd wt pl :=
  ⟨(hf _ _ (h1 _).1).trans hc.1, (hf _ _ (h1 _).1).trans hc.2.1, fun i hi => ⟨(hf _ _ (h1 i).2.1).trans (hc.2.2.1 i hi).1, (hf _ _ (h1 i).2.2.1).trans (hc.2.2.1 i hi).2.1, (hf _ _ (h1 i).2.2.2.1).trans (hc.2.2.1 i hi).2.2⟩, fun c q => (hf _ _ (h1 c).2.2.2.2.1).trans (hc.2.2.2.1 c q), fun c l q1 q2 => (hf _ _ (h1 _).2.2.2.2.2.1).trans (hc.2.2.2.2.1 c l q1 q2), fun c l q1 q2 => (hf _ _ (h1 _).2.2.2.2.2.2).trans (hc.2.2.2.2.2.1 c l q1 q2), fun i q1 q2 => (hf _ _ (h1 _).2.2.2.2.2.2).trans (hc.2.2.2.2.2.2 i q1 q2)⟩
theorem pc_best {S : iz_S} (h : rl S) (x y : Int32) : pc (Ic_best 0 x y) (Mo_best 82 x y) S := by
  by_cases hx : 0 ≤ x ∧ x ≤ 40
  · by_cases hy : 0 ≤ y ∧ y ≤ 4
    · obtain ⟨n, -, n40, rfl⟩ := nI_btw (a := 0) (b := 40) (by decide) hx.1 hx.2 (by decide)
      obtain ⟨k, -, k4, rfl⟩ := nI_btw (a := 0) (b := 4) (by decide) hy.1 hy.2 (by decide)
      obtain ⟨B, w, hh, b, kd, wt, pl, hc, hm, hi, hn, hl⟩ := id h.2.2.1
      obtain ⟨dd, cv, W, q1, q2, q3, q4, q5, q6⟩ := shel_f h.2.1
      have fu := fu_ge
      have hC : cmf S (bd_cm cv W kd w hh b wt) := fun V hf c t c16 t20 => ho_colM hq_13 (hs_c_f hc hf (fun i => ⟨rfl, rfl, rfl, rfl, rfl, rfl⟩)) hi (fun c c16 => by rw [hf 11 c rfl]; exact q3 c c16) (fun i hi => by rw [hf 12 i rfl]; exact q5 i hi) c16 t20
      have TB := fun x => bd_TB (cv := cv) (W := W) hi x
      obtain ⟨S1, a1, a2, a3⟩ := du_plan hC (T := bd_TT cv W kd w hh b wt) (n := n) (fun a b c d ha hb hc hd => bd_hT cv W kd w hh _ wt a b c d ha hb hc hd) TB n40
      obtain ⟨A, Z, S2, b1, b2, b3, b4⟩ := mo_find (S := S1) (T := bd_TT cv W kd w hh b wt) (fun V hV U hU m hm4 hd => by
        have hf : fr fbe S U := fr_tr (fr_mono a3 (fun p i hp => by simp only [fdu] at hp; simp only [fbe, hp, Bool.true_or])) (fr_tr (fr_mono hV (fun p i hp => by simp only [beq_iff_eq] at hp; simp [fbe, hp])) (fr_mono hU (fun p i hp => by
          simp only [fmo, Bool.or_eq_true, beq_iff_eq] at hp
          simp only [fbe, Bool.or_eq_true, beq_iff_eq]
          omega)))
        have := mo_allM (d := fun i => bd_d i m) (hs_m_f hm hf (fun i => ⟨rfl, rfl, rfl, rfl, rfl, rfl, rfl⟩)) hi (fun c c16 => by rw [hf 93 c rfl]; exact q4 c c16) (fun i hi => by rw [hf 94 i rfl]; exact q6 i hi) (fun i hi => ⟨hd i hi, by
          show bd_d i m ≤ 10
          unfold bd_d
          split
          · omega
          · split
            · omega
            · split <;> omega⟩) 16 0 iz_FU 0 (by omega) (by omega)
        rw [nI_0, Nat.zero_add] at this
        rw [Mo_allMelts]
        exact this) TB n40
      obtain ⟨p, ep⟩ := bd_some (bd_TT cv W kd w hh b wt) n
      unfold bd_P at a2
      rw [ep] at a2 b2
      have rl2 : rl S2 := rl_bst h (fun i hi => by rw [b3 i hi, a3 92 i rfl]) (fr_tr (fr_mono a3 (fun p i hp => by simp only [fdu] at hp; simp only [fbe, hp, Bool.true_or])) (fr_mono b4 (fun p i hp => by
        simp only [Bool.or_eq_true, beq_iff_eq] at hp
        simp only [fbe, Bool.or_eq_true, beq_iff_eq]
        omega)))
      by_cases k0 : k = 0
      · subst k0
        refine pc_of (r := A) (S1 := S1) (S2 := S2) ?_ ?_ rl2
        · simp only [Ic_best, ic_within, ck_t, lt_e, bI_s, bL_s, bV_s, one_n0, zero_0, if_true, if_false, rfs, if_pos hx, if_pos hy]
          rw [a1, bV_s, if_pos (show nI 0 = 0 from rfl), Ic_best_62, a2.1, b2.1]
        · simp only [Mo_best, mo_isIn, ck_t, lt_e, bI_s, bL_s, bV_s, one_n0, zero_0, if_true, if_false, rfs, if_pos hx, if_pos hy]
          rw [b1, bI_s, if_pos (show nI 0 = 0 from rfl), Mo_best_47]
      · have kn : ¬ nI k = 0 := by rw [n0_iff (by omega)]; exact k0
        have km : nI k - 1 = nI (k - 1) := nI_m1 (by omega)
        have i1 := in_ok (n := k - 1) (N := 4) (by omega) (by decide)
        refine pc_of (r := nI (bd_d (k - 1) p.2)) (S1 := S1) (S2 := S2) ?_ ?_ rl2
        · simp only [Ic_best, ic_within, ck_t, lt_e, bI_s, bL_s, bV_s, one_n0, zero_0, if_true, if_false, rfs, if_pos hx, if_pos hy]
          rw [a1, bV_s, if_neg kn, km, i1, ck_t, Ic_best_62, g_nI _ _ (show k - 1 < 2 ^ 31 by omega)]
          rw [show S1.1 26 (k - 1) = _ from a2.2.2 (k - 1) (by omega)]
        · simp only [Mo_best, mo_isIn, ck_t, lt_e, bI_s, bL_s, bV_s, one_n0, zero_0, if_true, if_false, rfs, if_pos hx, if_pos hy]
          rw [b1, bI_s, if_neg kn, km, i1, ck_t, Mo_best_47, g_nI _ _ (show k - 1 < 2 ^ 31 by omega)]
          rw [show S2.1 116 (k - 1) = _ from b2.2.2 (k - 1) (by omega)]
    · refine pc_of (r := -1000001) (S1 := iz_up S 81 1 (S.1 81 1 + 1)) ?_ ?_ (rl_find (k := 1) h)
      · simp only [Ic_best, Ic_best_19, ic_within, ck_t, lt_e, bI_s, bL_s, bV_s, one_n0, zero_0, if_true, if_false, rfs, if_pos hx, if_neg hy, ic_f1]
      · simp only [Mo_best, Mo_best_19, mo_isIn, ck_t, lt_e, bI_s, bL_s, bV_s, one_n0, zero_0, if_true, if_false, rfs, if_pos hx, if_neg hy, mo_f1]
  · refine pc_of (r := -1000001) (S1 := iz_up S 81 1 (S.1 81 1 + 1)) ?_ ?_ (rl_find (k := 1) h)
    · simp only [Ic_best, Ic_best_19, ic_within, ck_t, lt_e, bI_s, bL_s, bV_s, one_n0, zero_0, if_true, if_false, rfs, if_neg hx, ic_f1]
    · simp only [Mo_best, Mo_best_19, mo_isIn, ck_t, lt_e, bI_s, bL_s, bV_s, one_n0, zero_0, if_true, if_false, rfs, if_neg hx, mo_f1]
