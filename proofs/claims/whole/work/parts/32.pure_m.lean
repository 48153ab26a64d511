/-! PURE: frost, both -/
theorem la_bearing (S : iz_S) {who : Nat} (hw : who < 3) {β : Type} (k : Int32 → iz_S → Option β) : iz_bL (La_bearing 1 (nI who) S) (fun r2 S1 => iz_bI (Jl_bitCount r2 S1) k) = k (nI (ctT S 2 (iz_zV 0 who))) S := by
  obtain ⟨b, hb, hb2⟩ := la_cellsOf (iz_zV 0 who) S
  have i1 := in_ok (n := who) (N := 3) hw (by decide)
  simp only [La_bearing, i1, ck_t, lt_e, bI_s, bL_s, bV_s, one_n0, zero_0, if_true, if_false, rfs, nI_clamp (show who < 2 ^ 31 by omega), hb, jl_bitCount]
  have : fa_ct (fun i => (uN b).testBit i) 64 = ctT S 2 (iz_zV 0 who) := ct_cong (fun i hi => by simp [hb2 i, hi])
  rw [this]
theorem nb_or : ∀ m, m < 2 → iz_nb (nI m ||| 0) = nI m ∧ iz_nb (nI m ||| 1) = 1 := by decide +kernel
theorem mo_frost {x : Nat} (hx : 1 ≤ x) (hx2 : x ≤ 40) {t w m : Nat → Nat} (H : ∀ i, i < 64 → t i ≤ 60 ∧ w i ≤ 30 ∧ m i ≤ 1) : ∀ (j c n : Nat) (S : iz_S), c + j = 64 → j < n → (∀ i, c ≤ i → i < 64 → S.1 83 i = nI (t i) ∧ S.1 84 i = nI (w i) ∧ S.1 85 i = nI (m i)) → Mo_frost_18 82 n (nI x) (nI c) S = some (nI (ctT (mp S (gF 83 85 t w m x) c j) 83 10), mp S (gF 83 85 t w m x) c j) := by
  intro j
  induction j with
  | zero =>
    intro c n S hcj hn hS
    obtain ⟨k, rfl⟩ : ∃ k, n = k + 1 := ⟨n - 1, by omega⟩
    have hc : ¬ nI c < 64 := nI_nlt (b := 64) (by omega) (by omega)
    have i1 : iz_in 1 3 = true := by decide +kernel
    have i2 : iz_zV 3 (Int32.toNatClampNeg 1) = 10 := by decide +kernel
    show Mo_frost_18b 82 (Mo_frost_18 82 k) (nI x) (nI c) S = _
    simp only [Mo_frost_18b, if_neg hc, mp_0, i1, i2, mo_bearing, ck_t, lt_e, bI_s, bL_s, bV_s, one_n0, zero_0, if_true, if_false, rfs]
  | succ j ih =>
    intro c n S hcj hn hS
    obtain ⟨k, rfl⟩ : ∃ k, n = k + 1 := ⟨n - 1, by omega⟩
    have hc : nI c < 64 := nI_lt (b := 64) (by omega) (by omega)
    have i1 := in_ok (n := c) (N := 64) (by omega) (by decide)
    obtain ⟨q2, q3, q4⟩ := hS c (Nat.le_refl c) (by omega)
    obtain ⟨t1, w1, m1⟩ := H c (by omega)
    obtain ⟨z1, z2, z3, z4, z5, z6⟩ := fz_e t1 w1 hx hx2
    obtain ⟨T, hT⟩ : ∃ T, T = iz_up (iz_up S 83 c (nI (fzt (t c) (w c) x))) 85 c (nI (if w c = 0 then m c else 1)) := ⟨_, rfl⟩
    have key : Mo_frost_18b 82 (Mo_frost_18 82 k) (nI x) (nI c) S = Mo_frost_18 82 k (nI x) (nI (c + 1)) T := by
      have hr := mo_root (Mo_frost_18 82 k) (nI x) (nI c) S z2 60 0 iz_FU (by omega) (by have := fu_ge; omega)
      rw [nI_0] at hr
      have d6 : decide (¬ (2 : Int32) + nI (w c) = 0) = true := decide_eq_true z6
      have a1 : Mo_frost_18b 82 (Mo_frost_18 82 k) (nI x) (nI c) S = Mo_frost_81 82 (Mo_frost_18 82 k) (nI x) (nI c) (nI (fzt (t c) (w c) x)) S := by
        simp only [Mo_frost_18b, if_pos hc, ck_t, lt_e, bI_s, bL_s, bV_s, one_n0, zero_0, if_true, if_false, rfs, i1, g_nI _ _ (show c < 2 ^ 31 by omega), q2, q3, d6, z1, hr]
        rfl
      have w84 : (iz_up S 83 c (nI (fzt (t c) (w c) x))).1 84 c = nI (w c) := by rw [up_ne _ _ _ _ (Or.inl (by decide)), q3]
      have w85 : (iz_up S 83 c (nI (fzt (t c) (w c) x))).1 85 c = nI (m c) := by rw [up_ne _ _ _ _ (Or.inl (by decide)), q4]
      have w83 : ¬ T.1 83 c = 0 := by
        rw [hT, up_ne _ _ _ _ (Or.inl (by decide)), up_same]
        exact nI_ne0 (by omega) (by omega)
      rw [a1]
      by_cases h0 : w c = 0
      · have h0' : nI (w c) ≤ 0 := by rw [h0]; decide +kernel
        rw [if_pos h0] at hT
        simp only [Mo_frost_81, Mo_frost_110, Mo_clean, Mo_clean_23, ck_t, lt_e, bI_s, bL_s, bV_s, one_n0, zero_0, if_true, if_false, rfs, i1, g_nI _ _ (show c < 2 ^ 31 by omega), s_nI _ _ (show c < 2 ^ 31 by omega), nI_1, w84, w85, if_pos h0', (nb_or (m c) (by omega)).1, ← hT, if_neg w83]
      · have h0' : ¬ nI (w c) ≤ 0 := nI_nle (by omega) (by omega)
        rw [if_neg h0] at hT
        have hT2 : T = iz_up (iz_up S 83 c (nI (fzt (t c) (w c) x))) 85 c 1 := hT
        simp only [Mo_frost_81, Mo_frost_110, Mo_clean, Mo_clean_23, ck_t, lt_e, bI_s, bL_s, bV_s, one_n0, zero_0, if_true, if_false, rfs, i1, g_nI _ _ (show c < 2 ^ 31 by omega), s_nI _ _ (show c < 2 ^ 31 by omega), nI_1, w84, w85, if_neg h0', (nb_or (m c) (by omega)).2, ← hT2, if_neg w83]
    show Mo_frost_18b 82 (Mo_frost_18 82 k) (nI x) (nI c) S = _
    have hst : mp T (gF 83 85 t w m x) (c + 1) j = mp S (gF 83 85 t w m x) c (j + 1) := by
      refine mp_step (fun q i => ?_) (by rw [hT]; rfl)
      rw [hT]
      by_cases e : i = c
      · subst e
        rw [if_pos rfl]
        by_cases e2 : q = 83
        · subst e2; simp [upA, upd, gF]
        · by_cases e4 : q = 85
          · subst e4; simp [upA, upd, gF]
          · simp [upA, gF, e2, e4]
      · rw [if_neg e]; simp only [up_ne _ _ _ _ (Or.inr e)]
    rw [key, ih (c + 1) k T (by omega) (by omega) (fun i hi hi2 => ?_), hst]
    rw [hT]
    have ne : i ≠ c := by omega
    simp only [up_ne _ _ _ _ (Or.inr ne)]
    exact hS i (by omega) hi2
theorem pc_frost {S : iz_S} (h : rl S) (x : Int32) : pc (Ic_frost 0 x) (Mo_frost 82 x) S := by
  by_cases h1 : 1 ≤ x ∧ x ≤ 40
  · obtain ⟨y, y1, y2, rfl⟩ := nI_btw (a := 1) (b := 40) (by decide) h1.1 h1.2 (by decide)
    obtain ⟨t, ht⟩ : ∃ t : Nat → Nat, t = fun i => (S.1 2 i).toNatClampNeg := ⟨_, rfl⟩
    obtain ⟨w, hw⟩ : ∃ w : Nat → Nat, w = fun i => (S.1 3 i).toNatClampNeg := ⟨_, rfl⟩
    obtain ⟨m, hm⟩ : ∃ m : Nat → Nat, m = fun i => (S.1 4 i).toNatClampNeg := ⟨_, rfl⟩
    have H : ∀ i, i < 64 → (t i ≤ 60 ∧ w i ≤ 30 ∧ m i ≤ 1) ∧ (S.1 2 i = nI (t i) ∧ S.1 3 i = nI (w i) ∧ S.1 4 i = nI (m i)) ∧ (S.1 83 i = nI (t i) ∧ S.1 84 i = nI (w i) ∧ S.1 85 i = nI (m i)) ∧ (t i = 0 → w i = 0 ∧ m i = 0) := fun i hi => by
      obtain ⟨g1, g2, g3, t', w', m', t1, w1, m1, e1, e2, e3, e4⟩ := h.1 i hi
      have f1 : t i = t' := by rw [ht]; show (S.1 2 i).toNatClampNeg = _; rw [e1, nI_clamp (by omega)]
      have f2 : w i = w' := by rw [hw]; show (S.1 3 i).toNatClampNeg = _; rw [e2, nI_clamp (by omega)]
      have f3 : m i = m' := by rw [hm]; show (S.1 4 i).toNatClampNeg = _; rw [e3, nI_clamp (by omega)]
      rw [f1, f2, f3, g1, g2, g3]
      exact ⟨⟨t1, w1, m1⟩, ⟨e1, e2, e3⟩, ⟨e1, e2, e3⟩, e4⟩
    clear ht hw hm
    obtain ⟨S1, hS1⟩ : ∃ S1, S1 = mp S (gF 2 4 t w m y) 0 64 := ⟨_, rfl⟩
    obtain ⟨S2, hS2⟩ : ∃ S2, S2 = mp S1 (gF 83 85 t w m y) 0 64 := ⟨_, rfl⟩
    have k83 : S1.1 83 = S.1 83 := by rw [hS1]; exact mp_no (fun _ => rfl)
    have k84 : S1.1 84 = S.1 84 := by rw [hS1]; exact mp_no (fun _ => rfl)
    have k85 : S1.1 85 = S.1 85 := by rw [hS1]; exact mp_no (fun _ => rfl)
    have z2 : ∀ c, c < 64 → S1.1 2 c = nI (fzt (t c) (w c) y) := fun c hc => by rw [hS1, mp_in (by omega)]; rfl
    have z83 : ∀ c, c < 64 → S2.1 83 c = nI (fzt (t c) (w c) y) := fun c hc => by rw [hS2, mp_in (by omega)]; rfl
    have ee : ctT S2 83 10 = ctT S1 2 10 := ctT_cong (fun c hc => by rw [z83 c hc, z2 c hc])
    refine pc_of (r := nI (ctT S1 2 10)) (S1 := S1) (S2 := S2) ?_ ?_ ?_
    · have hq : La_freeze_2 1 iz_FU (nI y) 0 S = some (mp S (gF 2 4 t w m y) 0 64) := la_frost y1 y2 (fun i hi => (H i hi).1) 64 0 iz_FU S (by omega) (by have := fu_ge; omega) (fun i _ hi => (H i hi).2.1)
      rw [← hS1] at hq
      have hb := fun (k : Int32 → iz_S → Option (Int32 × iz_S)) => la_bearing S1 (who := 1) (by decide) k
      have e1 : nI 1 = 1 := rfl
      have e2 : iz_zV 0 1 = 10 := by decide +kernel
      rw [e1, e2] at hb
      simp only [Ic_frost, ic_within, La_freeze, ck_t, lt_e, bI_s, bL_s, bV_s, one_n0, zero_0, if_true, if_false, rfs, if_pos h1, hq, hb]
    · have hq := mo_frost y1 y2 (fun i hi => (H i hi).1) 64 0 iz_FU S1 (by omega) (by have := fu_ge; omega) (fun i _ hi => by rw [k83, k84, k85]; exact (H i hi).2.2.1)
      rw [← hS2, ee] at hq
      simp only [Mo_frost, mo_isIn, ck_t, lt_e, bI_s, bL_s, bV_s, one_n0, zero_0, if_true, if_false, rfs, if_pos h1]
      exact hq
    · have hf : fr (fun p _ => p == 2 || p == 4 || p == 83 || p == 85) S S2 := by
        rw [hS2, hS1]
        refine fr_tr (mp_fr (fun q i hq => ?_)) (mp_fr (fun q i hq => ?_))
        · simp only [Bool.or_eq_false_iff, beq_eq_false_iff_ne] at hq
          obtain ⟨⟨⟨a1, a2⟩, a3⟩, a4⟩ := hq
          simp [gF, a1, a2]
        · simp only [Bool.or_eq_false_iff, beq_eq_false_iff_ne] at hq
          obtain ⟨⟨⟨a1, a2⟩, a3⟩, a4⟩ := hq
          simp [gF, a3, a4]
      refine ⟨fun c hc => ?_, st_shel hf (fun _ => ⟨rfl, rfl, rfl, rfl, rfl, rfl⟩) h.2.1, st_house hf (fun _ => ⟨rfl, rfl, rfl, rfl, rfl, rfl, rfl, rfl, rfl, rfl, rfl, rfl⟩) rfl rfl (fun _ _ => rfl) h.2.2.1, st_ord hf (fun _ => ⟨rfl, rfl, rfl, rfl, rfl, rfl, rfl, rfl, rfl, rfl, rfl, rfl, rfl⟩) rfl rfl h.2.2.2.1, st_rail hf (fun _ => ⟨rfl, rfl, rfl, rfl, rfl, rfl, rfl⟩) rfl h.2.2.2.2.1, st_wait hf (fun _ => ⟨rfl, rfl, rfl⟩) rfl h.2.2.2.2.2.1, st_sale hf (fun _ => ⟨rfl, rfl⟩) h.2.2.2.2.2.2.1, st_found hf (fun _ => ⟨rfl, rfl⟩) h.2.2.2.2.2.2.2⟩
      obtain ⟨⟨t1, w1, m1⟩, ⟨e2, e3, e4⟩, ⟨f2, f3, f4⟩, hz⟩ := H c hc
      obtain ⟨-, -, -, y4, y5, -⟩ := fz_e t1 w1 y1 y2
      have a2 : S2.1 2 c = nI (fzt (t c) (w c) y) := by rw [hS2, mp_no (fun _ => rfl), z2 c hc]
      have a4 : S2.1 4 c = nI (if w c = 0 then m c else 1) := by rw [hS2, mp_no (fun _ => rfl), hS1, mp_in (by omega)]; rfl
      have a85 : S2.1 85 c = nI (if w c = 0 then m c else 1) := by rw [hS2, mp_in (by omega)]; rfl
      have a3 : S2.1 3 c = nI (w c) := by rw [hf 3 c rfl, e3]
      have a84 : S2.1 84 c = nI (w c) := by rw [hf 84 c rfl, f3]
      exact ⟨(z83 c hc).trans a2.symm, a84.trans a3.symm, a85.trans a4.symm, _, _, _, y5, w1, by split <;> omega, a2, a3, a4, fun q => absurd q (by omega)⟩
  · refine pc_of (r := -1000001) (S1 := iz_up S 81 1 (S.1 81 1 + 1)) ?_ ?_ (rl_find (k := 1) h)
    · simp only [Ic_frost, ic_within, ck_t, lt_e, bI_s, bL_s, bV_s, one_n0, zero_0, if_true, if_false, rfs, if_neg h1, ic_f1]
    · simp only [Mo_frost, mo_isIn, ck_t, lt_e, bI_s, bL_s, bV_s, one_n0, zero_0, if_true, if_false, rfs, if_neg h1, mo_f1]
