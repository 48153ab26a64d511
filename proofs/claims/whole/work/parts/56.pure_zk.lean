/-! PURE: a week, reference side -/
def sm_ (S : iz_S) (d cv W : Nat → Nat) : Prop := (∀ i, i < 4 → S.1 92 i = nI (d i) ∧ d i ≤ 10) ∧ (∀ c, c < 16 → S.1 93 c = nI (cv c) ∧ cv c ≤ 10) ∧ ∀ i, i < 100 → S.1 94 i = nI (W i) ∧ W i ≤ 40
theorem sm_st {S T : iz_S} {d cv W : Nat → Nat} (h : sm_ S d cv W) {ch : Nat → Nat → Bool} (hf : fr ch S T) (hc : ∀ i, ch 92 i = false ∧ ch 93 i = false ∧ ch 94 i = false) : sm_ T d cv W :=
  ⟨fun i hi => by rw [hf _ _ (hc i).1]; exact h.1 i hi, fun i hi => by rw [hf _ _ (hc i).2.1]; exact h.2.1 i hi, fun i hi => by rw [hf _ _ (hc i).2.2]; exact h.2.2 i hi⟩
theorem mo_w1 {B w : Nat} {kd wt : Nat → Nat} {sh : Nat → Bool} {col : Nat → List Nat} {d cv W : Nat → Nat} (k11 : Int32 → Int32 → iz_S → Option iz_S) {c : Nat} (c16 : c < 16) : ∀ (j l n : Nat) (S : iz_S), l + j = hl_h col c → j < n → hvm S B w kd wt sh col → hvi B w kd wt sh col → sm_ S d cv W →
    ∃ S2, Mo_weekGoes_19 82 k11 n (nI (wk_w W w)) (nI c) (nI l) S = k11 (nI (wk_w W w)) (nI (c + 1)) S2 ∧ (∀ l2, l ≤ l2 → l2 < hl_h col c → S2.1 113 (6 * c + l2) = nI (wk_m d cv W kd w (hl_h col) (hl_b col) wt c l2)) ∧ fr (fun p i => p == 113 && decide (6 * c + l ≤ i ∧ i < 6 * c + 6)) S S2 := by
  intro j
  have i1 := in_ok (n := c) (N := 16) c16 (by decide)
  have gc := fun (T : iz_S) p => g_nI T p (show c < 2 ^ 31 by omega)
  have r9 : iz_rf 82 9 = 91 := rfl
  have r37 : iz_rf 82 37 = 113 := rfl
  induction j with
  | zero =>
    intro l n S hj hn h hi hsm
    obtain ⟨m, rfl⟩ : ∃ m, n = m + 1 := ⟨n - 1, by omega⟩
    have l6 : hl_h col c ≤ 6 := (hi.2.2.2.1 c c16).1
    have hlt : ¬ nI l < nI (hl_h col c) := nI_nlt (by omega) (by omega)
    refine ⟨S, ?_, fun l2 h1 h2 => by omega, fr_rf _ _⟩
    show Mo_weekGoes_19b 82 k11 (Mo_weekGoes_19 82 k11 m) _ (nI c) (nI l) S = _
    rw [Mo_weekGoes_19b, i1, ck_t, r9, gc, h.2.2.1.2.1 c c16, if_neg hlt, nI_1]
  | succ j ih =>
    intro l n S hj hn h hi hsm
    obtain ⟨m, rfl⟩ : ∃ m, n = m + 1 := ⟨n - 1, by omega⟩
    have l6 : hl_h col c ≤ 6 := (hi.2.2.2.1 c c16).1
    have hl : l < hl_h col c := by omega
    have hlt : nI l < nI (hl_h col c) := nI_lt hl (by omega)
    have ma := b_mem hl
    have i2 := in_ok (n := 6 * c + l) (N := 96) (by omega) (by decide)
    have ml := mo_melt (hvm_m hi h) (hvi_i hi) hsm.2.1 hsm.1 (wk_le (fun i hi => (hsm.2.2 i hi).2) w) c16 hl
    rw [w_in c16 ma] at ml
    obtain ⟨x, ex⟩ : ∃ x, x = wk_m d cv W kd w (hl_h col) (hl_b col) wt c l := ⟨_, rfl⟩
    have ml' : Mo_meltOf 82 (nI c) (nI l) (nI (wk_w W w)) S = some (nI x, S) := by rw [ml, ex]; rfl
    obtain ⟨T, hT⟩ : ∃ T, T = iz_up S 113 (6 * c + l) (nI x) := ⟨_, rfl⟩
    have fT : fr (fun p i => p == 113 && i == 6 * c + l) S T := by rw [hT]; exact fr_1
    obtain ⟨S2, r1, r2, r3⟩ := ih (l + 1) m T (by omega) (by omega) (hvm_st h hi fT rfl rfl (fun i => ⟨rfl, rfl, rfl, rfl, rfl, rfl⟩)) hi (sm_st hsm fT (fun i => ⟨rfl, rfl, rfl⟩))
    refine ⟨S2, ?_, fun l2 h1 h2 => ?_, fr_tr (fr_mono fT ?_) (fr_mono r3 ?_)⟩
    · rw [← r1]
      show Mo_weekGoes_19b 82 k11 (Mo_weekGoes_19 82 k11 m) _ (nI c) (nI l) S = _
      rw [Mo_weekGoes_19b, i1, ck_t, r9, gc, h.2.2.1.2.1 c c16, if_pos hlt, ml', bI_s, nI_6', nI_add, i2, ck_t, lt_e, r37, s_nI _ _ (show 6 * c + l < 2 ^ 31 by omega), ← hT, nI_1]
    · by_cases e : l2 = l
      · subst e
        rw [r3 113 (6 * c + l2) (by simp; omega), hT, up_same, ex]
      · exact r2 l2 (by omega) h2
    · intro p i hp
      simp only [Bool.and_eq_true, beq_iff_eq, decide_eq_true_eq] at hp ⊢
      omega
    · intro p i hp
      simp only [Bool.and_eq_true, beq_iff_eq, decide_eq_true_eq] at hp ⊢
      omega
theorem mo_w2 {B w : Nat} {kd wt : Nat → Nat} {sh : Nat → Bool} {col : Nat → List Nat} {d cv W : Nat → Nat} : ∀ (j c n : Nat) (S : iz_S), c + j = 16 → j < n → hvm S B w kd wt sh col → hvi B w kd wt sh col → sm_ S d cv W →
    ∃ S2, Mo_weekGoes_11 82 n (nI (wk_w W w)) (nI c) S = Mo_weekGoes_61 82 iz_FU 0 S2 ∧ (∀ c2 l2, c ≤ c2 → c2 < 16 → l2 < hl_h col c2 → S2.1 113 (6 * c2 + l2) = nI (wk_m d cv W kd w (hl_h col) (hl_b col) wt c2 l2)) ∧ fr (fun p i => p == 113 && decide (6 * c ≤ i)) S S2 := by
  intro j
  induction j with
  | zero =>
    intro c n S hc hn h hi hsm
    obtain ⟨m, rfl⟩ : ∃ m, n = m + 1 := ⟨n - 1, by omega⟩
    have lt : ¬ nI c < 16 := nI_nlt (b := 16) (by omega) (by omega)
    refine ⟨S, ?_, fun c2 l2 h1 h2 => by omega, fr_rf _ _⟩
    show Mo_weekGoes_11b 82 (Mo_weekGoes_11 82 m) _ (nI c) S = _
    rw [Mo_weekGoes_11b, if_neg lt]
  | succ j ih =>
    intro c n S hc hn h hi hsm
    obtain ⟨m, rfl⟩ : ∃ m, n = m + 1 := ⟨n - 1, by omega⟩
    have c16 : c < 16 := by omega
    have lt : nI c < 16 := nI_lt (b := 16) (by omega) (by omega)
    have l6 : hl_h col c ≤ 6 := (hi.2.2.2.1 c c16).1
    obtain ⟨T, a1, a2, a3⟩ := mo_w1 (Mo_weekGoes_11 82 m) c16 (hl_h col c) 0 iz_FU S (by omega) (by have := fu_ge; omega) h hi hsm
    obtain ⟨S2, r1, r2, r3⟩ := ih (c + 1) m T (by omega) (by omega) (hvm_st h hi a3 rfl rfl (fun i => ⟨rfl, rfl, rfl, rfl, rfl, rfl⟩)) hi (sm_st hsm a3 (fun i => ⟨rfl, rfl, rfl⟩))
    refine ⟨S2, ?_, fun c2 l2 h1 h2 h3 => ?_, fr_tr (fr_mono a3 ?_) (fr_mono r3 ?_)⟩
    · rw [← r1]
      show Mo_weekGoes_11b 82 (Mo_weekGoes_11 82 m) _ (nI c) S = _
      rw [Mo_weekGoes_11b, if_pos lt]
      exact a1
    · by_cases e : c2 = c
      · subst e
        rw [r3 113 (6 * c2 + l2) (by simp; omega)]
        exact a2 l2 (Nat.zero_le _) h3
      · exact r2 c2 l2 (by omega) h2 h3
    · intro p i hp
      simp only [Bool.and_eq_true, beq_iff_eq, decide_eq_true_eq] at hp ⊢
      omega
    · intro p i hp
      simp only [Bool.and_eq_true, beq_iff_eq, decide_eq_true_eq] at hp ⊢
      omega
def fwm (p i : Nat) : Bool := p == 87 || p == 88 || p == 89 || p == 90 || p == 91 || (p == 104 && i == 1)
theorem dr_cong {wt wt2 : Nat → Nat} {L : List Nat} (h : ∀ i, i ∈ L → wt i = wt2 i) : hl_dr wt L = hl_dr wt2 L := by
  unfold hl_dr
  exact List.filter_congr (fun i hi => by rw [h i hi])
theorem mo_w3 {B w : Nat} {kd : Nat → Nat} {sh : Nat → Bool} (k61 : Int32 → iz_S → Option iz_S) {c : Nat} (c16 : c < 16) (mm : Nat → Nat) : ∀ (j : Nat) (K R : List Nat) (n : Nat) (S : iz_S) (wt : Nat → Nat) (col : Nat → List Nat), K.length = j → j < n → hvm S B w kd wt sh col → hvi B w kd wt sh col → col c = K ++ R → (∀ l, l < K.length → S.1 113 (6 * c + l) = nI (mm l) ∧ mm l ≤ wt ((K[l]?).getD 0)) →
    ∃ S2 wt2, Mo_weekGoes_76 82 k61 n (nI c) (nI K.length - 1) S = k61 (nI (c + 1)) S2 ∧ hvm S2 B w kd wt2 sh (hl_r col c (hl_dr wt2 K ++ R)) ∧ (∀ l, l < K.length → wt2 ((K[l]?).getD 0) = wt ((K[l]?).getD 0) - mm l) ∧ (∀ i, i ∉ K → wt2 i = wt i) ∧ (∀ i, wt2 i ≤ wt i) ∧ S2.1 104 1 = S.1 104 1 + nI (hs_ls mm K.length 0) ∧ fr fwm S S2 := by
  intro j
  have r5 : iz_rf 82 5 = 87 := rfl
  have r25 : iz_rf 82 25 = 104 := rfl
  have r37 : iz_rf 82 37 = 113 := rfl
  induction j with
  | zero =>
    intro K R n S wt col hK hn h hi e hm
    obtain ⟨m, rfl⟩ : ∃ m, n = m + 1 := ⟨n - 1, by omega⟩
    obtain rfl : K = [] := List.length_eq_zero_iff.mp hK
    have lt : nI ([] : List Nat).length - 1 < 0 := by decide +kernel
    refine ⟨S, wt, ?_, ?_, fun l hl => absurd hl (Nat.not_lt_zero l), fun i _ => rfl, fun i => Nat.le_refl _, ?_, fr_rf _ _⟩
    · show Mo_weekGoes_76b 82 k61 (Mo_weekGoes_76 82 k61 m) (nI c) (nI ([] : List Nat).length - 1) S = _
      rw [Mo_weekGoes_76b, if_pos lt, nI_1]
    · rw [show hl_dr wt [] ++ R = [] ++ R from rfl, r_id e]; exact h
    · rw [show hs_ls mm ([] : List Nat).length 0 = 0 from rfl, nI_0, Int32.add_zero]
  | succ j ih =>
    intro K R n S wt col hK hn h hi e hm
    obtain ⟨m, rfl⟩ : ∃ m, n = m + 1 := ⟨n - 1, by omega⟩
    obtain ⟨K', a, rfl⟩ := top_of (L := K) (fun q => by rw [q] at hK; cases hK)
    have e' : col c = K' ++ a :: R := by rw [e, List.append_assoc]; rfl
    have kl : (K' ++ [a]).length = K'.length + 1 := by rw [List.length_append]; rfl
    obtain ⟨b1, b2, -, -, -, a60, -, w12, l6, -⟩ := mo_breaks h hi c16 e'
    have ma : a ∈ col c := by rw [e']; simp
    have nd := (hi.2.2.2.1 c c16).2
    rw [e', List.nodup_append] at nd
    have aK : a ∉ K' := fun q => nd.2.2 a q a List.mem_cons_self rfl
    have ga : ((K' ++ [a])[K'.length]?).getD 0 = a := by rw [get_r (Nat.le_refl _), Nat.sub_self]; rfl
    have gl : ∀ l, l < K'.length → (K' ++ [a])[l]? = K'[l]? := fun l hl => get_l hl
    obtain ⟨m1, m2⟩ := hm K'.length (by omega)
    rw [ga] at m2
    rw [kl] at hK ⊢
    have i2 := in_ok (n := a) (N := 60) a60 (by decide)
    have i3 := in_ok (n := 6 * c + K'.length) (N := 96) (by omega) (by decide)
    have i1 : iz_in 1 6 = true := by decide +kernel
    have g1 : ∀ T : iz_S, iz_g T 104 1 = T.1 104 1 := g104 1 (by decide)
    have s1 : ∀ (T : iz_S) v, iz_s T 104 1 v = iz_up T 104 1 v := s104 1 (by decide)
    have x1 : nI (K'.length + 1) - 1 = nI K'.length := nI_m1 (by omega)
    have np : ¬ nI K'.length < 0 := nI_pos (by omega)
    obtain ⟨x, ex⟩ : ∃ x, x = mm K'.length := ⟨_, rfl⟩
    rw [← ex] at m1 m2
    have e0 : (nI (wt a - x) = 0) = (wt a - x = 0) := n0_iff (by omega)
    obtain ⟨T, hT⟩ : ∃ T, T = iz_up (iz_up S 87 a (nI (wt a - x))) 104 1 (S.1 104 1 + nI x) := ⟨_, rfl⟩
    have fT : fr (fun p i => p == 87 || (p == 104 && i == 1)) S T := by
      rw [hT]
      exact fr_up (fr_up (fr_rf _ _) rfl) rfl
    have vT : hvm T B w kd (wtU wt a (wt a - x)) sh col := by
      refine ⟨(fT _ _ rfl).trans h.1, (fT _ _ rfl).trans h.2.1, hvg_w h.2.2.1 hi c16 ma (fun k => fT _ _ rfl) ?_ ?_ (fun k => fT _ _ rfl) (fun k => fT _ _ rfl) (fun k => fT _ _ rfl), fun k i q1 q2 => (fT _ _ rfl).trans (h.2.2.2.1 k i q1 q2), fun i q1 q2 => (fT _ _ rfl).trans (h.2.2.2.2 i q1 q2)⟩
      · intro k hk
        rw [hT, up_p _ _ _ _ (by decide), up_ne _ _ _ _ (Or.inr hk)]
      · rw [hT, up_p _ _ _ _ (by decide), up_same]
    have wl : ∀ i, wtU wt a (wt a - x) i ≤ wt i := fun i => by
      by_cases e : i = a
      · rw [e, wtU_s]; omega
      · rw [wtU_n e]; exact Nat.le_refl _
    have hiT : hvi B w kd (wtU wt a (wt a - x)) sh col := hvi_sub hi (fun c _ => List.Sublist.refl _) wl hi.2.1
    have T87 : T.1 87 a = nI (wt a - x) := by rw [hT, up_p _ _ _ _ (by decide), up_same]
    have head : Mo_weekGoes_76 82 k61 (m + 1) (nI c) (nI K'.length) S = if nI (wt a - x) = 0 then iz_bV (Mo_goes 82 (nI c) (nI K'.length) T) (fun S13 => Mo_weekGoes_145 82 k61 (Mo_weekGoes_76 82 k61 m) (nI c) (nI K'.length) S13) else Mo_weekGoes_145 82 k61 (Mo_weekGoes_76 82 k61 m) (nI c) (nI K'.length) T := by
      show Mo_weekGoes_76b 82 k61 (Mo_weekGoes_76 82 k61 m) (nI c) (nI K'.length) S = _
      have u1 : (iz_up S 87 a (nI (wt a - x))).1 113 (6 * c + K'.length) = nI x := by rw [up_p _ _ _ _ (by decide)]; exact m1
      have u2 : (iz_up S 87 a (nI (wt a - x))).1 104 1 = S.1 104 1 := by rw [up_p _ _ _ _ (by decide)]
      rw [Mo_weekGoes_76b, if_neg np, b1, bI_s, i2, ck_t, nI_6', nI_add, i3, ck_t, ck_t, lt_e, i1, ck_t, ck_t, ck_t, lt_e, ck_t, r5, r25, r37]
      simp only [g_nI _ _ (show a < 2 ^ 31 by omega), s_nI _ _ (show a < 2 ^ 31 by omega), g_nI _ _ (show 6 * c + K'.length < 2 ^ 31 by omega), b2, m1, nI_sb m2 (show wt a < 2 ^ 31 by omega), g1, s1, u1, u2, ← hT, T87]
    have mK : ∀ (T2 : iz_S), (∀ i, T2.1 113 i = S.1 113 i) → ∀ l, l < K'.length → T2.1 113 (6 * c + l) = nI (mm l) ∧ mm l ≤ wtU wt a (wt a - x) ((K'[l]?).getD 0) := fun T2 hT2 l hl => by
      obtain ⟨g1, g2⟩ := hm l (by omega)
      rw [gl l hl] at g2
      rw [hT2, g1]
      have : (K'[l]?).getD 0 ≠ a := fun q => aK (by
        rw [List.getElem?_eq_getElem hl] at q
        rw [← q]
        exact List.getElem_mem hl)
      rw [wtU_n this]
      exact ⟨rfl, g2⟩
    have fin : ∀ (S2 : iz_S) (wt2 : Nat → Nat), (∀ l, l < K'.length → wt2 ((K'[l]?).getD 0) = wtU wt a (wt a - x) ((K'[l]?).getD 0) - mm l) → (∀ i, i ∉ K' → wt2 i = wtU wt a (wt a - x) i) → (∀ l, l < K'.length + 1 → wt2 (((K' ++ [a])[l]?).getD 0) = wt (((K' ++ [a])[l]?).getD 0) - mm l) ∧ (∀ i, i ∉ K' ++ [a] → wt2 i = wt i) ∧ wt2 a = wt a - x := fun S2 wt2 t3 t4 => by
      have z : wt2 a = wt a - x := by rw [t4 a aK, wtU_s]
      refine ⟨fun l hl => ?_, fun i hi => ?_, z⟩
      · by_cases el : l = K'.length
        · rw [el, ga, z, ex]
        · have hl2 : l < K'.length := by omega
          rw [gl l hl2, t3 l hl2]
          have : (K'[l]?).getD 0 ≠ a := fun q => aK (by
            rw [List.getElem?_eq_getElem hl2] at q
            rw [← q]
            exact List.getElem_mem hl2)
          rw [wtU_n this]
      · rw [t4 i (fun q => hi (List.mem_append_left _ q)), wtU_n (fun q => hi (by rw [q]; simp))]
    rw [x1, head]
    have ls1 : hs_ls mm (K'.length + 1) 0 = hs_ls mm K'.length 0 + x := by rw [hs_ls, if_pos (Nat.zero_le _), ex]
    by_cases hw : wt a - x = 0
    · rw [if_pos (by rw [e0]; exact hw)]
      obtain ⟨S7, q1, q2, q3⟩ := hvm_out vT hiT c16 e'
      obtain ⟨S2, wt2, t1, t2, t3, t4, t5, t6, t7⟩ := ih K' R m S7 _ _ (by omega) (by omega) q2 (hvi_out hiT (by rw [e']; exact sub_mid)) (r_same _ _ _) (mK S7 (fun i => (q3 _ _ rfl).trans (fT _ _ rfl)))
      rw [r_r] at t2
      obtain ⟨f1, f2, f3⟩ := fin S2 wt2 t3 t4
      refine ⟨S2, wt2, ?_, ?_, f1, f2, fun i => Nat.le_trans (t5 i) (wl i), ?_, ?_⟩
      · rw [q1, bV_s, Mo_weekGoes_145, pm1, t1]
      · rw [dr_app, dr_1, f3, if_pos hw, List.append_nil]; exact t2
      · rw [t6, q3 104 1 rfl, hT, up_same, ls1, Int32.add_assoc, nI_add, Nat.add_comm]
      · refine fr_tr (fr_tr (fr_mono fT ?_) (fr_mono q3 ?_)) t7 <;>
        · intro p i hp
          simp only [fwm, Bool.or_eq_true, Bool.and_eq_true, beq_iff_eq] at hp ⊢
          omega
    · rw [if_neg (by rw [e0]; exact hw)]
      obtain ⟨S2, wt2, t1, t2, t3, t4, t5, t6, t7⟩ := ih K' (a :: R) m T _ _ (by omega) (by omega) vT hiT e' (mK T (fun i => fT _ _ rfl))
      obtain ⟨f1, f2, f3⟩ := fin S2 wt2 t3 t4
      refine ⟨S2, wt2, ?_, ?_, f1, f2, fun i => Nat.le_trans (t5 i) (wl i), ?_, ?_⟩
      · rw [Mo_weekGoes_145, pm1, t1]
      · rw [dr_app, dr_1, f3, if_neg hw, List.append_assoc]; exact t2
      · rw [t6, hT, up_same, ls1, Int32.add_assoc, nI_add, Nat.add_comm]
      · refine fr_tr (fr_mono fT ?_) t7
        intro p i hp
        simp only [fwm, Bool.or_eq_true, Bool.and_eq_true, beq_iff_eq] at hp ⊢
        omega
