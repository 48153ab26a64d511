/-! PURE: check -/
theorem up_comm (S : iz_S) {p i q j : Nat} (v u : Int32) (h : p ≠ q ∨ i ≠ j) : iz_up (iz_up S p i v) q j u = iz_up (iz_up S q j u) p i v := by
  refine Prod.ext (funext fun a => funext fun b => ?_) rfl
  by_cases e1 : a = q ∧ b = j
  · obtain ⟨rfl, rfl⟩ := e1
    rw [up_same, up_ne _ _ _ _ (by omega), up_same]
  · rw [up_ne _ _ _ _ (by omega)]
    by_cases e2 : a = p ∧ b = i
    · obtain ⟨rfl, rfl⟩ := e2
      rw [up_same, up_same]
    · rw [up_ne _ _ _ _ (by omega), up_ne _ _ _ _ (by omega), up_ne _ _ _ _ (by omega)]
/-- the first number that isn't a column's weight -/
def fw (x : Nat → Int32) (cw : Nat → Nat) : Nat → Nat → Nat
  | _, 0 => 0
  | c, j + 1 => if x c = nI (cw c) then fw x cw (c + 1) j else c + 1
theorem fw_cong {x y : Nat → Int32} {cw : Nat → Nat} : ∀ {j c : Nat}, (∀ k, c ≤ k → k < c + j → x k = y k) → fw x cw c j = fw y cw c j
  | 0, _, _ => rfl
  | j + 1, c, h => by rw [fw, fw, h c (Nat.le_refl c) (by omega), fw_cong (fun k h1 h2 => h k (by omega) (by omega))]
def hl_cw (sh : Nat → Bool) (col : Nat → List Nat) (wt : Nat → Nat) (c : Nat) : Nat := hs_ls (fun l => hl_w sh col wt (hl_b col c l)) (hl_h col c) 0
theorem ho_cw {S : iz_S} {q B w : Nat} {kd wt : Nat → Nat} {sh : Nat → Bool} {col : Nat → List Nat} (hq : hq_p q) (h : hvc S q B w kd wt sh col) (hi : hvi B w kd wt sh col) {c : Nat} (c16 : c < 16) : Ho_columnWeight q (nI c) S = some (nI (hl_cw sh col wt c), S) := by
  have e := ho_load hq (hvc_c h) (hvi_i hi) c16 (hl_h col c) 0 iz_FU 0 (by omega) (by have := fu_ge; have := (hi.2.2.2.1 c c16).1; have : hl_h col c ≤ 6 := this; omega)
  rw [nI_0, Nat.zero_add] at e
  have z : (-1 : Int32) + 1 = 0 := by decide +kernel
  rw [Ho_columnWeight, Ho_loadOver, lt_e, z, e, bI_s]
  rfl
theorem wa_first {S : iz_S} {B w n : Nat} {kd wt : Nat → Nat} {sh : Nat → Bool} {col : Nat → List Nat} (h : hvc S 19 B w kd wt sh col) (hi : hvi B w kd wt sh col) (hn : S.1 79 0 = nI n) (n16 : n ≤ 16) : ∀ (j c m : Nat), c + j = n → j < m → Wa_firstWrong_2 79 19 m (nI c) S = some (nI (fw (S.1 80) (hl_cw sh col wt) c j), S) := by
  intro j
  induction j with
  | zero =>
    intro c m hc hm
    obtain ⟨k, rfl⟩ : ∃ k, m = k + 1 := ⟨m - 1, by omega⟩
    have lt : ¬ nI c < nI n := nI_nlt (by omega) (by omega)
    show Wa_firstWrong_2b 79 19 (Wa_firstWrong_2 79 19 k) (nI c) S = _
    rw [Wa_firstWrong_2b, hn, if_neg lt]
    rfl
  | succ j ih =>
    intro c m hc hm
    obtain ⟨k, rfl⟩ : ∃ k, m = k + 1 := ⟨m - 1, by omega⟩
    have lt : nI c < nI n := nI_lt (by omega) (by omega)
    have i1 := in_ok (n := c) (N := 16) (by omega) (by decide)
    show Wa_firstWrong_2b 79 19 (Wa_firstWrong_2 79 19 k) (nI c) S = _
    rw [Wa_firstWrong_2b, hn, if_pos lt, i1, ck_t, ho_cw hq_19 h hi (show c < 16 by omega), bI_s, show iz_rf 79 1 = 80 from rfl, g_nI _ _ (show c < 2 ^ 31 by omega), fw]
    by_cases e : S.1 80 c = nI (hl_cw sh col wt c)
    · rw [if_pos e, if_pos e, nI_1, ih (c + 1) k (by omega) (by omega)]
    · rw [if_neg e, if_neg e, nI_1]
theorem mo_ch69 {S : iz_S} {B w : Nat} {kd wt : Nat → Nat} {sh : Nat → Bool} {col : Nat → List Nat} (h : hvm S B w kd wt sh col) (hi : hvi B w kd wt sh col) (k53 : Int32 → Int32 → Int32 → iz_S → Option (Int32 × iz_S)) (x2 : Int32) {c : Nat} (c16 : c < 16) : ∀ (j s n a : Nat), s + j = hl_h col c → j < n →
    Mo_check_69 82 k53 n x2 (nI c) (nI a) (nI s) S = if nI (a + hs_ls (fun l => hl_w sh col wt (hl_b col c l)) (hl_h col c) s) = S.1 105 c then k53 x2 0 (nI (c + 1)) S else k53 x2 (nI (c + 1)) (nI (c + 1)) S := by
  intro j
  have i1 := in_ok (n := c) (N := 16) c16 (by decide)
  have hH := h.2.2.1.2.1 c c16
  have l6 : hl_h col c ≤ 6 := (hi.2.2.2.1 c c16).1
  have gc := fun (T : iz_S) p => g_nI T p (show c < 2 ^ 31 by omega)
  have r9 : iz_rf 82 9 = 91 := rfl
  have r27 : iz_rf 82 27 = 105 := rfl
  have r5 : iz_rf 82 5 = 87 := rfl
  induction j with
  | zero =>
    intro s n a hs hn
    obtain ⟨m, rfl⟩ : ∃ m, n = m + 1 := ⟨n - 1, by omega⟩
    have lt : ¬ nI s < nI (hl_h col c) := nI_nlt (by omega) (by omega)
    have e1 : (1 : Int32) + nI c = nI (c + 1) := by rw [show (1 : Int32) = nI 1 from rfl, nI_add, Nat.add_comm]
    show Mo_check_69b 82 k53 (Mo_check_69 82 k53 m) x2 (nI c) (nI a) (nI s) S = _
    rw [Mo_check_69b, i1, ck_t, r9, r27, gc, gc, hH, if_neg lt, ck_t, ls_0 _ _ _ (by omega), Mo_check_125, Mo_check_125, nI_1, e1]
    rfl
  | succ j ih =>
    intro s n a hs hn
    obtain ⟨m, rfl⟩ : ∃ m, n = m + 1 := ⟨n - 1, by omega⟩
    have hl : s < hl_h col c := by omega
    have lt : nI s < nI (hl_h col c) := nI_lt hl (by omega)
    have b1 := mo_at (S := S) c16 (show s < 6 by omega)
    rw [h.2.2.1.2.2 c s c16 hl] at b1
    have aB := (hi.2.2.2.2.1 c _ c16 (b_mem hl)).1
    have B60 := hi.1
    have i2 := in_ok (n := hl_b col c s) (N := 60) (by omega) (by decide)
    show Mo_check_69b 82 k53 (Mo_check_69 82 k53 m) x2 (nI c) (nI a) (nI s) S = _
    rw [Mo_check_69b, i1, ck_t, r9, gc, hH, if_pos lt, b1, bI_s, i2, ck_t, lt_e, r5, g_nI _ _ (show hl_b col c s < 2 ^ 31 by omega), (h.2.2.1.1 _ aB).2.1, nI_add, nI_1, ih (s + 1) m _ (by omega) (by omega), ls_s _ _ _ hl, Nat.add_assoc]
theorem mo_ch53 {S : iz_S} {B w n : Nat} {kd wt : Nat → Nat} {sh : Nat → Bool} {col : Nat → List Nat} (h : hvm S B w kd wt sh col) (hi : hvi B w kd wt sh col) (n16 : n ≤ 16) : ∀ (j c m : Nat), c + j = n → j + 1 < m → Mo_check_53 82 m (nI n) 0 (nI c) S = Mo_check_132 82 (nI (fw (S.1 105) (hl_cw sh col wt) c j)) S := by
  intro j
  induction j with
  | zero =>
    intro c m hc hm
    obtain ⟨k, rfl⟩ : ∃ k, m = k + 1 := ⟨m - 1, by omega⟩
    have lt : ¬ nI c < nI n := nI_nlt (by omega) (by omega)
    show Mo_check_53b 82 (Mo_check_53 82 k) (nI n) 0 (nI c) S = _
    rw [Mo_check_53b, if_neg lt]
    rfl
  | succ j ih =>
    intro c m hc hm
    obtain ⟨k, rfl⟩ : ∃ k, m = k + 1 := ⟨m - 1, by omega⟩
    have lt : nI c < nI n := nI_lt (by omega) (by omega)
    have l6 : hl_h col c ≤ 6 := (hi.2.2.2.1 c (by omega)).1
    have e1 := mo_ch69 h hi (Mo_check_53 82 k) (nI n) (c := c) (by omega) (hl_h col c) 0 iz_FU 0 (by omega) (by have := fu_ge; omega)
    rw [Nat.zero_add, nI_0, show hs_ls (fun l => hl_w sh col wt (hl_b col c l)) (hl_h col c) 0 = hl_cw sh col wt c from rfl] at e1
    show Mo_check_53b 82 (Mo_check_53 82 k) (nI n) 0 (nI c) S = _
    rw [Mo_check_53b, if_pos lt, if_pos rfl]
    refine Eq.trans e1 ?_
    rw [fw]
    by_cases e : S.1 105 c = nI (hl_cw sh col wt c)
    · rw [if_pos e, if_pos e.symm, ih (c + 1) k (by omega) (by omega)]
    · rw [if_neg e, if_neg (fun q => e q.symm)]
      obtain ⟨k2, rfl⟩ : ∃ k2, k = k2 + 1 := ⟨k - 1, by omega⟩
      have n0 : ¬ nI (c + 1) = 0 := nI_ne0 (by omega) (by omega)
      show Mo_check_53b 82 (Mo_check_53 82 k2) (nI n) (nI (c + 1)) (nI (c + 1)) S = _
      rw [Mo_check_53b, if_neg n0]
      split <;> rfl
theorem mo_cl {N : Nat} (hN : N ≤ 1000) (x2 : Int32) : ∀ (j i n : Nat) (S S2 : iz_S), i + j = N → j < n → mo_it j S = some S2 → Mo_check_33 82 n (nI N) x2 (nI i) S = Mo_check_53 82 iz_FU x2 0 0 S2 := by
  intro j
  induction j with
  | zero =>
    intro i n S S2 hi hn h
    obtain ⟨m, rfl⟩ : ∃ m, n = m + 1 := ⟨n - 1, by omega⟩
    have lt : ¬ nI i < nI N := nI_nlt (by omega) (by omega)
    rw [← Option.some.inj h]
    show Mo_check_33b 82 (Mo_check_33 82 m) (nI N) x2 (nI i) S = _
    rw [Mo_check_33b, if_neg lt]
  | succ j ih =>
    intro i n S S2 hi hn h
    obtain ⟨m, rfl⟩ : ∃ m, n = m + 1 := ⟨n - 1, by omega⟩
    have lt : nI i < nI N := nI_lt (by omega) (by omega)
    obtain ⟨S1, a1, a2⟩ := it_cons h
    show Mo_check_33b 82 (Mo_check_33 82 m) (nI N) x2 (nI i) S = _
    rw [Mo_check_33b, if_pos lt, a1, bV_s, nI_1, ih (i + 1) m S1 S2 (by omega) (by omega) a2]
/-- nothing waits any more, in both -/
def wt0 (S : iz_S) : iz_S := iz_up (iz_up S 79 0 0) 82 26 0
theorem rl_wt0 {S : iz_S} (h : rl S) : rl (wt0 S) := by
  have hf : fr (fun p i => (p == 79 && i == 0) || (p == 82 && i == 26)) S (wt0 S) := fr_up (fr_up (fr_rf _ _) rfl) rfl
  refine ⟨st_lake hf (fun _ => ⟨rfl, rfl, rfl, rfl, rfl, rfl⟩) h.1, st_shel hf (fun _ => ⟨rfl, rfl, rfl, rfl, rfl, rfl⟩) h.2.1, st_house hf (fun _ => ⟨rfl, rfl, rfl, rfl, rfl, rfl, rfl, rfl, rfl, rfl, rfl, rfl⟩) rfl rfl (fun _ _ => rfl) h.2.2.1, st_ord hf (fun _ => ⟨rfl, rfl, rfl, rfl, rfl, rfl, rfl, rfl, rfl, rfl, rfl, rfl, rfl⟩) rfl rfl h.2.2.2.1, st_rail hf (fun _ => ⟨rfl, rfl, rfl, rfl, rfl, rfl, rfl⟩) rfl h.2.2.2.2.1, ⟨0, by omega, ?_, ?_, fun i hi => by omega⟩, st_sale hf (fun _ => ⟨rfl, rfl⟩) h.2.2.2.2.2.2.1, st_found hf (fun _ => ⟨rfl, rfl⟩) h.2.2.2.2.2.2.2⟩
  · unfold wt0; rw [up_p _ _ _ _ (by decide), up_same]; rfl
  · unfold wt0; rw [up_same]; rfl
theorem pc_check {S : iz_S} (h : rl S) (x : Int32) : pc (Ic_check 0 x) (Mo_check 82 x) S := by
  by_cases hx : 0 ≤ x ∧ x ≤ 20
  · obtain ⟨N, -, N20, rfl⟩ := nI_btw (a := 0) (b := 20) (by decide) hx.1 hx.2 (by decide)
    obtain ⟨B, w, kd, wt, sh, col, hc, hm, hi, hw, hs, hl⟩ := house_l h.2.2.1
    obtain ⟨d, cv, W, s1, s2⟩ := shel_s h.2.1
    obtain ⟨n, w1, w2, w3, w4⟩ := id h.2.2.2.2.2.1
    obtain ⟨Sa, e1, e2, e3⟩ := hvc_like hc hi
    obtain ⟨Sb, a1, a2, a3, a4, a5⟩ := ho_weeks hq_19 (by decide) (N := N) (by omega) N 0 iz_FU w Sa wt col (by omega) (by have := fu_ge; omega) (by omega) e2 hi (sf_st s1 e3 (fun i => ⟨rfl, rfl, rfl⟩))
    have fb : fr ftr S Sb := fr_tr e3 (ftr_c a5)
    have hi1 := hvi_wn d cv W hi (n := N) (by omega)
    obtain ⟨S1, hS1⟩ : ∃ S1, S1 = iz_up Sb 79 0 0 := ⟨_, rfl⟩
    have f1 : fr (fun p i => p == 79 && i == 0) Sb S1 := by rw [hS1]; exact fr_1
    obtain ⟨S3, hS3⟩ : ∃ S3, S3 = iz_up S1 82 26 0 := ⟨_, rfl⟩
    have f3 : fr (fun p i => p == 82 && i == 26) S1 S3 := by rw [hS3]; exact fr_1
    have hmb : hvm Sb B w kd wt sh col := hvm_st hm hi fb rfl rfl (fun i => ⟨rfl, rfl, rfl, rfl, rfl, rfl⟩)
    have hm1 : hvm S1 B w kd wt sh col := hvm_st hmb hi f1 rfl rfl (fun i => ⟨rfl, rfl, rfl, rfl, rfl, rfl⟩)
    have hm3 : hvm S3 B w kd wt sh col := hvm_st hm1 hi f3 rfl rfl (fun i => ⟨rfl, rfl, rfl, rfl, rfl, rfl⟩)
    have s3 : sm_ S3 d cv W := sm_st (sm_st (sm_st s2 fb (fun i => ⟨rfl, rfl, rfl⟩)) f1 (fun i => ⟨rfl, rfl, rfl⟩)) f3 (fun i => ⟨rfl, rfl, rfl⟩)
    obtain ⟨T, t0, -, -, -, -, -, -, -, t8⟩ := mo_asideI S3
    have hmT : hvm T B w kd wt sh col := hvm_st hm3 hi t8 rfl rfl (fun i => ⟨rfl, rfl, rfl, rfl, rfl, rfl⟩)
    obtain ⟨U, b1, b2, b3, b4, b5⟩ := mo_its N w T wt col (by omega) hmT hi (sm_st s3 t8 (fun i => ⟨rfl, rfl, rfl⟩))
    obtain ⟨V, v1, v2⟩ := mo_back t0 b5
    have l2 := mo_cl (N := N) (by omega) (nI n) N 0 iz_FU T U (by omega) (by have := fu_ge; omega) b1
    have c2 := mo_ch53 (n := n) b2 hi1 (by omega) n 0 iz_FU (by omega) (by have := fu_ge; omega)
    rw [show Mo_check_53 82 iz_FU (nI n) 0 0 U = _ from c2, Mo_check_132, v1, bV_s] at l2
    have wa := wa_first (S := Sb) (n := n) a2 hi1 (by rw [fb 79 0 rfl]; exact w2) (by omega) n 0 iz_FU (by omega) (by have := fu_ge; omega)
    have ef : fw (U.1 105) (hl_cw sh (wn d cv W kd w N wt col).2 (wn d cv W kd w N wt col).1) 0 n = fw (Sb.1 80) (hl_cw sh (wn d cv W kd w N wt col).2 (wn d cv W kd w N wt col).1) 0 n := fw_cong (fun k _ hk => by
      rw [b5 105 k rfl, t8 105 k rfl, f3 105 k rfl, f1 105 k rfl, fb 105 k rfl, fb 80 k rfl]
      exact (w4 k (by omega)).symm)
    rw [ef] at l2
    have u26 : S1.1 82 26 = nI n := by rw [f1 82 26 rfl, fb 82 26 rfl]; exact w3
    refine pc_of (r := nI (fw (Sb.1 80) (hl_cw sh (wn d cv W kd w N wt col).2 (wn d cv W kd w N wt col).1) 0 n)) (S1 := S1) (S2 := V) ?_ ?_ ?_
    · have n1 : ¬ (1 : Int32) = 0 := by decide
      rw [Ic_check, ic_within, bI_s, if_pos hx, if_neg n1, show iz_rf 0 4 = 19 from rfl, show iz_rf 0 3 = 13 from rfl, show iz_rf 0 9 = 79 from rfl, e1, bV_s, Ho_passWeeks, show Ho_passWeeks_2 19 iz_FU (nI N) 0 Sa = _ from a1, bV_s, Wa_firstWrong, show Wa_firstWrong_2 79 19 iz_FU 0 Sb = _ from wa, bI_s, Wa_clear, lt_e, bV_s, hS1]
    · have n1 : ¬ (1 : Int32) = 0 := by decide
      rw [Mo_check, lt_e, lt_e, u26, ← hS3, mo_isIn, bI_s, if_pos hx, if_neg n1, t0, bV_s]
      exact l2
    · refine rl_as (S := wt0 S) (S1 := S3) (rl_wt0 h) (fun p i hp => ?_) v2
      unfold wt0
      by_cases e1 : p = 82 ∧ i = 26
      · obtain ⟨rfl, rfl⟩ := e1
        rw [hS3, up_same, up_same]
      · rw [hS3, up_ne _ _ _ _ (by omega), up_ne _ _ _ _ (by omega), hS1]
        by_cases e2 : p = 79 ∧ i = 0
        · obtain ⟨rfl, rfl⟩ := e2
          rw [up_same, up_same]
        · rw [up_ne _ _ _ _ (by omega), up_ne _ _ _ _ (by omega)]
          exact fb p i hp
  · have u : (iz_up (iz_up S 79 0 0) 81 1 ((iz_up S 79 0 0).1 81 1 + 1)).1 82 26 = S.1 82 26 := by rw [up_p _ _ _ _ (by decide), up_p _ _ _ _ (by decide)]
    refine pc_of (r := -1000001) (S1 := iz_up (iz_up S 79 0 0) 81 1 ((iz_up S 79 0 0).1 81 1 + 1)) (S2 := iz_up (iz_up (wt0 S) 81 1 ((wt0 S).1 81 1 + 1)) 106 1 ((iz_up (wt0 S) 81 1 ((wt0 S).1 81 1 + 1)).1 106 1 + 1)) ?_ ?_ (rl_find (k := 1) (rl_wt0 h))
    · simp only [Ic_check, ic_within, ck_t, lt_e, bI_s, bL_s, bV_s, one_n0, zero_0, if_true, if_false, rfs, if_neg hx, Wa_clear, ic_f1]
    · simp only [Mo_check, mo_isIn, ck_t, lt_e, bI_s, bL_s, bV_s, one_n0, zero_0, if_true, if_false, rfs, if_neg hx, mo_f1]
      have cm : iz_up (iz_up (iz_up S 79 0 0) 81 1 ((iz_up S 79 0 0).1 81 1 + 1)) 82 26 0 = iz_up (wt0 S) 81 1 ((iz_up S 79 0 0).1 81 1 + 1) := up_comm _ _ _ (Or.inl (by decide))
      have z : (wt0 S).1 81 1 = (iz_up S 79 0 0).1 81 1 := up_ne _ _ _ _ (Or.inl (by decide))
      rw [cm, z]
