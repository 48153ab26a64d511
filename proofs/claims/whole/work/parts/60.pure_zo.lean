/-! PURE: after, lasts -/
theorem ftr_c {S T : iz_S} (h : fr (fhc 19) S T) : fr ftr S T := fr_mono h (fun p i hp => by
  simp only [fhc, ftr, Bool.or_eq_true, Bool.and_eq_true, beq_iff_eq] at hp ⊢
  omega)
def fai (q i : Nat) : Bool := (q == 82 && (i == 39 || i == 40)) || q == 114
theorem mo_al {N : Nat} (hN : N ≤ 1000) : ∀ (j i n : Nat) (S S2 : iz_S), i + j = N → j < n → mo_it j S = some S2 → Mo_after_23 82 n (nI N) (nI i) S = iz_bI (Mo_allWeight 82 S2) (fun r S3 => iz_bV (Mo_layAside 82 0 S3) (fun S4 => some (r, S4))) := by
  intro j
  induction j with
  | zero =>
    intro i n S S2 hi hn h
    obtain ⟨m, rfl⟩ : ∃ m, n = m + 1 := ⟨n - 1, by omega⟩
    have lt : ¬ nI i < nI N := nI_nlt (by omega) (by omega)
    rw [← Option.some.inj h]
    show Mo_after_23b 82 (Mo_after_23 82 m) (nI N) (nI i) S = _
    rw [Mo_after_23b, if_neg lt]
  | succ j ih =>
    intro i n S S2 hi hn h
    obtain ⟨m, rfl⟩ : ∃ m, n = m + 1 := ⟨n - 1, by omega⟩
    have lt : nI i < nI N := nI_lt (by omega) (by omega)
    obtain ⟨S1, a1, a2⟩ := it_cons h
    show Mo_after_23b 82 (Mo_after_23 82 m) (nI N) (nI i) S = _
    rw [Mo_after_23b, if_pos lt, a1, bV_s, nI_1, ih (i + 1) m S1 S2 (by omega) (by omega) a2]
theorem pc_after {S : iz_S} (h : rl S) (x : Int32) : pc (Ic_after 0 x) (Mo_after 82 x) S := by
  by_cases hx : 0 ≤ x ∧ x ≤ 20
  · obtain ⟨N, -, N20, rfl⟩ := nI_btw (a := 0) (b := 20) (by decide) hx.1 hx.2 (by decide)
    obtain ⟨B, w, kd, wt, sh, col, hc, hm, hi, hw, hs, hl⟩ := house_l h.2.2.1
    obtain ⟨d, cv, W, s1, s2⟩ := shel_s h.2.1
    obtain ⟨Sa, e1, e2, e3⟩ := hvc_like hc hi
    obtain ⟨S1, a1, a2, a3, a4, a5⟩ := ho_weeks hq_19 (by decide) (N := N) (by omega) N 0 iz_FU w Sa wt col (by omega) (by have := fu_ge; omega) (by omega) e2 hi (sf_st s1 e3 (fun i => ⟨rfl, rfl, rfl⟩))
    have f1 : fr ftr S S1 := fr_tr e3 (ftr_c a5)
    have hi1 := hvi_wn d cv W hi (n := N) (by omega)
    have hm1 : hvm S1 B w kd wt sh col := hvm_st hm hi f1 rfl rfl (fun i => ⟨rfl, rfl, rfl, rfl, rfl, rfl⟩)
    obtain ⟨T, t0, -, -, -, -, -, -, -, t8⟩ := mo_asideI S1
    have hmT : hvm T B w kd wt sh col := hvm_st hm1 hi t8 rfl rfl (fun i => ⟨rfl, rfl, rfl, rfl, rfl, rfl⟩)
    obtain ⟨U, b1, b2, b3, b4, b5⟩ := mo_its N w T wt col (by omega) hmT hi (sm_st (sm_st s2 f1 (fun i => ⟨rfl, rfl, rfl⟩)) t8 (fun i => ⟨rfl, rfl, rfl⟩))
    have l2 := mo_al (N := N) (by omega) N 0 iz_FU T U (by omega) (by have := fu_ge; omega) b1
    obtain ⟨V, v1, v2⟩ := mo_back t0 b5
    rw [mo_aw b2 hi1, bI_s, v1, bV_s] at l2
    refine pc_of (r := nI (hl_aw sh (wn d cv W kd w N wt col).2 (wn d cv W kd w N wt col).1)) (S1 := S1) (S2 := V) ?_ ?_ (rl_as h f1 v2)
    · simp only [Ic_after, ic_within, ck_t, lt_e, bI_s, bL_s, bV_s, one_n0, zero_0, if_true, if_false, rfs, if_pos hx, e1]
      rw [Ho_passWeeks, show Ho_passWeeks_2 19 iz_FU (nI N) 0 Sa = _ from a1, bV_s, ho_aw hq_19 a2 hi1, bI_s]
    · simp only [Mo_after, mo_isIn, ck_t, lt_e, bI_s, bL_s, bV_s, one_n0, zero_0, if_true, if_false, rfs, if_pos hx, t0]
      exact l2
  · refine pc_of (r := -1000001) (S1 := iz_up S 81 1 (S.1 81 1 + 1)) ?_ ?_ (rl_find (k := 1) h)
    · simp only [Ic_after, ic_within, ck_t, lt_e, bI_s, bL_s, bV_s, one_n0, zero_0, if_true, if_false, rfs, if_neg hx, ic_f1]
    · simp only [Mo_after, mo_isIn, ck_t, lt_e, bI_s, bL_s, bV_s, one_n0, zero_0, if_true, if_false, rfs, if_neg hx, mo_f1]
theorem ls_le {f : Nat → Nat} {M : Nat} : ∀ {n s : Nat}, (∀ k, k < n → f k ≤ M) → hs_ls f n s ≤ M * n
  | 0, _, _ => Nat.zero_le _
  | n + 1, s, h => by
    have h1 := ls_le (n := n) (s := s) (fun k hk => h k (by omega))
    have h2 := h n (by omega)
    rw [hs_ls, Nat.mul_succ]
    split <;> omega
theorem tw_le {h : Nat → Nat} {b : Nat → Nat → Nat} {wt : Nat → Nat} : ∀ {j c : Nat}, (∀ k, c ≤ k → k < c + j → hs_ls (fun l => wt (b k l)) (h k) 0 ≤ 7200) → hs_tw h b wt c j ≤ 7200 * j
  | 0, _, _ => Nat.zero_le _
  | j + 1, c, q => by
    have h1 := q c (Nat.le_refl c) (by omega)
    have h2 := tw_le (j := j) (c := c + 1) (fun k q1 q2 => q k (by omega) (by omega))
    rw [hs_tw, Nat.mul_succ]
    omega
theorem cw_le {B w : Nat} {kd wt : Nat → Nat} {sh : Nat → Bool} {col : Nat → List Nat} (hi : hvi B w kd wt sh col) {c : Nat} (c16 : c < 16) : hs_ls (fun l => hl_w sh col wt (hl_b col c l)) (hl_h col c) 0 ≤ 7200 := by
  have h1 := ls_le (f := fun l => hl_w sh col wt (hl_b col c l)) (M := 1200) (n := hl_h col c) (s := 0) (fun l hl => ((hvi_i hi).2.2.1 _ ((hvi_i hi).2.2.2.2.1 c l c16 hl).1).2.1)
  have h2 : 1200 * hl_h col c ≤ 1200 * 6 := Nat.mul_le_mul_left 1200 (hi.2.2.2.1 c c16).1
  omega
theorem aw_le {B w : Nat} {kd wt : Nat → Nat} {sh : Nat → Bool} {col : Nat → List Nat} (hi : hvi B w kd wt sh col) : hl_aw sh col wt ≤ 115200 := tw_le (fun k _ h2 => cw_le hi (by omega))
/-- how many weeks until less than v are left -/
def la (d cv W kd : Nat → Nat) (sh : Nat → Bool) (v : Nat) : Nat → Nat → (Nat → Nat) → (Nat → List Nat) → Option Nat
  | 0, _, wt, col => if hl_aw sh col wt < v then some 0 else none
  | j + 1, w, wt, col => if hl_aw sh col wt < v then some 0 else (la d cv W kd sh v j (w + 1) (wk_wt d cv W kd w wt col) (wk_col d cv W kd w wt col)).map (fun k => k + 1)
def laC (n : Nat) (S : iz_S) : Option Nat → Option (Int32 × iz_S)
  | some k => some (nI (n + k), S)
  | none => iz_bI (Ic_finding 0 2 S) (fun r S3 => some (r, S3))
def laM (n : Nat) (S : iz_S) : Option Nat → Option (Int32 × iz_S)
  | some k => iz_bV (Mo_layAside 82 0 S) (fun S2 => some (nI (n + k), S2))
  | none => iz_bV (Mo_layAside 82 0 S) (fun S2 => iz_bI (Mo_finding 82 2 S2) (fun r S3 => some (r, S3)))
theorem la_map (n : Nat) (S : iz_S) (o : Option Nat) : laC n S (o.map (fun k => k + 1)) = laC (n + 1) S o := by
  cases o with
  | none => rfl
  | some k => show some (nI (n + (k + 1)), S) = some (nI (n + 1 + k), S); rw [show n + (k + 1) = n + 1 + k by omega]
theorem la_mapM (n : Nat) (S : iz_S) (o : Option Nat) : laM n S (o.map (fun k => k + 1)) = laM (n + 1) S o := by
  cases o with
  | none => rfl
  | some k => show iz_bV (Mo_layAside 82 0 S) (fun S2 => some (nI (n + (k + 1)), S2)) = iz_bV (Mo_layAside 82 0 S) (fun S2 => some (nI (n + 1 + k), S2)); rw [show n + (k + 1) = n + 1 + k by omega]
theorem ho_1week {S : iz_S} {B w : Nat} {kd wt : Nat → Nat} {sh : Nat → Bool} {col : Nat → List Nat} {d cv W : Nat → Nat} (hw : w + 1 ≤ 200) (h : hvc S 19 B w kd wt sh col) (hi : hvi B w kd wt sh col) (hsf : sf S d cv W) :
    ∃ S2, Ho_passWeeks 19 1 S = some S2 ∧ hvc S2 19 B (w + 1) kd (wk_wt d cv W kd w wt col) sh (wk_col d cv W kd w wt col) ∧ fr ftr S S2 := by
  obtain ⟨S1, a1, a2, a3, a4, a5⟩ := ho_weeks hq_19 (by decide) (N := 1) (by omega) 1 0 iz_FU w S wt col (by omega) (by have := fu_ge; omega) hw h hi hsf
  exact ⟨S1, a1, a2, ftr_c a5⟩
theorem ic_la {B v : Nat} {kd : Nat → Nat} {sh : Nat → Bool} {d cv W : Nat → Nat} (hv : v ≤ 100000) : ∀ (j n m w : Nat) (S : iz_S) (wt : Nat → Nat) (col : Nat → List Nat), n + j = 20 → j + 1 < m → w + j ≤ 190 → hvc S 19 B w kd wt sh col → hvi B w kd wt sh col → sf S d cv W →
    ∃ S2, Ic_lasts_29 0 m (nI v) (nI n) S = laC n S2 (la d cv W kd sh v j w wt col) ∧ fr ftr S S2 := by
  intro j
  have r4 : iz_rf 0 4 = 19 := rfl
  induction j with
  | zero =>
    intro n m w S wt col hn hm hw h hi hsf
    obtain ⟨k, rfl⟩ : ∃ k, m = k + 2 := ⟨m - 2, by omega⟩
    have le : nI n ≤ 20 := nI_le (b := 20) (by omega) (by decide)
    have aw := aw_le hi
    have lt : (nI (hl_aw sh col wt) < nI v) = (hl_aw sh col wt < v) := propext (nI_ltI (by omega) (by omega))
    by_cases hv2 : hl_aw sh col wt < v
    · refine ⟨S, ?_, fr_rf _ _⟩
      show Ic_lasts_29b 0 (Ic_lasts_29 0 (k + 1)) (nI v) (nI n) S = _
      rw [Ic_lasts_29b, if_pos le, r4, ho_aw hq_19 h hi, bI_s, if_pos (by rw [lt]; exact hv2), la, if_pos hv2]
      rfl
    · obtain ⟨S2, a1, a2, a3⟩ := ho_1week (by omega) h hi hsf
      refine ⟨S2, ?_, a3⟩
      have n21 : ¬ nI (n + 1) ≤ 20 := nI_ge (a := 20) (by omega) (by omega)
      show Ic_lasts_29b 0 (Ic_lasts_29 0 (k + 1)) (nI v) (nI n) S = _
      rw [Ic_lasts_29b, if_pos le, r4, ho_aw hq_19 h hi, bI_s, if_neg (by rw [lt]; exact hv2), a1, bV_s, nI_1, la, if_neg hv2]
      show Ic_lasts_29b 0 (Ic_lasts_29 0 k) (nI v) (nI (n + 1)) S2 = _
      rw [Ic_lasts_29b, if_neg n21]
      rfl
  | succ j ih =>
    intro n m w S wt col hn hm hw h hi hsf
    obtain ⟨k, rfl⟩ : ∃ k, m = k + 1 := ⟨m - 1, by omega⟩
    have le : nI n ≤ 20 := nI_le (b := 20) (by omega) (by decide)
    have aw := aw_le hi
    have lt : (nI (hl_aw sh col wt) < nI v) = (hl_aw sh col wt < v) := propext (nI_ltI (by omega) (by omega))
    by_cases hv2 : hl_aw sh col wt < v
    · refine ⟨S, ?_, fr_rf _ _⟩
      show Ic_lasts_29b 0 (Ic_lasts_29 0 k) (nI v) (nI n) S = _
      rw [Ic_lasts_29b, if_pos le, r4, ho_aw hq_19 h hi, bI_s, if_pos (by rw [lt]; exact hv2), la, if_pos hv2]
      rfl
    · obtain ⟨S1, a1, a2, a3⟩ := ho_1week (by omega) h hi hsf
      obtain ⟨S2, b1, b2⟩ := ih (n + 1) k (w + 1) S1 _ _ (by omega) (by omega) (by omega) a2 (hvi_wk d cv W hi (by omega)) (sf_st hsf a3 (fun i => ⟨rfl, rfl, rfl⟩))
      refine ⟨S2, ?_, fr_tr a3 b2⟩
      show Ic_lasts_29b 0 (Ic_lasts_29 0 k) (nI v) (nI n) S = _
      rw [Ic_lasts_29b, if_pos le, r4, ho_aw hq_19 h hi, bI_s, if_neg (by rw [lt]; exact hv2), a1, bV_s, nI_1, la, if_neg hv2, la_map, b1]
theorem mo_la {B v : Nat} {kd : Nat → Nat} {sh : Nat → Bool} {d cv W : Nat → Nat} (hv : v ≤ 100000) : ∀ (j n m w : Nat) (S : iz_S) (wt : Nat → Nat) (col : Nat → List Nat), n + j = 20 → j < m → w + j ≤ 190 → hvm S B w kd wt sh col → hvi B w kd wt sh col → sm_ S d cv W →
    ∃ S2, Mo_lasts_23 82 m (nI v) (nI n) S = laM n S2 (la d cv W kd sh v j w wt col) ∧ fr fhm S S2 := by
  intro j
  induction j with
  | zero =>
    intro n m w S wt col hn hm hw h hi hsm
    obtain ⟨k, rfl⟩ : ∃ k, m = k + 1 := ⟨m - 1, by omega⟩
    have le : ¬ nI n < 20 := nI_nlt (b := 20) (by omega) (by omega)
    have aw := aw_le hi
    have lt : (nI (hl_aw sh col wt) < nI v) = (hl_aw sh col wt < v) := propext (nI_ltI (by omega) (by omega))
    have n1 : ¬ (1 : Int32) = 0 := by decide
    refine ⟨S, ?_, fr_rf _ _⟩
    show Mo_lasts_23b 82 (Mo_lasts_23 82 k) (nI v) (nI n) S = _
    rw [Mo_lasts_23b, if_neg le, Mo_lasts_47, mo_aw h hi, bI_s, la]
    by_cases hv2 : hl_aw sh col wt < v
    · rw [if_pos (by rw [lt]; exact hv2), if_pos hv2, Mo_lasts_60]
      simp only [if_neg n1, Mo_lasts_79]
      rfl
    · rw [if_neg (by rw [lt]; exact hv2), if_neg hv2, Mo_lasts_60]
      simp only [if_true, Mo_lasts_79]
      rfl
  | succ j ih =>
    intro n m w S wt col hn hm hw h hi hsm
    obtain ⟨k, rfl⟩ : ∃ k, m = k + 1 := ⟨m - 1, by omega⟩
    have le : nI n < 20 := nI_lt (b := 20) (by omega) (by decide)
    have aw := aw_le hi
    have lt : (nI (hl_aw sh col wt) < nI v) = (hl_aw sh col wt < v) := propext (nI_ltI (by omega) (by omega))
    have n1 : ¬ (1 : Int32) = 0 := by decide
    by_cases hv2 : hl_aw sh col wt < v
    · refine ⟨S, ?_, fr_rf _ _⟩
      show Mo_lasts_23b 82 (Mo_lasts_23 82 k) (nI v) (nI n) S = _
      rw [Mo_lasts_23b, if_pos le, mo_aw h hi, bI_s, if_pos (by rw [lt]; exact hv2), Mo_lasts_47, mo_aw h hi, bI_s, if_pos (by rw [lt]; exact hv2), la, if_pos hv2, Mo_lasts_60]
      simp only [if_neg n1, Mo_lasts_79]
      rfl
    · obtain ⟨S1, a1, a2, a3, a4, a5⟩ := mo_week h hi hsm
      obtain ⟨S2, b1, b2⟩ := ih (n + 1) k (w + 1) S1 _ _ (by omega) (by omega) (by omega) a2 (hvi_wk d cv W hi (by omega)) (sm_st hsm a5 (fun i => ⟨rfl, rfl, rfl⟩))
      refine ⟨S2, ?_, fr_tr a5 b2⟩
      show Mo_lasts_23b 82 (Mo_lasts_23 82 k) (nI v) (nI n) S = _
      rw [Mo_lasts_23b, if_pos le, mo_aw h hi, bI_s, if_neg (by rw [lt]; exact hv2), a1, bV_s, nI_1, la, if_neg hv2, la_mapM, b1]
theorem pc_lasts {S : iz_S} (h : rl S) (x : Int32) : pc (Ic_lasts 0 x) (Mo_lasts 82 x) S := by
  by_cases hx : 1 ≤ x ∧ x ≤ 100000
  · obtain ⟨v, v1, v2, rfl⟩ := nI_btw (a := 1) (b := 100000) (by decide) hx.1 hx.2 (by decide)
    obtain ⟨B, w, kd, wt, sh, col, hc, hm, hi, hw, hs, hl⟩ := house_l h.2.2.1
    obtain ⟨d, cv, W, s1, s2⟩ := shel_s h.2.1
    obtain ⟨Sa, e1, e2, e3⟩ := hvc_like hc hi
    obtain ⟨S1, a1, a2⟩ := ic_la v2 20 0 iz_FU w Sa wt col (by omega) (by have := fu_ge; omega) (by omega) e2 hi (sf_st s1 e3 (fun i => ⟨rfl, rfl, rfl⟩))
    have f1 : fr ftr S S1 := fr_tr e3 a2
    have ic : Ic_lasts 0 (nI v) S = laC 0 S1 (la d cv W kd sh v 20 w wt col) := by
      simp only [Ic_lasts, ic_within, ck_t, lt_e, bI_s, bL_s, bV_s, one_n0, zero_0, if_true, if_false, rfs, if_pos hx, e1]
      exact a1
    have mo : ∀ S3, (hvm S3 B w kd wt sh col) → (sm_ S3 d cv W) → ∃ V, fr fas S3 V ∧ Mo_lasts 82 (nI v) S3 = (match la d cv W kd sh v 20 w wt col with
        | some k => some (nI (0 + k), V)
        | none => iz_bI (Mo_finding 82 2 V) (fun r S4 => some (r, S4))) := fun S3 h3 s3 => by
      obtain ⟨T, t0, -, -, -, -, -, -, -, t8⟩ := mo_asideI S3
      have hmT : hvm T B w kd wt sh col := hvm_st h3 hi t8 rfl rfl (fun i => ⟨rfl, rfl, rfl, rfl, rfl, rfl⟩)
      obtain ⟨U, b1, b2⟩ := mo_la v2 20 0 iz_FU w T wt col (by omega) (by have := fu_ge; omega) (by omega) hmT hi (sm_st s3 t8 (fun i => ⟨rfl, rfl, rfl⟩))
      obtain ⟨V, v1, v2⟩ := mo_back t0 b2
      refine ⟨V, v2, ?_⟩
      simp only [Mo_lasts, mo_isIn, ck_t, lt_e, bI_s, bL_s, bV_s, one_n0, zero_0, if_true, if_false, rfs, if_pos hx, t0]
      refine Eq.trans b1 ?_
      cases la d cv W kd sh v 20 w wt col with
      | none => show iz_bV (Mo_layAside 82 0 U) _ = _; rw [v1]; rfl
      | some k => show iz_bV (Mo_layAside 82 0 U) _ = _; rw [v1]; rfl
    cases hla : la d cv W kd sh v 20 w wt col with
    | some k =>
      rw [hla] at ic
      obtain ⟨V, w1, w2⟩ := mo S1 (hvm_st hm hi f1 rfl rfl (fun i => ⟨rfl, rfl, rfl, rfl, rfl, rfl⟩)) (sm_st s2 f1 (fun i => ⟨rfl, rfl, rfl⟩))
      rw [hla] at w2
      exact pc_of (r := nI (0 + k)) (S1 := S1) (S2 := V) ic w2 (rl_as h f1 w1)
    | none =>
      rw [hla] at ic
      obtain ⟨S3, h3⟩ : ∃ S3, S3 = iz_up S1 81 2 (S1.1 81 2 + 1) := ⟨_, rfl⟩
      have f3 : fr (fun p i => p == 81 && i == 2) S1 S3 := by rw [h3]; exact fr_1
      obtain ⟨V, w1, w2⟩ := mo S3 (hvm_st (hvm_st hm hi f1 rfl rfl (fun i => ⟨rfl, rfl, rfl, rfl, rfl, rfl⟩)) hi f3 rfl rfl (fun i => ⟨rfl, rfl, rfl, rfl, rfl, rfl⟩)) (sm_st (sm_st s2 f1 (fun i => ⟨rfl, rfl, rfl⟩)) f3 (fun i => ⟨rfl, rfl, rfl⟩))
      rw [hla] at w2
      have w2' : Mo_lasts 82 (nI v) S3 = some (-1000002, iz_up V 106 2 (V.1 106 2 + 1)) := by
        rw [w2]
        show iz_bI (Mo_finding 82 2 V) (fun r S4 => some (r, S4)) = _
        rw [mo_f2, bI_s]
      have ic' : Ic_lasts 0 (nI v) S = some (-1000002, S3) := by
        rw [ic]
        show iz_bI (Ic_finding 0 2 S1) (fun r S4 => some (r, S4)) = _
        rw [ic_f2, bI_s, h3]
      refine pc_of ic' w2' ?_
      -- V is what it would be, had nothing been found, but for the finding
      obtain ⟨V0, hV0⟩ : ∃ V0, V0 = iz_up V 81 2 (S1.1 81 2) := ⟨_, rfl⟩
      have fV : fr fas S1 V0 := fun p i hp => by
        by_cases e : p = 81 ∧ i = 2
        · obtain ⟨rfl, rfl⟩ := e
          rw [hV0, up_same]
        · rw [hV0, up_ne _ _ _ _ (by omega), w1 p i hp, h3, up_ne _ _ _ _ (by omega)]
      have r0 := rl_as h f1 fV
      have r1 := rl_find (k := 2) r0
      have eV : iz_up V0 81 2 (V0.1 81 2 + 1) = V := by
        have z : V.1 81 2 = S1.1 81 2 + 1 := by rw [w1 81 2 rfl, h3, up_same]
        rw [hV0, up_same]
        refine Prod.ext (funext fun p => funext fun i => ?_) rfl
        by_cases e : p = 81 ∧ i = 2
        · obtain ⟨rfl, rfl⟩ := e
          rw [up_same, z]
        · rw [up_ne _ _ _ _ (by omega), up_ne _ _ _ _ (by omega)]
      rw [eV] at r1
      exact r1
  · refine pc_of (r := -1000001) (S1 := iz_up S 81 1 (S.1 81 1 + 1)) ?_ ?_ (rl_find (k := 1) h)
    · simp only [Ic_lasts, ic_within, ck_t, lt_e, bI_s, bL_s, bV_s, one_n0, zero_0, if_true, if_false, rfs, if_neg hx, ic_f1]
    · simp only [Mo_lasts, mo_isIn, ck_t, lt_e, bI_s, bL_s, bV_s, one_n0, zero_0, if_true, if_false, rfs, if_neg hx, mo_f1]
