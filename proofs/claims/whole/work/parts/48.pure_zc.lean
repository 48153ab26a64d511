/-! PURE: shelves break, reference side -/
theorem mo_breaks {S : iz_S} {B w : Nat} {kd wt : Nat → Nat} {sh : Nat → Bool} {col : Nat → List Nat} (h : hvm S B w kd wt sh col) (hi : hvi B w kd wt sh col) {c a : Nat} {K R : List Nat} (c16 : c < 16) (e : col c = K ++ a :: R) :
    Mo_blockAt 82 (nI c) (nI K.length) S = some (nI a, S) ∧ S.1 87 a = nI (wt a) ∧ S.1 86 a = nI (kd a) ∧ Mo_loadOf 82 (nI c) (nI K.length) S = some (nI (hl_sm wt R), S) ∧ hl_sm wt R ≤ 7200 ∧ a < 60 ∧ kd a ≤ 3 ∧ wt a ≤ 1200 ∧ K.length + R.length + 1 ≤ 6 ∧ S.1 91 c = nI (K.length + R.length + 1) := by
  have hl6 := (hi.2.2.2.1 c c16).1
  have eh : hl_h col c = K.length + R.length + 1 := by unfold hl_h; rw [e, List.length_append, List.length_cons]; omega
  have l6 : hl_h col c ≤ 6 := hl6
  have ma : a ∈ col c := by rw [e]; simp
  have ha := (hi.2.2.2.2.1 c a c16 ma).1
  have hB := hi.1
  obtain ⟨k3, w12⟩ := hi.2.2.1 a ha
  have b1 := mo_at (S := S) c16 (l := K.length) (by omega)
  rw [h.2.2.1.2.2 c K.length c16 (by omega), show hl_b col c K.length = a by unfold hl_b; rw [e, get_r (Nat.le_refl _), Nat.sub_self]; rfl] at b1
  obtain ⟨g1, g2, g3⟩ := h.2.2.1.1 a ha
  rw [w_in c16 ma] at g2
  have fu := fu_ge
  have ld := mo_load (hvm_m hi h) (hvi_i hi) c16 R.length (K.length + 1) iz_FU 0 (by omega) (by omega)
  rw [hl_load (B := B) (w := w) (kd := kd) c16 e, nI_0, Nat.zero_add] at ld
  have sm := sm_col hi c16 (L := R) (fun i q => by rw [e]; simp [q]) (by omega)
  refine ⟨b1, g2, g1, ?_, sm, by omega, k3, w12, by omega, ?_⟩
  · rw [Mo_loadOf, lt_e, nI_1, ld]
  · rw [h.2.2.1.2.1 c c16, eh]
def fmb (p i : Nat) : Bool := p == 87 || p == 88 || p == 89 || p == 90 || p == 91 || (p == 104 && i == 2)
theorem g104 (k : Nat) (hk : k < 6) (S : iz_S) : iz_g S 104 (nI k) = S.1 104 k := g_nI S 104 (by omega)
theorem s104 (k : Nat) (hk : k < 6) (S : iz_S) (v : Int32) : iz_s S 104 (nI k) v = iz_up S 104 k v := s_nI S 104 (by omega) v
theorem mo_brk {B w : Nat} {kd wt : Nat → Nat} {sh : Nat → Bool} {c : Nat} (c16 : c < 16) (k2 : Int32 → iz_S → Option iz_S) : ∀ (R K : List Nat) (n : Nat) (S : iz_S) (col : Nat → List Nat), R.length < n → hvm S B w kd wt sh col → hvi B w kd wt sh col → col c = K ++ R →
    ∃ S2, Mo_breakAll_10 82 k2 n (nI c) (nI K.length) S = k2 (nI (c + 1)) S2 ∧ hvm S2 B w kd wt sh (hl_r col c (K ++ hl_bk kd wt R)) ∧ S2.1 104 2 = S.1 104 2 + nI (hl_bs kd wt R) ∧ fr fmb S S2 := by
  intro R
  have i1 := in_ok (n := c) (N := 16) c16 (by decide)
  have gc := fun (T : iz_S) p => g_nI T p (show c < 2 ^ 31 by omega)
  induction R with
  | nil =>
    intro K n S col hn h hi e
    obtain ⟨m, rfl⟩ : ∃ m, n = m + 1 := ⟨n - 1, by omega⟩
    rw [List.append_nil] at e
    have hl6 := (hi.2.2.2.1 c c16).1
    have hH := h.2.2.1.2.1 c c16
    unfold hl_h at hH
    rw [e] at hH hl6
    have lt : ¬ nI K.length < nI K.length := nI_nlt (Nat.le_refl _) (by omega)
    refine ⟨S, ?_, ?_, by rw [hl_bs, nI_0, Int32.add_zero], fr_rf _ _⟩
    · show Mo_breakAll_10b 82 k2 (Mo_breakAll_10 82 k2 m) (nI c) (nI K.length) S = _
      simp only [Mo_breakAll_10b, ck_t, lt_e, bI_s, bL_s, bV_s, one_n0, zero_0, if_true, if_false, rfs, i1, gc, hH, if_neg lt, nI_1]
    · rw [hl_bk, List.append_nil, r_id e]
      exact h
  | cons a R ih =>
    intro K n S col hn h hi e
    obtain ⟨m, rfl⟩ : ∃ m, n = m + 1 := ⟨n - 1, by omega⟩
    rw [List.length_cons] at hn
    obtain ⟨b1, b2, b3, b4, b5, a60, k3, w12, l6, hH⟩ := mo_breaks h hi c16 e
    have i2 := in_ok (n := a) (N := 60) a60 (by decide)
    have ga := fun (T : iz_S) p => g_nI T p (show a < 2 ^ 31 by omega)
    have lt : nI K.length < nI (K.length + R.length + 1) := nI_lt (by omega) (by omega)
    have k3' : (nI (kd a) = 3) = (kd a = 3) := propext (nI_eq (b := 3) (by omega) (by decide))
    have e2 : (2 : Int32) * nI (wt a) = nI (2 * wt a) := pk_mul 2 (wt a)
    have le : (nI (hl_sm wt R) ≤ nI (2 * wt a)) = (hl_sm wt R ≤ 2 * wt a) := nI_leP (by omega) (by omega)
    by_cases hb : kd a = 3 ∧ 2 * wt a < hl_sm wt R
    · have q1 := hb.1
      have q2 : ¬ hl_sm wt R ≤ 2 * wt a := by omega
      obtain ⟨S5, h5⟩ : ∃ S5, S5 = iz_up S 104 2 (S.1 104 2 + nI (wt a)) := ⟨_, rfl⟩
      have f5 : fr (fun p2 i2 => p2 == 104 && i2 == 2) S S5 := by rw [h5]; exact fr_1
      have v5 : hvm S5 B w kd wt sh col := hvm_st h hi f5 rfl rfl (fun i => ⟨rfl, rfl, rfl, rfl, rfl, rfl⟩)
      obtain ⟨S7, r1, r3, r4⟩ := hvm_out v5 hi c16 e
      obtain ⟨S8, t1, t2, t3, t4⟩ := ih K m S7 (hl_r col c (K ++ R)) (by omega) r3 (hvi_out hi (by rw [e]; exact sub_mid)) (r_same _ _ _)
      rw [r_r] at t2
      have i3 : iz_in 2 6 = true := by decide +kernel
      have g2 : ∀ T : iz_S, iz_g T 104 2 = T.1 104 2 := g104 2 (by decide)
      have s2 : ∀ (T : iz_S) v, iz_s T 104 2 v = iz_up T 104 2 v := s104 2 (by decide)
      refine ⟨S8, ?_, ?_, ?_, ?_⟩
      · rw [← t1]
        show Mo_breakAll_10b 82 k2 (Mo_breakAll_10 82 k2 m) (nI c) (nI K.length) S = _
        simp only [Mo_breakAll_10b, Mo_breakAll_81, ck_t, lt_e, bI_s, bL_s, bV_s, one_n0, zero_0, if_true, if_false, rfs, i1, i2, i3, gc, ga, hH, if_pos lt, b1, b2, b3, k3', if_pos q1, b4, e2, le, if_neg q2, g2, s2, ← h5, r1]
      · rw [hl_bk, if_pos hb]; exact t2
      · rw [t3, r4 104 2 rfl, h5, up_same, hl_bs, if_pos hb, ← nI_add, Int32.add_assoc]
      · refine fr_tr (fr_tr (fr_mono f5 ?_) (fr_mono r4 ?_)) t4 <;>
        · intro p i hp
          simp only [fmb, Bool.or_eq_true, Bool.and_eq_true, beq_iff_eq] at hp ⊢
          omega
    · obtain ⟨S8, t1, t2, t3, t4⟩ := ih (K ++ [a]) m S col (by omega) h hi (by rw [e, List.append_assoc]; rfl)
      rw [List.length_append, List.length_cons, List.length_nil] at t1
      refine ⟨S8, ?_, ?_, ?_, t4⟩
      · rw [← t1]
        show Mo_breakAll_10b 82 k2 (Mo_breakAll_10 82 k2 m) (nI c) (nI K.length) S = _
        by_cases q1 : kd a = 3
        · have q2 : hl_sm wt R ≤ 2 * wt a := by omega
          simp only [Mo_breakAll_10b, Mo_breakAll_78, Mo_breakAll_81, ck_t, lt_e, bI_s, bL_s, bV_s, one_n0, zero_0, if_true, if_false, rfs, i1, i2, gc, ga, hH, if_pos lt, b1, b2, b3, k3', if_pos q1, b4, e2, le, if_pos q2, nI_1]
        · simp only [Mo_breakAll_10b, Mo_breakAll_78, Mo_breakAll_81, ck_t, lt_e, bI_s, bL_s, bV_s, one_n0, zero_0, if_true, if_false, rfs, i1, i2, gc, ga, hH, if_pos lt, b1, b3, k3', if_neg q1, nI_1]
      · rw [hl_bk, if_neg hb]
        rw [List.append_assoc] at t2
        exact t2
      · rw [t3, hl_bs, if_neg hb]
/-- what breaks of the columns c .. c + j - 1 -/
def hl_ts (kd wt : Nat → Nat) (col : Nat → List Nat) : Nat → Nat → Nat
  | _, 0 => 0
  | c, j + 1 => hl_bs kd wt (col c) + hl_ts kd wt col (c + 1) j
theorem ts_cong {kd wt : Nat → Nat} {col col2 : Nat → List Nat} : ∀ {j c : Nat}, (∀ k, c ≤ k → col k = col2 k) → hl_ts kd wt col c j = hl_ts kd wt col2 c j
  | 0, _, _ => rfl
  | j + 1, c, h => by rw [hl_ts, hl_ts, h c (Nat.le_refl c), ts_cong (fun k hk => h k (by omega))]
/-- the columns c .. 15 changed by f -/
def hl_f (f : List Nat → List Nat) (col : Nat → List Nat) (c : Nat) : Nat → List Nat := fun k => if c ≤ k ∧ k < 16 then f (col k) else col k
theorem f_step {f : List Nat → List Nat} {col : Nat → List Nat} {c : Nat} (c16 : c < 16) : hl_f f (hl_r col c (f (col c))) (c + 1) = hl_f f col c := by
  funext k
  unfold hl_f
  by_cases e : k = c
  · subst e
    rw [if_neg (by omega), if_pos (by omega), r_same]
  · rw [r_ne e]
    by_cases q : c + 1 ≤ k ∧ k < 16
    · rw [if_pos q, if_pos (by omega)]
    · rw [if_neg q, if_neg (by omega)]
theorem f_end {f : List Nat → List Nat} {col : Nat → List Nat} {c : Nat} (h : 16 ≤ c) : hl_f f col c = col := by
  funext k
  exact if_neg (by omega)
theorem mo_brks {B w : Nat} {kd wt : Nat → Nat} {sh : Nat → Bool} : ∀ (j c n : Nat) (S : iz_S) (col : Nat → List Nat), c + j = 16 → j < n → hvm S B w kd wt sh col → hvi B w kd wt sh col →
    ∃ S2, Mo_breakAll_2 82 n (nI c) S = some S2 ∧ hvm S2 B w kd wt sh (hl_f (hl_bk kd wt) col c) ∧ S2.1 104 2 = S.1 104 2 + nI (hl_ts kd wt col c j) ∧ fr fmb S S2 := by
  intro j
  induction j with
  | zero =>
    intro c n S col hc hn h hi
    obtain ⟨m, rfl⟩ : ∃ m, n = m + 1 := ⟨n - 1, by omega⟩
    have lt : ¬ nI c < 16 := nI_nlt (b := 16) (by omega) (by omega)
    refine ⟨S, ?_, ?_, by rw [hl_ts, nI_0, Int32.add_zero], fr_rf _ _⟩
    · show Mo_breakAll_2b 82 (Mo_breakAll_2 82 m) (nI c) S = _
      rw [Mo_breakAll_2b, if_neg lt]
    · rw [f_end (by omega)]; exact h
  | succ j ih =>
    intro c n S col hc hn h hi
    obtain ⟨m, rfl⟩ : ∃ m, n = m + 1 := ⟨n - 1, by omega⟩
    have lt : nI c < 16 := nI_lt (b := 16) (by omega) (by omega)
    have l6 := (hi.2.2.2.1 c (by omega)).1
    obtain ⟨S1, a1, a2, a3, a4⟩ := mo_brk (c := c) (by omega) (Mo_breakAll_2 82 m) (col c) [] iz_FU S col (by have := fu_ge; omega) h hi rfl
    rw [List.nil_append] at a2
    obtain ⟨S2, b1, b2, b3, b4⟩ := ih (c + 1) m S1 _ (by omega) (by omega) a2 (hvi_out hi (bk_sub _ _ _))
    rw [f_step (by omega)] at b2
    refine ⟨S2, ?_, b2, ?_, fr_tr a4 b4⟩
    · show Mo_breakAll_2b 82 (Mo_breakAll_2 82 m) (nI c) S = _
      rw [Mo_breakAll_2b, if_pos lt, ← b1]
      exact a1
    · rw [b3, a3, hl_ts, ts_cong (col2 := col) (fun k hk => r_ne (by omega)), ← nI_add, Int32.add_assoc]
theorem mo_breakAll {S : iz_S} {B w : Nat} {kd wt : Nat → Nat} {sh : Nat → Bool} {col : Nat → List Nat} (h : hvm S B w kd wt sh col) (hi : hvi B w kd wt sh col) : ∃ S2, Mo_breakAll 82 S = some S2 ∧ hvm S2 B w kd wt sh (hl_f (hl_bk kd wt) col 0) ∧ S2.1 104 2 = S.1 104 2 + nI (hl_ts kd wt col 0 16) ∧ fr fmb S S2 :=
  mo_brks 16 0 iz_FU S col (by omega) (by have := fu_ge; omega) h hi
/-- only column c may break -/
theorem f_one {kd wt : Nat → Nat} {col : Nat → List Nat} {c : Nat} (c16 : c < 16) (hs : ∀ k, k < 16 → k ≠ c → hl_bk kd wt (col k) = col k) : hl_f (hl_bk kd wt) col 0 = hl_r col c (hl_bk kd wt (col c)) := by
  funext k
  unfold hl_f
  by_cases e : k = c
  · subst e
    rw [if_pos (by omega), r_same]
  · rw [r_ne e]
    by_cases q : 0 ≤ k ∧ k < 16
    · rw [if_pos q, hs k q.2 e]
    · rw [if_neg q]
theorem bs_0 {kd wt : Nat → Nat} : ∀ {L : List Nat}, hl_bk kd wt L = L → hl_bs kd wt L = 0
  | [], _ => rfl
  | a :: R, h => by
    rw [hl_bk] at h
    by_cases q : kd a = 3 ∧ 2 * wt a < hl_sm wt R
    · rw [if_pos q] at h
      have h1 := (bk_sub kd wt R).length_le
      rw [h, List.length_cons] at h1
      omega
    · rw [if_neg q] at h
      rw [hl_bs, if_neg q, bs_0 (List.cons.inj h).2]
theorem ts_0 {kd wt : Nat → Nat} {col : Nat → List Nat} : ∀ {j c : Nat}, (∀ k, c ≤ k → k < c + j → hl_bk kd wt (col k) = col k) → hl_ts kd wt col c j = 0
  | 0, _, _ => rfl
  | j + 1, c, h => by rw [hl_ts, bs_0 (h c (Nat.le_refl c) (by omega)), ts_0 (fun k h1 h2 => h k (by omega) (by omega))]
theorem ts_one {kd wt : Nat → Nat} {col : Nat → List Nat} {d : Nat} : ∀ {j c : Nat}, c ≤ d → d < c + j → (∀ k, c ≤ k → k < c + j → k ≠ d → hl_bk kd wt (col k) = col k) → hl_ts kd wt col c j = hl_bs kd wt (col d)
  | 0, _, h1, h2, _ => absurd h2 (by omega)
  | j + 1, c, h1, h2, h => by
    rw [hl_ts]
    by_cases e : d = c
    · subst e
      rw [ts_0 (fun k q1 q2 => h k (by omega) (by omega) (by omega)), Nat.add_zero]
    · rw [bs_0 (h c (Nat.le_refl c) (by omega) (fun q => e q.symm)), Nat.zero_add]
      exact ts_one (by omega) (by omega) (fun k q1 q2 q3 => h k (by omega) (by omega) q3)
