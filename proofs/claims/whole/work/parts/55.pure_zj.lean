/-! PURE: weeks pass, class side -/
def fdr (q : Nat) (p _ : Nat) : Bool := p == q + 2 || p == q + 3 || p == q + 4 || p == q + 5
theorem dr_app (wt : Nat → Nat) (K R : List Nat) : hl_dr wt (K ++ R) = hl_dr wt K ++ hl_dr wt R := by unfold hl_dr; rw [List.filter_append]
theorem dr_1 (wt : Nat → Nat) (a : Nat) : hl_dr wt [a] = if wt a = 0 then [] else [a] := by
  unfold hl_dr
  by_cases h : wt a = 0
  · simp [h]
  · simp [h]
theorem dr_sub (wt : Nat → Nat) (L : List Nat) : (hl_dr wt L).Sublist L := List.filter_sublist
theorem pm1 (x : Int32) : x + (-1) = x - 1 := (Int32.sub_eq_add_neg x 1).symm
theorem ho_drop {q B w : Nat} {kd wt : Nat → Nat} {sh : Nat → Bool} (hq : hq_p q) {c : Nat} (c16 : c < 16) : ∀ (j : Nat) (K R : List Nat) (n : Nat) (S : iz_S) (col : Nat → List Nat), K.length = j → j < n → hvc S q B w kd wt sh col → hvi B w kd wt sh col → col c = K ++ R →
    ∃ S2, Ho_dropMelted_9 q n (nI c) (nI K.length - 1) S = some S2 ∧ hvc S2 q B w kd wt sh (hl_r col c (hl_dr wt K ++ R)) ∧ fr (fdr q) S S2 := by
  intro j
  induction j with
  | zero =>
    intro K R n S col hK hn h hi e
    obtain ⟨m, rfl⟩ : ∃ m, n = m + 1 := ⟨n - 1, by omega⟩
    obtain rfl : K = [] := List.length_eq_zero_iff.mp hK
    have lt : nI ([] : List Nat).length - 1 < 0 := by decide +kernel
    refine ⟨S, ?_, ?_, fr_rf _ _⟩
    · show Ho_dropMelted_9b q (Ho_dropMelted_9 q m) (nI c) (nI ([] : List Nat).length - 1) S = _
      rw [Ho_dropMelted_9b, if_pos lt]
    · rw [show hl_dr wt [] ++ R = [] ++ R from rfl, r_id e]; exact h
  | succ j ih =>
    intro K R n S col hK hn h hi e
    obtain ⟨m, rfl⟩ : ∃ m, n = m + 1 := ⟨n - 1, by omega⟩
    obtain ⟨K', a, rfl⟩ := top_of (L := K) (fun q => by rw [q] at hK; cases hK)
    rw [List.length_append, List.length_cons, List.length_nil] at hK ⊢
    have e' : col c = K' ++ a :: R := by rw [e, List.append_assoc]; rfl
    obtain ⟨b1, b2, -⟩ := ho_breaks hq h hi c16 e'
    have ma : a ∈ col c := by rw [e']; simp
    have aB := (hi.2.2.2.2.1 c a c16 ma).1
    have B60 := hi.1
    have w12 := (hi.2.2.1 a aB).2
    have l6 := (hi.2.2.2.1 c c16).1
    rw [e', List.length_append] at l6
    have i2 := in_ok (n := a) (N := 60) (by omega) (by decide)
    have ga := fun (T : iz_S) p => g_nI T p (show a < 2 ^ 31 by omega)
    have x1 : nI (K'.length + (0 + 1)) - 1 = nI K'.length := nI_m1 (by omega)
    have np : ¬ nI K'.length < 0 := nI_pos (by omega)
    have e0 : (nI (wt a) = 0) = (wt a = 0) := n0_iff (by omega)
    rw [x1, dr_app, dr_1]
    by_cases hw : wt a = 0
    · obtain ⟨S6, S7, r1, r2, r3, r4, r5⟩ := hvc_out hq h hi c16 e'
      obtain ⟨S2, t1, t2, t3⟩ := ih K' R m S7 _ (by omega) (by omega) r3 (hvi_out hi (by rw [e']; exact sub_mid)) (r_same _ _ _)
      rw [r_r] at t2
      refine ⟨S2, ?_, ?_, ?_⟩
      · show Ho_dropMelted_9b q (Ho_dropMelted_9 q m) (nI c) (nI K'.length) S = _
        rw [Ho_dropMelted_9b, if_neg np, b1, bI_s, i2, ck_t, hq.2.1, ga, b2, if_pos (by rw [hw]; rfl), r1, bV_s, r2, bV_s, Ho_dropMelted_40, pm1, t1]
      · rw [if_pos hw, List.append_nil]; exact t2
      · refine fr_tr (fr_tr (fr_mono r4 ?_) (fr_mono r5 ?_)) t3 <;>
        · intro p i hp
          simp only [fdr, Bool.or_eq_true, Bool.and_eq_true, beq_iff_eq] at hp ⊢
          omega
    · obtain ⟨S2, t1, t2, t3⟩ := ih K' (a :: R) m S col (by omega) (by omega) h hi e'
      refine ⟨S2, ?_, ?_, t3⟩
      · show Ho_dropMelted_9b q (Ho_dropMelted_9 q m) (nI c) (nI K'.length) S = _
        rw [Ho_dropMelted_9b, if_neg np, b1, bI_s, i2, ck_t, hq.2.1, ga, b2, if_neg (by rw [e0]; exact hw), Ho_dropMelted_40, pm1, t1]
      · rw [if_neg hw, List.append_assoc]; exact t2
theorem ho_dropM {S : iz_S} {q B w : Nat} {kd wt : Nat → Nat} {sh : Nat → Bool} {col : Nat → List Nat} (hq : hq_p q) {c : Nat} (c16 : c < 16) (h : hvc S q B w kd wt sh col) (hi : hvi B w kd wt sh col) :
    ∃ S2, Ho_dropMelted q (nI c) S = some S2 ∧ hvc S2 q B w kd wt sh (hl_r col c (hl_dr wt (col c))) ∧ fr (fdr q) S S2 := by
  have l6 := (hi.2.2.2.1 c c16).1
  obtain ⟨S2, t1, t2, t3⟩ := ho_drop hq c16 (col c).length (col c) [] iz_FU S col rfl (by have := fu_ge; omega) h hi (List.append_nil _).symm
  rw [List.append_nil] at t2
  refine ⟨S2, ?_, t2, t3⟩
  have i1 := in_ok (n := c) (N := 16) c16 (by decide)
  have hH : S.1 (q + 4) c = nI (col c).length := h.2.2.2.1 c c16
  rw [Ho_dropMelted, i1, ck_t, lt_e, hq.2.2.2.1, g_nI _ _ (show c < 2 ^ 31 by omega), hH, t1]
theorem hvi_f {B w : Nat} {kd wt : Nat → Nat} {sh : Nat → Bool} {col : Nat → List Nat} (hi : hvi B w kd wt sh col) {f : List Nat → List Nat} (hf : ∀ L, (f L).Sublist L) (c : Nat) : hvi B w kd wt sh (hl_f f col c) :=
  hvi_sub hi (fun k _ => by
    unfold hl_f
    split
    · exact hf _
    · exact List.Sublist.refl _) (fun _ => Nat.le_refl _) hi.2.1
/-- a column behind a week -/
def hl_g (kd wt : Nat → Nat) (L : List Nat) : List Nat := hl_bk kd wt (hl_dr wt L)
theorem g_sub (kd wt : Nat → Nat) (L : List Nat) : (hl_g kd wt L).Sublist L := (bk_sub kd wt _).trans (dr_sub wt L)
theorem ho_pass1 {q B w : Nat} {kd wt : Nat → Nat} {sh : Nat → Bool} (hq : hq_p q) (k2 : Int32 → Int32 → iz_S → Option iz_S) (x1 x2 : Int32) : ∀ (j c n : Nat) (S : iz_S) (col : Nat → List Nat), c + j = 16 → j < n → hvc S q B w kd wt sh col → hvi B w kd wt sh col →
    ∃ S2, Ho_passWeeks_13 q k2 n x1 x2 (nI c) S = k2 x1 (x2 + 1) (iz_up S2 q 5 (S2.1 q 5 + 1)) ∧ hvc S2 q B w kd wt sh (hl_f (hl_g kd wt) col c) ∧ S2.1 q 8 = S.1 q 8 + nI (hl_ts kd wt (hl_f (hl_dr wt) col c) c j) ∧ fr (fhb q) S S2 := by
  intro j
  induction j with
  | zero =>
    intro c n S col hc hn h hi
    obtain ⟨m, rfl⟩ : ∃ m, n = m + 1 := ⟨n - 1, by omega⟩
    have lt : ¬ nI c < 16 := nI_nlt (b := 16) (by omega) (by omega)
    refine ⟨S, ?_, ?_, by rw [hl_ts, nI_0, Int32.add_zero], fr_rf _ _⟩
    · show Ho_passWeeks_13b q k2 (Ho_passWeeks_13 q k2 m) x1 x2 (nI c) S = _
      rw [Ho_passWeeks_13b, if_neg lt, lt_e]
    · rw [f_end (by omega)]; exact h
  | succ j ih =>
    intro c n S col hc hn h hi
    obtain ⟨m, rfl⟩ : ∃ m, n = m + 1 := ⟨n - 1, by omega⟩
    have c16 : c < 16 := by omega
    have lt : nI c < 16 := nI_lt (b := 16) c16 (by omega)
    obtain ⟨S3, a1, a2, a3⟩ := ho_dropM hq c16 h hi
    obtain ⟨S4, b1, b2, b3, b4⟩ := ho_break hq c16 a2 (hvi_out hi (dr_sub _ _))
    rw [r_same] at b2 b3
    rw [r_r] at b2
    obtain ⟨S2, t1, t2, t3, t4⟩ := ih (c + 1) m S4 _ (by omega) (by omega) b2 (hvi_out hi (g_sub kd wt _))
    rw [show hl_bk kd wt (hl_dr wt (col c)) = hl_g kd wt (col c) from rfl, f_step (f := hl_g kd wt) c16] at t2
    refine ⟨S2, ?_, t2, ?_, ?_⟩
    · show Ho_passWeeks_13b q k2 (Ho_passWeeks_13 q k2 m) x1 x2 (nI c) S = _
      rw [Ho_passWeeks_13b, if_pos lt, a1, bV_s, b1, bV_s, nI_1, t1]
    · rw [t3, b3, a3 q 8 (by simp [fdr]), hl_ts, show hl_f (hl_dr wt) col c c = hl_dr wt (col c) from if_pos (by omega), ts_cong (col2 := hl_f (hl_dr wt) col c) (fun k hk => ?_), ← nI_add, Int32.add_assoc]
      unfold hl_f
      rw [r_ne (by omega)]
      by_cases q1 : c + 1 ≤ k ∧ k < 16
      · rw [if_pos q1, if_pos (by omega)]
      · rw [if_neg q1, if_neg (by omega)]
    · refine fr_tr (fr_tr (fr_mono a3 ?_) b4) t4
      intro p i hp
      simp only [fdr, fhb, Bool.or_eq_true, Bool.and_eq_true, beq_iff_eq] at hp ⊢
      omega
/-- columns behind a week; what melted, what broke -/
def wk_col (d cv W kd : Nat → Nat) (w : Nat) (wt : Nat → Nat) (col : Nat → List Nat) : Nat → List Nat := hl_f (hl_g kd (wk_wt d cv W kd w wt col)) col 0
def wk_tt (d cv W kd : Nat → Nat) (w : Nat) (wt : Nat → Nat) (col : Nat → List Nat) : Nat := hs_tt (wk_m d cv W kd w (hl_h col) (hl_b col) wt) (hl_h col) 0 16
def wk_bs (d cv W kd : Nat → Nat) (w : Nat) (wt : Nat → Nat) (col : Nat → List Nat) : Nat := hl_ts kd (wk_wt d cv W kd w wt col) (hl_f (hl_dr (wk_wt d cv W kd w wt col)) col 0) 0 16
theorem hvi_wk {B w : Nat} {kd wt : Nat → Nat} {sh : Nat → Bool} {col : Nat → List Nat} (d cv W : Nat → Nat) (hi : hvi B w kd wt sh col) (hw : w + 1 ≤ 200) : hvi B (w + 1) kd (wk_wt d cv W kd w wt col) sh (wk_col d cv W kd w wt col) :=
  hvi_sub hi (fun k _ => by
    unfold wk_col hl_f
    split
    · exact g_sub _ _ _
    · exact List.Sublist.refl _) (wk_wt_le d cv W kd w wt col) hw
/-- weights and columns behind n weeks; all that melted, all that broke -/
def wn (d cv W kd : Nat → Nat) : Nat → Nat → (Nat → Nat) → (Nat → List Nat) → (Nat → Nat) × (Nat → List Nat)
  | _, 0, wt, col => (wt, col)
  | w, n + 1, wt, col => wn d cv W kd (w + 1) n (wk_wt d cv W kd w wt col) (wk_col d cv W kd w wt col)
def wn_t (d cv W kd : Nat → Nat) : Nat → Nat → (Nat → Nat) → (Nat → List Nat) → Nat
  | _, 0, _, _ => 0
  | w, n + 1, wt, col => wk_tt d cv W kd w wt col + wn_t d cv W kd (w + 1) n (wk_wt d cv W kd w wt col) (wk_col d cv W kd w wt col)
def wn_b (d cv W kd : Nat → Nat) : Nat → Nat → (Nat → Nat) → (Nat → List Nat) → Nat
  | _, 0, _, _ => 0
  | w, n + 1, wt, col => wk_bs d cv W kd w wt col + wn_b d cv W kd (w + 1) n (wk_wt d cv W kd w wt col) (wk_col d cv W kd w wt col)
theorem hvi_wn {B : Nat} {kd : Nat → Nat} {sh : Nat → Bool} (d cv W : Nat → Nat) : ∀ {n w : Nat} {wt : Nat → Nat} {col : Nat → List Nat}, hvi B w kd wt sh col → w + n ≤ 200 → hvi B (w + n) kd (wn d cv W kd w n wt col).1 sh (wn d cv W kd w n wt col).2
  | 0, _, _, _, h, _ => h
  | n + 1, w, wt, col, h, hw => by
    have := hvi_wn (n := n) d cv W (hvi_wk d cv W h (by omega)) (by omega)
    rw [show w + 1 + n = w + (n + 1) by omega] at this
    exact this
/-- behind a week no shelf breaks -/
theorem wk_st (d cv W kd : Nat → Nat) (w : Nat) (wt : Nat → Nat) (col : Nat → List Nat) {c : Nat} (c16 : c < 16) : hl_bk kd (wk_wt d cv W kd w wt col) (wk_col d cv W kd w wt col c) = wk_col d cv W kd w wt col c := by
  unfold wk_col hl_f hl_g
  rw [if_pos (by omega), bk_bk]
theorem wn_st {d cv W kd : Nat → Nat} : ∀ {n w : Nat} {wt : Nat → Nat} {col : Nat → List Nat}, (∀ c, c < 16 → hl_bk kd wt (col c) = col c) → ∀ c, c < 16 → hl_bk kd (wn d cv W kd w n wt col).1 ((wn d cv W kd w n wt col).2 c) = (wn d cv W kd w n wt col).2 c
  | 0, _, _, _, h, c, c16 => h c c16
  | n + 1, w, wt, col, _, c, c16 => wn_st (n := n) (fun c c16 => wk_st d cv W kd w wt col c16) c c16
theorem ho_week {S : iz_S} {q B w : Nat} {kd wt : Nat → Nat} {sh : Nat → Bool} {col : Nat → List Nat} {d cv W : Nat → Nat} (hq : hq_p q) (q13 : 13 ≤ q) (h : hvc S q B w kd wt sh col) (hi : hvi B w kd wt sh col) (hsf : sf S d cv W) (x1 x2 : Int32) (hx : x2 < x1) (n : Nat) :
    ∃ S2, Ho_passWeeks_2 q (n + 1) x1 x2 S = Ho_passWeeks_2 q n x1 (x2 + 1) S2 ∧ hvc S2 q B (w + 1) kd (wk_wt d cv W kd w wt col) sh (wk_col d cv W kd w wt col) ∧ S2.1 q 7 = S.1 q 7 + nI (wk_tt d cv W kd w wt col) ∧ S2.1 q 8 = S.1 q 8 + nI (wk_bs d cv W kd w wt col) ∧ fr (fhc q) S S2 := by
  obtain ⟨S1, a1, a2, a3, a4⟩ := ho_meltAll hq q13 h hi hsf
  have hi1 : hvi B w kd (wk_wt d cv W kd w wt col) sh col := hvi_sub hi (fun c _ => List.Sublist.refl _) (wk_wt_le d cv W kd w wt col) hi.2.1
  obtain ⟨S2, b1, b2, b3, b4⟩ := ho_pass1 hq (Ho_passWeeks_2 q n) x1 x2 16 0 iz_FU S1 col (by omega) (by have := fu_ge; omega) a2 hi1
  have hi2 : hvi B w kd (wk_wt d cv W kd w wt col) sh (wk_col d cv W kd w wt col) := hvi_f hi1 (fun L => g_sub _ _ L) 0
  have f5 : fr (fun p i => p == q && i == 5) S2 (iz_up S2 q 5 (S2.1 q 5 + 1)) := fr_1
  refine ⟨iz_up S2 q 5 (S2.1 q 5 + 1), ?_, ⟨?_, ?_, ?_⟩, ?_, ?_, ?_⟩
  · show Ho_passWeeks_2b q (Ho_passWeeks_2 q n) x1 x2 S = _
    rw [Ho_passWeeks_2b, if_pos hx, a1, bV_s]
    exact b1
  · rw [up_ne _ _ _ _ (Or.inr (by decide))]; exact b2.1
  · rw [up_same, b2.2.1, nI_1]
  · exact hvg_st b2.2.2 (fun i _ => f5 _ _ (by simp)) (fun i _ => f5 _ _ (by simp)) (fun i _ => f5 _ _ (by simp)) (fun i _ => f5 _ _ (by simp)) (fun i _ => f5 _ _ (by simp)) (fun c hc => (hi2.2.2.2.1 c hc).1)
  · rw [up_ne _ _ _ _ (Or.inr (by decide)), b4 q 7 (by simp [fhb]), a3]
    rfl
  · rw [up_ne _ _ _ _ (Or.inr (by decide)), b3, a4 q 8 (by simp [fml])]
    rfl
  · refine fr_tr (fr_tr (fr_mono a4 ?_) (fr_mono b4 ?_)) (fr_mono f5 ?_) <;>
    · intro p i hp
      simp only [fml, fhb, fhc, Bool.or_eq_true, Bool.and_eq_true, beq_iff_eq] at hp ⊢
      omega
theorem ho_weeks {q B : Nat} {kd : Nat → Nat} {sh : Nat → Bool} {d cv W : Nat → Nat} (hq : hq_p q) (q13 : 13 ≤ q) {N : Nat} (hN : N ≤ 1000) : ∀ (j i n w : Nat) (S : iz_S) (wt : Nat → Nat) (col : Nat → List Nat), i + j = N → j < n → w + j ≤ 200 → hvc S q B w kd wt sh col → hvi B w kd wt sh col → sf S d cv W →
    ∃ S2, Ho_passWeeks_2 q n (nI N) (nI i) S = some S2 ∧ hvc S2 q B (w + j) kd (wn d cv W kd w j wt col).1 sh (wn d cv W kd w j wt col).2 ∧ S2.1 q 7 = S.1 q 7 + nI (wn_t d cv W kd w j wt col) ∧ S2.1 q 8 = S.1 q 8 + nI (wn_b d cv W kd w j wt col) ∧ fr (fhc q) S S2 := by
  intro j
  induction j with
  | zero =>
    intro i n w S wt col hi hn hw h hv hsf
    obtain ⟨m, rfl⟩ : ∃ m, n = m + 1 := ⟨n - 1, by omega⟩
    have lt : ¬ nI i < nI N := nI_nlt (by omega) (by omega)
    refine ⟨S, ?_, h, by rw [wn_t, nI_0, Int32.add_zero], by rw [wn_b, nI_0, Int32.add_zero], fr_rf _ _⟩
    show Ho_passWeeks_2b q (Ho_passWeeks_2 q m) (nI N) (nI i) S = _
    rw [Ho_passWeeks_2b, if_neg lt]
  | succ j ih =>
    intro i n w S wt col hi hn hw h hv hsf
    obtain ⟨m, rfl⟩ : ∃ m, n = m + 1 := ⟨n - 1, by omega⟩
    have lt : nI i < nI N := nI_lt (by omega) (by omega)
    obtain ⟨S1, a1, a2, a3, a4, a5⟩ := ho_week hq q13 h hv hsf (nI N) (nI i) lt m
    obtain ⟨S2, b1, b2, b3, b4, b5⟩ := ih (i + 1) m (w + 1) S1 _ _ (by omega) (by omega) (by omega) a2 (hvi_wk d cv W hv (by omega)) (sf_st hsf a5 (fun i => ⟨by simp [fhc]; omega, by simp [fhc]; omega, by simp [fhc]; omega⟩))
    refine ⟨S2, ?_, ?_, ?_, ?_, fr_tr a5 b5⟩
    · rw [a1, nI_1, b1]
    · rw [show w + 1 + j = w + (j + 1) by omega] at b2
      exact b2
    · rw [b3, a3, wn_t, ← nI_add, Int32.add_assoc]
    · rw [b4, a4, wn_b, ← nI_add, Int32.add_assoc]
