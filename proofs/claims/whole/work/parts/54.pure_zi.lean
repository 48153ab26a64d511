/-! PURE: a week, class side: what melts -/
def hl_dr (wt : Nat → Nat) (L : List Nat) : List Nat := L.filter (fun i => wt i != 0)
def hl_cl (col : Nat → List Nat) (i : Nat) : Nat := ((List.range 16).find? (fun c => (col c).contains i)).getD 0
def hl_mel (col : Nat → List Nat) (m : Nat → Nat → Nat) (i : Nat) : Nat := if hl_in col i = true then m (hl_cl col i) ((col (hl_cl col i)).idxOf i) else 0
theorem cl_at {B w : Nat} {kd wt : Nat → Nat} {sh : Nat → Bool} {col : Nat → List Nat} (hi : hvi B w kd wt sh col) {c i : Nat} (c16 : c < 16) (h : i ∈ col c) : hl_cl col i = c := by
  unfold hl_cl
  have hs : ((List.range 16).find? (fun c => (col c).contains i)).isSome = true := by
    rw [List.find?_isSome]
    exact ⟨c, List.mem_range.mpr c16, by simpa using h⟩
  obtain ⟨c2, e⟩ := Option.isSome_iff_exists.mp hs
  have p := List.find?_some e
  have m := List.mem_of_find?_eq_some e
  rw [e]
  exact hi.2.2.2.2.2 c2 c i (List.mem_range.mp m) c16 (by simpa using p) h
theorem mel_at {B w : Nat} {kd wt : Nat → Nat} {sh : Nat → Bool} {col : Nat → List Nat} (hi : hvi B w kd wt sh col) (m : Nat → Nat → Nat) {c l : Nat} (c16 : c < 16) (hl : l < hl_h col c) : hl_mel col m (hl_b col c l) = m c l := by
  have mb := b_mem hl
  unfold hl_mel
  rw [if_pos (in_iff.mpr ⟨c, c16, mb⟩), cl_at hi c16 mb]
  have hl2 : l < (col c).length := hl
  have e : hl_b col c l = (col c)[l] := by unfold hl_b; rw [List.getElem?_eq_getElem hl2]; rfl
  rw [e, List.Nodup.idxOf_getElem (hi.2.2.2.1 c c16).2 l hl2]
theorem mel_out {col : Nat → List Nat} {m : Nat → Nat → Nat} {i : Nat} (h : hl_in col i = false) : hl_mel col m i = 0 := by
  unfold hl_mel
  rw [h]
  rfl
/-- weights once a week's melt is gone -/
def wk_wt (d cv W kd : Nat → Nat) (w : Nat) (wt : Nat → Nat) (col : Nat → List Nat) : Nat → Nat := fun i => wt i - hl_mel col (wk_m d cv W kd w (hl_h col) (hl_b col) wt) i
theorem wt_uniq {B w : Nat} {kd wt wt2 : Nat → Nat} {sh : Nat → Bool} {col : Nat → List Nat} (hi : hvi B w kd wt sh col) {m : Nat → Nat → Nat} (h1 : ∀ c l, c < 16 → l < hl_h col c → wt2 (hl_b col c l) = wt (hl_b col c l) - m c l) (h2 : ∀ i, (∀ c l, c < 16 → l < hl_h col c → i ≠ hl_b col c l) → wt2 i = wt i) : wt2 = fun i => wt i - hl_mel col m i := by
  funext i
  by_cases q : hl_in col i = true
  · obtain ⟨c, c16, mi⟩ := in_iff.mp q
    obtain ⟨l, hl, rfl⟩ := b_of mi
    rw [h1 c l c16 hl, mel_at hi m c16 hl]
  · rw [mel_out (by simpa using q), h2 i (fun c l c16 hl e => q (in_iff.mpr ⟨c, c16, by rw [e]; exact b_mem hl⟩))]
    rfl
def wtU (wt : Nat → Nat) (a v : Nat) : Nat → Nat := fun i => if i = a then v else wt i
theorem wtU_s (wt : Nat → Nat) (a v : Nat) : wtU wt a v a = v := if_pos rfl
theorem wtU_n {wt : Nat → Nat} {a v i : Nat} (h : i ≠ a) : wtU wt a v i = wt i := if_neg h
theorem hvg_w {S T : iz_S} {kp wp pp hp sp B w : Nat} {kd wt : Nat → Nat} {sh : Nat → Bool} {col : Nat → List Nat} (h : hvg S kp wp pp hp sp B kd wt sh col) (hi : hvi B w kd wt sh col) {c a v : Nat} (c16 : c < 16) (ha : a ∈ col c)
    (f1 : ∀ k, T.1 kp k = S.1 kp k) (f2 : ∀ k, k ≠ a → T.1 wp k = S.1 wp k) (f2a : T.1 wp a = nI v) (f3 : ∀ k, T.1 pp k = S.1 pp k) (f4 : ∀ k, T.1 hp k = S.1 hp k) (f5 : ∀ k, T.1 sp k = S.1 sp k) : hvg T kp wp pp hp sp B kd (wtU wt a v) sh col := by
  refine ⟨fun k hk => ?_, fun k hk => by rw [f4]; exact h.2.1 k hk, fun k l hk hl => by rw [f5]; exact h.2.2 k l hk hl⟩
  obtain ⟨g1, g2, g3⟩ := h.1 k hk
  rw [f1, f3]
  by_cases e : k = a
  · subst e
    rw [f2a, w_in c16 ha, wtU_s]
    exact ⟨g1, rfl, g3⟩
  · rw [f2 k e]
    unfold hl_w at g2 ⊢
    rw [wtU_n e]
    exact ⟨g1, g2, g3⟩
theorem ls_cong {f g : Nat → Nat} : ∀ {n s : Nat}, (∀ k, s ≤ k → k < n → f k = g k) → hs_ls f n s = hs_ls g n s
  | 0, _, _ => rfl
  | n + 1, s, h => by
    rw [hs_ls, hs_ls, ls_cong (fun k h1 h2 => h k h1 (by omega))]
    by_cases q : s ≤ n
    · rw [if_pos q, if_pos q, h n q (by omega)]
    · rw [if_neg q, if_neg q]
theorem tt_cong {f g : Nat → Nat → Nat} {h : Nat → Nat} : ∀ {j c : Nat}, (∀ k l, c ≤ k → k < c + j → l < h k → f k l = g k l) → hs_tt f h c j = hs_tt g h c j
  | 0, _, _ => rfl
  | j + 1, c, q => by
    rw [hs_tt, hs_tt, ls_cong (fun l _ h2 => q c l (Nat.le_refl c) (by omega) h2), tt_cong (fun k l h1 h2 h3 => q k l (by omega) (by omega) h3)]
theorem hml_le (W t f w : Nat) : hml W t f w ≤ w := by unfold hml; split <;> omega
theorem wk_cong {d cv W kd : Nat → Nat} {w : Nat} {h : Nat → Nat} {b : Nat → Nat → Nat} {wt wt2 : Nat → Nat} {c l : Nat} (e : wt2 (b c l) = wt (b c l)) : wk_m d cv W kd w h b wt2 c l = wk_m d cv W kd w h b wt c l := by unfold wk_m; rw [e]
/-- the shelter of the class -/
def sf (S : iz_S) (d cv W : Nat → Nat) : Prop := (∀ i, i < 4 → S.1 10 i = nI (d i) ∧ d i ≤ 10) ∧ (∀ c, c < 16 → S.1 11 c = nI (cv c) ∧ cv c ≤ 10) ∧ ∀ i, i < 100 → S.1 12 i = nI (W i) ∧ W i ≤ 40
theorem sf_st {S T : iz_S} {d cv W : Nat → Nat} (h : sf S d cv W) {ch : Nat → Nat → Bool} (hf : fr ch S T) (hc : ∀ i, ch 10 i = false ∧ ch 11 i = false ∧ ch 12 i = false) : sf T d cv W :=
  ⟨fun i hi => by rw [hf _ _ (hc i).1]; exact h.1 i hi, fun i hi => by rw [hf _ _ (hc i).2.1]; exact h.2.1 i hi, fun i hi => by rw [hf _ _ (hc i).2.2]; exact h.2.2 i hi⟩
def fml (q : Nat) (p i : Nat) : Bool := (p == q && i == 7) || p == q + 2
theorem ho_ml1 {q B w : Nat} {kd : Nat → Nat} {sh : Nat → Bool} {col : Nat → List Nat} {d cv W : Nat → Nat} (hq : hq_p q) (q13 : 13 ≤ q) (k2 : Int32 → iz_S → Option iz_S) {c : Nat} (c16 : c < 16) : ∀ (j l n : Nat) (S : iz_S) (wt : Nat → Nat), l + j = hl_h col c → j < n → hvc S q B w kd wt sh col → hvi B w kd wt sh col → sf S d cv W →
    ∃ S2 wt2, Ho_meltAll_10 q k2 n (nI c) (nI l) S = k2 (nI (c + 1)) S2 ∧ hvc S2 q B w kd wt2 sh col ∧ (∀ l2, l ≤ l2 → l2 < hl_h col c → wt2 (hl_b col c l2) = wt (hl_b col c l2) - wk_m d cv W kd w (hl_h col) (hl_b col) wt c l2) ∧ (∀ i, (∀ l2, l ≤ l2 → l2 < hl_h col c → i ≠ hl_b col c l2) → wt2 i = wt i) ∧ (∀ i, wt2 i ≤ wt i) ∧ S2.1 q 7 = S.1 q 7 + nI (hs_ls (wk_m d cv W kd w (hl_h col) (hl_b col) wt c) (hl_h col c) l) ∧ fr (fml q) S S2 := by
  intro j
  have i1 := in_ok (n := c) (N := 16) c16 (by decide)
  have gc := fun (T : iz_S) p => g_nI T p (show c < 2 ^ 31 by omega)
  induction j with
  | zero =>
    intro l n S wt hj hn h hi hsf
    obtain ⟨m, rfl⟩ : ∃ m, n = m + 1 := ⟨n - 1, by omega⟩
    have l6 : hl_h col c ≤ 6 := (hi.2.2.2.1 c c16).1
    have hlt : ¬ nI l < nI (hl_h col c) := nI_nlt (by omega) (by omega)
    refine ⟨S, wt, ?_, h, fun l2 h1 h2 => by omega, fun i _ => rfl, fun i => Nat.le_refl _, ?_, fr_rf _ _⟩
    · show Ho_meltAll_10b q k2 (Ho_meltAll_10 q k2 m) (nI c) (nI l) S = _
      rw [Ho_meltAll_10b, i1, ck_t, hq.2.2.2.1, gc, h.2.2.2.1 c c16, if_neg hlt, nI_1]
    · rw [ls_0 _ _ _ (by omega), nI_0, Int32.add_zero]
  | succ j ih =>
    intro l n S wt hj hn h hi hsf
    obtain ⟨m, rfl⟩ : ∃ m, n = m + 1 := ⟨n - 1, by omega⟩
    have l6 : hl_h col c ≤ 6 := (hi.2.2.2.1 c c16).1
    have hl : l < hl_h col c := by omega
    have hlt : nI l < nI (hl_h col c) := nI_lt hl (by omega)
    have ma := b_mem hl
    have inj := (hvi_i hi).2.2.2.2.2.1
    obtain ⟨a, ea⟩ : ∃ a, a = hl_b col c l := ⟨_, rfl⟩
    have aB := (hi.2.2.2.2.1 c _ c16 ma).1
    have B60 := hi.1
    obtain ⟨x, ex⟩ : ∃ x, x = wk_m d cv W kd w (hl_h col) (hl_b col) wt c l := ⟨_, rfl⟩
    have ml := ho_melt hq (hvc_c h) (hvi_i hi) hsf.2.1 hsf.2.2 hsf.1 c16 hl
    rw [w_in c16 ma] at ml
    have ml' : Ho_meltAt q (nI c) (nI l) S = some (nI x, S) := by rw [ml, ex]; rfl
    have b1 := hq_at hq c16 (h.2.2.2.1 c c16) l6 hl
    rw [h.2.2.2.2 c l c16 hl] at b1
    have w1 := (h.2.2.1 _ aB).2.1
    rw [w_in c16 ma] at w1
    rw [← ea] at ma aB b1 w1
    have i2 := in_ok (n := a) (N := 60) (by omega) (by decide)
    have xw : x ≤ wt a := by rw [ex, ea]; exact hml_le _ _ _ _
    have w12 := (hi.2.2.1 a aB).2
    obtain ⟨T, hT⟩ : ∃ T, T = iz_up (iz_up S (q + 2) a (nI (wt a - x))) q 7 (S.1 q 7 + nI x) := ⟨_, rfl⟩
    have fT : fr (fml q) S T := by
      rw [hT]
      exact fr_up (fr_up (fr_rf _ _) (by simp [fml])) (by simp [fml])
    have vT : hvc T q B w kd (wtU wt a (wt a - x)) sh col := by
      refine ⟨(fT _ _ (by simp [fml])).trans h.1, (fT _ _ (by simp [fml])).trans h.2.1, hvg_w h.2.2 hi c16 ma (fun k => fT _ _ (by simp [fml])) ?_ ?_ (fun k => fT _ _ (by simp [fml])) (fun k => fT _ _ (by simp [fml])) (fun k => fT _ _ (by simp [fml]))⟩
      · intro k hk
        rw [hT, up_p _ _ _ _ (by omega), up_ne _ _ _ _ (Or.inr hk)]
      · rw [hT, up_p _ _ _ _ (by omega), up_same]
    have wl : ∀ i, wtU wt a (wt a - x) i ≤ wt i := fun i => by
      by_cases e : i = a
      · rw [e, wtU_s]; omega
      · rw [wtU_n e]; exact Nat.le_refl _
    have hiT : hvi B w kd (wtU wt a (wt a - x)) sh col := hvi_sub hi (fun c _ => List.Sublist.refl _) wl hi.2.1
    obtain ⟨S2, wt2, r1, r2, r3, r4, r5, r6, r7⟩ := ih (l + 1) m T _ (by omega) (by omega) vT hiT (sf_st hsf fT (fun i => ⟨by simp [fml]; omega, by simp [fml]; omega, by simp [fml]; omega⟩))
    have ne : ∀ l2, l + 1 ≤ l2 → l2 < hl_h col c → hl_b col c l2 ≠ a := fun l2 h1 h2 e => by
      rw [ea] at e
      have := (inj c l2 c l c16 h2 c16 hl e).2
      omega
    refine ⟨S2, wt2, ?_, r2, fun l2 h1 h2 => ?_, fun i hx => ?_, fun i => Nat.le_trans (r5 i) (wl i), ?_, fr_tr fT r7⟩
    · rw [← r1]
      show Ho_meltAll_10b q k2 (Ho_meltAll_10 q k2 m) (nI c) (nI l) S = _
      have u : (iz_up S (q + 2) a (nI (wt a - x))).1 q 7 = S.1 q 7 := by rw [up_p _ _ _ _ (by omega)]
      rw [Ho_meltAll_10b, i1, ck_t, hq.2.2.2.1, gc, h.2.2.2.1 c c16, if_pos hlt, ml', bI_s, b1, bI_s, i2, ck_t, ck_t, lt_e, lt_e, hq.2.1, g_nI _ _ (show a < 2 ^ 31 by omega), s_nI _ _ (show a < 2 ^ 31 by omega), w1, nI_sb xw (by omega), u, ← hT, nI_1]
    · by_cases e : l2 = l
      · subst e
        rw [r4 _ (fun l3 h3 h4 => fun q => ne l3 h3 h4 (q.symm.trans ea.symm)), ← ea, wtU_s, ← ex]
      · have ne2 := ne l2 (by omega) h2
        rw [r3 l2 (by omega) h2, wk_cong (wt := wt) (wtU_n ne2), wtU_n ne2]
    · rw [r4 i (fun l3 h3 h4 => hx l3 (by omega) h4), wtU_n (by rw [ea]; exact hx l (Nat.le_refl l) hl)]
    · rw [r6, ls_s _ _ _ hl, ls_cong (g := wk_m d cv W kd w (hl_h col) (hl_b col) wt c) (fun k h1 h2 => wk_cong (wtU_n (ne k h1 h2))), hT, up_same, ← nI_add, Int32.add_assoc, ex]
theorem ho_ml2 {q B w : Nat} {kd : Nat → Nat} {sh : Nat → Bool} {col : Nat → List Nat} {d cv W : Nat → Nat} (hq : hq_p q) (q13 : 13 ≤ q) : ∀ (j c n : Nat) (S : iz_S) (wt : Nat → Nat), c + j = 16 → j < n → hvc S q B w kd wt sh col → hvi B w kd wt sh col → sf S d cv W →
    ∃ S2 wt2, Ho_meltAll_2 q n (nI c) S = some S2 ∧ hvc S2 q B w kd wt2 sh col ∧ (∀ c2 l2, c ≤ c2 → c2 < 16 → l2 < hl_h col c2 → wt2 (hl_b col c2 l2) = wt (hl_b col c2 l2) - wk_m d cv W kd w (hl_h col) (hl_b col) wt c2 l2) ∧ (∀ i, (∀ c2 l2, c ≤ c2 → c2 < 16 → l2 < hl_h col c2 → i ≠ hl_b col c2 l2) → wt2 i = wt i) ∧ (∀ i, wt2 i ≤ wt i) ∧ S2.1 q 7 = S.1 q 7 + nI (hs_tt (wk_m d cv W kd w (hl_h col) (hl_b col) wt) (hl_h col) c j) ∧ fr (fml q) S S2 := by
  intro j
  induction j with
  | zero =>
    intro c n S wt hc hn h hi hsf
    obtain ⟨m, rfl⟩ : ∃ m, n = m + 1 := ⟨n - 1, by omega⟩
    have lt : ¬ nI c < 16 := nI_nlt (b := 16) (by omega) (by omega)
    refine ⟨S, wt, ?_, h, fun c2 l2 h1 h2 => by omega, fun i _ => rfl, fun i => Nat.le_refl _, by rw [hs_tt, nI_0, Int32.add_zero], fr_rf _ _⟩
    show Ho_meltAll_2b q (Ho_meltAll_2 q m) (nI c) S = _
    rw [Ho_meltAll_2b, if_neg lt]
  | succ j ih =>
    intro c n S wt hc hn h hi hsf
    obtain ⟨m, rfl⟩ : ∃ m, n = m + 1 := ⟨n - 1, by omega⟩
    have lt : nI c < 16 := nI_lt (b := 16) (by omega) (by omega)
    have l6 : hl_h col c ≤ 6 := (hi.2.2.2.1 c (by omega)).1
    have inj := (hvi_i hi).2.2.2.2.2.1
    obtain ⟨T, wt1, a1, a2, a3, a4, a5, a6, a7⟩ := ho_ml1 hq q13 (Ho_meltAll_2 q m) (c := c) (by omega) (hl_h col c) 0 iz_FU S wt (by omega) (by have := fu_ge; omega) h hi hsf
    obtain ⟨S2, wt2, r1, r2, r3, r4, r5, r6, r7⟩ := ih (c + 1) m T wt1 (by omega) (by omega) a2 (hvi_sub hi (fun c _ => List.Sublist.refl _) a5 hi.2.1) (sf_st hsf a7 (fun i => ⟨by simp [fml]; omega, by simp [fml]; omega, by simp [fml]; omega⟩))
    have keep : ∀ c2 l2, c + 1 ≤ c2 → c2 < 16 → l2 < hl_h col c2 → wt1 (hl_b col c2 l2) = wt (hl_b col c2 l2) := fun c2 l2 h1 h2 h3 => a4 _ (fun l3 _ h5 e => by
      have := (inj c2 l2 c l3 h2 h3 (by omega) h5 e).1
      omega)
    refine ⟨S2, wt2, ?_, r2, fun c2 l2 h1 h2 h3 => ?_, fun i hx => ?_, fun i => Nat.le_trans (r5 i) (a5 i), ?_, fr_tr a7 r7⟩
    · show Ho_meltAll_2b q (Ho_meltAll_2 q m) (nI c) S = _
      rw [Ho_meltAll_2b, if_pos lt, ← r1]
      exact a1
    · by_cases e : c2 = c
      · subst e
        rw [r4 _ (fun c3 l3 h4 h5 h6 e => by
          have := (inj c2 l2 c3 l3 h2 h3 h5 h6 e).1
          omega), a3 l2 (Nat.zero_le _) h3]
      · rw [r3 c2 l2 (by omega) h2 h3, wk_cong (keep c2 l2 (by omega) h2 h3), keep c2 l2 (by omega) h2 h3]
    · rw [r4 i (fun c3 l3 h4 h5 h6 => hx c3 l3 (by omega) h5 h6), a4 i (fun l3 _ h5 => hx c l3 (Nat.le_refl c) (by omega) h5)]
    · rw [r6, a6, hs_tt, tt_cong (g := wk_m d cv W kd w (hl_h col) (hl_b col) wt) (fun k l h1 h2 h3 => wk_cong (keep k l h1 (by omega) h3)), ← nI_add, Int32.add_assoc]
theorem ho_meltAll {S : iz_S} {q B w : Nat} {kd wt : Nat → Nat} {sh : Nat → Bool} {col : Nat → List Nat} {d cv W : Nat → Nat} (hq : hq_p q) (q13 : 13 ≤ q) (h : hvc S q B w kd wt sh col) (hi : hvi B w kd wt sh col) (hsf : sf S d cv W) :
    ∃ S2, Ho_meltAll q S = some S2 ∧ hvc S2 q B w kd (wk_wt d cv W kd w wt col) sh col ∧ S2.1 q 7 = S.1 q 7 + nI (hs_tt (wk_m d cv W kd w (hl_h col) (hl_b col) wt) (hl_h col) 0 16) ∧ fr (fml q) S S2 := by
  obtain ⟨S2, wt2, r1, r2, r3, r4, r5, r6, r7⟩ := ho_ml2 hq q13 16 0 iz_FU S wt (by omega) (by have := fu_ge; omega) h hi hsf
  have e : wt2 = wk_wt d cv W kd w wt col := wt_uniq hi (fun c l h1 h2 => r3 c l (Nat.zero_le _) h1 h2) (fun i hx => r4 i (fun c l _ h1 h2 => hx c l h1 h2))
  rw [e] at r2
  exact ⟨S2, r1, r2, r6, r7⟩
theorem wk_wt_le (d cv W kd : Nat → Nat) (w : Nat) (wt : Nat → Nat) (col : Nat → List Nat) (i : Nat) : wk_wt d cv W kd w wt col i ≤ wt i := Nat.sub_le _ _
