/-! PURE: a week, reference side: all columns -/
theorem h_r {col : Nat → List Nat} {c k : Nat} {L : List Nat} (h : k ≠ c) : hl_h (hl_r col c L) k = hl_h col k := by unfold hl_h; rw [r_ne h]
theorem b_r {col : Nat → List Nat} {c k : Nat} {L : List Nat} (h : k ≠ c) (l : Nat) : hl_b (hl_r col c L) k l = hl_b col k l := by unfold hl_b; rw [r_ne h]
theorem mo_w4 {B w : Nat} {kd : Nat → Nat} {sh : Nat → Bool} (m : Nat → Nat → Nat) : ∀ (j c n : Nat) (S : iz_S) (wt : Nat → Nat) (col : Nat → List Nat), c + j = 16 → j < n → hvm S B w kd wt sh col → hvi B w kd wt sh col → (∀ c2 l2, c ≤ c2 → c2 < 16 → l2 < hl_h col c2 → S.1 113 (6 * c2 + l2) = nI (m c2 l2) ∧ m c2 l2 ≤ wt (hl_b col c2 l2)) →
    ∃ S2 wt2, Mo_weekGoes_61 82 n (nI c) S = iz_bV (Mo_breakAll 82 S2) (fun S3 => iz_lt (iz_up S3 82 13 (S3.1 82 13 + 1)) (fun S4 => some S4)) ∧ hvm S2 B w kd wt2 sh (hl_f (hl_dr wt2) col c) ∧ (∀ c2 l2, c ≤ c2 → c2 < 16 → l2 < hl_h col c2 → wt2 (hl_b col c2 l2) = wt (hl_b col c2 l2) - m c2 l2) ∧ (∀ i, (∀ c2 l2, c ≤ c2 → c2 < 16 → l2 < hl_h col c2 → i ≠ hl_b col c2 l2) → wt2 i = wt i) ∧ (∀ i, wt2 i ≤ wt i) ∧ S2.1 104 1 = S.1 104 1 + nI (hs_tt m (hl_h col) c j) ∧ fr fwm S S2 := by
  intro j
  induction j with
  | zero =>
    intro c n S wt col hc hn h hi hm
    obtain ⟨k, rfl⟩ : ∃ k, n = k + 1 := ⟨n - 1, by omega⟩
    have lt : ¬ nI c < 16 := nI_nlt (b := 16) (by omega) (by omega)
    refine ⟨S, wt, ?_, ?_, fun c2 l2 h1 h2 => by omega, fun i _ => rfl, fun i => Nat.le_refl _, by rw [hs_tt, nI_0, Int32.add_zero], fr_rf _ _⟩
    · show Mo_weekGoes_61b 82 (Mo_weekGoes_61 82 k) (nI c) S = _
      rw [Mo_weekGoes_61b, if_neg lt]
    · rw [f_end (by omega)]; exact h
  | succ j ih =>
    intro c n S wt col hc hn h hi hm
    obtain ⟨k, rfl⟩ : ∃ k, n = k + 1 := ⟨n - 1, by omega⟩
    have c16 : c < 16 := by omega
    have lt : nI c < 16 := nI_lt (b := 16) c16 (by omega)
    have l6 : (col c).length ≤ 6 := (hi.2.2.2.1 c c16).1
    have inj := (hvi_i hi).2.2.2.2.2.1
    have dis := hi.2.2.2.2.2
    obtain ⟨T, wt1, a1, a2, a3, a4, a5, a6, a7⟩ := mo_w3 (Mo_weekGoes_61 82 k) c16 (m c) (col c).length (col c) [] iz_FU S wt col rfl (by have := fu_ge; omega) h hi (List.append_nil _).symm (fun l hl => hm c l (Nat.le_refl c) c16 hl)
    rw [List.append_nil] at a2
    have keep : ∀ i c2, c2 < 16 → c2 ≠ c → i ∈ col c2 → wt1 i = wt i := fun i c2 h1 h2 h3 => a4 i (fun q => h2 (dis c2 c i h1 c16 h3 q))
    obtain ⟨S2, wt2, r1, r2, r3, r4, r5, r6, r7⟩ := ih (c + 1) k T wt1 _ (by omega) (by omega) a2 (hvi_out (hvi_sub hi (fun c _ => List.Sublist.refl _) a5 hi.2.1) (dr_sub _ _)) (fun c2 l2 h1 h2 h3 => by
      rw [h_r (by omega)] at h3
      rw [b_r (by omega), a7 113 _ rfl, keep _ c2 h2 (by omega) (b_mem h3)]
      exact hm c2 l2 (by omega) h2 h3)
    have kc : ∀ i, i ∈ col c → wt2 i = wt1 i := fun i hic => r4 i (fun c2 l2 h1 h2 h3 e => by
      rw [h_r (by omega)] at h3
      rw [b_r (by omega)] at e
      have := dis c c2 i c16 h2 hic (by rw [e]; exact b_mem h3)
      omega)
    have ec : hl_f (hl_dr wt2) (hl_r col c (hl_dr wt1 (col c))) (c + 1) = hl_f (hl_dr wt2) col c := by
      rw [dr_cong (fun i hi => (kc i hi).symm)]
      exact f_step c16
    rw [ec] at r2
    refine ⟨S2, wt2, ?_, r2, fun c2 l2 h1 h2 h3 => ?_, fun i hx => ?_, fun i => Nat.le_trans (r5 i) (a5 i), ?_, fr_tr a7 r7⟩
    · rw [← r1]
      show Mo_weekGoes_61b 82 (Mo_weekGoes_61 82 k) (nI c) S = _
      have i1 := in_ok (n := c) (N := 16) c16 (by decide)
      have hH : S.1 91 c = nI (col c).length := h.2.2.1.2.1 c c16
      rw [Mo_weekGoes_61b, if_pos lt, i1, ck_t, lt_e, show iz_rf 82 9 = 91 from rfl, g_nI _ _ (show c < 2 ^ 31 by omega), hH]
      exact a1
    · by_cases e : c2 = c
      · subst e
        rw [kc _ (b_mem h3)]
        exact a3 l2 h3
      · have := r3 c2 l2 (by omega) h2 (by rw [h_r e]; exact h3)
        rw [b_r e] at this
        rw [this, keep _ c2 h2 e (b_mem h3)]
    · rw [r4 i (fun c2 l2 h1 h2 h3 => by
        rw [h_r (by omega)] at h3
        rw [b_r (by omega)]
        exact hx c2 l2 (by omega) h2 h3), a4 i (fun q => by
        obtain ⟨l, hl, e⟩ := b_of q
        exact hx c l (Nat.le_refl c) c16 hl e.symm)]
    · have tc : ∀ (f : Nat → Nat → Nat) (h1 h2 : Nat → Nat) (j c : Nat), (∀ k, c ≤ k → h1 k = h2 k) → hs_tt f h1 c j = hs_tt f h2 c j := by
        intro f h1 h2 j
        induction j with
        | zero => intro c _; rfl
        | succ j ih2 => intro c q; rw [hs_tt, hs_tt, q c (Nat.le_refl c), ih2 (c + 1) (fun k hk => q k (by omega))]
      rw [r6, a6, hs_tt, tc m _ (hl_h col) j (c + 1) (fun k hk => h_r (by omega)), ← nI_add, Int32.add_assoc]
      rfl
theorem mo_week {S : iz_S} {B w : Nat} {kd wt : Nat → Nat} {sh : Nat → Bool} {col : Nat → List Nat} {d cv W : Nat → Nat} (h : hvm S B w kd wt sh col) (hi : hvi B w kd wt sh col) (hsm : sm_ S d cv W) :
    ∃ S2, Mo_weekGoes 82 S = some S2 ∧ hvm S2 B (w + 1) kd (wk_wt d cv W kd w wt col) sh (wk_col d cv W kd w wt col) ∧ S2.1 104 1 = S.1 104 1 + nI (wk_tt d cv W kd w wt col) ∧ S2.1 104 2 = S.1 104 2 + nI (wk_bs d cv W kd w wt col) ∧ fr fhm S S2 := by
  have wm := mo_warm (S := S) (W := W) (fun i hi => (hsm.2.2 i hi).1) (w := w) (by have := hi.2.1; omega)
  obtain ⟨S1, a1, a2, a3⟩ := mo_w2 16 0 iz_FU S (by omega) (by have := fu_ge; omega) h hi hsm
  have h1 : hvm S1 B w kd wt sh col := hvm_st h hi a3 rfl rfl (fun i => ⟨rfl, rfl, rfl, rfl, rfl, rfl⟩)
  obtain ⟨S2, wt2, b1, b2, b3, b4, b5, b6, b7⟩ := mo_w4 (wk_m d cv W kd w (hl_h col) (hl_b col) wt) 16 0 iz_FU S1 wt col (by omega) (by have := fu_ge; omega) h1 hi (fun c2 l2 q1 q2 q3 => ⟨a2 c2 l2 q1 q2 q3, hml_le _ _ _ _⟩)
  have e : wt2 = wk_wt d cv W kd w wt col := wt_uniq hi (fun c l q1 q2 => b3 c l (Nat.zero_le _) q1 q2) (fun i hx => b4 i (fun c l _ q1 q2 => hx c l q1 q2))
  rw [e] at b2
  have hi1 : hvi B w kd (wk_wt d cv W kd w wt col) sh col := hvi_sub hi (fun c _ => List.Sublist.refl _) (wk_wt_le d cv W kd w wt col) hi.2.1
  obtain ⟨S3, c1, c2, c3, c4⟩ := mo_breakAll b2 (hvi_f hi1 (fun L => dr_sub _ L) 0)
  have ff : hl_f (hl_bk kd (wk_wt d cv W kd w wt col)) (hl_f (hl_dr (wk_wt d cv W kd w wt col)) col 0) 0 = wk_col d cv W kd w wt col := by
    funext k
    unfold wk_col hl_f hl_g
    by_cases q : 0 ≤ k ∧ k < 16
    · rw [if_pos q, if_pos q, if_pos q]
    · rw [if_neg q, if_neg q, if_neg q]
  rw [ff] at c2
  have hi2 : hvi B w kd (wk_wt d cv W kd w wt col) sh (wk_col d cv W kd w wt col) := hvi_f hi1 (fun L => g_sub _ _ L) 0
  have f5 : fr (fun p i => p == 82 && i == 13) S3 (iz_up S3 82 13 (S3.1 82 13 + 1)) := fr_1
  refine ⟨iz_up S3 82 13 (S3.1 82 13 + 1), ?_, ⟨?_, ?_, ?_, ?_⟩, ?_, ?_, ?_⟩
  · rw [Mo_weekGoes, h.2.1, wm, bI_s]
    refine Eq.trans a1 (Eq.trans b1 ?_)
    rw [c1, bV_s, lt_e]
  · rw [up_ne _ _ _ _ (Or.inr (by decide))]; exact c2.1
  · rw [up_same, c2.2.1, nI_1]
  · exact hvg_st c2.2.2.1 (fun i _ => f5 _ _ rfl) (fun i _ => f5 _ _ rfl) (fun i _ => f5 _ _ rfl) (fun i _ => f5 _ _ rfl) (fun i _ => f5 _ _ rfl) (fun c hc => (hi2.2.2.2.1 c hc).1)
  · exact ⟨fun c i q1 q2 => (f5 _ _ rfl).trans (c2.2.2.2.1 c i q1 q2), fun i q1 q2 => (f5 _ _ rfl).trans (c2.2.2.2.2 i q1 q2)⟩
  · rw [f5 104 1 rfl, c4 104 1 rfl, b6, a3 104 1 rfl]
    rfl
  · rw [f5 104 2 rfl, c3, b7 104 2 rfl, a3 104 2 rfl]
    rfl
  · refine fr_tr (fr_tr (fr_tr (fr_mono a3 ?_) (fr_mono b7 ?_)) (fr_mono c4 ?_)) (fr_mono f5 ?_) <;>
    · intro p i hp
      simp only [fwm, fmb, fhm, Bool.or_eq_true, Bool.and_eq_true, beq_iff_eq] at hp ⊢
      omega
