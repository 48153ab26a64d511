/-! PURE: sales, put together -/
/-- the class's half, where columns are told -/
theorem sa_fin {S S1 : iz_S} (h : rl S) {N : Nat} {col : Nat → Nat} (hg : clg (S.1 80) N col) (f1 : fr fsx S S1) (e7 : S1.1 45 7 = nI N) (e46 : ∀ i, i < N → S1.1 46 i = nI (col i)) : ∃ n pr fit V F, Sa_plan 45 S1 = some V ∧ sa_d V (fun _ => false) (fun _ => 0) [] F ∧ fr fsc S1 V ∧ F = sl_F n N pr fit ∧ F.2.length ≤ 4 ∧ F.1 ≤ 4000 ∧ (∀ y, y ∈ F.2 → y.2 < N) ∧ ∀ U, (∀ p i, fch2 p i = false → ¬ (p = 79 ∧ i = 0) → ¬ (p = 82 ∧ i = 26) → p ≠ 81 → U.1 p i = S.1 p i) → (∀ k, k < 10 → U.1 100 k = S.1 100 k) → (∀ c, U.1 91 c = S.1 91 c) → U.1 82 32 = nI N → U.1 82 46 = 0 → U.1 82 45 = 0 → (∀ p, p < N → U.1 109 p = nI (col p)) → ∃ U2, Mo_trySales 10 82 0 0 U = some U2 ∧ U2.1 82 46 = nI F.1 ∧ U2.1 82 45 = nI F.2.length ∧ (∀ i y, F.2[i]? = some y → U2.1 118 (2 * i) = nI y.1 ∧ U2.1 118 (2 * i + 1) = nI (col y.2)) ∧ (∀ k, k < 10 → U2.1 100 k = S.1 100 k) ∧ (∀ c, c < 16 → U2.1 91 c = S.1 91 c) ∧ fr fsmr U U2 := by
  obtain ⟨B, w, hh, b, kd, wt, pl, hc, hm, hi, hn, hl⟩ := id h.2.2.1
  obtain ⟨dd, cv, W, q1, q2, q3, q4, q5, q6⟩ := shel_f h.2.1
  obtain ⟨n, g, lw, up, hr, pr0, sv, ho, hmm, hb⟩ := ord_f h.2.2.2.1
  obtain ⟨g1, g2, g3, g4⟩ := hg
  have n10 := ho.1
  have c16 : ∀ p, p < N → col p < 16 := fun p hp => (g4 p hp).1
  have inj : ∀ p q, p < N → q < N → col p = col q → p = q := fun p q hp hq e => by
    rcases Nat.lt_trichotomy p q with z | z | z
    · exact absurd ⟨p, q, z, hq, by rw [(g4 p hp).2, (g4 q hq).2, e]⟩ g3
    · exact z
    · exact absurd ⟨q, p, z, hp, by rw [(g4 p hp).2, (g4 q hq).2, e]⟩ g3
  obtain ⟨pr, hpr⟩ : ∃ pr : Nat → Nat, pr = fun k => if k < n then pr0 k else 0 := ⟨_, rfl⟩
  have prn : ∀ k, k < n → pr k = pr0 k := fun k hk => by rw [hpr]; exact if_pos hk
  have pr1 : ∀ k, pr k ≤ 1000 := fun k => by
    rw [hpr]
    show (if k < n then pr0 k else 0) ≤ 1000
    split
    · rename_i q; exact (hb k q).2.2.2.2.2.2
    · omega
  obtain ⟨sv2, hsv2⟩ : ∃ sv2 : Nat → Bool, sv2 = fun k => decide (S.1 100 k ≠ 0) := ⟨_, rfl⟩
  have o6 := h.2.2.2.1
  have sve : ∀ k, k < n → sv k = sv2 k := fun k hk => by
    have := (hmm.2.2 k hk).2.2.2.2.2
    rw [hsv2]
    show sv k = decide (S.1 100 k ≠ 0)
    rw [this]
    cases sv k <;> rfl
  have s100 : ∀ k, k < 10 → S.1 100 k = bI_ (sv2 k) := fun k hk => by
    obtain ⟨n2, -, -, -, -, -, z⟩ := o6
    obtain ⟨-, -, -, -, -, z1, z2, -⟩ := z k hk
    rw [hsv2]
    show S.1 100 k = bI_ (decide (S.1 100 k ≠ 0))
    rcases z2 with z2 | z2 <;> rw [z1, z2] <;> rfl
  have ho1 : od S1 n g lw up hr pr sv2 := ⟨n10, (f1 38 0 rfl).trans ho.2.1, fun i hi => by
    rw [f1 40 i rfl, f1 41 i rfl, f1 42 i rfl, f1 43 i rfl, f1 39 i rfl, f1 44 i rfl, prn i hi, ← sve i hi]
    exact ho.2.2 i hi⟩
  have hb1 : ob n g lw up hr pr := fun i hi => by rw [prn i hi]; exact hb i hi
  have hc1 := hs_c_f hc f1 (fun i => ⟨rfl, rfl, rfl, rfl, rfl, rfl⟩)
  have hsb : sb_f S1 n N pr col (fun p => hh (col p)) := ⟨n10, g2, e7, ho1.2.1, fun p hp => ⟨e46 p hp, c16 p hp, hc1.2.2.2.1 _ (c16 p hp)⟩, fun k hk => ⟨(ho1.2.2 k hk).2.2.2.2.1, pr1 k⟩⟩
  have hsw := sb_wf hc1 hi ho1 hb1 (W := W) (fun i hi => by rw [f1 12 i rfl]; exact q5 i hi) (N := N) (col := col) c16
  obtain ⟨V, D, a1, a2, a3, a4, a5, a6, a7⟩ := sa_all hsb hsw pr1 (fun k hk => (hb1 k hk).2.2.2.2.2.1) (fun i hi => by rw [f1 51 i rfl]; exact h.2.2.2.2.2.2.1.1 i hi) (fun i hi => by rw [f1 52 i rfl]; exact h.2.2.2.2.2.2.1.2 i hi)
  have bF := (sl_eq a5 a6 a7 4 _ _ _ _ sl_0 (sl_i0 D pr) rfl (sl_b0 D pr)).2
  refine ⟨n, pr, _, V, _, a1, a2, a3, rfl, bF.2.2, ?_, sl_rp 4 _ _ _ _ _ (fun x hx => (by cases hx)) (fun x hx => (by cases hx)), fun U hU h100 h91 h32 h46 h45 h109 => ?_⟩
  · have := sl_sl pr1 (sl_F n N pr (sf_f sv2 w g lw up hr kd wt (wk_w W w) hh b col)).2
    have e := bF.2.1
    have l := bF.2.2
    unfold sl_F at this ⊢
    omega
  · have hmU : hs_m U B w hh b kd wt pl := ⟨(hU 82 3 rfl (by omega) (by omega) (by omega)).trans hm.1, (hU 82 13 rfl (by omega) (by omega) (by omega)).trans hm.2.1, fun i q => ⟨(hU 86 i rfl (by omega) (by omega) (by omega)).trans (hm.2.2.1 i q).1, (hU 87 i rfl (by omega) (by omega) (by omega)).trans (hm.2.2.1 i q).2.1, (hU 88 i rfl (by omega) (by omega) (by omega)).trans (hm.2.2.1 i q).2.2⟩, fun c q => (h91 c).trans (hm.2.2.2.1 c q), fun c l p1 p2 => (hU 90 _ rfl (by omega) (by omega) (by omega)).trans (hm.2.2.2.2.1 c l p1 p2), fun c l p1 p2 => (hU 89 _ rfl (by omega) (by omega) (by omega)).trans (hm.2.2.2.2.2.1 c l p1 p2), fun i p1 p2 => (hU 89 _ rfl (by omega) (by omega) (by omega)).trans (hm.2.2.2.2.2.2 i p1 p2)⟩
    have omU : om U n g lw up hr pr sv2 := ⟨n10, (hU 82 14 rfl (by omega) (by omega) (by omega)).trans hmm.2.1, fun i hi => by
      rw [hU 95 i rfl (by omega) (by omega) (by omega), hU 96 i rfl (by omega) (by omega) (by omega), hU 97 i rfl (by omega) (by omega) (by omega), hU 98 i rfl (by omega) (by omega) (by omega), hU 99 i rfl (by omega) (by omega) (by omega), h100 i (by omega), prn i hi, ← sve i hi]
      exact hmm.2.2 i hi⟩
    obtain ⟨U2, b1, b2, b3⟩ := sm_all a5 a6 a7 a4 (S0 := U) (col := col) (hc := fun p => hh (col p)) (sv := sv2) ⟨h32, omU.2.1, h109, fun k hk => (omU.2.2 k hk).2.2.2.2.1⟩ ⟨inj, fun p hp => ⟨c16 p hp, hi.2.2.2.1 _ (c16 p hp)⟩, fun k p t _ _ _ hf => sf_ff hf⟩ (sm_wf hmU hi omU hb1 (fun i hi => by rw [hU 94 i rfl (by omega) (by omega) (by omega)]; exact q6 i hi) c16) h46 h45 (fun k hk => by rw [h100 k hk]; exact s100 k hk) (fun p hp => by rw [h91]; exact hm.2.2.2.1 _ (c16 p hp))
    refine ⟨U2, b1, b2.2.2.2.2.1, b2.2.2.2.2.2.1, b2.2.2.2.2.2.2, fun k hk => ?_, fun c hc => ?_, b3⟩
    · rw [b2.1 k hk, Bool.or_false, s100 k hk]
    · by_cases q : ∃ p, p < N ∧ c = col p
      · obtain ⟨p, pN, rfl⟩ := q
        rw [b2.2.1 p pN, hm.2.2.2.1 _ (c16 p pN)]
        rfl
      · rw [b2.2.2.1 c (fun p hp e => q ⟨p, hp, e⟩), h91]
