/-! PURE: season: the row, class side -/
def wlk (mb : Nat → Nat → Bool) (L : Nat → Nat) (n : Nat) : Nat → Nat → List Nat
  | 0, _ => []
  | k + 1, u => match fst_ mb L u n with
    | none => []
    | some i => i :: wlk mb L n k (u ||| 2 ^ i)
def fro (p i : Nat) : Bool := p == 6 || (p == 5 && i == 1)
theorem se_walk14 {n : Nat} {sq : Nat → Nat} {f : Nat → Int32} {L : Nat → Nat} {len : Nat} (len6 : len ≤ 6) : ∀ (j st u m : Nat) (T : iz_S), st + j = len → j < m → SP T n sq f → TL T n (mbf f sq n) L 0 → TN T n (mbf f sq n) L 0 → T.1 5 1 = nI len → u < 2 ^ n → L u = j →
    ∃ T2, Se_walk_14 5 m (nI u) (nI st) T = some T2 ∧ (∀ i, i < j → ∃ k, (wlk (mbf f sq n) L n j u)[i]? = some k ∧ k < n ∧ T2.1 6 (st + i) = nI (sq k)) ∧ (∀ i, i < st → T2.1 6 i = T.1 6 i) ∧ fr (fun p _ => p == 6) T T2 := by
  intro j
  induction j with
  | zero =>
    intro st u m T hs hm h hT hN hl hu hLu
    obtain ⟨m, rfl⟩ : ∃ z, m = z + 1 := ⟨m - 1, by omega⟩
    have lt : ¬ nI st < nI len := nI_nlt (by omega) (by omega)
    refine ⟨T, ?_, fun i hi => by omega, fun i _ => rfl, fr_rf _ _⟩
    show Se_walk_14b 5 (Se_walk_14 5 m) (nI u) (nI st) T = _
    rw [Se_walk_14b, hl, if_neg lt]
  | succ j ih =>
    intro st u m T hs hm h hT hN hl hu hLu
    obtain ⟨m, rfl⟩ : ∃ z, m = z + 1 := ⟨m - 1, by omega⟩
    have n6 := h.2.1
    have p64 := b_pow n (by omega)
    have lt : nI st < nI len := nI_lt (by omega) (by omega)
    obtain ⟨t1, t2, t3⟩ := hT u (Nat.zero_le _) hu
    rcases fst_spec (mb := mbf f sq n) (L := L) (u := u) (m := n) with ⟨q1, q2⟩ | ⟨k, k1, k2, k3, k4, k5⟩
    · omega
    · have hk : T.1 120 u = nI k := hN u (Nat.zero_le _) hu k k1
      have iu := in_ok (n := u) (N := 64) (by omega) (by decide)
      have i1 := in_ok (n := k) (N := 6) (by omega) (by decide)
      have i2 := in_ok (n := st) (N := 6) (by omega) (by decide)
      obtain ⟨U, hU⟩ : ∃ U, U = iz_up T 6 st (nI (sq k)) := ⟨_, rfl⟩
      have fU : fr (fun p _ => p == 6) T U := by rw [hU]; exact fr_up (fr_rf _ _) rfl
      have hSU : SP U n sq f := ⟨(fU _ _ rfl).trans h.1, n6, fun i hi => by rw [fU 7 i rfl]; exact h.2.2.1 i hi, fun i hi => by rw [hU]; exact h.2.2.2.1 i hi, fun i => by rw [hU]; exact h.2.2.2.2 i⟩
      obtain ⟨T2, a1, a2, a3, a4⟩ := ih (st + 1) (u ||| 2 ^ k) m U (by omega) (by omega) hSU (fun v h1 h2 => by rw [fU 8 v rfl]; exact hT v h1 h2) (fun v h1 h2 k' hk' => by rw [fU 120 v rfl]; exact hN v h1 h2 k' hk') ((fU _ _ rfl).trans hl) (b_in hu k2) (by omega)
      refine ⟨T2, ?_, fun i hi => ?_, fun i hi => ?_, fr_tr fU a4⟩
      · rw [← a1]
        show Se_walk_14b 5 (Se_walk_14 5 m) (nI u) (nI st) T = _
        rw [Se_walk_14b, hl, if_pos lt, iu, ck_t, show iz_rf 5 5 = 120 from rfl, g_nI T 120 (show u < 2 ^ 31 by omega), hk, i1, ck_t, i2, ck_t, lt_e, show iz_rf 5 2 = 7 from rfl, show iz_rf 5 0 = 6 from rfl, g_nI _ _ (show k < 2 ^ 31 by omega), (h.2.2.1 k k2).1, s_nI _ _ (show st < 2 ^ 31 by omega), ← hU, ck_t, lt_e, g_nI U 120 (show u < 2 ^ 31 by omega), fU 120 u rfl, hk, b_or u (by omega) k (by omega), nI_1]
      · have ew : wlk (mbf f sq n) L n (j + 1) u = k :: wlk (mbf f sq n) L n j (u ||| 2 ^ k) := by rw [wlk, k1]
        rw [ew]
        cases i with
        | zero =>
          refine ⟨k, rfl, k2, ?_⟩
          rw [Nat.add_zero, a3 st (by omega), hU, up_same]
        | succ i =>
          obtain ⟨k', e1, e2, e3⟩ := a2 i (by omega)
          refine ⟨k', ?_, e2, ?_⟩
          · rw [List.getElem?_cons_succ]; exact e1
          · rw [show st + (i + 1) = st + 1 + i by omega]; exact e3
      · rw [a3 i (by omega), hU, up_ne _ _ _ _ (Or.inr (by omega))]
def fsl (p i : Nat) : Bool := p == 6 || p == 8 || p == 120 || (p == 5 && i == 1)
theorem upL1 (S : iz_S) (p i : Nat) (v : Int64) : (iz_upL S p i v).1 = S.1 := rfl
theorem upL_s (S : iz_S) (p i : Nat) (v : Int64) : (iz_upL S p i v).2 p i = v := by simp [iz_upL, vp_updL]
theorem upL_n (S : iz_S) (p i j : Nat) (v : Int64) (h : j ≠ i) : (iz_upL S p i v).2 p j = S.2 p j := by simp [iz_upL, vp_updL, h]
theorem se_plan {S : iz_S} {n : Nat} {sq : Nat → Nat} (n1 : 1 ≤ n) (n6 : n ≤ 6) (h3 : S.1 5 3 = nI n) (h7 : ∀ i, i < n → S.1 7 i = nI (sq i) ∧ isq (sq i) = true) : ∃ S2 L, Se_plan 5 1 S = some S2 ∧ (∀ v, v < 2 ^ n → L v = mxl (mbf (S.1 2) sq n) L v n ∧ L v + cnt n v ≤ n) ∧ S2.1 5 1 = nI (L 0) ∧ (∀ i, i < L 0 → ∃ k, (wlk (mbf (S.1 2) sq n) L n (L 0) 0)[i]? = some k ∧ k < n ∧ S2.1 6 i = nI (sq k)) ∧ fr fsl S S2 := by
  obtain ⟨x, x1, x2⟩ := la_cellsOf 8 S
  obtain ⟨A, hA⟩ : ∃ A, A = iz_upL S 5 6 x := ⟨_, rfl⟩
  obtain ⟨y, y1, y2⟩ := la_bear (S := A) (who := 1) (by decide)
  obtain ⟨Bs, hB⟩ : ∃ Bs, Bs = iz_upL A 5 7 y := ⟨_, rfl⟩
  have eA : A.1 = S.1 := by rw [hA]; rfl
  have eB : Bs.1 = S.1 := by rw [hB]; exact eA
  have hSP : SP Bs n sq (S.1 2) := by
    refine ⟨by rw [eB]; exact h3, n6, fun i hi => by rw [eB]; exact h7 i hi, fun i hi => ?_, fun i => ?_⟩
    · rw [hB, upL_n _ _ _ _ _ (by decide), hA, upL_s]
      unfold bt_ th8
      rw [x2 i]
      simp [hi]
    · rw [hB, upL_s, y2 i, eA]
      rfl
  have p64 := b_pow n (by omega)
  have b3 : Bs.1 5 3 = nI n := by rw [eB]; exact h3
  obtain ⟨T2, L, a1, a2, a3, a4, a5⟩ := se_plan28 (2 ^ n) iz_FU Bs (fun _ => 0) (Nat.le_refl _) (by have := fu_ge; omega) hSP (fun v q1 q2 => by omega) (fun v q1 q2 => by omega)
  obtain ⟨l1, l2, l3⟩ := a3 0 (Nat.le_refl 0) (Nat.two_pow_pos n)
  obtain ⟨U, hU⟩ : ∃ U, U = iz_up T2 5 1 (nI (L 0)) := ⟨_, rfl⟩
  have fU : fr (fun p i => p == 5 && i == 1) T2 U := by rw [hU]; exact fr_1
  have hSU : SP U n sq (S.1 2) := ⟨(fU _ _ rfl).trans a2.1, n6, fun i hi => by rw [fU 7 i rfl]; exact a2.2.2.1 i hi, fun i hi => by rw [hU]; exact a2.2.2.2.1 i hi, fun i => by rw [hU]; exact a2.2.2.2.2 i⟩
  obtain ⟨V, v1, v2, v3, v4⟩ := se_walk14 (len := L 0) (by omega) (L 0) 0 0 iz_FU U (by omega) (by have := fu_ge; omega) hSU (fun v q1 q2 => by rw [fU 8 v rfl]; exact a3 v q1 q2) (fun v q1 q2 k hk => by rw [fU 120 v rfl]; exact a5 v q1 q2 k hk) (by rw [hU, up_same]) (Nat.two_pow_pos n) rfl
  refine ⟨V, L, ?_, fun v hv => (a3 v (Nat.zero_le _) hv).2, by rw [v4 5 1 rfl, hU, up_same], fun i hi => ?_, ?_⟩
  · have i0 : iz_in 0 64 = true := by decide +kernel
    have g0 : iz_g T2 8 0 = nI (L 0) := (g_nI T2 8 (k := 0) (by decide)).trans l1
    have wk : Se_walk 5 T2 = some V := by
      rw [Se_walk, i0, ck_t, lt_e, show iz_rf 5 4 = 8 from rfl, g0, ← hU]
      exact v1
    rw [Se_plan, x1, bL_s, lt_e, ← hA, show La_bearing 1 1 A = _ from y1, bL_s, lt_e, ← hB, lt_e, b3, b_top n (by omega)]
    refine Eq.trans a1 ?_
    rw [wk, bV_s]
  · obtain ⟨k, e1, e2, e3⟩ := v2 i hi
    rw [Nat.zero_add] at e3
    exact ⟨k, e1, e2, e3⟩
  · intro p i hp
    simp only [fsl, Bool.or_eq_false_iff, Bool.and_eq_false_iff, beq_eq_false_iff_ne] at hp
    rw [v4 p i (by simp; omega), fU p i (by simp; omega), a4 p i (by simp; omega), eB]
