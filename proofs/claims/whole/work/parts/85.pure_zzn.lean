/-! PURE: the best dust, class: the search -/
def fdk (p i : Nat) : Bool := p == 37 || p == 26 || p == 25 && (i == 0 || i == 2)
def bd_cc (k : Nat) : Nat := if k = 0 then 0 else if k = 1 then 3 else if k = 2 then 12 else 15
/-- the tables, all columns -/
def bd_T (V : iz_S) (cm : Nat → Nat → Nat) : Prop := V.1 25 3 = nI (bd_in cm 16) ∧ (∀ w d, w < 4 → d < 11 → V.1 (28 + w) d = nI (bd_aw cm w d 16)) ∧ ∀ k, k < 4 → ∀ e, e < 21 → V.1 (33 + k) e = nI (cm (bd_cc k) (20 - e))
theorem bd_ccr : ∀ k, k < 4 → bd_cc k < 16 ∧ bd_r (bd_cc k) ≠ 9 ∧ bd_q (bd_cc k) ≠ 9 ∧ 2 * bd_r (bd_cc k) + bd_q (bd_cc k) - 2 = k := by decide +kernel
theorem bd_tT {V : iz_S} {cm : Nat → Nat → Nat} (h : bd_t V cm 16) : bd_T V cm := ⟨h.1, h.2.1, fun k hk e he => by
  obtain ⟨q1, q2, q3, q4⟩ := bd_ccr k hk
  have := h.2.2 (bd_cc k) q1 q2 q3 e he
  rw [q4] at this
  exact this⟩
theorem bd_Ts {V W : iz_S} {cm : Nat → Nat → Nat} (h : bd_T V cm) (hf : fr fdk V W) : bd_T W cm :=
  ⟨(hf 25 3 rfl).trans h.1, fun w d h1 h2 => (hf (28 + w) d (by simp [fdk]; omega)).trans (h.2.1 w d h1 h2), fun k hk e he => (hf (33 + k) e (by simp [fdk]; omega)).trans (h.2.2 k hk e he)⟩
def bd_sd (cm : Nat → Nat → Nat) (w a b d : Nat) : Nat := bd_aw cm w d 16 + cm (bd_cc (w - 2)) (20 - (a + d)) + cm (bd_cc w) (20 - (b + d))
theorem du_side {V : iz_S} {cm : Nat → Nat → Nat} (h : bd_T V cm) {w a b d : Nat} (w2 : 2 ≤ w) (w4 : w < 4) (ha : a < 11) (hb : b < 11) (hd : d < 11) : Du_sideMelts 25 (nI w) (nI a) (nI b) (nI d) V = some (nI (bd_sd cm w a b d), V) := by
  have e2 : nI w - 2 = nI (w - 2) := nI_sb (b := 2) w2 (by omega)
  have i1 := in_ok (n := w) (N := 4) w4 (by decide)
  have i2 := in_ok (n := w - 2) (N := 4) (by omega) (by decide)
  have i3 := in_ok (n := d) (N := 11) hd (by decide)
  have i4 := in_ok (n := a + d) (N := 21) (by omega) (by decide)
  have i5 := in_ok (n := b + d) (N := 21) (by omega) (by decide)
  rw [Du_sideMelts, e2, nI_add, nI_add, i1, ck_t, i3, ck_t, i2, ck_t, i4, ck_t, ck_t, i5, ck_t, show iz_rf 25 4 = 27 from rfl, show iz_rf 25 5 = 32 from rfl, nI_clamp (show w < 2 ^ 31 by omega), nI_clamp (show w - 2 < 2 ^ 31 by omega), (rf27 w w4).1, (rf27 w w4).2.1, (rf27 (w - 2) (by omega)).2.1, g_nI _ _ (show d < 2 ^ 31 by omega), g_nI _ _ (show a + d < 2 ^ 31 by omega), g_nI _ _ (show b + d < 2 ^ 31 by omega), h.2.1 w d w4 hd, h.2.2 (w - 2) (by omega) (a + d) (by omega), h.2.2 w w4 (b + d) (by omega), nI_add, nI_add]
  rfl
theorem du_few {cm : Nat → Nat → Nat} {a b : Nat} (ha : a < 11) (hb : b < 11) (hB : ∀ d, d < 11 → bd_sd cm 3 a b d < 2 ^ 31) : ∀ (j i m : Nat) (V : iz_S), i + j = 11 → j < m → bd_T V cm → ∃ V2, Du_fillFewest_5 25 m (nI a) (nI b) (nI (bd_f (bd_sd cm 3 a b) (i - 1))) (nI i) V = some V2 ∧ (∀ k, i ≤ k → k < 11 → V2.1 37 k = nI (bd_f (bd_sd cm 3 a b) k)) ∧ (∀ k, k < i → V2.1 37 k = V.1 37 k) ∧ fr (fun q _ => q == 37) V V2 := by
  intro j
  induction j with
  | zero =>
    intro i m V hj hm hT
    obtain ⟨m, rfl⟩ : ∃ k, m = k + 1 := ⟨m - 1, by omega⟩
    have lt : ¬ nI i ≤ 10 := by rw [show (10 : Int32) = nI 10 from rfl, nI_leP (by omega) (by decide)]; omega
    refine ⟨V, ?_, fun k h1 h2 => by omega, fun k _ => rfl, fr_rf _ _⟩
    show Du_fillFewest_5b 25 (Du_fillFewest_5 25 m) (nI a) (nI b) _ (nI i) V = _
    rw [Du_fillFewest_5b, if_neg lt]
  | succ j ih =>
    intro i m V hj hm hT
    obtain ⟨m, rfl⟩ : ∃ k, m = k + 1 := ⟨m - 1, by omega⟩
    have lt : nI i ≤ 10 := by rw [show (10 : Int32) = nI 10 from rfl, nI_leP (by omega) (by decide)]; omega
    have i1 := in_ok (n := i) (N := 11) (by omega) (by decide)
    have fl := bd_fl (bd_sd cm 3 a b) (i - 1)
    have s1 := du_side hT (w := 3) (by omega) (by omega) ha hb (d := i) (by omega)
    have s2 := du_side hT (w := 3) (by omega) (by omega) ha hb (d := bd_f (bd_sd cm 3 a b) (i - 1)) (by omega)
    have lt2 : (nI (bd_sd cm 3 a b i) < nI (bd_sd cm 3 a b (bd_f (bd_sd cm 3 a b) (i - 1)))) = (bd_sd cm 3 a b i < bd_sd cm 3 a b (bd_f (bd_sd cm 3 a b) (i - 1))) := propext (nI_ltI (hB _ (by omega)) (hB _ (by omega)))
    have f1 : fr fdk V (iz_up V 37 i (nI (bd_f (bd_sd cm 3 a b) i))) := fr_up (fr_rf _ _) rfl
    obtain ⟨V2, a1, a2, a3, a4⟩ := ih (i + 1) m _ (by omega) (by omega) (bd_Ts hT f1)
    have step : Du_fillFewest_5b 25 (Du_fillFewest_5 25 m) (nI a) (nI b) (nI (bd_f (bd_sd cm 3 a b) (i - 1))) (nI i) V = Du_fillFewest_35 25 (Du_fillFewest_5 25 m) (nI a) (nI b) (nI (bd_f (bd_sd cm 3 a b) i)) (nI i) V := by
      rw [Du_fillFewest_5b, if_pos lt, show Du_sideMelts 25 3 (nI a) (nI b) (nI i) V = _ from s1, bI_s, show Du_sideMelts 25 3 (nI a) (nI b) (nI (bd_f (bd_sd cm 3 a b) (i - 1))) V = _ from s2, bI_s]
      rcases Nat.eq_zero_or_pos i with e | e
      · subst e
        rw [if_neg (fun h => by have h2 : bd_sd cm 3 a b 0 < bd_sd cm 3 a b 0 := lt2.mp h; omega)]
      · obtain ⟨i, rfl⟩ : ∃ z, i = z + 1 := ⟨i - 1, by omega⟩
        rw [Nat.add_sub_cancel] at lt2
        rw [Nat.add_sub_cancel, bd_f]
        by_cases hl : bd_sd cm 3 a b (i + 1) < bd_sd cm 3 a b (bd_f (bd_sd cm 3 a b) i)
        · rw [if_pos (lt2.mpr hl), if_pos hl]
        · rw [if_neg (fun h => hl (lt2.mp h)), if_neg hl]
    refine ⟨V2, ?_, fun d h1 h2 => ?_, fun d hd => ?_, fr_tr (fr_up (fr_rf _ _) (by simp)) a4⟩
    · refine step.trans ?_
      rw [Du_fillFewest_35, i1, ck_t, lt_e, show iz_rf 25 6 = 37 from rfl, s_nI _ _ (show i < 2 ^ 31 by omega), nI_1]
      exact a1
    · by_cases e : d = i
      · subst e
        rw [a3 d (by omega), up_same]
      · rw [a2 d (by omega) h2]
    · rw [a3 d (by omega), up_ne _ _ _ _ (Or.inr (by omega))]
theorem du_keep (V : iz_S) (v a b c d : Int32) : ∃ V2, Du_keep 25 v a b c d V = some V2 ∧ V2.1 25 0 = v ∧ V2.1 25 2 = a + b + c + d ∧ V2.1 26 0 = a ∧ V2.1 26 1 = b ∧ V2.1 26 2 = c ∧ V2.1 26 3 = d ∧ (∀ k, V2.1 37 k = V.1 37 k) ∧ fr fdk V V2 := by
  have r26 : iz_rf 25 1 = 26 := rfl
  have s0 := fun (T : iz_S) p => s_nI T p (show 0 < 2 ^ 31 by omega)
  have s1 := fun (T : iz_S) p => s_nI T p (show 1 < 2 ^ 31 by omega)
  have s2 := fun (T : iz_S) p => s_nI T p (show 2 < 2 ^ 31 by omega)
  have s3 := fun (T : iz_S) p => s_nI T p (show 3 < 2 ^ 31 by omega)
  refine ⟨_, rfl, ?_, ?_, ?_, ?_, ?_, ?_, fun k => ?_, ?_⟩
  · rw [show (3 : Int32) = nI 3 from rfl, s3, show (2 : Int32) = nI 2 from rfl, s2, show (1 : Int32) = nI 1 from rfl, s1, show (0 : Int32) = nI 0 from rfl, s0, r26]
    simp [upA, upd]
  · rw [show (3 : Int32) = nI 3 from rfl, s3, show (2 : Int32) = nI 2 from rfl, s2, show (1 : Int32) = nI 1 from rfl, s1, show (0 : Int32) = nI 0 from rfl, s0, r26]
    simp [upA, upd]
  · rw [show (3 : Int32) = nI 3 from rfl, s3, show (2 : Int32) = nI 2 from rfl, s2, show (1 : Int32) = nI 1 from rfl, s1, show (0 : Int32) = nI 0 from rfl, s0, r26]
    simp [upA, upd]
  · rw [show (3 : Int32) = nI 3 from rfl, s3, show (2 : Int32) = nI 2 from rfl, s2, show (1 : Int32) = nI 1 from rfl, s1, show (0 : Int32) = nI 0 from rfl, s0, r26]
    simp [upA, upd]
  · rw [show (3 : Int32) = nI 3 from rfl, s3, show (2 : Int32) = nI 2 from rfl, s2, show (1 : Int32) = nI 1 from rfl, s1, show (0 : Int32) = nI 0 from rfl, s0, r26]
    simp [upA, upd]
  · rw [show (3 : Int32) = nI 3 from rfl, s3, show (2 : Int32) = nI 2 from rfl, s2, show (1 : Int32) = nI 1 from rfl, s1, show (0 : Int32) = nI 0 from rfl, s0, r26]
    simp [upA, upd]
  · rw [show (3 : Int32) = nI 3 from rfl, s3, show (2 : Int32) = nI 2 from rfl, s2, show (1 : Int32) = nI 1 from rfl, s1, show (0 : Int32) = nI 0 from rfl, s0, r26]
    simp [upA, upd]
  · exact fr_up (fr_up (fr_up (fr_up (fr_up (fr_up (fr_rf _ _) rfl) rfl) rfl) rfl) rfl) rfl
/-- the total of a way, as the tables have it -/
def bd_tt (cm : Nat → Nat → Nat) (a b c d : Nat) : Nat := bd_in cm 16 + bd_aw cm 0 a 16 + bd_aw cm 1 b 16 + bd_sd cm 2 a b c + bd_sd cm 3 a b d
def bd_x (a b c d : Nat) : Nat := 1331 * a + 121 * b + 11 * c + d
/-- the class keeps the best of the first m -/
def bd_P (V : iz_S) (T : Nat → Nat) (n m : Nat) : Prop := bd_p T 2147483647 (mn (bd_k T n) m) (V.1 25 0) (V.1 25 2) (V.1 26)
theorem bd_Pt {V : iz_S} {T : Nat → Nat} {n x m : Nat} (e : mn (bd_k T n) m = some (T x * 64 + bd_s x, x)) (h1 : V.1 25 0 = nI (T x)) (h2 : V.1 25 2 = nI (bd_s x)) (h3 : ∀ i, i < 4 → V.1 26 i = nI (bd_d i x)) : bd_P V T n m := by
  unfold bd_P
  rw [e]
  exact ⟨h1, h2, h3⟩
theorem du_try {cm : Nat → Nat → Nat} {T : Nat → Nat} {n a b : Nat} (hT : ∀ a b c d, a < 11 → b < 11 → c < 11 → d < 11 → T (bd_x a b c d) = bd_tt cm a b c d) (TB : ∀ x, T x < 1000000) (ha : a < 11) (hb : b < 11) (hn : a + b ≤ n) (n40 : n ≤ 40) : ∀ (j c m : Nat) (V : iz_S), c + j = 11 → j < m → bd_T V cm → (∀ k, k < 11 → V.1 37 k = nI (bd_f (bd_sd cm 3 a b) k)) → bd_P V T n (bd_x a b c 0) → ∃ V2, Du_trySides_33 25 m (nI a) (nI b) (nI (n - a - b)) (nI (bd_in cm 16 + bd_aw cm 0 a 16 + bd_aw cm 1 b 16)) (nI c) V = some V2 ∧ bd_P V2 T n (bd_x a b 11 0) ∧ fr fdk V V2 := by
  have out : ∀ c, c ≤ 11 → n - a - b < c ∨ c = 11 → mn (bd_k T n) (bd_x a b 11 0) = mn (bd_k T n) (bd_x a b c 0) := fun c c11 hc => by
    refine bd_u (by unfold bd_x; omega) (fun x h1 h2 => ?_)
    unfold bd_x at h1 h2
    unfold bd_s
    have e1 : x / 1331 = a := by omega
    have e2 : x / 121 % 11 = b := by omega
    have e3 : c ≤ x / 11 % 11 := by omega
    omega
  intro j
  induction j with
  | zero =>
    intro c m V hj hm hV hF hP
    obtain ⟨m, rfl⟩ : ∃ k, m = k + 1 := ⟨m - 1, by omega⟩
    obtain rfl : c = 11 := by omega
    refine ⟨V, ?_, hP, fr_rf _ _⟩
    show Du_trySides_33b 25 (Du_trySides_33 25 m) (nI a) (nI b) (nI (n - a - b)) _ (nI 11) V = _
    rw [Du_trySides_33b, if_neg (show ¬ nI 11 ≤ 10 by decide +kernel), Du_trySides_142]
  | succ j ih =>
    intro c m V hj hm hV hF hP
    obtain ⟨m, rfl⟩ : ∃ k, m = k + 1 := ⟨m - 1, by omega⟩
    have c11 : c < 11 := by omega
    have lt : nI c ≤ 10 := by rw [show (10 : Int32) = nI 10 from rfl, nI_leP (by omega) (by decide)]; omega
    have lt2 : (nI c ≤ nI (n - a - b)) = (c ≤ n - a - b) := nI_leP (by omega) (by omega)
    by_cases hc : c ≤ n - a - b
    · obtain ⟨jj, ejj⟩ : ∃ jj, jj = if n - (a + b + c) < 10 then n - (a + b + c) else 10 := ⟨_, rfl⟩
      have jj10 : jj ≤ 10 := by rw [ejj]; split <;> omega
      have fl := bd_fl (bd_sd cm 3 a b) jj
      obtain ⟨f, ef⟩ : ∃ f, f = bd_f (bd_sd cm 3 a b) jj := ⟨_, rfl⟩
      rw [← ef] at fl
      have ej : (if nI (n - a - b) - nI c < 10 then nI (n - a - b) - nI c else 10) = nI jj := by
        rw [nI_sb hc (by omega), show n - a - b - c = n - (a + b + c) by omega, show (10 : Int32) = nI 10 from rfl, ejj]
        have lq := nI_lt_lit (n := n - (a + b + c)) (N := 10) (by omega) (by decide)
        by_cases hl : n - (a + b + c) < 10
        · rw [if_pos (lq.mpr hl), if_pos hl]
        · rw [if_neg (fun h => hl (lq.mp h)), if_neg hl]
      have i1 := in_ok (n := jj) (N := 11) (by omega) (by decide)
      have s2 := du_side hV (w := 2) (by omega) (by omega) ha hb c11
      have s3 := du_side hV (w := 3) (by omega) (by omega) ha hb (d := f) (by omega)
      have ex : bd_x a b c 0 + f = bd_x a b c f := by unfold bd_x; omega
      obtain ⟨q1, q2, q3, q4⟩ := bd_sx a b c f ha hb c11 (by omega)
      have eT := hT a b c f ha hb c11 (by omega)
      have eS : bd_s (bd_x a b c f) = a + b + c + f := by unfold bd_s bd_x; rw [q1, q2, q3, q4]
      have blk : mn (bd_k T n) (bd_x a b (c + 1) 0) = bd_j (mn (bd_k T n) (bd_x a b c 0)) (some (T (bd_x a b c f) * 64 + bd_s (bd_x a b c f), bd_x a b c f)) := by
        have := bd_b (T := T) (s := bd_sd cm 3 a b) (n := n) (m := bd_x a b c 0) (B := bd_in cm 16 + bd_aw cm 0 a 16 + bd_aw cm 1 b 16 + bd_sd cm 2 a b c) (c := a + b + c) (fun i hi => by
          rw [show bd_x a b c 0 + i = bd_x a b c i by unfold bd_x; omega, hT a b c i ha hb c11 hi]
          rfl) (fun i hi => by
          obtain ⟨q1, q2, q3, q4⟩ := bd_sx a b c i ha hb c11 hi
          rw [show bd_x a b c 0 + i = 1331 * a + 121 * b + 11 * c + i by unfold bd_x; omega]
          unfold bd_s
          rw [q1, q2, q3, q4]) ejj (by omega)
        rw [← ef, ex] at this
        rw [← this]
        congr 1
      have x4 : bd_x a b c f < 14641 := by unfold bd_x; omega
      have m4 : bd_x a b c 0 ≤ 14641 := by unfold bd_x; omega
      obtain ⟨d1, d2⟩ := bd_c (M := 2147483647) (n := n) (L := V.1 26) rfl m4 hP TB (by decide) (by decide) x4
      have e10 : nI (bd_in cm 16 + bd_aw cm 0 a 16 + bd_aw cm 1 b 16) + nI (bd_sd cm 2 a b c) + nI (bd_sd cm 3 a b f) = nI (T (bd_x a b c f)) := by rw [nI_add, nI_add, eT]; rfl
      have e11 : nI a + nI b + nI c + nI f = nI (bd_s (bd_x a b c f)) := by rw [nI_add, nI_add, nI_add, eS]
      have hF2 : V.1 37 jj = nI f := by rw [hF jj (by omega), ef]
      obtain ⟨W, w1, w2, w3⟩ : ∃ W, Du_trySides_33b 25 (Du_trySides_33 25 m) (nI a) (nI b) (nI (n - a - b)) (nI (bd_in cm 16 + bd_aw cm 0 a 16 + bd_aw cm 1 b 16)) (nI c) V = Du_trySides_136 25 (Du_trySides_33 25 m) (nI a) (nI b) (nI (n - a - b)) (nI (bd_in cm 16 + bd_aw cm 0 a 16 + bd_aw cm 1 b 16)) (nI c) W ∧ bd_P W T n (bd_x a b (c + 1) 0) ∧ fr fdk V W ∧ (∀ k, W.1 37 k = V.1 37 k) := by
        obtain ⟨W, k1, k2, k3, k4, k5, k6, k7, k8, k9⟩ := du_keep V (nI (T (bd_x a b c f))) (nI a) (nI b) (nI c) (nI f)
        have hd : ∀ i, i < 4 → W.1 26 i = nI (bd_d i (bd_x a b c f)) := fun i hi => by
          have : i = 0 ∨ i = 1 ∨ i = 2 ∨ i = 3 := by omega
          rcases this with rfl | rfl | rfl | rfl
          · rw [k4]; exact congrArg nI q1.symm
          · rw [k5]; exact congrArg nI q2.symm
          · rw [k6]; exact congrArg nI q3.symm
          · rw [k7]; exact congrArg nI q4.symm
        by_cases hC : nI (T (bd_x a b c f)) < V.1 25 0 ∨ nI (T (bd_x a b c f)) = V.1 25 0 ∧ nI (bd_s (bd_x a b c f)) < V.1 25 2
        · refine ⟨W, ?_, bd_Pt (blk.trans (d1 hC)) k2 (k3.trans e11) hd, k9, k8⟩
          rw [Du_trySides_33b, if_pos lt, if_pos (lt2 ▸ hc), ej, i1, ck_t, lt_e, show iz_rf 25 6 = 37 from rfl, g_nI _ _ (show jj < 2 ^ 31 by omega), hF2, show Du_sideMelts 25 2 (nI a) (nI b) (nI c) V = _ from s2, bI_s, show Du_sideMelts 25 3 (nI a) (nI b) (nI f) V = _ from s3, bI_s, lt_e, lt_e, e10, e11]
          by_cases h1 : nI (T (bd_x a b c f)) < V.1 25 0
          · rw [if_pos h1, Du_trySides_124, k1, bV_s]
          · have h2 := hC.resolve_left h1
            rw [if_neg h1, if_pos h2.1, if_pos h2.2, Du_trySides_124, k1, bV_s]
        · refine ⟨V, ?_, ?_, fr_rf _ _, fun _ => rfl⟩
          · rw [Du_trySides_33b, if_pos lt, if_pos (lt2 ▸ hc), ej, i1, ck_t, lt_e, show iz_rf 25 6 = 37 from rfl, g_nI _ _ (show jj < 2 ^ 31 by omega), hF2, show Du_sideMelts 25 2 (nI a) (nI b) (nI c) V = _ from s2, bI_s, show Du_sideMelts 25 3 (nI a) (nI b) (nI f) V = _ from s3, bI_s, lt_e, lt_e, e10, e11]
            rw [if_neg (fun h => hC (Or.inl h))]
            by_cases h1 : nI (T (bd_x a b c f)) = V.1 25 0
            · rw [if_pos h1, if_neg (fun h => hC (Or.inr ⟨h1, h⟩))]
            · rw [if_neg h1]
          · unfold bd_P
            rw [blk, d2 hC]
            exact hP
      obtain ⟨V2, a1, a2, a3⟩ := ih (c + 1) m W (by omega) (by omega) (bd_Ts hV w3.1) (fun k hk => by rw [w3.2 k]; exact hF k hk) w2
      refine ⟨V2, ?_, a2, fr_tr w3.1 a3⟩
      refine Eq.trans w1 ?_
      rw [Du_trySides_136, nI_1]
      exact a1
    · refine ⟨V, ?_, ?_, fr_rf _ _⟩
      · show Du_trySides_33b 25 (Du_trySides_33 25 m) (nI a) (nI b) (nI (n - a - b)) _ (nI c) V = _
        rw [Du_trySides_33b, if_pos lt, if_neg (lt2 ▸ hc), Du_trySides_142]
      · unfold bd_P
        rw [out c (by omega) (by omega)]
        exact hP
