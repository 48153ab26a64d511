/-! PURE: cut -/
/-- a sum over the cells of a square, up to n -/
def sqs (g : Nat → Nat) (s : Nat) : Nat → Nat
  | 0 => 0
  | n + 1 => sqs g s n + if io n s = true then g n else 0
def s1_ (g : Nat → Nat) (a : Nat) : Nat → Nat
  | 0 => 0
  | n + 1 => s1_ g a n + if n = a then g n else 0
theorem s1_v (g : Nat → Nat) (a : Nat) : ∀ n, s1_ g a n = if a < n then g a else 0
  | 0 => rfl
  | n + 1 => by
    rw [s1_, s1_v g a n]
    by_cases e : n = a
    · subst e
      rw [if_neg (by omega), if_pos rfl, if_pos (by omega), Nat.zero_add]
    · rw [if_neg e, Nat.add_zero]
      by_cases q : a < n
      · rw [if_pos q, if_pos (by omega)]
      · rw [if_neg q, if_neg (by omega)]
theorem sqs_4 (g : Nat → Nat) (s : Nat) : ∀ n, sqs g s n = s1_ g s n + s1_ g (s + 1) n + s1_ g (s + 8) n + s1_ g (s + 9) n
  | 0 => rfl
  | n + 1 => by
    rw [sqs, s1_, s1_, s1_, s1_, sqs_4 g s n]
    have e : (if io n s = true then g n else 0) = (if n = s then g n else 0) + (if n = s + 1 then g n else 0) + (if n = s + 8 then g n else 0) + (if n = s + 9 then g n else 0) := by
      unfold io
      simp only [Bool.or_eq_true, beq_iff_eq]
      by_cases q1 : n = s
      · rw [if_pos (by omega), if_pos q1, if_neg (by omega), if_neg (by omega), if_neg (by omega)]; omega
      · rw [if_neg q1]
        by_cases q2 : n = s + 1
        · rw [if_pos (by omega), if_pos q2, if_neg (by omega), if_neg (by omega)]; omega
        · rw [if_neg q2]
          by_cases q3 : n = s + 8
          · rw [if_pos (by omega), if_pos q3, if_neg (by omega)]; omega
          · rw [if_neg q3]
            by_cases q4 : n = s + 9
            · rw [if_pos (by omega), if_pos q4]; omega
            · rw [if_neg (by omega), if_neg q4]
    rw [e]
    omega
theorem sqs_64 (g : Nat → Nat) {s : Nat} (hs : isq s = true) : sqs g s 64 = g s + g (s + 1) + g (s + 8) + g (s + 9) := by
  have := isq_lt hs
  rw [sqs_4, s1_v, s1_v, s1_v, s1_v, if_pos (by omega), if_pos (by omega), if_pos (by omega), if_pos (by omega)]
/-- the lake as numbers -/
def lk (S : iz_S) (pt ps pm : Nat) (t w m : Nat → Nat) : Prop := ∀ c, c < 64 → S.1 pt c = nI (t c) ∧ S.1 ps c = nI (w c) ∧ S.1 pm c = nI (m c)
def lkb (t w m : Nat → Nat) : Prop := ∀ c, t c ≤ 60 ∧ w c ≤ 30 ∧ m c ≤ 1 ∧ (t c = 0 → w c = 0 ∧ m c = 0)
theorem lake_f {S : iz_S} (h : rl_lake S) : ∃ t w m, lk S 2 3 4 t w m ∧ lk S 83 84 85 t w m ∧ lkb t w m := by
  have key : ∀ c, ∃ q : Nat × Nat × Nat, (c < 64 → S.1 2 c = nI q.1 ∧ S.1 3 c = nI q.2.1 ∧ S.1 4 c = nI q.2.2) ∧ q.1 ≤ 60 ∧ q.2.1 ≤ 30 ∧ q.2.2 ≤ 1 ∧ (q.1 = 0 → q.2.1 = 0 ∧ q.2.2 = 0) := fun c => by
    by_cases hc : c < 64
    · obtain ⟨-, -, -, t, w, m, t1, w1, m1, e1, e2, e3, e4⟩ := h c hc
      exact ⟨(t, w, m), fun _ => ⟨e1, e2, e3⟩, t1, w1, m1, e4⟩
    · exact ⟨(0, 0, 0), fun q => absurd q hc, by decide, by decide, by decide, fun _ => ⟨rfl, rfl⟩⟩
  refine ⟨fun c => (Classical.choose (key c)).1, fun c => (Classical.choose (key c)).2.1, fun c => (Classical.choose (key c)).2.2, fun c hc => (Classical.choose_spec (key c)).1 hc, fun c hc => ?_, fun c => (Classical.choose_spec (key c)).2⟩
  obtain ⟨g1, g2, g3, -⟩ := h c hc
  rw [g1, g2, g3]
  exact (Classical.choose_spec (key c)).1 hc
theorem f_lake {S : iz_S} {t w m : Nat → Nat} (h1 : lk S 2 3 4 t w m) (h2 : lk S 83 84 85 t w m) (h3 : lkb t w m) : rl_lake S := fun c hc => by
  obtain ⟨a1, a2, a3⟩ := h1 c hc
  obtain ⟨b1, b2, b3⟩ := h2 c hc
  obtain ⟨c1, c2, c3, c4⟩ := h3 c
  exact ⟨b1.trans a1.symm, b2.trans a2.symm, b3.trans a3.symm, t c, w c, m c, c1, c2, c3, a1, a2, a3, c4⟩
/-- the cells of s opened -/
def opn (g : Nat → Nat) (s : Nat) (c : Nat) : Nat := if io c s = true then 0 else g c
theorem la_open {S : iz_S} {t w m : Nat → Nat} {s : Nat} (hs : isq s = true) (h : lk S 2 3 4 t w m) : ∃ S2, La_open 1 (nI s) S = some S2 ∧ lk S2 2 3 4 (opn t s) (opn w s) (opn m s) ∧ fr (fun p _ => p == 2 || p == 3 || p == 4) S S2 := by
  have s55 := isq_lt hs
  have oc : ∀ (c : Nat) (T : iz_S), c < 64 → La_openCell 1 (nI c) T = some (iz_up (iz_up (iz_up T 2 c 0) 3 c 0) 4 c 0) := fun c T hc => by
    have i1 := in_ok (n := c) (N := 64) hc (by decide)
    have sc := fun (T : iz_S) p => s_nI T p (show c < 2 ^ 31 by omega)
    simp only [La_openCell, ck_t, lt_e, bI_s, bL_s, bV_s, one_n0, zero_0, if_true, if_false, rfs, i1, sc, nb_0]
  have e8 : nI s + 8 = nI (s + 8) := nI_add s 8
  obtain ⟨S1, h1⟩ : ∃ S1, S1 = iz_up (iz_up (iz_up S 2 s 0) 3 s 0) 4 s 0 := ⟨_, rfl⟩
  obtain ⟨S2, h2⟩ : ∃ S2, S2 = iz_up (iz_up (iz_up S1 2 (s + 1) 0) 3 (s + 1) 0) 4 (s + 1) 0 := ⟨_, rfl⟩
  obtain ⟨S3, h3⟩ : ∃ S3, S3 = iz_up (iz_up (iz_up S2 2 (s + 8) 0) 3 (s + 8) 0) 4 (s + 8) 0 := ⟨_, rfl⟩
  obtain ⟨S4, h4⟩ : ∃ S4, S4 = iz_up (iz_up (iz_up S3 2 (s + 9) 0) 3 (s + 9) 0) 4 (s + 9) 0 := ⟨_, rfl⟩
  have lk1 : ∀ (T T2 : iz_S) (a : Nat) (t w m : Nat → Nat), T2 = iz_up (iz_up (iz_up T 2 a 0) 3 a 0) 4 a 0 → lk T 2 3 4 t w m → lk T2 2 3 4 (wtU t a 0) (wtU w a 0) (wtU m a 0) := fun T T2 a t w m e hT c hc => by
    subst e
    by_cases q : c = a
    · subst q
      rw [wtU_s, wtU_s, wtU_s]
      refine ⟨?_, ?_, ?_⟩
      · rw [up_p _ _ _ _ (by decide), up_p _ _ _ _ (by decide), up_same]; rfl
      · rw [up_p _ _ _ _ (by decide), up_same]; rfl
      · rw [up_same]; rfl
    · rw [wtU_n q, wtU_n q, wtU_n q, up_ne _ _ _ _ (Or.inr q), up_ne _ _ _ _ (Or.inr q), up_ne _ _ _ _ (Or.inr q), up_ne _ _ _ _ (Or.inr q), up_ne _ _ _ _ (Or.inr q), up_ne _ _ _ _ (Or.inr q), up_ne _ _ _ _ (Or.inr q), up_ne _ _ _ _ (Or.inr q), up_ne _ _ _ _ (Or.inr q)]
      exact hT c hc
  have k4 := lk1 S3 S4 (s + 9) _ _ _ h4 (lk1 S2 S3 (s + 8) _ _ _ h3 (lk1 S1 S2 (s + 1) _ _ _ h2 (lk1 S S1 s _ _ _ h1 h)))
  have eo : ∀ g : Nat → Nat, wtU (wtU (wtU (wtU g s 0) (s + 1) 0) (s + 8) 0) (s + 9) 0 = opn g s := fun g => by
    funext c
    have e : wtU (wtU (wtU (wtU g s 0) (s + 1) 0) (s + 8) 0) (s + 9) 0 c = if c = s + 9 then 0 else if c = s + 8 then 0 else if c = s + 1 then 0 else if c = s then 0 else g c := rfl
    rw [e]
    unfold opn io
    simp only [Bool.or_eq_true, beq_iff_eq]
    by_cases q1 : c = s + 9
    · rw [if_pos q1, if_pos (by omega)]
    · rw [if_neg q1]
      by_cases q2 : c = s + 8
      · rw [if_pos q2, if_pos (by omega)]
      · rw [if_neg q2]
        by_cases q3 : c = s + 1
        · rw [if_pos q3, if_pos (by omega)]
        · rw [if_neg q3]
          by_cases q4 : c = s
          · rw [if_pos q4, if_pos (by omega)]
          · rw [if_neg q4, if_neg (by omega)]
  rw [eo, eo, eo] at k4
  refine ⟨S4, ?_, k4, ?_⟩
  · rw [La_open, oc s S (by omega), bV_s, ← h1, nI_1, oc (s + 1) S1 (by omega), bV_s, ← h2, e8, oc (s + 8) S2 (by omega), bV_s, ← h3, nI_1, oc (s + 8 + 1) S3 (by omega), bV_s, show s + 8 + 1 = s + 9 from rfl, ← h4]
  · rw [h4, h3, h2, h1]
    exact fr_up (fr_up (fr_up (fr_up (fr_up (fr_up (fr_up (fr_up (fr_up (fr_up (fr_up (fr_up (fr_rf _ _) rfl) rfl) rfl) rfl) rfl) rfl) rfl) rfl) rfl) rfl) rfl) rfl
/-- the kind of a block -/
def knd (mk sm : Nat) : Nat := if 2 ≤ mk then 2 else if mk = 1 then 0 else if sm < 48 then 3 else 1
theorem knd_le (mk sm : Nat) : knd mk sm ≤ 3 := by unfold knd; split; omega; split; omega; split <;> omega
theorem la_kind {S : iz_S} {t w m : Nat → Nat} {s : Nat} (hs : isq s = true) (h : lk S 2 3 4 t w m) (hb : lkb t w m) : La_kindOf 1 (nI s) S = some (nI (knd (sqs m s 64) (sqs t s 64)), S) ∧ La_thicksOf 1 (nI s) S = some (nI (sqs t s 64), S) := by
  have s55 := isq_lt hs
  have e8 : nI s + 8 = nI (s + 8) := nI_add s 8
  have mk : ∀ c, c < 64 → La_milk 1 (nI c) S = some (nI (m c), S) := fun c hc => by
    have i1 := in_ok (n := c) (N := 64) hc (by decide)
    have m1 := (hb c).2.2.1
    have e0 : (nI (m c) = 0) = (m c = 0) := n0_iff (by omega)
    simp only [La_milk, La_milk_14, ck_t, lt_e, bI_s, bL_s, bV_s, one_n0, zero_0, if_true, if_false, rfs, i1, g_nI _ _ (show c < 2 ^ 31 by omega), (h c hc).2.2, e0]
    by_cases q : m c = 0
    · rw [if_pos q, q]; rfl
    · rw [if_neg q, show m c = 1 by omega]; rfl
  have i0 := in_ok (n := s) (N := 64) (by omega) (by decide)
  have i1 := in_ok (n := s + 1) (N := 64) (by omega) (by decide)
  have i8 := in_ok (n := s + 8) (N := 64) (by omega) (by decide)
  have i9 := in_ok (n := s + 8 + 1) (N := 64) (by omega) (by decide)
  have th : La_thicksOf 1 (nI s) S = some (nI (sqs t s 64), S) := by
    rw [sqs_64 t hs, La_thicksOf, e8, nI_1, nI_1, i0, ck_t, i1, ck_t, i8, ck_t, i9, ck_t, show iz_rf 1 0 = 2 from rfl, g_nI _ _ (show s < 2 ^ 31 by omega), g_nI _ _ (show s + 1 < 2 ^ 31 by omega), g_nI _ _ (show s + 8 < 2 ^ 31 by omega), g_nI _ _ (show s + 8 + 1 < 2 ^ 31 by omega), (h s (by omega)).1, (h (s + 1) (by omega)).1, (h (s + 8) (by omega)).1, (h (s + 8 + 1) (by omega)).1, nI_add, nI_add, nI_add]
  refine ⟨?_, th⟩
  have b0 := hb s
  have b1 := hb (s + 1)
  have b8 := hb (s + 8)
  have b9 := hb (s + 9)
  have es := sqs_64 m hs
  have et := sqs_64 t hs
  have l2 : (nI (sqs m s 64) < 2) = (sqs m s 64 < 2) := propext (nI_ltI (b := 2) (by omega) (by decide))
  have l1 : (nI (sqs m s 64) = 1) = (sqs m s 64 = 1) := propext (nI_eq (b := 1) (by omega) (by decide))
  have l48 : (nI (sqs t s 64) < 48) = (sqs t s 64 < 48) := propext (nI_ltI (b := 48) (by omega) (by decide))
  have v9 : nI (m s) + nI (m (s + 1)) + nI (m (s + 8)) + nI (m (s + 8 + 1)) = nI (sqs m s 64) := by rw [nI_add, nI_add, nI_add, es]
  rw [La_kindOf, mk s (by omega), bI_s, nI_1, mk (s + 1) (by omega), bI_s, e8, mk (s + 8) (by omega), bI_s, nI_1, mk (s + 8 + 1) (by omega), bI_s, lt_e, v9]
  unfold knd
  by_cases q2 : sqs m s 64 < 2
  · rw [if_pos (by rw [l2]; exact q2), if_neg (show ¬ 2 ≤ sqs m s 64 by omega)]
    by_cases q1 : sqs m s 64 = 1
    · rw [if_pos (by rw [l1]; exact q1), if_pos q1]; rfl
    · rw [if_neg (by rw [l1]; exact q1), if_neg q1, th, bI_s]
      by_cases q3 : sqs t s 64 < 48
      · rw [if_pos (by rw [l48]; exact q3), if_pos q3, La_kindOf_63]; rfl
      · rw [if_neg (by rw [l48]; exact q3), if_neg q3, La_kindOf_63]; rfl
  · rw [if_neg (by rw [l2]; exact q2), if_pos (show 2 ≤ sqs m s 64 by omega)]; rfl
/-- the reference's way through the cells -/
theorem mo_c49 {t w m : Nat → Nat} {s : Nat} (hs : isq s = true) (hb : lkb t w m) : ∀ (j c n : Nat) (S : iz_S), c + j = 64 → j < n → (∀ i, i < 64 → S.1 83 i = nI (if i < c then opn t s i else t i) ∧ S.1 84 i = nI (if i < c then opn w s i else w i) ∧ S.1 85 i = nI (if i < c then opn m s i else m i)) →
    ∃ S2 : iz_S, Mo_cut_49 82 n (nI s) (nI (sqs t s c)) (nI (sqs m s c)) (nI c) S = Mo_cut_150 82 (nI (sqs t s 64)) (S2.1 82 3) (nI (knd (sqs m s 64) (sqs t s 64))) S2 ∧ lk S2 83 84 85 (opn t s) (opn w s) (opn m s) ∧ fr (fun p _ => p == 83 || p == 84 || p == 85) S S2 := by
  intro j
  induction j with
  | zero =>
    intro c n S hc hn h
    obtain ⟨k, rfl⟩ : ∃ k, n = k + 1 := ⟨n - 1, by omega⟩
    obtain rfl : c = 64 := by omega
    have lt : ¬ nI 64 < 64 := by decide +kernel
    refine ⟨S, ?_, fun c hc => ?_, fr_rf _ _⟩
    · have es := sqs_64 m hs
      have et := sqs_64 t hs
      have b0 := hb s
      have b1 := hb (s + 1)
      have b8 := hb (s + 8)
      have b9 := hb (s + 9)
      have l2 : (nI (sqs m s 64) ≤ 1) = (sqs m s 64 ≤ 1) := nI_leP (b := 1) (by omega) (by decide)
      have l1 : (nI (sqs m s 64) = 1) = (sqs m s 64 = 1) := propext (nI_eq (b := 1) (by omega) (by decide))
      have l48 : (nI (sqs t s 64) < 48) = (sqs t s 64 < 48) := propext (nI_ltI (b := 48) (by omega) (by decide))
      show Mo_cut_49b 82 (Mo_cut_49 82 k) (nI s) (nI (sqs t s 64)) (nI (sqs m s 64)) (nI 64) S = _
      rw [Mo_cut_49b, if_neg lt]
      unfold knd
      by_cases q2 : sqs m s 64 ≤ 1
      · rw [if_pos (by rw [l2]; exact q2), if_neg (show ¬ 2 ≤ sqs m s 64 by omega)]
        by_cases q1 : sqs m s 64 = 1
        · rw [if_pos (by rw [l1]; exact q1), if_pos q1]; rfl
        · rw [if_neg (by rw [l1]; exact q1), if_neg q1]
          by_cases q3 : sqs t s 64 < 48
          · rw [if_pos (by rw [l48]; exact q3), if_pos q3]; rfl
          · rw [if_neg (by rw [l48]; exact q3), if_neg q3]; rfl
      · rw [if_neg (by rw [l2]; exact q2), if_pos (show 2 ≤ sqs m s 64 by omega)]; rfl
    · have := h c hc
      rw [if_pos hc, if_pos hc, if_pos hc] at this
      exact this
  | succ j ih =>
    intro c n S hc hn h
    obtain ⟨k, rfl⟩ : ∃ k, n = k + 1 := ⟨n - 1, by omega⟩
    have c64 : c < 64 := by omega
    have lt : nI c < 64 := nI_lt (b := 64) c64 (by omega)
    have i1 := in_ok (n := c) (N := 64) c64 (by decide)
    have n1 : ¬ (1 : Int32) = 0 := by decide
    have gc := fun (T : iz_S) p => g_nI T p (show c < 2 ^ 31 by omega)
    have sc := fun (T : iz_S) p => s_nI T p (show c < 2 ^ 31 by omega)
    have hcc := h c c64
    rw [if_neg (by omega), if_neg (by omega), if_neg (by omega)] at hcc
    by_cases hio : io c s = true
    · obtain ⟨T, hT⟩ : ∃ T, T = iz_up (iz_up (iz_up S 83 c 0) 84 c 0) 85 c 0 := ⟨_, rfl⟩
      have fT : fr (fun p _ => p == 83 || p == 84 || p == 85) S T := by
        rw [hT]
        exact fr_up (fr_up (fr_up (fr_rf _ _) rfl) rfl) rfl
      obtain ⟨S2, a1, a2, a3⟩ := ih (c + 1) k T (by omega) (by omega) (fun i hi => by
        by_cases e : i = c
        · subst e
          rw [if_pos (by omega), if_pos (by omega), if_pos (by omega)]
          unfold opn
          rw [if_pos hio, if_pos hio, if_pos hio, hT]
          refine ⟨?_, ?_, ?_⟩
          · rw [up_p _ _ _ _ (by decide), up_p _ _ _ _ (by decide), up_same]; rfl
          · rw [up_p _ _ _ _ (by decide), up_same]; rfl
          · rw [up_same]; rfl
        · rw [hT, up_ne _ _ _ _ (Or.inr e), up_ne _ _ _ _ (Or.inr e), up_ne _ _ _ _ (Or.inr e), up_ne _ _ _ _ (Or.inr e), up_ne _ _ _ _ (Or.inr e), up_ne _ _ _ _ (Or.inr e), up_ne _ _ _ _ (Or.inr e), up_ne _ _ _ _ (Or.inr e), up_ne _ _ _ _ (Or.inr e)]
          have := h i hi
          have ei : (i < c + 1) = (i < c) := by apply propext; omega
          simp only [ei]
          exact this)
      refine ⟨S2, ?_, a2, fr_tr fT a3⟩
      rw [← a1]
      have cl : Mo_clean 82 (nI c) (iz_up S 83 c 0) = some T := by
        have u : (iz_up S 83 c 0).1 83 c = 0 := up_same _ _ _ _
        simp only [Mo_clean, Mo_clean_23, ck_t, lt_e, bI_s, bL_s, bV_s, one_n0, zero_0, if_true, if_false, rfs, i1, gc, sc, u, nb_0, ← hT]
      have m1 := (hb c).2.2.1
      have e0 : (nI (m c) = 0) = (m c = 0) := n0_iff (by omega)
      have ssm : sqs m s (c + 1) = sqs m s c + m c := by rw [sqs, if_pos hio]
      have sst : sqs t s (c + 1) = sqs t s c + t c := by rw [sqs, if_pos hio]
      have e91 : ∀ x3, Mo_cut_91 82 (Mo_cut_49 82 k) (nI s) (nI (sqs t s (c + 1))) (nI c) (nI (sqs m s c)) x3 S = Mo_cut_49 82 k (nI s) (nI (sqs t s (c + 1))) (nI (sqs m s c) + x3) (nI (c + 1)) T := fun x3 => by
        rw [Mo_cut_91, lt_e, i1, ck_t, lt_e, show iz_rf 82 0 = 83 from rfl, sc, cl, bV_s, Mo_cut_107, nI_1]
      show Mo_cut_49b 82 (Mo_cut_49 82 k) (nI s) (nI (sqs t s c)) (nI (sqs m s c)) (nI c) S = _
      rw [Mo_cut_49b, if_pos lt, mo_isOf hs c64, bI_s, if_pos hio, if_neg n1, i1, ck_t, lt_e, ck_t, show iz_rf 82 0 = 83 from rfl, show iz_rf 82 2 = 85 from rfl, gc, gc, hcc.1, hcc.2.2, nI_add, ← sst]
      by_cases q : m c = 0
      · rw [if_pos (by rw [e0]; exact q), e91, Int32.add_zero, ssm, q]
        rfl
      · rw [if_neg (by rw [e0]; exact q), e91, ssm, show m c = 1 by omega, nI_1]
    · obtain ⟨S2, a1, a2, a3⟩ := ih (c + 1) k S (by omega) (by omega) (fun i hi => by
        by_cases e : i = c
        · subst e
          rw [if_pos (by omega), if_pos (by omega), if_pos (by omega)]
          unfold opn
          rw [if_neg hio, if_neg hio, if_neg hio]
          exact hcc
        · have := h i hi
          have ei : (i < c + 1) = (i < c) := by apply propext; omega
          simp only [ei]
          exact this)
      refine ⟨S2, ?_, a2, a3⟩
      rw [← a1]
      have ssm : sqs m s (c + 1) = sqs m s c := by rw [sqs, if_neg hio, Nat.add_zero]
      have sst : sqs t s (c + 1) = sqs t s c := by rw [sqs, if_neg hio, Nat.add_zero]
      show Mo_cut_49b 82 (Mo_cut_49 82 k) (nI s) (nI (sqs t s c)) (nI (sqs m s c)) (nI c) S = _
      rw [Mo_cut_49b, if_pos lt, mo_isOf hs c64, bI_s, if_neg hio, if_pos rfl, Mo_cut_107, nI_1, ssm, sst]
theorem bk_cg2 {kd kd2 wt wt2 : Nat → Nat} : ∀ {L : List Nat}, (∀ i, i ∈ L → kd i = kd2 i ∧ wt i = wt2 i) → hl_bk kd wt L = hl_bk kd2 wt2 L
  | [], _ => rfl
  | a :: R, h => by
    have h2 : ∀ i, i ∈ R → kd i = kd2 i ∧ wt i = wt2 i := fun i hi => h i (List.mem_cons_of_mem a hi)
    have ha := h a List.mem_cons_self
    rw [hl_bk, hl_bk, ha.1, ha.2, sm_cong (fun i hi => (h2 i hi).2), bk_cg2 h2]
def shN (sh : Nat → Bool) (B : Nat) : Nat → Bool := fun i => if i = B then true else sh i
theorem shN_s (sh : Nat → Bool) (B : Nat) : shN sh B B = true := if_pos rfl
theorem shN_n {sh : Nat → Bool} {B i : Nat} (h : i ≠ B) : shN sh B i = sh i := if_neg h
/-- a new block on the shore -/
theorem hvg_new {S T : iz_S} {kp wp pp hp sp B w K V : Nat} {kd wt : Nat → Nat} {sh : Nat → Bool} {col : Nat → List Nat} (h : hvg S kp wp pp hp sp B kd wt sh col) (hi : hvi B w kd wt sh col) (f1 : ∀ k, k ≠ B → T.1 kp k = S.1 kp k) (f1B : T.1 kp B = nI K) (f2 : ∀ k, k ≠ B → T.1 wp k = S.1 wp k) (f2B : T.1 wp B = nI V) (f3 : ∀ k, k ≠ B → T.1 pp k = S.1 pp k) (f3B : T.1 pp B = 0) (f4 : ∀ k, T.1 hp k = S.1 hp k) (f5 : ∀ k, T.1 sp k = S.1 sp k) :
    hvg T kp wp pp hp sp (B + 1) (wtU kd B K) (wtU wt B V) (shN sh B) col := by
  refine ⟨fun i hiB => ?_, fun c hc => by rw [f4]; exact h.2.1 c hc, fun c l hc hl => by rw [f5]; exact h.2.2 c l hc hl⟩
  by_cases e : i = B
  · subst e
    unfold hl_w hl_p
    rw [f1B, f2B, f3B, shN_s, if_pos rfl, if_pos rfl, wtU_s, wtU_s]
    exact ⟨rfl, rfl, rfl⟩
  · obtain ⟨g1, g2, g3⟩ := h.1 i (by omega)
    unfold hl_w at g2 ⊢
    unfold hl_p at g3 ⊢
    rw [f1 i e, f2 i e, f3 i e, shN_n e, wtU_n e, wtU_n e]
    exact ⟨g1, g2, g3⟩
theorem hvi_new {B w K V : Nat} {kd wt : Nat → Nat} {sh : Nat → Bool} {col : Nat → List Nat} (hi : hvi B w kd wt sh col) (hB : B < 60) (hK : K ≤ 3) (hV : V ≤ 1200) : hvi (B + 1) w (wtU kd B K) (wtU wt B V) (shN sh B) col := by
  obtain ⟨h1, h2, h3, h4, h5, h6⟩ := hi
  refine ⟨by omega, h2, fun i hiB => ?_, h4, fun c i c16 hm => ?_, h6⟩
  · by_cases e : i = B
    · subst e; rw [wtU_s, wtU_s]; exact ⟨hK, hV⟩
    · rw [wtU_n e, wtU_n e]; exact h3 i (by omega)
  · obtain ⟨a, b⟩ := h5 c i c16 hm
    refine ⟨by omega, ?_⟩
    rw [shN_n (by omega)]; exact b
