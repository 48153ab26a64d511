/-! PURE: season, reference side -/
def cl_ (s i : Nat) : Nat := s + 8 * (i / 2) + i % 2
theorem cl_dec : ∀ i, i < 4 → (8 : Int32) * (nI i / 2) = nI (8 * (i / 2)) ∧ nI i - nI i / 2 * 2 = nI (i % 2) := by decide +kernel
theorem cl_I {s i : Nat} (hi : i < 4) : nI s + (8 : Int32) * (nI i / 2) + (nI i - nI i / 2 * 2) = nI (cl_ s i) := by
  rw [(cl_dec i hi).1, (cl_dec i hi).2, nI_add, nI_add]
  rfl
theorem cl_inj {s i k : Nat} (hi : i < 4) (hk : k < 4) (h : cl_ s i = cl_ s k) : i = k := by
  unfold cl_ at h
  omega
theorem cl_lt {s i : Nat} (hs : isq s = true) (hi : i < 4) : cl_ s i < 64 := by
  have := isq_lt hs
  unfold cl_
  omega
theorem cl_io {s c : Nat} : io c s = true ↔ ∃ i, i < 4 ∧ c = cl_ s i := by
  unfold io cl_
  simp only [Bool.or_eq_true, beq_iff_eq]
  constructor
  · intro h
    rcases h with ((h | h) | h) | h
    · exact ⟨0, by omega, by omega⟩
    · exact ⟨1, by omega, by omega⟩
    · exact ⟨2, by omega, by omega⟩
    · exact ⟨3, by omega, by omega⟩
  · rintro ⟨i, h1, h2⟩
    obtain rfl | rfl | rfl | rfl : i = 0 ∨ i = 1 ∨ i = 2 ∨ i = 3 := by omega
    all_goals omega
theorem mo_sv {s a : Nat} (hs : isq s = true) (ha : a + 4 ≤ 256) (rc : Nat → Int32 → Int32 → iz_S → Option iz_S) (k40 : Int32 → Int32 → Int32 → iz_S → Option iz_S) (x1 x2 x3 : Int32) : ∀ (j i m : Nat) (S : iz_S), i + j = 4 → j < m →
    ∃ S2, Mo_trySeason_85 82 rc k40 m x1 x2 x3 (nI s) (nI a) (nI i) S = iz_ck (iz_in x2 6) (iz_lt (iz_s S2 110 x2 (nI s)) (fun S7 => iz_bV (rc 82 (x1 ||| ((1 : Int32) <<< (x3 &&& 31))) (x2 + 1) S7) (fun S8 => Mo_trySeason_162 82 rc k40 iz_FU x1 x2 x3 (nI s) (nI a) 0 S8))) ∧ (∀ q, i ≤ q → q < 4 → S2.1 83 (cl_ s q) = 0 ∧ S2.1 112 (a + q) = S.1 83 (cl_ s q)) ∧ (∀ c, (∀ q, i ≤ q → q < 4 → c ≠ cl_ s q) → S2.1 83 c = S.1 83 c) ∧ (∀ q, q < a + i → S2.1 112 q = S.1 112 q) ∧ fr (fun p _ => p == 83 || p == 112) S S2 := by
  intro j
  induction j with
  | zero =>
    intro i m S hi hm
    obtain ⟨m, rfl⟩ : ∃ z, m = z + 1 := ⟨m - 1, by omega⟩
    have lt : ¬ nI i < 4 := nI_nlt (b := 4) (by omega) (by omega)
    refine ⟨S, ?_, fun q h1 h2 => by omega, fun c _ => rfl, fun q _ => rfl, fr_rf _ _⟩
    show Mo_trySeason_85b 82 rc k40 (Mo_trySeason_85 82 rc k40 m) x1 x2 x3 (nI s) (nI a) (nI i) S = _
    rw [Mo_trySeason_85b, if_neg lt, show iz_rf 82 33 = 110 from rfl]
  | succ j ih =>
    intro i m S hi hm
    obtain ⟨m, rfl⟩ : ∃ z, m = z + 1 := ⟨m - 1, by omega⟩
    have i4 : i < 4 := by omega
    have lt : nI i < 4 := nI_lt (b := 4) i4 (by omega)
    have c64 := cl_lt hs i4
    have i1 := in_ok (n := cl_ s i) (N := 64) c64 (by decide)
    have i2 := in_ok (n := a + i) (N := 256) (by omega) (by decide)
    obtain ⟨T, hT⟩ : ∃ T, T = iz_up (iz_up S 112 (a + i) (S.1 83 (cl_ s i))) 83 (cl_ s i) 0 := ⟨_, rfl⟩
    have fT : fr (fun p _ => p == 83 || p == 112) S T := by rw [hT]; exact fr_up (fr_up (fr_rf _ _) rfl) rfl
    have t83 : ∀ c, c ≠ cl_ s i → T.1 83 c = S.1 83 c := fun c hc => by rw [hT, up_ne _ _ _ _ (Or.inr hc), up_p _ _ _ _ (by decide)]
    obtain ⟨S2, a1, a2, a3, a4, a5⟩ := ih (i + 1) m T (by omega) (by omega)
    refine ⟨S2, ?_, fun q h1 h2 => ?_, fun c hc => ?_, fun q hq => ?_, fr_tr fT a5⟩
    · rw [← a1]
      show Mo_trySeason_85b 82 rc k40 (Mo_trySeason_85 82 rc k40 m) x1 x2 x3 (nI s) (nI a) (nI i) S = _
      rw [Mo_trySeason_85b, if_pos lt, lt_e, cl_I i4, i1, ck_t, nI_add, i2, ck_t, lt_e, ck_t, lt_e, show iz_rf 82 36 = 112 from rfl, show iz_rf 82 0 = 83 from rfl, g_nI _ _ (show cl_ s i < 2 ^ 31 by omega), s_nI _ _ (show a + i < 2 ^ 31 by omega), s_nI _ _ (show cl_ s i < 2 ^ 31 by omega), ← hT, nI_1]
    · by_cases e : q = i
      · subst e
        refine ⟨?_, ?_⟩
        · rw [a3 _ (fun q2 h3 h4 z => by have := cl_inj i4 h4 z; omega), hT, up_same]
        · rw [a4 _ (by omega), hT, up_p _ _ _ _ (by decide), up_same]
      · obtain ⟨z1, z2⟩ := a2 q (by omega) h2
        exact ⟨z1, by rw [z2, t83 _ (fun z => e (cl_inj h2 i4 z))]⟩
    · rw [a3 c (fun q h1 h2 => hc q (by omega) h2), t83 c (hc i (Nat.le_refl i) i4)]
    · rw [a4 q (by omega), hT, up_p _ _ _ _ (by decide), up_ne _ _ _ _ (Or.inr (by omega))]
theorem mo_rs {s a : Nat} (hs : isq s = true) (ha : a + 4 ≤ 256) (rc : Nat → Int32 → Int32 → iz_S → Option iz_S) (k40 : Int32 → Int32 → Int32 → iz_S → Option iz_S) (x1 x2 x3 : Int32) : ∀ (j i m : Nat) (S : iz_S), i + j = 4 → j < m →
    ∃ S2, Mo_trySeason_162 82 rc k40 m x1 x2 x3 (nI s) (nI a) (nI i) S = k40 x1 x2 (x3 + 1) S2 ∧ (∀ q, i ≤ q → q < 4 → S2.1 83 (cl_ s q) = S.1 112 (a + q)) ∧ (∀ c, (∀ q, i ≤ q → q < 4 → c ≠ cl_ s q) → S2.1 83 c = S.1 83 c) ∧ fr (fun p _ => p == 83) S S2 := by
  intro j
  induction j with
  | zero =>
    intro i m S hi hm
    obtain ⟨m, rfl⟩ : ∃ z, m = z + 1 := ⟨m - 1, by omega⟩
    have lt : ¬ nI i < 4 := nI_nlt (b := 4) (by omega) (by omega)
    refine ⟨S, ?_, fun q h1 h2 => by omega, fun c _ => rfl, fr_rf _ _⟩
    show Mo_trySeason_162b 82 rc k40 (Mo_trySeason_162 82 rc k40 m) x1 x2 x3 (nI s) (nI a) (nI i) S = _
    rw [Mo_trySeason_162b, if_neg lt, Mo_trySeason_204]
  | succ j ih =>
    intro i m S hi hm
    obtain ⟨m, rfl⟩ : ∃ z, m = z + 1 := ⟨m - 1, by omega⟩
    have i4 : i < 4 := by omega
    have lt : nI i < 4 := nI_lt (b := 4) i4 (by omega)
    have c64 := cl_lt hs i4
    have i1 := in_ok (n := cl_ s i) (N := 64) c64 (by decide)
    have i2 := in_ok (n := a + i) (N := 256) (by omega) (by decide)
    obtain ⟨T, hT⟩ : ∃ T, T = iz_up S 83 (cl_ s i) (S.1 112 (a + i)) := ⟨_, rfl⟩
    have fT : fr (fun p _ => p == 83) S T := by rw [hT]; exact fr_up (fr_rf _ _) rfl
    obtain ⟨S2, a1, a2, a3, a4⟩ := ih (i + 1) m T (by omega) (by omega)
    refine ⟨S2, ?_, fun q h1 h2 => ?_, fun c hc => ?_, fr_tr fT a4⟩
    · rw [← a1]
      show Mo_trySeason_162b 82 rc k40 (Mo_trySeason_162 82 rc k40 m) x1 x2 x3 (nI s) (nI a) (nI i) S = _
      rw [Mo_trySeason_162b, if_pos lt, nI_add, i2, ck_t, cl_I i4, i1, ck_t, lt_e, show iz_rf 82 36 = 112 from rfl, show iz_rf 82 0 = 83 from rfl, g_nI _ _ (show a + i < 2 ^ 31 by omega), s_nI _ _ (show cl_ s i < 2 ^ 31 by omega), ← hT, nI_1]
    · by_cases e : q = i
      · subst e
        rw [a3 _ (fun q2 h3 h4 z => by have := cl_inj i4 h4 z; omega), hT, up_same]
      · rw [a2 q (by omega) h2, fT 112 _ rfl]
    · rw [a3 c (fun q h1 h2 => hc q (by omega) h2), hT, up_ne _ _ _ _ (Or.inr (hc i (Nat.le_refl i) i4))]
def fts (p i : Nat) : Bool := p == 83 || p == 107 || p == 108 || p == 110 || p == 111 || p == 112 || (p == 82 && i == 35)
/-- what a try keeps -/
def KP (S S2 : iz_S) (many : Nat) : Prop := (∀ c, c < 64 → S2.1 83 c = S.1 83 c) ∧ (∀ j, j < 4 * many → S2.1 112 j = S.1 112 j) ∧ (∀ j, j < many → S2.1 110 j = S.1 110 j) ∧ fr fts S S2
theorem KP_rf (S : iz_S) (many : Nat) : KP S S many := ⟨fun _ _ => rfl, fun _ _ => rfl, fun _ _ => rfl, fr_rf _ _⟩
theorem KP_tr {S T U : iz_S} {many : Nat} (h1 : KP S T many) (h2 : KP T U many) : KP S U many := ⟨fun c hc => (h2.1 c hc).trans (h1.1 c hc), fun j hj => (h2.2.1 j hj).trans (h1.2.1 j hj), fun j hj => (h2.2.2.1 j hj).trans (h1.2.2.1 j hj), fr_tr h1.2.2.2 h2.2.2.2⟩
def RS (S : iz_S) (n : Nat) (sq : Nat → Nat) : Prop := S.1 82 32 = nI n ∧ ∀ k, k < n → S.1 109 k = nI (sq k) ∧ isq (sq k) = true
/-- the best so far, once rows of length M behind many squares were tried, w the first of the longest -/
def BR (S S2 : iz_S) (sq : Nat → Nat) (many M : Nat) (w : List Nat) (b : Nat) (p : Nat → Nat) : Prop := (b < many + M → S2.1 82 35 = nI (many + M) ∧ (∀ j, j < many → S2.1 111 j = nI (p j)) ∧ ∀ j k, w[j]? = some k → S2.1 111 (many + j) = nI (sq k)) ∧ (¬ b < many + M → S2.1 82 35 = nI b ∧ ∀ j, S2.1 111 j = S.1 111 j)
/-- a try from the set u, many squares cut, does what it should -/
def TRP (f : Nat → Int32) (sq : Nat → Nat) (n : Nat) (L : Nat → Nat) (rc : Nat → Int32 → Int32 → iz_S → Option iz_S) (u many : Nat) : Prop := ∀ (S : iz_S) (b : Nat) (p : Nat → Nat), RS S n sq → (∀ c, c < 64 → S.1 83 c = fu_ f sq n u c) → (∀ j, j < many → S.1 110 j = nI (p j)) → S.1 82 35 = nI b → b ≤ 6 →
  ∃ S2, rc 82 (nI u) (nI many) S = some S2 ∧ BR S S2 sq many (L u) (wlk (mbf f sq n) L n (L u) u) b p ∧ KP S S2 many
/-- the first of the longest rows, squares 0 .. k - 1 tried -/
def wfs (mb : Nat → Nat → Bool) (L : Nat → Nat) (n u k : Nat) : List Nat := match fst_ mb L u k with
  | none => []
  | some i => i :: wlk mb L n (L (u ||| 2 ^ i)) (u ||| 2 ^ i)
theorem fu_up {f : Nat → Int32} {sq : Nat → Nat} {u k : Nat} : ∀ {n : Nat}, k < n → ∀ c, opu sq n (u ||| 2 ^ k) c = (opu sq n u c || io c (sq k))
  | 0, h, _ => by omega
  | n + 1, h, c => by
    have low : ∀ n, n ≤ k → opu sq n (u ||| 2 ^ k) c = opu sq n u c := by
      intro n
      induction n with
      | zero => intro _; rfl
      | succ n ih =>
        intro hn
        rw [opu, opu, ih (by omega), or_bit]
        have : decide (k = n) = false := decide_eq_false (by omega)
        rw [this, Bool.or_false]
    rw [opu, opu, or_bit]
    by_cases e : k = n
    · subst e
      rw [low k (Nat.le_refl k)]
      cases opu sq k u c <;> cases u.testBit k <;> cases io c (sq k) <;> simp
    · have d : decide (k = n) = false := decide_eq_false e
      rw [fu_up (f := f) (n := n) (by omega) c, d, Bool.or_false]
      cases opu sq n u c <;> cases u.testBit n <;> cases io c (sq n) <;> cases io c (sq k) <;> rfl
theorem mo_tsl {f : Nat → Int32} {sq : Nat → Nat} {n : Nat} {L : Nat → Nat} (n6 : n ≤ 6) {u many : Nat} (hu : u < 2 ^ n) (hLs : ∀ v, v < 2 ^ n → L v + cnt n v ≤ n) (hcnt : cnt n u = many) (rc : Nat → Int32 → Int32 → iz_S → Option iz_S) (hrec : ∀ k, k < n → mbf f sq n u k = true → TRP f sq n L rc (u ||| 2 ^ k) (many + 1)) {S0 : iz_S} {b : Nat} {p : Nat → Nat} (b6 : b ≤ 6) : ∀ (j k m : Nat) (S : iz_S), k + j = n → j < m → RS S n sq → (∀ c, c < 64 → S.1 83 c = fu_ f sq n u c) → (∀ q, q < many → S.1 110 q = nI (p q)) → BR S0 S sq many (mxl (mbf f sq n) L u k) (wfs (mbf f sq n) L n u k) b p →
    ∃ S2, Mo_trySeason_40 82 rc m (nI u) (nI many) (nI k) S = some S2 ∧ BR S0 S2 sq many (mxl (mbf f sq n) L u n) (wfs (mbf f sq n) L n u n) b p ∧ KP S S2 many := by
  intro j
  have p64 := b_pow n (by omega)
  induction j with
  | zero =>
    intro k m S hk hm hR ht hp hB
    obtain ⟨m, rfl⟩ : ∃ z, m = z + 1 := ⟨m - 1, by omega⟩
    obtain rfl : k = n := by omega
    have lt : ¬ nI k < nI k := nI_nlt (Nat.le_refl _) (by omega)
    refine ⟨S, ?_, hB, KP_rf _ _⟩
    show Mo_trySeason_40b 82 rc (Mo_trySeason_40 82 rc m) (nI u) (nI many) (nI k) S = _
    rw [Mo_trySeason_40b, hR.1, if_neg lt]
  | succ j ih =>
    intro k m S hk hm hR ht hp hB
    obtain ⟨m, rfl⟩ : ∃ z, m = z + 1 := ⟨m - 1, by omega⟩
    have kn : k < n := by omega
    have lt : nI k < nI n := nI_lt kn (by omega)
    have i1 := in_ok (n := k) (N := 6) (by omega) (by decide)
    obtain ⟨s1, s2⟩ := hR.2 k kn
    have head : Mo_trySeason_40 82 rc (m + 1) (nI u) (nI many) (nI k) S = Mo_trySeason_40b 82 rc (Mo_trySeason_40 82 rc m) (nI u) (nI many) (nI k) S := rfl
    -- a square that may not be cut
    have skip : ∀ S3, Mo_trySeason_40 82 rc (m + 1) (nI u) (nI many) (nI k) S = Mo_trySeason_204 82 rc (Mo_trySeason_40 82 rc m) (nI u) (nI many) (nI k) S3 → fr f78 S S3 → mbf f sq n u k = false → ∃ S2, Mo_trySeason_40 82 rc (m + 1) (nI u) (nI many) (nI k) S = some S2 ∧ BR S0 S2 sq many (mxl (mbf f sq n) L u n) (wfs (mbf f sq n) L n u n) b p ∧ KP S S2 many := fun S3 he f3 hb => by
      have e1 : mxl (mbf f sq n) L u (k + 1) = mxl (mbf f sq n) L u k := by rw [mxl, if_neg (by rw [hb]; simp)]
      have e2 : wfs (mbf f sq n) L n u (k + 1) = wfs (mbf f sq n) L n u k := by unfold wfs; rw [fst_, if_neg (by rw [hb]; simp)]
      have k3 : KP S S3 many := ⟨fun c _ => f3 83 c rfl, fun j _ => f3 112 j rfl, fun j _ => f3 110 j rfl, fr_mono f3 (fun p i hp => by
        simp only [f78, fts, Bool.or_eq_true, beq_iff_eq] at hp ⊢
        omega)⟩
      obtain ⟨S2, a1, a2, a3⟩ := ih (k + 1) m S3 (by omega) (by omega) ⟨(f3 _ _ rfl).trans hR.1, fun q hq => by rw [f3 109 q rfl]; exact hR.2 q hq⟩ (fun c hc => by rw [f3 83 c rfl]; exact ht c hc) (fun q hq => by rw [f3 110 q rfl]; exact hp q hq) (by
        rw [e1, e2]
        refine ⟨fun h => ?_, fun h => ?_⟩
        · obtain ⟨z1, z2, z3⟩ := hB.1 h
          exact ⟨(f3 _ _ rfl).trans z1, fun q hq => (f3 _ _ rfl).trans (z2 q hq), fun q i hq => (f3 _ _ rfl).trans (z3 q i hq)⟩
        · obtain ⟨z1, z2⟩ := hB.2 h
          exact ⟨(f3 _ _ rfl).trans z1, fun q => (f3 _ _ rfl).trans (z2 q)⟩)
      exact ⟨S2, by rw [he, Mo_trySeason_204, nI_1, a1], a2, KP_tr k3 a3⟩
    cases e : u.testBit k with
    | true =>
      refine skip S ?_ (fr_rf _ _) (by unfold mbf; rw [e]; rfl)
      rw [head, Mo_trySeason_40b, hR.1, if_pos lt, b_if (by omega) (by omega), e, if_pos rfl]
    | false =>
      obtain ⟨r, S3, q1, q2, q3⟩ := mo_barOf (S := S) (f := fu_ f sq n u) s2 ht
      have r2le := brv_le q2
      have e0 : (nI r = 0) = (r = 0) := n0_iff (by omega)
      by_cases hr : r = 0
      · subst hr
        have hb : mbf f sq n u k = true := by unfold mbf; rw [e, dC_t q2]; rfl
        have cu := cnt_up kn e
        have mn : many < n := by
          have := hLs _ (b_in hu kn)
          rw [cu, hcnt] at this
          omega
        have vin := b_in hu kn
        have hLk := hLs _ vin
        rw [cu, hcnt] at hLk
        have i2 := in_ok (n := many) (N := 6) (by omega) (by decide)
        have e4 : (4 : Int32) * nI many = nI (4 * many) := pk_mul 4 many
        have s31 : S3.1 109 k = nI (sq k) := by rw [q3 109 k rfl]; exact s1
        obtain ⟨S4, a1, a2, a3, a4, a5⟩ := mo_sv (a := 4 * many) s2 (by omega) rc (Mo_trySeason_40 82 rc m) (nI u) (nI many) (nI k) 4 0 iz_FU S3 (by omega) (by have := fu_ge; omega)
        obtain ⟨S7, h7⟩ : ∃ S7, S7 = iz_up S4 110 many (nI (sq k)) := ⟨_, rfl⟩
        have f7 : fr (fun q i => q == 110 && i == many) S4 S7 := by rw [h7]; exact fr_1
        have g3 : ∀ q i, (q == 83 || q == 112 || q == 110 || q == 107 || q == 108) = false → S7.1 q i = S.1 q i := fun q i hq => by
          simp only [Bool.or_eq_false_iff, beq_eq_false_iff_ne] at hq
          rw [f7 q i (by simp [hq]), a5 q i (by simp [hq]), q3 q i (by simp [f78, hq])]
        have t7 : ∀ c, c < 64 → S7.1 83 c = fu_ f sq n (u ||| 2 ^ k) c := fun c hc => by
          rw [f7 83 c rfl]
          unfold fu_
          rw [fu_up (f := f) kn c]
          by_cases hio : io c (sq k) = true
          · obtain ⟨q, q4, rfl⟩ := cl_io.mp hio
            rw [(a2 q (Nat.zero_le _) q4).1, hio]
            simp
          · have hio' : io c (sq k) = false := by simpa using hio
            rw [a3 c (fun q _ q4 z => hio (cl_io.mpr ⟨q, q4, z⟩)), q3 83 c rfl, ht c hc, hio', Bool.or_false]
            rfl
        obtain ⟨bc, hbc⟩ : ∃ bc, bc = if b < many + mxl (mbf f sq n) L u k then many + mxl (mbf f sq n) L u k else b := ⟨_, rfl⟩
        have mk6 : many + mxl (mbf f sq n) L u k ≤ 6 := by
          have : mxl (mbf f sq n) L u k ≤ n - many := mxl_le (fun i hi hbi => by
            have bf := mb_bit hbi
            have z := hLs _ (b_in hu (show i < n by omega))
            rw [cnt_up (by omega) bf, hcnt] at z
            omega)
          omega
        have bc6 : bc ≤ 6 := by rw [hbc]; split <;> omega
        have c35 : S7.1 82 35 = nI bc := by
          rw [g3 82 35 rfl, hbc]
          by_cases z : b < many + mxl (mbf f sq n) L u k
          · rw [if_pos z]; exact (hB.1 z).1
          · rw [if_neg z]; exact (hB.2 z).1
        have hp7 : ∀ q, q < many + 1 → S7.1 110 q = nI (wtU p many (sq k) q) := fun q hq => by
          by_cases z : q = many
          · rw [z, h7, up_same, wtU_s]
          · rw [f7 110 q (by simp [z]), a5 110 q rfl, q3 110 q rfl, wtU_n z]
            exact hp q (by omega)
        obtain ⟨S8, c1, c2, c3⟩ := hrec k kn hb S7 bc (wtU p many (sq k)) ⟨(g3 82 32 rfl).trans hR.1, fun q hq => by rw [g3 109 q rfl]; exact hR.2 q hq⟩ t7 hp7 c35 bc6
        obtain ⟨S9, d1, d2, d3, d4⟩ := mo_rs (a := 4 * many) s2 (by omega) rc (Mo_trySeason_40 82 rc m) (nI u) (nI many) (nI k) 4 0 iz_FU S8 (by omega) (by have := fu_ge; omega)
        -- all thicknesses as before
        have t9 : ∀ c, c < 64 → S9.1 83 c = S.1 83 c := fun c hc => by
          by_cases hio : io c (sq k) = true
          · obtain ⟨q, q4, rfl⟩ := cl_io.mp hio
            rw [d2 q (Nat.zero_le _) q4, c3.2.1 _ (by omega), f7 112 _ rfl, (a2 q (Nat.zero_le _) q4).2, q3 83 _ rfl]
          · rw [d3 c (fun q _ q4 z => hio (cl_io.mpr ⟨q, q4, z⟩)), c3.1 c hc, f7 83 c rfl, a3 c (fun q _ q4 z => hio (cl_io.mpr ⟨q, q4, z⟩)), q3 83 c rfl]
        have k9 : KP S S9 many := by
          refine ⟨t9, fun q hq => ?_, fun q hq => ?_, ?_⟩
          · rw [d4 112 q rfl, c3.2.1 q (by omega), f7 112 q rfl, a4 q (by omega), q3 112 q rfl]
          · rw [d4 110 q rfl, c3.2.2.1 q (by omega), f7 110 q (by simp; omega), a5 110 q rfl, q3 110 q rfl]
          · intro q i hq
            have hq2 := hq
            simp only [fts, Bool.or_eq_false_iff, Bool.and_eq_false_iff, beq_eq_false_iff_ne] at hq2
            rw [d4 q i (by simp; omega), c3.2.2.2 q i hq, g3 q i (by simp; omega)]
        have b9 : BR S0 S9 sq many (mxl (mbf f sq n) L u (k + 1)) (wfs (mbf f sq n) L n u (k + 1)) b p := by
          have r35 : S9.1 82 35 = S8.1 82 35 := d4 82 35 rfl
          have r111 : ∀ q, S9.1 111 q = S8.1 111 q := fun q => d4 111 q rfl
          have s111 : ∀ q, S7.1 111 q = S.1 111 q := fun q => g3 111 q rfl
          by_cases z : mxl (mbf f sq n) L u k < 1 + L (u ||| 2 ^ k)
          · have e1 : mxl (mbf f sq n) L u (k + 1) = 1 + L (u ||| 2 ^ k) := by rw [mxl, if_pos ⟨hb, z⟩]
            have e2 : wfs (mbf f sq n) L n u (k + 1) = k :: wlk (mbf f sq n) L n (L (u ||| 2 ^ k)) (u ||| 2 ^ k) := by unfold wfs; rw [fst_, if_pos ⟨hb, z⟩]
            rw [e1, e2]
            by_cases y : b < many + (1 + L (u ||| 2 ^ k))
            · have yb : bc < many + 1 + L (u ||| 2 ^ k) := by rw [hbc]; split <;> omega
              obtain ⟨z1, z2, z3⟩ := c2.1 yb
              refine ⟨fun _ => ⟨?_, fun q hq => ?_, fun q i hq => ?_⟩, fun q => absurd y q⟩
              · rw [r35, z1, show many + 1 + L (u ||| 2 ^ k) = many + (1 + L (u ||| 2 ^ k)) by omega]
              · rw [r111, z2 q (by omega), wtU_n (by omega)]
              · cases q with
                | zero =>
                  have : k = i := Option.some.inj hq
                  subst this
                  rw [r111, Nat.add_zero, z2 many (by omega), wtU_s]
                | succ q =>
                  rw [List.getElem?_cons_succ] at hq
                  rw [r111, show many + (q + 1) = many + 1 + q by omega, z3 q i hq]
            · have yb : ¬ bc < many + 1 + L (u ||| 2 ^ k) := by rw [hbc]; split <;> omega
              obtain ⟨z1, z2⟩ := c2.2 yb
              have nb : ¬ b < many + mxl (mbf f sq n) L u k := by omega
              refine ⟨fun q => absurd q y, fun _ => ⟨?_, fun q => ?_⟩⟩
              · rw [r35, z1, hbc, if_neg nb]
              · rw [r111, z2 q, s111, (hB.2 nb).2 q]
          · have e1 : mxl (mbf f sq n) L u (k + 1) = mxl (mbf f sq n) L u k := by rw [mxl, if_neg (fun q => z q.2)]
            have e2 : wfs (mbf f sq n) L n u (k + 1) = wfs (mbf f sq n) L n u k := by unfold wfs; rw [fst_, if_neg (fun q => z q.2)]
            have yb : ¬ bc < many + 1 + L (u ||| 2 ^ k) := by rw [hbc]; split <;> omega
            obtain ⟨z1, z2⟩ := c2.2 yb
            rw [e1, e2]
            refine ⟨fun y => ?_, fun y => ?_⟩
            · obtain ⟨y1, y2, y3⟩ := hB.1 y
              refine ⟨?_, fun q hq => ?_, fun q i hq => ?_⟩
              · rw [r35, z1, hbc, if_pos y]
              · rw [r111, z2 q, s111, y2 q hq]
              · rw [r111, z2 _, s111, y3 q i hq]
            · refine ⟨?_, fun q => ?_⟩
              · rw [r35, z1, hbc, if_neg y]
              · rw [r111, z2 q, s111, (hB.2 y).2 q]
        obtain ⟨S2, g1, g2, g4⟩ := ih (k + 1) m S9 (by omega) (by omega) ⟨(k9.2.2.2 _ _ rfl).trans hR.1, fun q hq => by rw [k9.2.2.2 109 q rfl]; exact hR.2 q hq⟩ (fun c hc => by rw [t9 c hc]; exact ht c hc) (fun q hq => by rw [k9.2.2.1 q hq]; exact hp q hq) b9
        refine ⟨S2, ?_, g2, KP_tr k9 g4⟩
        rw [← g1, head, Mo_trySeason_40b, hR.1, if_pos lt, b_if (by omega) (by omega), e, if_neg (by decide), i1, ck_t, show iz_rf 82 31 = 109 from rfl, g_nI _ _ (show k < 2 ^ 31 by omega), s1, q1, bI_s, if_pos (show nI 0 = 0 from rfl), ck_t, lt_e, lt_e, g_nI _ _ (show k < 2 ^ 31 by omega), s31, e4]
        refine Eq.trans a1 ?_
        rw [i2, ck_t, lt_e, s_nI _ _ (show many < 2 ^ 31 by omega), ← h7, b_or u (by omega) k (by omega), nI_1, c1, bV_s]
        refine Eq.trans d1 ?_
        rw [nI_1]
      · refine skip S3 ?_ q3 (by unfold mbf; rw [e, dC_f (fun z => hr (brv_f q2 z))]; rfl)
        rw [head, Mo_trySeason_40b, hR.1, if_pos lt, b_if (by omega) (by omega), e, if_neg (by decide), i1, ck_t, show iz_rf 82 31 = 109 from rfl, g_nI _ _ (show k < 2 ^ 31 by omega), s1, q1, bI_s, if_neg (by rw [e0]; exact hr)]
