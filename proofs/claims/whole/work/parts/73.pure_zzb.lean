/-! PURE: bars -/
theorem io_lt {c s : Nat} (hs : isq s = true) (h : io c s = true) : c < 64 := by
  unfold isq at hs
  unfold io at h
  simp only [Bool.and_eq_true, decide_eq_true_eq, Bool.or_eq_true, beq_iff_eq] at hs h
  omega
theorem sq_bits : ∀ s, s < 55 → ∀ i, i < 64 → Nat.testBit (uN ((771 : Int64) <<< (Int32.toInt64 (nI s) &&& 63))) i = io i s := by decide +kernel
theorem isq_lt {s : Nat} (hs : isq s = true) : s < 55 := by
  unfold isq at hs
  rw [Bool.and_eq_true, decide_eq_true_eq] at hs
  exact hs.1
theorem la_sq {s : Nat} (hs : isq s = true) (S : iz_S) : ∃ x, La_cellsOfSquare (nI s) S = some (x, S) ∧ ∀ i, bt_ x i = io i s := by
  refine ⟨_, rfl, fun i => ?_⟩
  by_cases hi : i < 64
  · exact sq_bits s (isq_lt hs) i hi
  · rw [bt_hi _ (by omega)]
    cases e : io i s with
    | false => rfl
    | true => exact absurd (io_lt hs e) hi
/-- what bars a square: all cells thick enough; a horse beside it -/
def bok1 (th : Nat → Bool) (s : Nat) : Prop := ∀ c, io c s = true → th c = true
def bok2 (hb : Nat → Bool) (s : Nat) : Prop := ∃ c d, io c s = true ∧ adj c d ∧ Rch (fun i => hb i && !io i s) d
def brv (th hb : Nat → Bool) (s r : Nat) : Prop := (r = 1 ∧ ¬ bok1 th s) ∨ (r = 0 ∧ bok1 th s ∧ bok2 hb s) ∨ (r = 2 ∧ bok1 th s ∧ ¬ bok2 hb s)
theorem brv_f {th hb : Nat → Bool} {s r r2 : Nat} (h : brv th hb s r) (h2 : brv th hb s r2) : r = r2 := by
  rcases h with ⟨a, b⟩ | ⟨a, b, c⟩ | ⟨a, b, c⟩ <;> rcases h2 with ⟨d, e⟩ | ⟨d, e, f⟩ | ⟨d, e, f⟩
  · omega
  · exact absurd e b
  · exact absurd e b
  · exact absurd b e
  · omega
  · exact absurd c f
  · exact absurd b e
  · exact absurd f c
  · omega
theorem brv_le {th hb : Nat → Bool} {s r : Nat} (h : brv th hb s r) : r ≤ 2 := by
  rcases h with ⟨a, b⟩ | ⟨a, b, c⟩ | ⟨a, b, c⟩ <;> omega
theorem brv_cong {th hb th2 hb2 : Nat → Bool} {s r : Nat} (h1 : ∀ i, i < 64 → th i = th2 i) (h2 : ∀ i, hb i = hb2 i) (hs : isq s = true) (h : brv th hb s r) : brv th2 hb2 s r := by
  have e1 : bok1 th s ↔ bok1 th2 s := by
    unfold bok1
    constructor
    · intro q c hc; rw [← h1 c (io_lt hs hc)]; exact q c hc
    · intro q c hc; rw [h1 c (io_lt hs hc)]; exact q c hc
  have e2 : bok2 hb s ↔ bok2 hb2 s := by
    have : hb = hb2 := funext h2
    rw [this]
  unfold brv at h ⊢
  rw [← e1, ← e2]
  exact h
theorem la_among {th hb : Nat → Bool} {s : Nat} (hs : isq s = true) {x0 x2 x4 : Int64} (h0 : ∀ i, bt_ x0 i = io i s) (h2 : ∀ i, i < 64 → bt_ x2 i = th i) (h4 : ∀ i, bt_ x4 i = hb i) (S : iz_S) : ∃ r, La_barAmong x0 x2 x4 S = some (nI r, S) ∧ brv th hb s r := by
  have c1 : (lg_cmp (x0 &&& (x2 ^^^ (-1))) 0 = 0) = bok1 th s := by
    rw [cmp_0]
    apply propext
    constructor
    · intro q c hc
      have c64 := io_lt hs hc
      have := congrArg (fun z => bt_ z c) q
      simp only [bt_and, bt_not _ c64, h0, h2 c c64, bt_0, hc, Bool.true_and] at this
      simpa using this
    · intro q
      refine bt_ext (fun i hi => ?_)
      rw [bt_and, bt_not _ hi, h0, h2 i hi, bt_0]
      cases e : io i s with
      | false => rfl
      | true => rw [q i e]; rfl
  obtain ⟨y, y1, y2⟩ := la_beside x0 S
  have hbp : ∀ i, bt_ (x4 &&& (x0 ^^^ (-1))) i = (hb i && !io i s) := fun i => by
    by_cases hi : i < 64
    · rw [bt_and, bt_not _ hi, h0, h4]
    · rw [bt_hi _ (by omega)]
      have := bt_hi x4 (i := i) (by omega)
      rw [h4] at this
      rw [this]; rfl
  obtain ⟨z, z1, z2⟩ := la_reach hbp S
  have c2 : (lg_cmp ((y &&& (x0 ^^^ (-1))) &&& z) 0 = 0) = ¬ bok2 hb s := by
    rw [cmp_0]
    apply propext
    constructor
    · rintro q ⟨c, d, hc, hd, hr⟩
      have c64 := io_lt hs hc
      obtain ⟨w, w4, hw⟩ := hd
      have d64 := (adj_sym c c64 w w4 d hw).1
      have bd := rch_b hr
      have nd : io d s = false := by
        cases e : io d s with
        | false => rfl
        | true => rw [e] at bd; simp at bd
      have bb : bt_ y d = true := by
        rw [y2 d d64]
        exact (bs_adj (fun i hi => bt_hi x0 hi) d64).mpr ⟨c, c64, by rw [h0]; exact hc, w, w4, hw⟩
      have := congrArg (fun z => bt_ z d) q
      simp only [bt_and, bt_not _ d64, h0, bb, nd, (z2 d).mpr hr, bt_0] at this
      exact absurd this (by decide)
    · intro q
      refine bt_ext (fun i hi => ?_)
      rw [bt_and, bt_and, bt_0, bt_not _ hi, h0]
      cases e1 : bt_ y i with
      | false => rfl
      | true =>
        cases e2 : bt_ z i with
        | false => simp
        | true =>
          exfalso
          rw [y2 i hi] at e1
          obtain ⟨c, c64, hc, ha⟩ := (bs_adj (fun i hi => bt_hi x0 hi) hi).mp e1
          rw [h0] at hc
          exact q ⟨c, i, hc, ha, (z2 i).mp e2⟩
  by_cases k1 : bok1 th s
  · by_cases k2 : bok2 hb s
    · refine ⟨0, ?_, Or.inr (Or.inl ⟨rfl, k1, k2⟩)⟩
      rw [La_barAmong, if_pos (by rw [c1]; exact k1), y1, bL_s, lt_e, z1, bL_s, if_neg (by rw [c2]; exact fun q => q k2), La_barAmong_50]
      rfl
    · refine ⟨2, ?_, Or.inr (Or.inr ⟨rfl, k1, k2⟩)⟩
      rw [La_barAmong, if_pos (by rw [c1]; exact k1), y1, bL_s, lt_e, z1, bL_s, if_pos (by rw [c2]; exact k2), La_barAmong_50]
      rfl
  · refine ⟨1, ?_, Or.inl ⟨rfl, k1⟩⟩
    rw [La_barAmong, if_neg (by rw [c1]; exact k1)]
    rfl
/-- thick enough for cutting; bears a horse -/
def th8 (f : Nat → Int32) (i : Nat) : Bool := decide (¬ f i < 8)
def hb1 (f : Nat → Int32) : Nat → Bool := bpf f (iz_zV 3 1) none
theorem la_barTo {S : iz_S} {s : Nat} (hs : isq s = true) : ∃ r, La_barTo 1 (nI s) S = some (nI r, S) ∧ brv (th8 (S.1 2)) (hb1 (S.1 2)) s r := by
  obtain ⟨x0, a1, a2⟩ := la_sq hs S
  obtain ⟨x2, b1, b2⟩ := la_cellsOf 8 S
  obtain ⟨x4, c1, c2⟩ := la_bear (S := S) (who := 1) (by decide)
  obtain ⟨r, r1, r2⟩ := la_among (th := th8 (S.1 2)) (hb := hb1 (S.1 2)) hs a2 (x2 := x2) (fun i hi => by
    unfold bt_ th8
    rw [b2 i]
    simp [hi]) c2 S
  refine ⟨r, ?_, r2⟩
  rw [La_barTo, a1, bL_s, b1, bL_s, show La_bearing 1 1 S = _ from c1, bL_s, r1, bI_s]
theorem mo_b51 {S : iz_S} {s c : Nat} (hs : isq s = true) (hc : c < 64) (hio : io c s = true) (k43 : Int32 → Int32 → iz_S → Option (Int32 × iz_S)) : ∀ (j w n : Nat), w + j = 4 → j < n →
    (Mo_barOf_51 82 k43 n (nI s) (nI c) (nI w) S = some (0, S) ∧ ∃ v d, v < 4 ∧ nbr c v = some d ∧ S.1 107 d ≠ 0) ∨ (Mo_barOf_51 82 k43 n (nI s) (nI c) (nI w) S = k43 (nI s) (nI (c + 1)) S ∧ ∀ v d, w ≤ v → v < 4 → nbr c v = some d → S.1 107 d = 0) := by
  intro j
  induction j with
  | zero =>
    intro w n hw hn
    obtain ⟨m, rfl⟩ : ∃ k, n = k + 1 := ⟨n - 1, by omega⟩
    have lt : ¬ nI w < 4 := nI_nlt (b := 4) (by omega) (by omega)
    refine Or.inr ⟨?_, fun v d h1 h2 => by omega⟩
    show Mo_barOf_51b 82 k43 (Mo_barOf_51 82 k43 m) (nI s) (nI c) (nI w) S = _
    rw [Mo_barOf_51b, if_neg lt, Mo_barOf_94, nI_1]
  | succ j ih =>
    intro w n hw hn
    obtain ⟨m, rfl⟩ : ∃ k, n = k + 1 := ⟨n - 1, by omega⟩
    have lt : nI w < 4 := nI_lt (b := 4) (by omega) (by omega)
    have n1 : ¬ (1 : Int32) = 0 := by decide
    have head : Mo_barOf_51 82 k43 (m + 1) (nI s) (nI c) (nI w) S = Mo_barOf_51b 82 k43 (Mo_barOf_51 82 k43 m) (nI s) (nI c) (nI w) S := rfl
    have go : Mo_barOf_51 82 k43 (m + 1) (nI s) (nI c) (nI w) S = Mo_barOf_88 82 k43 (Mo_barOf_51 82 k43 m) (nI s) (nI c) (nI w) S → (∀ d, nbr c w = some d → S.1 107 d = 0) →
        (Mo_barOf_51 82 k43 (m + 1) (nI s) (nI c) (nI w) S = some (0, S) ∧ ∃ v d, v < 4 ∧ nbr c v = some d ∧ S.1 107 d ≠ 0) ∨ (Mo_barOf_51 82 k43 (m + 1) (nI s) (nI c) (nI w) S = k43 (nI s) (nI (c + 1)) S ∧ ∀ v d, w ≤ v → v < 4 → nbr c v = some d → S.1 107 d = 0) := fun e hz => by
      rw [e, Mo_barOf_88, nI_1]
      rcases ih (w + 1) m (by omega) (by omega) with ⟨q1, q2⟩ | ⟨q1, q2⟩
      · exact Or.inl ⟨q1, q2⟩
      · refine Or.inr ⟨q1, fun v d h1 h2 h3 => ?_⟩
        by_cases ev : v = w
        · subst ev; exact hz d h3
        · exact q2 v d (by omega) h2 h3
    cases hd : nbr c w with
    | none =>
      have ng : bkI none < 0 := by decide +kernel
      refine go ?_ (fun d q => by rw [hd] at q; cases q)
      rw [head, Mo_barOf_51b, if_pos lt, mo_isOf hs hc, bI_s, if_pos hio, if_neg n1, mo_bs hc (by omega), bI_s, hd, if_pos ng]
    | some d =>
      have d64 := (adj_sym c hc w (by omega) d hd).1
      have np : ¬ bkI (some d) < 0 := nI_pos (by omega)
      have i1 := in_ok (n := d) (N := 64) d64 (by decide)
      by_cases z : S.1 107 d = 0
      · refine go ?_ (fun d' q => by rw [hd] at q; rw [← Option.some.inj q]; exact z)
        rw [head, Mo_barOf_51b, if_pos lt, mo_isOf hs hc, bI_s, if_pos hio, if_neg n1, mo_bs hc (by omega), bI_s, hd, if_neg np, show bkI (some d) = nI d from rfl, i1, ck_t, show iz_rf 82 29 = 107 from rfl, g_nI _ _ (show d < 2 ^ 31 by omega), if_pos z]
      · refine Or.inl ⟨?_, w, d, by omega, hd, z⟩
        rw [head, Mo_barOf_51b, if_pos lt, mo_isOf hs hc, bI_s, if_pos hio, if_neg n1, mo_bs hc (by omega), bI_s, hd, if_neg np, show bkI (some d) = nI d from rfl, i1, ck_t, show iz_rf 82 29 = 107 from rfl, g_nI _ _ (show d < 2 ^ 31 by omega), if_neg z]
theorem mo_b43 {S : iz_S} {s : Nat} (hs : isq s = true) : ∀ (j c n : Nat), c + j = 64 → j < n →
    (Mo_barOf_43 82 n (nI s) (nI c) S = some (0, S) ∧ ∃ k v d, io k s = true ∧ v < 4 ∧ nbr k v = some d ∧ S.1 107 d ≠ 0) ∨ (Mo_barOf_43 82 n (nI s) (nI c) S = some (2, S) ∧ ∀ k v d, c ≤ k → io k s = true → v < 4 → nbr k v = some d → S.1 107 d = 0) := by
  intro j
  induction j with
  | zero =>
    intro c n hc hn
    obtain ⟨m, rfl⟩ : ∃ k, n = k + 1 := ⟨n - 1, by omega⟩
    have lt : ¬ nI c < 64 := nI_nlt (b := 64) (by omega) (by omega)
    refine Or.inr ⟨?_, fun k v d h1 h2 => by have := io_lt hs h2; omega⟩
    show Mo_barOf_43b 82 (Mo_barOf_43 82 m) (nI s) (nI c) S = _
    rw [Mo_barOf_43b, if_neg lt]
  | succ j ih =>
    intro c n hc hn
    obtain ⟨m, rfl⟩ : ∃ k, n = k + 1 := ⟨n - 1, by omega⟩
    have c64 : c < 64 := by omega
    have lt : nI c < 64 := nI_lt (b := 64) c64 (by omega)
    have head : Mo_barOf_43 82 (m + 1) (nI s) (nI c) S = Mo_barOf_51 82 (Mo_barOf_43 82 m) iz_FU (nI s) (nI c) 0 S := by
      show Mo_barOf_43b 82 (Mo_barOf_43 82 m) (nI s) (nI c) S = _
      rw [Mo_barOf_43b, if_pos lt]
    have go : Mo_barOf_51 82 (Mo_barOf_43 82 m) iz_FU (nI s) (nI c) 0 S = Mo_barOf_43 82 m (nI s) (nI (c + 1)) S → (io c s = true → ∀ v d, v < 4 → nbr c v = some d → S.1 107 d = 0) →
        (Mo_barOf_43 82 (m + 1) (nI s) (nI c) S = some (0, S) ∧ ∃ k v d, io k s = true ∧ v < 4 ∧ nbr k v = some d ∧ S.1 107 d ≠ 0) ∨ (Mo_barOf_43 82 (m + 1) (nI s) (nI c) S = some (2, S) ∧ ∀ k v d, c ≤ k → io k s = true → v < 4 → nbr k v = some d → S.1 107 d = 0) := fun e hz => by
      rw [head, e]
      rcases ih (c + 1) m (by omega) (by omega) with ⟨q1, q2⟩ | ⟨q1, q2⟩
      · exact Or.inl ⟨q1, q2⟩
      · refine Or.inr ⟨q1, fun k v d h1 h2 h3 h4 => ?_⟩
        by_cases ek : k = c
        · subst ek; exact hz h2 v d h3 h4
        · exact q2 k v d (by omega) h2 h3 h4
    by_cases hio : io c s = true
    · rcases mo_b51 hs c64 hio (Mo_barOf_43 82 m) 4 0 iz_FU (by omega) (by have := fu_ge; omega) with ⟨q1, v, d, q2⟩ | ⟨q1, q2⟩
      · refine Or.inl ⟨head.trans q1, c, v, d, hio, q2⟩
      · exact go q1 (fun _ v d h1 h2 => q2 v d (Nat.zero_le _) h1 h2)
    · refine go ?_ (fun q => absurd q hio)
      obtain ⟨f0, hf0⟩ : ∃ f0, iz_FU = f0 + 1 := ⟨iz_FU - 1, by have := fu_ge; omega⟩
      rw [hf0]
      show Mo_barOf_51b 82 (Mo_barOf_43 82 m) (Mo_barOf_51 82 (Mo_barOf_43 82 m) f0) (nI s) (nI c) 0 S = _
      have z4 : (0 : Int32) < 4 := by decide +kernel
      rw [Mo_barOf_51b, if_pos z4, mo_isOf hs c64, bI_s, if_neg hio, if_pos rfl, Mo_barOf_94, nI_1]
theorem mo_b2 {S : iz_S} {s : Nat} (hs : isq s = true) : ∀ (j c n : Nat), c + j = 64 → j < n →
    (Mo_barOf_2 82 n (nI s) (nI c) S = some (1, S) ∧ ∃ k, k < 64 ∧ io k s = true ∧ S.1 83 k < 8) ∨ (Mo_barOf_2 82 n (nI s) (nI c) S = iz_bV (Mo_flood 82 1 (nI s) S) (fun S1 => Mo_barOf_43 82 iz_FU (nI s) 0 S1) ∧ ∀ k, c ≤ k → k < 64 → io k s = true → ¬ S.1 83 k < 8) := by
  intro j
  induction j with
  | zero =>
    intro c n hc hn
    obtain ⟨m, rfl⟩ : ∃ k, n = k + 1 := ⟨n - 1, by omega⟩
    have lt : ¬ nI c < 64 := nI_nlt (b := 64) (by omega) (by omega)
    refine Or.inr ⟨?_, fun k h1 h2 => by omega⟩
    show Mo_barOf_2b 82 (Mo_barOf_2 82 m) (nI s) (nI c) S = _
    rw [Mo_barOf_2b, if_neg lt]
  | succ j ih =>
    intro c n hc hn
    obtain ⟨m, rfl⟩ : ∃ k, n = k + 1 := ⟨n - 1, by omega⟩
    have c64 : c < 64 := by omega
    have lt : nI c < 64 := nI_lt (b := 64) c64 (by omega)
    have i1 := in_ok (n := c) (N := 64) c64 (by decide)
    have n1 : ¬ (1 : Int32) = 0 := by decide
    have head : Mo_barOf_2 82 (m + 1) (nI s) (nI c) S = Mo_barOf_2b 82 (Mo_barOf_2 82 m) (nI s) (nI c) S := rfl
    have go : Mo_barOf_2 82 (m + 1) (nI s) (nI c) S = Mo_barOf_29 82 (Mo_barOf_2 82 m) (nI s) (nI c) S → (io c s = true → ¬ S.1 83 c < 8) →
        (Mo_barOf_2 82 (m + 1) (nI s) (nI c) S = some (1, S) ∧ ∃ k, k < 64 ∧ io k s = true ∧ S.1 83 k < 8) ∨ (Mo_barOf_2 82 (m + 1) (nI s) (nI c) S = iz_bV (Mo_flood 82 1 (nI s) S) (fun S1 => Mo_barOf_43 82 iz_FU (nI s) 0 S1) ∧ ∀ k, c ≤ k → k < 64 → io k s = true → ¬ S.1 83 k < 8) := fun e hz => by
      rw [e, Mo_barOf_29, nI_1]
      rcases ih (c + 1) m (by omega) (by omega) with ⟨q1, q2⟩ | ⟨q1, q2⟩
      · exact Or.inl ⟨q1, q2⟩
      · refine Or.inr ⟨q1, fun k h1 h2 h3 => ?_⟩
        by_cases ek : k = c
        · subst ek; exact hz h3
        · exact q2 k (by omega) h2 h3
    by_cases hio : io c s = true
    · by_cases ht : S.1 83 c < 8
      · refine Or.inl ⟨?_, c, c64, hio, ht⟩
        rw [head, Mo_barOf_2b, if_pos lt, mo_isOf hs c64, bI_s, if_pos hio, if_neg n1, i1, ck_t, show iz_rf 82 0 = 83 from rfl, g_nI _ _ (show c < 2 ^ 31 by omega), if_pos ht]
      · refine go ?_ (fun _ => ht)
        rw [head, Mo_barOf_2b, if_pos lt, mo_isOf hs c64, bI_s, if_pos hio, if_neg n1, i1, ck_t, show iz_rf 82 0 = 83 from rfl, g_nI _ _ (show c < 2 ^ 31 by omega), if_neg ht]
    · refine go ?_ (fun q => absurd q hio)
      rw [head, Mo_barOf_2b, if_pos lt, mo_isOf hs c64, bI_s, if_neg hio, if_pos rfl]
theorem mo_barOf {S : iz_S} {f : Nat → Int32} {s : Nat} (hs : isq s = true) (ht : ∀ i, i < 64 → S.1 83 i = f i) : ∃ r S2, Mo_barOf 82 (nI s) S = some (nI r, S2) ∧ brv (th8 f) (hb1 f) s r ∧ fr f78 S S2 := by
  rcases mo_b2 (S := S) hs 64 0 iz_FU (by omega) (by have := fu_ge; omega) with ⟨q1, k, k64, k1, k2⟩ | ⟨q1, q2⟩
  · refine ⟨1, S, q1, Or.inl ⟨rfl, fun h => ?_⟩, fr_rf _ _⟩
    have := h k k1
    unfold th8 at this
    rw [decide_eq_true_eq, ← ht k k64] at this
    exact this k2
  · have k1 : bok1 (th8 f) s := fun c hc => by
      have c64 := io_lt hs hc
      unfold th8
      rw [decide_eq_true_eq, ← ht c c64]
      exact q2 c (Nat.zero_le _) c64 hc
    obtain ⟨S2, a1, a2, a3⟩ := mo_flood (f := f) (S := S) (who := 1) (sq := some s) (by decide) (fun s' q => by rw [← Option.some.inj q]; exact hs) ht
    have eb : ∀ i, bpf f (iz_zV 3 1) (some s) i = (hb1 f i && !io i s) := fun i => by
      unfold hb1 bpf nio
      simp [Bool.and_assoc]
    have q1' : Mo_barOf 82 (nI s) S = Mo_barOf_43 82 iz_FU (nI s) 0 S2 := by
      refine Eq.trans q1 ?_
      rw [show Mo_flood 82 1 (nI s) S = _ from a1, bV_s]
    rcases mo_b43 (S := S2) hs 64 0 iz_FU (by omega) (by have := fu_ge; omega) with ⟨r1, k, v, d, r2, r3, r4, r5⟩ | ⟨r1, r2⟩
    · refine ⟨0, S2, q1'.trans r1, Or.inr (Or.inl ⟨rfl, k1, k, d, r2, ⟨v, r3, r4⟩, ?_⟩), a3⟩
      have d64 := (adj_sym k (io_lt hs r2) v r3 d r4).1
      rcases a2 d d64 with ⟨z1, z2⟩ | ⟨z1, z2⟩
      · exact rch_cong eb z2
      · exact absurd z1 r5
    · refine ⟨2, S2, q1'.trans r1, Or.inr (Or.inr ⟨rfl, k1, ?_⟩), a3⟩
      rintro ⟨k, d, g1, ⟨v, v4, g2⟩, g3⟩
      have d64 := (adj_sym k (io_lt hs g1) v v4 d g2).1
      have z := r2 k v d (Nat.zero_le _) g1 v4 g2
      rcases a2 d d64 with ⟨z1, z2⟩ | ⟨z1, z2⟩
      · rw [z] at z1; exact absurd z1 (by decide)
      · exact z2 (rch_cong (fun i => (eb i).symm) g3)
/-- squares, in both -/
theorem sq_dec : ∀ k, k < 64 → (if 0 ≤ nI k ∧ nI k ≤ 54 then (if nI k - nI k / 8 * 8 < 7 then (1 : Int32) else 0) else 0) = (if isq k = true then 1 else 0) ∧ (if nI k / 8 < 7 then (if nI k - nI k / 8 * 8 < 7 then (1 : Int32) else 0) else 0) = (if isq k = true then 1 else 0) := by decide +kernel
theorem sq_both (x : Int32) (S : iz_S) : (∃ s, isq s = true ∧ x = nI s ∧ ∀ T : iz_S, La_isSquare x T = some (1, T) ∧ Mo_isSquare x T = some (1, T)) ∨ (∀ T : iz_S, La_isSquare x T = some (0, T) ∧ Mo_isSquare x T = some (0, T)) ∧ ¬ ∃ s, isq s = true ∧ x = nI s := by
  have n1 : ¬ (1 : Int32) = 0 := by decide
  by_cases hx : 0 ≤ x ∧ x ≤ 63
  · obtain ⟨k, -, k63, rfl⟩ := nI_btw (a := 0) (b := 63) (by decide) hx.1 hx.2 (by decide)
    obtain ⟨d1, d2⟩ := sq_dec k (by omega)
    have la : ∀ T : iz_S, La_isSquare (nI k) T = some ((if isq k = true then 1 else 0), T) := fun T => by
      rw [← d1]
      by_cases q1 : 0 ≤ nI k ∧ nI k ≤ 54
      · by_cases q2 : nI k - nI k / 8 * 8 < 7
        · simp only [La_isSquare, La_isSquare_24, ic_within, ck_t, lt_e, bI_s, bL_s, bV_s, one_n0, zero_0, if_true, if_false, rfs, if_pos q1, if_pos q2, nb_1, decide_true]
        · simp only [La_isSquare, La_isSquare_23, La_isSquare_24, ic_within, ck_t, lt_e, bI_s, bL_s, bV_s, one_n0, zero_0, if_true, if_false, rfs, if_pos q1, if_neg q2, nb_0, decide_true]
      · simp only [La_isSquare, La_isSquare_23, La_isSquare_24, ic_within, ck_t, lt_e, bI_s, bL_s, bV_s, one_n0, zero_0, if_true, if_false, rfs, if_neg q1, nb_0, decide_true]
    have mo : ∀ T : iz_S, Mo_isSquare (nI k) T = some ((if isq k = true then 1 else 0), T) := fun T => by
      rw [← d2]
      by_cases q1 : nI k / 8 < 7
      · by_cases q2 : nI k - nI k / 8 * 8 < 7
        · simp only [Mo_isSquare, Mo_isSquare_30, mo_isCell, ck_t, lt_e, bI_s, bL_s, bV_s, one_n0, zero_0, if_true, if_false, rfs, if_pos hx, if_pos q1, if_pos q2, nb_1, decide_true]
        · simp only [Mo_isSquare, Mo_isSquare_29, Mo_isSquare_30, mo_isCell, ck_t, lt_e, bI_s, bL_s, bV_s, one_n0, zero_0, if_true, if_false, rfs, if_pos hx, if_pos q1, if_neg q2, nb_0, decide_true]
      · simp only [Mo_isSquare, Mo_isSquare_29, Mo_isSquare_30, mo_isCell, ck_t, lt_e, bI_s, bL_s, bV_s, one_n0, zero_0, if_true, if_false, rfs, if_pos hx, if_neg q1, nb_0, decide_true]
    by_cases q : isq k = true
    · exact Or.inl ⟨k, q, rfl, fun T => by rw [la, mo, if_pos q]; exact ⟨rfl, rfl⟩⟩
    · refine Or.inr ⟨fun T => by rw [la, mo, if_neg q]; exact ⟨rfl, rfl⟩, ?_⟩
      rintro ⟨s, s1, s2⟩
      have := (nI_eq (by omega) (by have := isq_lt s1; omega)).mp s2
      subst this
      exact q s1
  · refine Or.inr ⟨fun T => ⟨?_, ?_⟩, ?_⟩
    · have q1 : ¬ (0 ≤ x ∧ x ≤ 54) := fun q => hx ⟨q.1, by
        rw [fa_le] at q ⊢
        have a : (54 : Int32).toInt = 54 := rfl
        have b : (63 : Int32).toInt = 63 := rfl
        have := q.2
        rw [fa_le] at this
        omega⟩
      simp only [La_isSquare, La_isSquare_23, La_isSquare_24, ic_within, ck_t, lt_e, bI_s, bL_s, bV_s, one_n0, zero_0, if_true, if_false, rfs, if_neg q1, nb_0, decide_true]
    · simp only [Mo_isSquare, Mo_isSquare_29, Mo_isSquare_30, mo_isCell, ck_t, lt_e, bI_s, bL_s, bV_s, one_n0, zero_0, if_true, if_false, rfs, if_neg hx, nb_0, decide_true]
    · rintro ⟨s, s1, rfl⟩
      have := isq_lt s1
      exact hx ⟨nI_pos' (by omega), nI_le (b := 63) (by omega) (by decide)⟩
theorem pc_bars {S : iz_S} (h : rl S) (x : Int32) : pc (Ic_bars 0 x) (Mo_bars 82 x) S := by
  have n1 : ¬ (1 : Int32) = 0 := by decide
  rcases sq_both x S with ⟨s, s1, rfl, s3⟩ | ⟨s3, -⟩
  · obtain ⟨r, r1, r2⟩ := la_barTo (S := S) s1
    obtain ⟨r', S2, q1, q2, q3⟩ := mo_barOf (S := S) (f := S.1 2) s1 (fun i hi => (h.1 i hi).1)
    obtain rfl := brv_f r2 q2
    refine pc_of (r := nI r) (S1 := S) (S2 := S2) ?_ ?_ (rl_78 h q3)
    · rw [Ic_bars, (s3 S).1, bI_s, if_neg n1, show iz_rf 0 0 = 1 from rfl, r1, bI_s]
    · rw [Mo_bars, (s3 S).2, bI_s, if_neg n1, q1, bI_s, Mo_bars_20]
  · refine pc_of (r := -1000001) (S1 := iz_up S 81 1 (S.1 81 1 + 1)) ?_ ?_ (rl_find (k := 1) h)
    · rw [Ic_bars, (s3 S).1, bI_s, if_pos rfl, ic_f1, bI_s]
    · rw [Mo_bars, (s3 _).2, bI_s, if_pos rfl, mo_f1, bI_s, Mo_bars_20]
