/-! PURE: what can be reached, reference side -/
def bs47 (x2 s0 s1 : Int32) : Int32 := if 0 ≤ x2 ∧ x2 ≤ 7 then (if 0 ≤ s0 + s1 ∧ s0 + s1 ≤ 7 then (8 : Int32) * x2 + (s0 + s1) else -1) else -1
def bs22 (x0 x1 s0 s1 : Int32) : Int32 := if x1 = 2 then bs47 (s0 + s1) (x0 - x0 / 8 * 8) (-1) else if x1 = 3 then bs47 (s0 + s1) (x0 - x0 / 8 * 8) 1 else bs47 (s0 + s1) (x0 - x0 / 8 * 8) 0
def bsI (x0 x1 : Int32) : Int32 := if x1 = 0 then bs22 x0 x1 (x0 / 8) (-1) else if x1 = 1 then bs22 x0 x1 (x0 / 8) 1 else bs22 x0 x1 (x0 / 8) 0
theorem mo_b47 (x2 s0 s1 : Int32) (S : iz_S) : Mo_beside_47 x2 s0 s1 S = some (bs47 x2 s0 s1, S) := by
  unfold bs47
  by_cases q1 : 0 ≤ x2 ∧ x2 ≤ 7
  · by_cases q2 : 0 ≤ s0 + s1 ∧ s0 + s1 ≤ 7
    · simp only [Mo_beside_47, Mo_beside_79, mo_isIn, ck_t, lt_e, bI_s, bL_s, bV_s, one_n0, zero_0, if_true, if_false, rfs, if_pos q1, if_pos q2]
    · simp only [Mo_beside_47, Mo_beside_78, Mo_beside_79, mo_isIn, ck_t, lt_e, bI_s, bL_s, bV_s, one_n0, zero_0, if_true, if_false, rfs, if_pos q1, if_neg q2]
  · simp only [Mo_beside_47, Mo_beside_78, Mo_beside_79, mo_isIn, ck_t, lt_e, bI_s, bL_s, bV_s, one_n0, zero_0, if_true, if_false, rfs, if_neg q1]
theorem mo_b22 (x0 x1 s0 s1 : Int32) (S : iz_S) : Mo_beside_22 x0 x1 s0 s1 S = some (bs22 x0 x1 s0 s1, S) := by
  unfold bs22 Mo_beside_22
  rw [lt_e]
  by_cases q1 : x1 = 2
  · rw [if_pos q1, if_pos q1, mo_b47]
  · rw [if_neg q1, if_neg q1]
    by_cases q2 : x1 = 3
    · rw [if_pos q2, if_pos q2, mo_b47]
    · rw [if_neg q2, if_neg q2, mo_b47]
theorem mo_bsd (x0 x1 : Int32) (S : iz_S) : Mo_beside x0 x1 S = some (bsI x0 x1, S) := by
  unfold bsI Mo_beside
  by_cases q1 : x1 = 0
  · rw [if_pos q1, if_pos q1, mo_b22]
  · rw [if_neg q1, if_neg q1]
    by_cases q2 : x1 = 1
    · rw [if_pos q2, if_pos q2, mo_b22]
    · rw [if_neg q2, if_neg q2, mo_b22]
theorem bs_dec : ∀ c, c < 64 → ∀ w, w < 4 → bsI (nI c) (nI w) = bkI (nbr c w) := by decide +kernel
theorem mo_bs {c w : Nat} (hc : c < 64) (hw : w < 4) (S : iz_S) : Mo_beside (nI c) (nI w) S = some (bkI (nbr c w), S) := by rw [mo_bsd, bs_dec c hc w hw]
/-- a cell of the square s -/
def io (c s : Nat) : Bool := c == s || c == s + 1 || c == s + 8 || c == s + 9
def isq (s : Nat) : Bool := decide (s < 55) && decide (s % 8 < 7)
def ioI (x0 x1 : Int32) : Int32 := if 0 ≤ x0 / 8 - x1 / 8 ∧ x0 / 8 - x1 / 8 ≤ 1 then (if 0 ≤ x0 - x0 / 8 * 8 - (x1 - x1 / 8 * 8) ∧ x0 - x0 / 8 * 8 - (x1 - x1 / 8 * 8) ≤ 1 then 1 else 0) else 0
theorem mo_io (x0 x1 : Int32) (S : iz_S) : Mo_isOf x0 x1 S = some (ioI x0 x1, S) := by
  unfold ioI
  by_cases q1 : 0 ≤ x0 / 8 - x1 / 8 ∧ x0 / 8 - x1 / 8 ≤ 1
  · by_cases q2 : 0 ≤ x0 - x0 / 8 * 8 - (x1 - x1 / 8 * 8) ∧ x0 - x0 / 8 * 8 - (x1 - x1 / 8 * 8) ≤ 1
    · simp only [Mo_isOf, Mo_isOf_39, mo_isIn, ck_t, lt_e, bI_s, bL_s, bV_s, one_n0, zero_0, if_true, if_false, rfs, if_pos q1, if_pos q2, nb_1, decide_true]
    · simp only [Mo_isOf, Mo_isOf_38, Mo_isOf_39, mo_isIn, ck_t, lt_e, bI_s, bL_s, bV_s, one_n0, zero_0, if_true, if_false, rfs, if_pos q1, if_neg q2, nb_0, decide_true]
  · simp only [Mo_isOf, Mo_isOf_38, Mo_isOf_39, mo_isIn, ck_t, lt_e, bI_s, bL_s, bV_s, one_n0, zero_0, if_true, if_false, rfs, if_neg q1, nb_0, decide_true]
theorem io_dec : ∀ s, s < 55 → isq s = true → ∀ c, c < 64 → ioI (nI c) (nI s) = if io c s = true then 1 else 0 := by decide +kernel
theorem mo_isOf {c s : Nat} (hs : isq s = true) (hc : c < 64) (S : iz_S) : Mo_isOf (nI c) (nI s) S = some (if io c s = true then 1 else 0, S) := by
  have s55 : s < 55 := by
    unfold isq at hs
    rw [Bool.and_eq_true, decide_eq_true_eq] at hs
    exact hs.1
  rw [mo_io, io_dec s s55 hs c hc]
/-- not of the square, if there is one -/
def nio (c : Nat) : Option Nat → Bool
  | none => true
  | some s => !io c s
/-- which cells bear, in a row of thicknesses -/
def bpf (f : Nat → Int32) (thr : Int32) (sq : Option Nat) (i : Nat) : Bool := decide (i < 64) && (decide (¬ f i < thr) && nio i sq)
def f78 (p _ : Nat) : Bool := p == 107 || p == 108
/-- the queue Q and the marks up to c -/
def FI (S : iz_S) (Q : List Nat) (c : Nat) : Prop := Q.Nodup ∧ (∀ i, i ∈ Q → i < 64) ∧ (∀ a, a < Q.length → S.1 108 a = nI ((Q[a]?).getD 0)) ∧ ∀ i, i < c → S.1 107 i = if i ∈ Q then 1 else 0
theorem q_len {Q : List Nat} (h1 : Q.Nodup) (h2 : ∀ i, i ∈ Q → i < 64) : Q.length ≤ 64 := by
  have := List.Nodup.length_le_of_subset (l₂ := List.range 64) h1 (fun i hi => List.mem_range.mpr (h2 i hi))
  rw [List.length_range] at this
  exact this
theorem q_new {Q : List Nat} (h1 : Q.Nodup) (h2 : ∀ i, i ∈ Q → i < 64) {c : Nat} (hc : c < 64) (hn : c ∉ Q) : (Q ++ [c]).Nodup ∧ (∀ i, i ∈ Q ++ [c] → i < 64) ∧ Q.length < 64 := by
  have n1 : (Q ++ [c]).Nodup := List.nodup_append.mpr ⟨h1, by simp, fun x hx y hy q => by
    rw [List.mem_singleton.mp hy] at q
    exact hn (q ▸ hx)⟩
  have n2 : ∀ i, i ∈ Q ++ [c] → i < 64 := fun i hi => by
    rcases List.mem_append.mp hi with q | q
    · exact h2 i q
    · rw [List.mem_singleton.mp q]; exact hc
  have := q_len n1 n2
  rw [List.length_append, List.length_cons, List.length_nil] at this
  exact ⟨n1, n2, by omega⟩
theorem mo_fl5 {f : Nat → Int32} {who : Nat} {sq : Option Nat} (hw : who < 3) (hq : ∀ s, sq = some s → isq s = true) : ∀ (j c n : Nat) (S : iz_S) (Q : List Nat), c + j = 64 → j < n → (∀ i, i < 64 → S.1 83 i = f i) → FI S Q c → (∀ i, i ∈ Q → i < c ∧ i < 8 ∧ bpf f (iz_zV 3 who) sq i = true) → (∀ i, i < c → i < 8 → bpf f (iz_zV 3 who) sq i = true → i ∈ Q) →
    ∃ S2 Q2, Mo_flood_5 82 n (nI who) (bkI sq) (nI Q.length) (nI c) S = Mo_flood_89 82 iz_FU (nI who) (bkI sq) (nI Q2.length) 0 S2 ∧ FI S2 Q2 64 ∧ (∀ i, i ∈ Q2 → i < 8 ∧ bpf f (iz_zV 3 who) sq i = true) ∧ (∀ i, i < 8 → bpf f (iz_zV 3 who) sq i = true → i ∈ Q2) ∧ fr f78 S S2 := by
  intro j
  induction j with
  | zero =>
    intro c n S Q hc hn ht hF h1 h2
    obtain ⟨m, rfl⟩ : ∃ k, n = k + 1 := ⟨n - 1, by omega⟩
    obtain rfl : c = 64 := by omega
    have lt : ¬ nI 64 < 64 := by decide +kernel
    refine ⟨S, Q, ?_, hF, fun i hi => (h1 i hi).2, fun i h8 hb => h2 i (by omega) h8 hb, fr_rf _ _⟩
    show Mo_flood_5b 82 (Mo_flood_5 82 m) (nI who) (bkI sq) (nI Q.length) (nI 64) S = _
    rw [Mo_flood_5b, if_neg lt]
  | succ j ih =>
    intro c n S Q hc hn ht hF h1 h2
    obtain ⟨m, rfl⟩ : ∃ k, n = k + 1 := ⟨n - 1, by omega⟩
    have c64 : c < 64 := by omega
    have lt : nI c < 64 := nI_lt (b := 64) c64 (by omega)
    have l8 : (nI c < 8) = (c < 8) := propext (nI_ltI (b := 8) (by omega) (by decide))
    have i1 := in_ok (n := c) (N := 64) c64 (by decide)
    have i3 := in_ok (n := who) (N := 3) hw (by decide)
    have gc := fun (T : iz_S) p => g_nI T p (show c < 2 ^ 31 by omega)
    have sc := fun (T : iz_S) p => s_nI T p (show c < 2 ^ 31 by omega)
    have ql := q_len hF.1 hF.2.1
    have cQ : c ∉ Q := fun q => by have := (h1 c q).1; omega
    -- the mark
    have head : Mo_flood_5 82 (m + 1) (nI who) (bkI sq) (nI Q.length) (nI c) S = Mo_flood_58 82 (Mo_flood_5 82 m) (nI who) (bkI sq) (nI Q.length) (nI c) (nI c) (if (decide (c < 8) && bpf f (iz_zV 3 who) sq c) = true then 1 else 0) S := by
      show Mo_flood_5b 82 (Mo_flood_5 82 m) (nI who) (bkI sq) (nI Q.length) (nI c) S = _
      rw [Mo_flood_5b, if_pos lt]
      by_cases q8 : c < 8
      · rw [if_pos (by rw [l8]; exact q8), i1, ck_t, i3, ck_t, show iz_rf 82 0 = 83 from rfl, gc, ht c c64, nI_clamp (show who < 2 ^ 31 by omega)]
        by_cases qt : f c < iz_zV 3 who
        · rw [if_pos qt, Mo_flood_57]
          have : (decide (c < 8) && bpf f (iz_zV 3 who) sq c) = false := by unfold bpf; simp [qt]
          rw [this]; rfl
        · rw [if_neg qt]
          cases sq with
          | none =>
            have ng : bkI none < 0 := by decide +kernel
            have : (decide (c < 8) && bpf f (iz_zV 3 who) none c) = true := by unfold bpf nio; simp [qt, q8, c64]
            rw [if_pos ng, this, Mo_flood_53]; rfl
          | some s =>
            have ng : ¬ bkI (some s) < 0 := nI_pos (by
              have := hq s rfl
              unfold isq at this
              rw [Bool.and_eq_true, decide_eq_true_eq] at this
              omega)
            rw [if_neg ng, show bkI (some s) = nI s from rfl, mo_isOf (hq s rfl) c64, bI_s]
            by_cases qi : io c s = true
            · have : (decide (c < 8) && bpf f (iz_zV 3 who) (some s) c) = false := by unfold bpf nio; simp [qi]
              rw [if_pos qi, if_neg (by decide), this, Mo_flood_57]; rfl
            · have : (decide (c < 8) && bpf f (iz_zV 3 who) (some s) c) = true := by unfold bpf nio; simp [qt, q8, c64, qi]
              rw [if_neg qi, if_pos rfl, this, Mo_flood_53]; rfl
      · rw [if_neg (by rw [l8]; exact q8), Mo_flood_57]
        have : (decide (c < 8) && bpf f (iz_zV 3 who) sq c) = false := by simp [q8]
        rw [this]; rfl
    rw [head]
    cases hm : (decide (c < 8) && bpf f (iz_zV 3 who) sq c) with
    | false =>
      obtain ⟨T, hT⟩ : ∃ T, T = iz_up S 107 c 0 := ⟨_, rfl⟩
      have fT : fr f78 S T := by rw [hT]; exact fr_up (fr_rf _ _) rfl
      have nbp : ¬ (c < 8 ∧ bpf f (iz_zV 3 who) sq c = true) := fun q => by
        rw [q.2] at hm
        simp [q.1] at hm
      obtain ⟨S2, Q2, a1, a2, a3, a4, a5⟩ := ih (c + 1) m T Q (by omega) (by omega) (fun i hi => by rw [fT 83 i rfl]; exact ht i hi) ⟨hF.1, hF.2.1, fun a ha => by rw [hT, up_p _ _ _ _ (by decide)]; exact hF.2.2.1 a ha, fun i hi => by
        rw [hT]
        by_cases e : i = c
        · subst e; rw [up_same, if_neg cQ]
        · rw [up_ne _ _ _ _ (Or.inr e)]; exact hF.2.2.2 i (by omega)⟩ (fun i hi => ⟨by have := (h1 i hi).1; omega, (h1 i hi).2⟩) (fun i hi h8 hb => by
        by_cases e : i = c
        · subst e; exact absurd ⟨h8, hb⟩ nbp
        · exact h2 i (by omega) h8 hb)
      refine ⟨S2, Q2, ?_, a2, a3, a4, fr_tr fT a5⟩
      rw [← a1]
      have u : (iz_up S 107 c 0).1 107 c = 0 := up_same _ _ _ _
      rw [if_neg (by decide), Mo_flood_58, i1, ck_t, lt_e, ck_t, show iz_rf 82 29 = 107 from rfl, nb_0, sc, gc, u, if_pos rfl, Mo_flood_80, ← hT, nI_1]
    | true =>
      rw [Bool.and_eq_true, decide_eq_true_eq] at hm
      obtain ⟨n1, n2, n3⟩ := q_new hF.1 hF.2.1 c64 cQ
      obtain ⟨T, hT⟩ : ∃ T, T = iz_up (iz_up S 107 c 1) 108 Q.length (nI c) := ⟨_, rfl⟩
      have fT : fr f78 S T := by rw [hT]; exact fr_up (fr_up (fr_rf _ _) rfl) rfl
      have i2 := in_ok (n := Q.length) (N := 64) n3 (by decide)
      obtain ⟨S2, Q2, a1, a2, a3, a4, a5⟩ := ih (c + 1) m T (Q ++ [c]) (by omega) (by omega) (fun i hi => by rw [fT 83 i rfl]; exact ht i hi) ⟨n1, n2, fun a ha => by
        rw [hT]
        rw [List.length_append, List.length_cons, List.length_nil] at ha
        by_cases e : a = Q.length
        · subst e
          rw [up_same, get_r (Nat.le_refl _), Nat.sub_self]; rfl
        · rw [up_ne _ _ _ _ (Or.inr e), up_p _ _ _ _ (by decide), get_l (by omega)]
          exact hF.2.2.1 a (by omega), fun i hi => by
        rw [hT, up_p _ _ _ _ (by decide)]
        by_cases e : i = c
        · subst e; rw [up_same, if_pos (by simp)]
        · rw [up_ne _ _ _ _ (Or.inr e), hF.2.2.2 i (by omega)]
          have : (i ∈ Q ++ [c]) = (i ∈ Q) := by simp [e]
          simp only [this]⟩ (fun i hi => by
        rcases List.mem_append.mp hi with q | q
        · exact ⟨by have := (h1 i q).1; omega, (h1 i q).2⟩
        · rw [List.mem_singleton.mp q]; exact ⟨by omega, hm⟩) (fun i hi h8 hb => by
        by_cases e : i = c
        · subst e; simp
        · exact List.mem_append_left _ (h2 i (by omega) h8 hb))
      refine ⟨S2, Q2, ?_, a2, a3, a4, fr_tr fT a5⟩
      rw [← a1, List.length_append, List.length_cons, List.length_nil]
      have u : ¬ (iz_up S 107 c 1).1 107 c = 0 := by rw [up_same]; decide
      rw [if_pos rfl, Mo_flood_58, i1, ck_t, lt_e, ck_t, show iz_rf 82 29 = 107 from rfl, show iz_rf 82 30 = 108 from rfl, nb_1, sc, gc, if_neg u, i2, ck_t, lt_e, s_nI _ _ (show Q.length < 2 ^ 31 by omega), Mo_flood_80, ← hT, nI_1, nI_1]
