/-! PURE: sets of cells: shifts, cells beside, what can be reached -/
theorem uN_b (x : Int64) : uN x = x.toBitVec.toNat := rfl
theorem uN_xor (x y : Int64) : uN (x ^^^ y) = uN x ^^^ uN y := by
  show (x.toUInt64 ^^^ y.toUInt64).toNat = _
  exact UInt64.toNat_xor _ _
theorem uN_shl (x s : Int64) (k : Nat) (hk : (s.toBitVec.smod 64).toNat = k) : uN (x <<< s) = uN x * 2 ^ k % 2 ^ 64 := by
  have e : (x <<< s).toBitVec = x.toBitVec <<< (s.toBitVec.smod 64) := rfl
  rw [uN_b, uN_b, e, BitVec.shiftLeft_eq', hk, BitVec.toNat_shiftLeft, Nat.shiftLeft_eq]
/-- bit i of a set -/
def bt_ (x : Int64) (i : Nat) : Bool := (uN x).testBit i
theorem bt_hi (x : Int64) {i : Nat} (h : 64 ≤ i) : bt_ x i = false := Nat.testBit_lt_two_pow (Nat.lt_of_lt_of_le (uN_lt x) (by
  rw [show (18446744073709551616 : Nat) = 2 ^ 64 from rfl]
  exact Nat.pow_le_pow_right (by decide) h))
theorem bt_ext {x y : Int64} (h : ∀ i, i < 64 → bt_ x i = bt_ y i) : x = y := uN_inj (Nat.eq_of_testBit_eq (fun i => by
  by_cases hi : i < 64
  · exact h i hi
  · have h1 := bt_hi x (i := i) (by omega)
    have h2 := bt_hi y (i := i) (by omega)
    unfold bt_ at h1 h2
    rw [h1, h2]))
theorem bt_and (x y : Int64) (i : Nat) : bt_ (x &&& y) i = (bt_ x i && bt_ y i) := by unfold bt_; rw [uN_and, Nat.testBit_and]
theorem bt_or (x y : Int64) (i : Nat) : bt_ (x ||| y) i = (bt_ x i || bt_ y i) := by unfold bt_; rw [uN_or, Nat.testBit_or]
theorem bt_not (x : Int64) {i : Nat} (h : i < 64) : bt_ (x ^^^ (-1)) i = !bt_ x i := by
  unfold bt_
  have e : uN (-1 : Int64) = 2 ^ 64 - 1 := by decide +kernel
  rw [uN_xor, Nat.testBit_xor, e, Nat.testBit_two_pow_sub_one]
  simp [h]
theorem bt_0 (i : Nat) : bt_ 0 i = false := by
  unfold bt_
  have : uN (0 : Int64) = 0 := by decide +kernel
  rw [this]; simp
theorem bt_255 (i : Nat) : bt_ 255 i = decide (i < 8) := by
  unfold bt_
  have : uN (255 : Int64) = 2 ^ 8 - 1 := by decide +kernel
  rw [this, Nat.testBit_two_pow_sub_one]
theorem cmp_0 (x y : Int64) : (lg_cmp x y = 0) = (x = y) := by
  unfold lg_cmp
  apply propext
  by_cases h1 : x > y
  · rw [if_pos h1]
    constructor
    · intro q; exact absurd q (by decide)
    · intro q; rw [q] at h1; exact absurd h1 Int64.lt_irrefl
  · rw [if_neg h1]
    by_cases h2 : x = y
    · rw [if_pos h2]; exact ⟨fun _ => h2, fun _ => rfl⟩
    · rw [if_neg h2]
      constructor
      · intro q; exact absurd q (by decide)
      · intro q; exact absurd q h2
/-- the cells beside a set -/
def bsB (p : Nat → Bool) (i : Nat) : Bool := (decide (8 ≤ i) && p (i - 8)) || p (i + 8) || (decide (i % 8 ≠ 0) && p (i - 1)) || (decide (i % 8 ≠ 7) && p (i + 1))
theorem mFE : ∀ i, i < 64 → Nat.testBit (uN (-72340172838076674 : Int64)) i = decide (i % 8 ≠ 0) := by decide +kernel
theorem m7F : ∀ i, i < 64 → Nat.testBit (uN (9187201950435737471 : Int64)) i = decide (i % 8 ≠ 7) := by decide +kernel
theorem la_beside (x : Int64) (S : iz_S) : ∃ y, La_beside x S = some (y, S) ∧ ∀ i, i < 64 → bt_ y i = bsB (bt_ x) i := by
  refine ⟨_, rfl, fun i hi => ?_⟩
  have s8 : ((Int32.toInt64 8 &&& 63).toBitVec.smod 64).toNat = 8 := by decide +kernel
  have s1 : ((Int32.toInt64 1 &&& 63).toBitVec.smod 64).toNat = 1 := by decide +kernel
  rw [bt_or, bt_or, bt_or, bt_and, bt_and]
  have a1 : bt_ (x <<< (Int32.toInt64 8 &&& 63)) i = (decide (8 ≤ i) && bt_ x (i - 8)) := by
    unfold bt_
    rw [uN_shl _ _ 8 s8, Nat.testBit_mod_two_pow, Nat.testBit_mul_two_pow]
    simp [hi]
  have a2 : bt_ (x <<< (Int32.toInt64 1 &&& 63)) i = (decide (1 ≤ i) && bt_ x (i - 1)) := by
    unfold bt_
    rw [uN_shl _ _ 1 s1, Nat.testBit_mod_two_pow, Nat.testBit_mul_two_pow]
    simp [hi]
  have a3 : bt_ (x.toUInt64 >>> ((Int32.toInt64 8).toUInt64 &&& Int64.toUInt64 63)).toInt64 i = bt_ x (i + 8) := by
    unfold bt_
    rw [(sh_e x).2.2.2.1, show (256 : Nat) = 2 ^ 8 from rfl, Nat.testBit_div_two_pow]
  have a4 : bt_ (x.toUInt64 >>> ((Int32.toInt64 1).toUInt64 &&& Int64.toUInt64 63)).toInt64 i = bt_ x (i + 1) := by
    unfold bt_
    rw [(sh_e x).1, show uN x / 2 = uN x / 2 ^ 1 from rfl, Nat.testBit_div_two_pow]
  have a5 : bt_ (-72340172838076674) i = decide (i % 8 ≠ 0) := mFE i hi
  have a6 : bt_ 9187201950435737471 i = decide (i % 8 ≠ 7) := m7F i hi
  rw [a1, a2, a3, a4, a5, a6]
  unfold bsB
  by_cases h0 : i % 8 = 0
  · simp [h0, Bool.and_comm]
  · have h1 : 1 ≤ i := by omega
    simp [h0, h1, Bool.and_comm]
/-- a cell's neighbour: 0 up, 1 down, 2 left, 3 right -/
def nbr (c : Nat) : Nat → Option Nat
  | 0 => if c / 8 = 0 then none else some (c - 8)
  | 1 => if c / 8 = 7 then none else some (c + 8)
  | 2 => if c % 8 = 0 then none else some (c - 1)
  | _ => if c % 8 = 7 then none else some (c + 1)
def adj (c d : Nat) : Prop := ∃ w, w < 4 ∧ nbr c w = some d
theorem adj_sym : ∀ c, c < 64 → ∀ w, w < 4 → ∀ d, nbr c w = some d → d < 64 ∧ ∃ v, v < 4 ∧ nbr d v = some c := by
  intro c hc w hw d h
  obtain rfl | rfl | rfl | rfl : w = 0 ∨ w = 1 ∨ w = 2 ∨ w = 3 := by omega
  · have e : nbr c 0 = if c / 8 = 0 then none else some (c - 8) := rfl
    rw [e] at h
    split at h
    · cases h
    · obtain rfl := Option.some.inj h
      refine ⟨by omega, 1, by decide, ?_⟩
      have e2 : nbr (c - 8) 1 = if (c - 8) / 8 = 7 then none else some (c - 8 + 8) := rfl
      rw [e2, if_neg (by omega)]
      congr 1; omega
  · have e : nbr c 1 = if c / 8 = 7 then none else some (c + 8) := rfl
    rw [e] at h
    split at h
    · cases h
    · obtain rfl := Option.some.inj h
      refine ⟨by omega, 0, by decide, ?_⟩
      have e2 : nbr (c + 8) 0 = if (c + 8) / 8 = 0 then none else some (c + 8 - 8) := rfl
      rw [e2, if_neg (by omega)]
      congr 1
  · have e : nbr c 2 = if c % 8 = 0 then none else some (c - 1) := rfl
    rw [e] at h
    split at h
    · cases h
    · obtain rfl := Option.some.inj h
      refine ⟨by omega, 3, by decide, ?_⟩
      have e2 : nbr (c - 1) 3 = if (c - 1) % 8 = 7 then none else some (c - 1 + 1) := rfl
      rw [e2, if_neg (by omega)]
      congr 1; omega
  · have e : nbr c 3 = if c % 8 = 7 then none else some (c + 1) := rfl
    rw [e] at h
    split at h
    · cases h
    · obtain rfl := Option.some.inj h
      refine ⟨by omega, 2, by decide, ?_⟩
      have e2 : nbr (c + 1) 2 = if (c + 1) % 8 = 0 then none else some (c + 1 - 1) := rfl
      rw [e2, if_neg (by omega)]
      congr 1
theorem bs_adj {p : Nat → Bool} (hp : ∀ i, 64 ≤ i → p i = false) {i : Nat} (hi : i < 64) : bsB p i = true ↔ ∃ j, j < 64 ∧ p j = true ∧ adj j i := by
  have up : ∀ j, p j = true → j < 64 := fun j h => by
    by_cases q : j < 64
    · exact q
    · rw [hp j (by omega)] at h; cases h
  unfold bsB
  simp only [Bool.or_eq_true, Bool.and_eq_true, decide_eq_true_eq]
  constructor
  · rintro (((⟨h1, h2⟩ | h2) | ⟨h1, h2⟩) | ⟨h1, h2⟩)
    · refine ⟨i - 8, by omega, h2, 1, by decide, ?_⟩
      have e2 : nbr (i - 8) 1 = if (i - 8) / 8 = 7 then none else some (i - 8 + 8) := rfl
      rw [e2, if_neg (by omega)]
      congr 1; omega
    · have := up _ h2
      refine ⟨i + 8, this, h2, 0, by decide, ?_⟩
      have e2 : nbr (i + 8) 0 = if (i + 8) / 8 = 0 then none else some (i + 8 - 8) := rfl
      rw [e2, if_neg (by omega)]
      congr 1
    · refine ⟨i - 1, by omega, h2, 3, by decide, ?_⟩
      have e2 : nbr (i - 1) 3 = if (i - 1) % 8 = 7 then none else some (i - 1 + 1) := rfl
      rw [e2, if_neg (by omega)]
      congr 1; omega
    · have := up _ h2
      refine ⟨i + 1, this, h2, 2, by decide, ?_⟩
      have e2 : nbr (i + 1) 2 = if (i + 1) % 8 = 0 then none else some (i + 1 - 1) := rfl
      rw [e2, if_neg (by omega)]
      congr 1
  · rintro ⟨j, hj, hpj, w, hw, hn⟩
    obtain rfl | rfl | rfl | rfl : w = 0 ∨ w = 1 ∨ w = 2 ∨ w = 3 := by omega
    · have e : nbr j 0 = if j / 8 = 0 then none else some (j - 8) := rfl
      rw [e] at hn
      split at hn
      · cases hn
      · have := Option.some.inj hn
        exact Or.inl (Or.inl (Or.inr (by rw [show i + 8 = j by omega]; exact hpj)))
    · have e : nbr j 1 = if j / 8 = 7 then none else some (j + 8) := rfl
      rw [e] at hn
      split at hn
      · cases hn
      · have := Option.some.inj hn
        exact Or.inl (Or.inl (Or.inl ⟨by omega, by rw [show i - 8 = j by omega]; exact hpj⟩))
    · have e : nbr j 2 = if j % 8 = 0 then none else some (j - 1) := rfl
      rw [e] at hn
      split at hn
      · cases hn
      · have := Option.some.inj hn
        exact Or.inr ⟨by omega, by rw [show i + 1 = j by omega]; exact hpj⟩
    · have e : nbr j 3 = if j % 8 = 7 then none else some (j + 1) := rfl
      rw [e] at hn
      split at hn
      · cases hn
      · have := Option.some.inj hn
        exact Or.inl (Or.inr ⟨by omega, by rw [show i - 1 = j by omega]; exact hpj⟩)
/-- what can be reached from the first row over cells that bear -/
def Rch (bp : Nat → Bool) (i : Nat) : Prop := ∀ P : Nat → Prop, (∀ j, j < 8 → bp j = true → P j) → (∀ j k, P j → adj j k → bp k = true → P k) → P i
theorem rch_0 {bp : Nat → Bool} {j : Nat} (h : j < 8) (hb : bp j = true) : Rch bp j := fun P h0 _ => h0 j h hb
theorem rch_s {bp : Nat → Bool} {j k : Nat} (h : Rch bp j) (ha : adj j k) (hb : bp k = true) : Rch bp k := fun P h0 hs => hs j k (h P h0 hs) ha hb
theorem rch_b {bp : Nat → Bool} {i : Nat} (h : Rch bp i) : bp i = true := h (fun i => bp i = true) (fun _ _ q => q) (fun _ _ _ _ q => q)
theorem rch_cong {bp bp2 : Nat → Bool} (h : ∀ i, bp i = bp2 i) {i : Nat} (hr : Rch bp i) : Rch bp2 i := fun P h0 hs => hr P (fun j hj hb => h0 j hj (by rw [← h]; exact hb)) (fun j k hP ha hb => hs j k hP ha (by rw [← h]; exact hb))
theorem cnt_lt {p q : Nat → Bool} (h : ∀ i, p i = true → q i = true) {i : Nat} (h1 : p i = false) (h2 : q i = true) : ∀ n, i < n → fa_ct p n < fa_ct q n := by
  have le : ∀ n, fa_ct p n ≤ fa_ct q n := by
    intro n
    induction n with
    | zero => exact Nat.le_refl _
    | succ n ih =>
      rw [fa_ct, fa_ct]
      by_cases e : p n = true
      · rw [if_pos e, if_pos (h n e)]; omega
      · rw [if_neg e]; omega
  intro n
  induction n with
  | zero => intro hn; omega
  | succ n ih =>
    intro hn
    rw [fa_ct, fa_ct]
    by_cases e : n = i
    · subst e
      have := le n
      rw [h1, h2]
      simp
      omega
    · have := ih (by omega)
      by_cases e2 : p n = true
      · rw [if_pos e2, if_pos (h n e2)]; omega
      · rw [if_neg e2]; omega
theorem cnt_le (p : Nat → Bool) : ∀ n, fa_ct p n ≤ n
  | 0 => Nat.le_refl _
  | n + 1 => by
    have := cnt_le p n
    rw [fa_ct]
    split <;> omega
theorem cnt_full {p : Nat → Bool} : ∀ {n : Nat}, n ≤ fa_ct p n → ∀ i, i < n → p i = true
  | 0, _, i, hi => by omega
  | n + 1, h, i, hi => by
    have l := cnt_le p n
    rw [fa_ct] at h
    by_cases e : p n = true
    · rw [if_pos e] at h
      by_cases e2 : i = n
      · rw [e2]; exact e
      · exact cnt_full (n := n) (by omega) i (by omega)
    · rw [if_neg e] at h; omega
theorem la_over {bp : Nat → Bool} {x0 : Int64} (h0 : ∀ i, bt_ x0 i = bp i) (S : iz_S) : ∀ (j t n : Nat) (x2 : Int64), t + j = 64 → j < n → t ≤ fa_ct (bt_ x2) 64 → (∀ i, i < 8 → bp i = true → bt_ x2 i = true) → (∀ i, bt_ x2 i = true → Rch bp i) →
    ∃ y, La_reachedOver_9 n x0 x2 (nI t) S = some (y, S) ∧ ∀ i, bt_ y i = true ↔ Rch bp i := by
  intro j
  induction j with
  | zero =>
    intro t n x2 hj hn ht hb hr
    obtain ⟨m, rfl⟩ : ∃ k, n = k + 1 := ⟨n - 1, by omega⟩
    have lt : ¬ nI t < 64 := nI_nlt (b := 64) (by omega) (by omega)
    refine ⟨x2, ?_, fun i => ⟨hr i, fun h => ?_⟩⟩
    · show La_reachedOver_9b (La_reachedOver_9 m) x0 x2 (nI t) S = _
      rw [La_reachedOver_9b, if_neg lt, La_reachedOver_45]
    · have hi : i < 64 := by
        have := rch_b h
        rw [← h0] at this
        by_cases q : i < 64
        · exact q
        · rw [bt_hi x0 (by omega)] at this; cases this
      exact cnt_full (show 64 ≤ fa_ct (bt_ x2) 64 by omega) i hi
  | succ j ih =>
    intro t n x2 hj hn ht hb hr
    obtain ⟨m, rfl⟩ : ∃ k, n = k + 1 := ⟨n - 1, by omega⟩
    have lt : nI t < 64 := nI_lt (b := 64) (by omega) (by omega)
    obtain ⟨y, y1, y2⟩ := la_beside x2 S
    obtain ⟨v, hv⟩ : ∃ v, v = (x2 ||| y) &&& x0 := ⟨_, rfl⟩
    have bv : ∀ i, i < 64 → bt_ v i = ((bt_ x2 i || bsB (bt_ x2) i) && bp i) := fun i hi => by rw [hv, bt_and, bt_or, y2 i hi, h0]
    have sub : ∀ i, bt_ x2 i = true → bt_ v i = true := fun i h => by
      have hi : i < 64 := by
        by_cases q : i < 64
        · exact q
        · rw [bt_hi x2 (by omega)] at h; cases h
      rw [bv i hi, h, rch_b (hr i h)]; rfl
    by_cases e : v = x2
    · refine ⟨x2, ?_, fun i => ⟨hr i, fun h => ?_⟩⟩
      · show La_reachedOver_9b (La_reachedOver_9 m) x0 x2 (nI t) S = _
        rw [La_reachedOver_9b, if_pos lt, y1, bL_s, lt_e, ← hv, if_pos (by rw [cmp_0]; exact e), La_reachedOver_45]
      · refine h (fun i => bt_ x2 i = true) hb (fun a b ha hab hbb => ?_)
        have a64 : a < 64 := by
          by_cases q : a < 64
          · exact q
          · rw [bt_hi x2 (by omega)] at ha; cases ha
        obtain ⟨w, hw, hn⟩ := hab
        have b64 := (adj_sym a a64 w hw b hn).1
        have q := (bs_adj (fun i hi => bt_hi x2 hi) b64).mpr ⟨a, a64, ha, w, hw, hn⟩
        rw [← e, bv b b64, q, hbb]
        simp
    · have ex : ∃ i, i < 64 ∧ bt_ x2 i = false ∧ bt_ v i = true := by
        apply Classical.byContradiction
        intro q
        apply e
        refine bt_ext (fun i hi => ?_)
        cases h1 : bt_ x2 i with
        | true => exact sub i h1
        | false =>
          cases h2 : bt_ v i with
          | false => rfl
          | true => exact absurd ⟨i, hi, h1, h2⟩ q
      obtain ⟨i, hi, e1, e2⟩ := ex
      have c1 := cnt_lt (p := bt_ x2) (q := bt_ v) sub e1 e2 64 hi
      obtain ⟨z, z1, z2⟩ := ih (t + 1) m v (by omega) (by omega) (by omega) (fun i h1 h2 => sub i (hb i h1 h2)) (fun i h => by
        have hi : i < 64 := by
          by_cases q : i < 64
          · exact q
          · rw [bt_hi v (by omega)] at h; cases h
        rw [bv i hi, Bool.and_eq_true, Bool.or_eq_true] at h
        rcases h.1 with h1 | h1
        · exact hr i h1
        · obtain ⟨k, k64, k1, k2⟩ := (bs_adj (fun i hi => bt_hi x2 hi) hi).mp h1
          exact rch_s (hr k k1) k2 h.2)
      refine ⟨z, ?_, z2⟩
      show La_reachedOver_9b (La_reachedOver_9 m) x0 x2 (nI t) S = _
      rw [La_reachedOver_9b, if_pos lt, y1, bL_s, lt_e, ← hv, if_neg (by rw [cmp_0]; exact e), nI_1, z1]
theorem la_reach {bp : Nat → Bool} {x0 : Int64} (h0 : ∀ i, bt_ x0 i = bp i) (S : iz_S) : ∃ y, La_reachedOver x0 S = some (y, S) ∧ ∀ i, bt_ y i = true ↔ Rch bp i := by
  obtain ⟨y, y1, y2⟩ := la_over h0 S 64 0 iz_FU (x0 &&& 255) (by omega) (by have := fu_ge; omega) (Nat.zero_le _) (fun i h1 h2 => by rw [bt_and, h0, bt_255, h2]; simp [h1]) (fun i h => by
    rw [bt_and, h0, bt_255, Bool.and_eq_true, decide_eq_true_eq] at h
    exact rch_0 h.2 h.1)
  exact ⟨y, y1, y2⟩
