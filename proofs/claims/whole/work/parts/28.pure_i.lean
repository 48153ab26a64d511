/-! PURE: the count of a set's cells -/
theorem sh_e (x : Int64) : uN (x.toUInt64 >>> ((Int32.toInt64 1).toUInt64 &&& Int64.toUInt64 63)).toInt64 = uN x / 2 ∧ uN (x.toUInt64 >>> ((Int32.toInt64 2).toUInt64 &&& Int64.toUInt64 63)).toInt64 = uN x / 4 ∧ uN (x.toUInt64 >>> ((Int32.toInt64 4).toUInt64 &&& Int64.toUInt64 63)).toInt64 = uN x / 16 ∧ uN (x.toUInt64 >>> ((Int32.toInt64 8).toUInt64 &&& Int64.toUInt64 63)).toInt64 = uN x / 256 ∧ uN (x.toUInt64 >>> ((Int32.toInt64 16).toUInt64 &&& Int64.toUInt64 63)).toInt64 = uN x / 65536 ∧ uN (x.toUInt64 >>> ((Int32.toInt64 32).toUInt64 &&& Int64.toUInt64 63)).toInt64 = uN x / 4294967296 := by
  refine ⟨?_, ?_, ?_, ?_, ?_, ?_⟩
  · rw [uN_shr, show ((Int32.toInt64 1).toUInt64 &&& Int64.toUInt64 63).toNat % 64 = 1 by decide +kernel]
  · rw [uN_shr, show ((Int32.toInt64 2).toUInt64 &&& Int64.toUInt64 63).toNat % 64 = 2 by decide +kernel]
  · rw [uN_shr, show ((Int32.toInt64 4).toUInt64 &&& Int64.toUInt64 63).toNat % 64 = 4 by decide +kernel]
  · rw [uN_shr, show ((Int32.toInt64 8).toUInt64 &&& Int64.toUInt64 63).toNat % 64 = 8 by decide +kernel]
  · rw [uN_shr, show ((Int32.toInt64 16).toUInt64 &&& Int64.toUInt64 63).toNat % 64 = 16 by decide +kernel]
  · rw [uN_shr, show ((Int32.toInt64 32).toUInt64 &&& Int64.toUInt64 63).toNat % 64 = 32 by decide +kernel]
theorem and_127 (x : Int64) : Int64.toInt32 x &&& 127 = nI (uN x % 128) := by
  apply Int32.toBitVec_inj.mp
  apply BitVec.eq_of_toNat_eq
  have r : (nI (uN x % 128)).toBitVec.toNat = uN x % 128 := by
    have h1 := nI_toInt (n := uN x % 128) (by omega)
    have h2 := nI_clamp (n := uN x % 128) (by omega)
    have h3 : (nI (uN x % 128)).toBitVec.toInt = ((uN x % 128 : Nat) : Int) := h1
    have h4 := BitVec.toInt_eq_toNat_cond (nI (uN x % 128)).toBitVec
    have h5 := (nI (uN x % 128)).toBitVec.isLt
    split at h4 <;> omega
  have l : (x.toInt32 &&& 127).toBitVec = (x.toBitVec.signExtend 32) &&& 127#32 := rfl
  rw [r, l, BitVec.signExtend_eq_setWidth_of_le _ (by decide), BitVec.toNat_and, BitVec.toNat_setWidth, BitVec.toNat_ofNat]
  have e : x.toBitVec.toNat = uN x := rfl
  rw [e, show 127 % 2 ^ 32 = 2 ^ 7 - 1 from rfl, Nat.and_two_pow_sub_one_eq_mod]
  omega
theorem jl_bitCount (x : Int64) (S : iz_S) : Jl_bitCount x S = some (nI (fa_ct (fun i => (uN x).testBit i) 64), S) := by
  obtain ⟨v1, v2, v3, v4, v5, v6, hle, h1, h2, y1, h3, y2, h4, l4, h5, l5, h6, l6, hh⟩ := bit_nat (uN_lt x)
  have c1 : uN (6148914691236517205 : Int64) = 6148914691236517205 := by decide +kernel
  have c2 : uN (3689348814741910323 : Int64) = 3689348814741910323 := by decide +kernel
  have c3 : uN (1085102592571150095 : Int64) = 1085102592571150095 := by decide +kernel
  simp only [Jl_bitCount, lt_e]
  obtain ⟨X1, e1⟩ : ∃ X, X = x - (((Int64.toUInt64 x >>> ((Int32.toInt64 1).toUInt64 &&& Int64.toUInt64 63)).toInt64) &&& 6148914691236517205) := ⟨_, rfl⟩
  rw [← e1]
  have f1 : uN X1 = v1 := by
    rw [e1, uN_sub (by rw [uN_and, (sh_e x).1, c1]; exact hle), uN_and, (sh_e x).1, c1, h1]
  obtain ⟨X2, e2⟩ : ∃ X, X = (X1 &&& 3689348814741910323) + (((Int64.toUInt64 X1 >>> ((Int32.toInt64 2).toUInt64 &&& Int64.toUInt64 63)).toInt64) &&& 3689348814741910323) := ⟨_, rfl⟩
  rw [← e2]
  have f2 : uN X2 = v2 := by
    rw [e2, uN_add, uN_and, uN_and, (sh_e X1).2.1, c2, f1, ← h2, Nat.mod_eq_of_lt y1]
  obtain ⟨X3, e3⟩ : ∃ X, X = (X2 + ((Int64.toUInt64 X2 >>> ((Int32.toInt64 4).toUInt64 &&& Int64.toUInt64 63)).toInt64)) &&& 1085102592571150095 := ⟨_, rfl⟩
  rw [← e3]
  have f3 : uN X3 = v3 := by
    rw [e3, uN_and, uN_add, (sh_e X2).2.2.1, c3, f2, Nat.mod_eq_of_lt y2, h3]
  obtain ⟨X4, e4⟩ : ∃ X, X = X3 + ((Int64.toUInt64 X3 >>> ((Int32.toInt64 8).toUInt64 &&& Int64.toUInt64 63)).toInt64) := ⟨_, rfl⟩
  rw [← e4]
  have f4 : uN X4 = v4 := by
    rw [e4, uN_add, (sh_e X3).2.2.2.1, f3, ← h4, Nat.mod_eq_of_lt l4]
  obtain ⟨X5, e5⟩ : ∃ X, X = X4 + ((Int64.toUInt64 X4 >>> ((Int32.toInt64 16).toUInt64 &&& Int64.toUInt64 63)).toInt64) := ⟨_, rfl⟩
  rw [← e5]
  have f5 : uN X5 = v5 := by
    rw [e5, uN_add, (sh_e X4).2.2.2.2.1, f4, ← h5, Nat.mod_eq_of_lt l5]
  obtain ⟨X6, e6⟩ : ∃ X, X = X5 + ((Int64.toUInt64 X5 >>> ((Int32.toInt64 32).toUInt64 &&& Int64.toUInt64 63)).toInt64) := ⟨_, rfl⟩
  rw [← e6]
  have f6 : uN X6 = v6 := by
    rw [e6, uN_add, (sh_e X5).2.2.2.2.2, f5, ← h6, Nat.mod_eq_of_lt l6]
  rw [and_127, f6, hh]
theorem one_sh : ∀ c, c < 64 → uN ((1 : Int64) <<< (Int32.toInt64 (nI c) &&& 63)) = 2 ^ c := by decide +kernel
theorem or_bit {a : Nat} {c i : Nat} : (a ||| 2 ^ c).testBit i = (a.testBit i || decide (c = i)) := by
  rw [Nat.testBit_or, Nat.testBit_two_pow]
theorem la_cells (x : Int32) (S : iz_S) : ∀ (j c n : Nat) (a : Int64), c + j = 64 → j < n → (∀ i, (uN a).testBit i = (decide (i < c) && decide (¬ S.1 2 i < x))) → ∃ b, La_cellsOf_5 1 n x a (nI c) S = some (b, S) ∧ ∀ i, (uN b).testBit i = (decide (i < 64) && decide (¬ S.1 2 i < x)) := by
  intro j
  induction j with
  | zero =>
    intro c n a hcj hn hS
    obtain ⟨m, rfl⟩ : ∃ m, n = m + 1 := ⟨n - 1, by omega⟩
    have hc : ¬ nI c < 64 := nI_nlt (b := 64) (by omega) (by omega)
    obtain rfl : c = 64 := by omega
    refine ⟨a, ?_, hS⟩
    show La_cellsOf_5b 1 (La_cellsOf_5 1 m) x a (nI 64) S = _
    simp only [La_cellsOf_5b, if_neg hc]
  | succ j ih =>
    intro c n a hcj hn hS
    obtain ⟨m, rfl⟩ : ∃ m, n = m + 1 := ⟨n - 1, by omega⟩
    have hc : nI c < 64 := nI_lt (b := 64) (by omega) (by omega)
    have i1 := in_ok (n := c) (N := 64) (by omega) (by decide)
    by_cases ht : S.1 2 c < x
    · obtain ⟨b, hb, hb2⟩ := ih (c + 1) m a (by omega) (by omega) (fun i => by
        rw [hS i]
        by_cases e : i = c
        · subst e; simp [ht]
        · have : (i < c + 1) = (i < c) := by apply propext; omega
          simp only [this])
      refine ⟨b, ?_, hb2⟩
      rw [← hb]
      show La_cellsOf_5b 1 (La_cellsOf_5 1 m) x a (nI c) S = _
      simp only [La_cellsOf_5b, La_cellsOf_30, if_pos hc, ck_t, lt_e, bI_s, bL_s, bV_s, one_n0, zero_0, if_true, if_false, rfs, i1, g_nI _ _ (show c < 2 ^ 31 by omega), if_pos ht, nI_1]
    · obtain ⟨b, hb, hb2⟩ := ih (c + 1) m (a ||| ((1 : Int64) <<< (Int32.toInt64 (nI c) &&& 63))) (by omega) (by omega) (fun i => by
        rw [uN_or, one_sh c (by omega), or_bit, hS i]
        by_cases e : i = c
        · subst e; simp [ht]
        · have : (i < c + 1) = (i < c) := by apply propext; omega
          have : decide (c = i) = false := by simp; omega
          simp only [*, Bool.or_false])
      refine ⟨b, ?_, hb2⟩
      rw [← hb]
      show La_cellsOf_5b 1 (La_cellsOf_5 1 m) x a (nI c) S = _
      simp only [La_cellsOf_5b, La_cellsOf_30, if_pos hc, ck_t, lt_e, bI_s, bL_s, bV_s, one_n0, zero_0, if_true, if_false, rfs, i1, g_nI _ _ (show c < 2 ^ 31 by omega), if_neg ht, nI_1]
theorem la_cellsOf (x : Int32) (S : iz_S) : ∃ b, La_cellsOf 1 x S = some (b, S) ∧ ∀ i, (uN b).testBit i = (decide (i < 64) && decide (¬ S.1 2 i < x)) :=
  la_cells x S 64 0 iz_FU 0 (by omega) (by have := fu_ge; omega) (fun i => by
    have : uN (0 : Int64) = 0 := by decide +kernel
    rw [this]; simp)
def ctT (S : iz_S) (p : Nat) (x : Int32) : Nat := fa_ct (fun i => decide (¬ S.1 p i < x)) 64
theorem la_count (x : Int32) (S : iz_S) {β : Type} (k : Int32 → iz_S → Option β) : iz_bL (La_cellsOf 1 x S) (fun r2 S1 => iz_bI (Jl_bitCount r2 S1) k) = k (nI (ctT S 2 x)) S := by
  obtain ⟨b, hb, hb2⟩ := la_cellsOf x S
  rw [hb, bL_s, jl_bitCount, bI_s]
  have : fa_ct (fun i => (uN b).testBit i) 64 = ctT S 2 x := ct_cong (fun i hi => by simp [hb2 i, hi])
  rw [this]
theorem mo_bear (x : Int32) (S : iz_S) : ∀ (j c n : Nat), c + j = 64 → j < n → Mo_bearing_4 82 n x (nI (fa_ct (fun i => decide (¬ S.1 83 i < x)) c)) (nI c) S = some (nI (ctT S 83 x), S) := by
  intro j
  induction j with
  | zero =>
    intro c n hcj hn
    obtain ⟨m, rfl⟩ : ∃ m, n = m + 1 := ⟨n - 1, by omega⟩
    have hc : ¬ nI c < 64 := nI_nlt (b := 64) (by omega) (by omega)
    obtain rfl : c = 64 := by omega
    show Mo_bearing_4b 82 (Mo_bearing_4 82 m) x _ (nI 64) S = _
    simp only [Mo_bearing_4b, if_neg hc]
    rfl
  | succ j ih =>
    intro c n hcj hn
    obtain ⟨m, rfl⟩ : ∃ m, n = m + 1 := ⟨n - 1, by omega⟩
    have hc : nI c < 64 := nI_lt (b := 64) (by omega) (by omega)
    have i1 := in_ok (n := c) (N := 64) (by omega) (by decide)
    rw [← ih (c + 1) m (by omega) (by omega)]
    show Mo_bearing_4b 82 (Mo_bearing_4 82 m) x _ (nI c) S = _
    by_cases ht : S.1 83 c < x
    · have e : fa_ct (fun i => decide (¬ S.1 83 i < x)) (c + 1) = fa_ct (fun i => decide (¬ S.1 83 i < x)) c := by
        rw [fa_ct]; simp [ht]
      rw [e]
      have z : ∀ y : Int32, y + 0 = y := fun y => Int32.add_zero y
      simp only [Mo_bearing_4b, Mo_bearing_26, if_pos hc, ck_t, lt_e, bI_s, bL_s, bV_s, one_n0, zero_0, if_true, if_false, rfs, i1, g_nI _ _ (show c < 2 ^ 31 by omega), if_pos ht, nI_1, z]
    · have e : fa_ct (fun i => decide (¬ S.1 83 i < x)) (c + 1) = fa_ct (fun i => decide (¬ S.1 83 i < x)) c + 1 := by
        rw [fa_ct]; simp [ht]
      rw [e]
      simp only [Mo_bearing_4b, Mo_bearing_26, if_pos hc, ck_t, lt_e, bI_s, bL_s, bV_s, one_n0, zero_0, if_true, if_false, rfs, i1, g_nI _ _ (show c < 2 ^ 31 by omega), if_neg ht, nI_1]
theorem mo_bearing (x : Int32) (S : iz_S) : Mo_bearing 82 x S = some (nI (ctT S 83 x), S) :=
  mo_bear x S 64 0 iz_FU (by omega) (by have := fu_ge; omega)
