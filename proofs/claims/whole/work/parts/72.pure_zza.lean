/-! PURE: reached, reach -/
theorem zv_eq : ∀ k, k < 3 → iz_zV 0 k = iz_zV 3 k := by decide +kernel
theorem la_bear {S : iz_S} {who : Nat} (hw : who < 3) : ∃ b, La_bearing 1 (nI who) S = some (b, S) ∧ ∀ i, bt_ b i = bpf (S.1 2) (iz_zV 3 who) none i := by
  obtain ⟨b, b1, b2⟩ := la_cellsOf (iz_zV 3 who) S
  have i3 := in_ok (n := who) (N := 3) hw (by decide)
  refine ⟨b, ?_, fun i => ?_⟩
  · rw [La_bearing, i3, ck_t, nI_clamp (show who < 2 ^ 31 by omega), zv_eq who hw, b1, bL_s]
  · unfold bt_ bpf nio
    rw [b2 i, Bool.and_true]
theorem mo_cnt {S : iz_S} : ∀ (j c n : Nat), c + j = 64 → j < n → Mo_reached_25 82 n (nI (fa_ct (fun i => decide (S.1 107 i ≠ 0)) c)) (nI c) S = some (nI (fa_ct (fun i => decide (S.1 107 i ≠ 0)) 64), S) := by
  intro j
  induction j with
  | zero =>
    intro c n hc hn
    obtain ⟨m, rfl⟩ : ∃ k, n = k + 1 := ⟨n - 1, by omega⟩
    obtain rfl : c = 64 := by omega
    have lt : ¬ nI 64 < 64 := by decide +kernel
    show Mo_reached_25b 82 (Mo_reached_25 82 m) _ (nI 64) S = _
    rw [Mo_reached_25b, if_neg lt]
  | succ j ih =>
    intro c n hc hn
    obtain ⟨m, rfl⟩ : ∃ k, n = k + 1 := ⟨n - 1, by omega⟩
    have lt : nI c < 64 := nI_lt (b := 64) (by omega) (by omega)
    have i1 := in_ok (n := c) (N := 64) (by omega) (by decide)
    show Mo_reached_25b 82 (Mo_reached_25 82 m) _ (nI c) S = _
    rw [Mo_reached_25b, if_pos lt, i1, ck_t, show iz_rf 82 29 = 107 from rfl, g_nI _ _ (show c < 2 ^ 31 by omega), Mo_reached_46, Mo_reached_46, lt_e, lt_e, nI_1, ← ih (c + 1) m (by omega) (by omega)]
    by_cases e : S.1 107 c = 0
    · rw [if_pos e, Int32.add_zero, ct_n (p := fun i => decide (S.1 107 i ≠ 0)) (decide_eq_false (fun q => q e))]
    · rw [if_neg e, ct_s (p := fun i => decide (S.1 107 i ≠ 0)) (decide_eq_true e), nI_1]
theorem rl_78 {S S2 : iz_S} (h : rl S) (hf : fr f78 S S2) : rl S2 := ⟨st_lake hf (fun _ => ⟨rfl, rfl, rfl, rfl, rfl, rfl⟩) h.1, st_shel hf (fun _ => ⟨rfl, rfl, rfl, rfl, rfl, rfl⟩) h.2.1, st_house hf (fun _ => ⟨rfl, rfl, rfl, rfl, rfl, rfl, rfl, rfl, rfl, rfl, rfl, rfl⟩) rfl rfl (fun _ _ => rfl) h.2.2.1, st_ord hf (fun _ => ⟨rfl, rfl, rfl, rfl, rfl, rfl, rfl, rfl, rfl, rfl, rfl, rfl, rfl⟩) rfl rfl h.2.2.2.1, st_rail hf (fun _ => ⟨rfl, rfl, rfl, rfl, rfl, rfl, rfl⟩) rfl h.2.2.2.2.1, st_wait hf (fun _ => ⟨rfl, rfl, rfl⟩) rfl h.2.2.2.2.2.1, st_sale hf (fun _ => ⟨rfl, rfl⟩) h.2.2.2.2.2.2.1, st_found hf (fun _ => ⟨rfl, rfl⟩) h.2.2.2.2.2.2.2⟩
theorem pc_reached {S : iz_S} (h : rl S) (x : Int32) : pc (Ic_reached 0 x) (Mo_reached 82 x) S := by
  by_cases hx : 0 ≤ x ∧ x ≤ 2
  · obtain ⟨who, -, w2, rfl⟩ := nI_btw (a := 0) (b := 2) (by decide) hx.1 hx.2 (by decide)
    have n1 : ¬ (1 : Int32) = 0 := by decide
    obtain ⟨b, b1, b2⟩ := la_bear (S := S) (who := who) (by omega)
    obtain ⟨y, y1, y2⟩ := la_reach b2 S
    obtain ⟨S2, a1, a2, a3⟩ := mo_flood (f := S.1 2) (S := S) (who := who) (sq := none) (by omega) (fun s q => by cases q) (fun i hi => (h.1 i hi).1)
    have ct := mo_cnt (S := S2) 64 0 iz_FU (by omega) (by have := fu_ge; omega)
    have ec : fa_ct (fun i => decide (S2.1 107 i ≠ 0)) 64 = fa_ct (fun i => (uN y).testBit i) 64 := ct_cong (fun i hi => by
      rcases a2 i hi with ⟨q1, q2⟩ | ⟨q1, q2⟩
      · have : bt_ y i = true := (y2 i).mpr q2
        unfold bt_ at this
        rw [q1, this]; rfl
      · have : bt_ y i = false := by
          cases e : bt_ y i with
          | false => rfl
          | true => exact absurd ((y2 i).mp e) q2
        unfold bt_ at this
        rw [q1, this]; rfl)
    refine pc_of (r := nI (fa_ct (fun i => (uN y).testBit i) 64)) (S1 := S) (S2 := S2) ?_ ?_ (rl_78 h a3)
    · rw [Ic_reached, ic_within, bI_s, if_pos hx, if_neg n1, show iz_rf 0 0 = 1 from rfl, b1, bL_s, y1, bL_s, jl_bitCount, bI_s]
    · rw [Mo_reached, mo_isIn, bI_s, if_pos hx, if_neg n1, show Mo_flood 82 (nI who) (-1) S = _ from a1, bV_s, ← ec]
      exact ct
  · refine pc_of (r := -1000001) (S1 := iz_up S 81 1 (S.1 81 1 + 1)) ?_ ?_ (rl_find (k := 1) h)
    · simp only [Ic_reached, ic_within, ck_t, lt_e, bI_s, bL_s, bV_s, one_n0, zero_0, if_true, if_false, rfs, if_neg hx, ic_f1]
    · simp only [Mo_reached, mo_isIn, ck_t, lt_e, bI_s, bL_s, bV_s, one_n0, zero_0, if_true, if_false, rfs, if_neg hx, mo_f1]
theorem shr_k : ∀ c, c < 64 → ((Int32.toInt64 (nI c)).toUInt64 &&& Int64.toUInt64 63).toNat % 64 = c := by decide +kernel
theorem bt_1 (i : Nat) : bt_ 1 i = decide (i = 0) := by
  unfold bt_
  have : uN (1 : Int64) = 2 ^ 0 := by decide +kernel
  rw [this, Nat.testBit_two_pow]
  simp [eq_comm]
theorem bit_at (y : Int64) {c : Nat} (hc : c < 64) : (lg_cmp (((Int64.toUInt64 y >>> ((Int32.toInt64 (nI c)).toUInt64 &&& Int64.toUInt64 63)).toInt64) &&& 1) 0 = 0) = (bt_ y c = false) := by
  rw [cmp_0]
  have b0 : ∀ i, bt_ ((Int64.toUInt64 y >>> ((Int32.toInt64 (nI c)).toUInt64 &&& Int64.toUInt64 63)).toInt64) i = bt_ y (i + c) := fun i => by
    unfold bt_
    rw [uN_shr, shr_k c hc, Nat.testBit_div_two_pow]
  apply propext
  constructor
  · intro q
    have := congrArg (fun z => bt_ z 0) q
    simp only [bt_and, b0, bt_1, bt_0, Nat.zero_add, decide_true, Bool.and_true] at this
    exact this
  · intro q
    refine bt_ext (fun i hi => ?_)
    rw [bt_and, b0, bt_1, bt_0]
    by_cases e : i = 0
    · subst e; rw [Nat.zero_add, q]; rfl
    · simp [e]
theorem pc_reach {S : iz_S} (h : rl S) (x y : Int32) : pc (Ic_reach 0 x y) (Mo_reach 82 x y) S := by
  by_cases hx : 0 ≤ x ∧ x ≤ 63
  · by_cases hy : 0 ≤ y ∧ y ≤ 2
    · obtain ⟨c, -, c63, rfl⟩ := nI_btw (a := 0) (b := 63) (by decide) hx.1 hx.2 (by decide)
      obtain ⟨who, -, w2, rfl⟩ := nI_btw (a := 0) (b := 2) (by decide) hy.1 hy.2 (by decide)
      have n1 : ¬ (1 : Int32) = 0 := by decide
      obtain ⟨b, b1, b2⟩ := la_bear (S := S) (who := who) (by omega)
      obtain ⟨z, z1, z2⟩ := la_reach b2 S
      obtain ⟨S2, a1, a2, a3⟩ := mo_flood (f := S.1 2) (S := S) (who := who) (sq := none) (by omega) (fun s q => by cases q) (fun i hi => (h.1 i hi).1)
      have bt := bit_at z (show c < 64 by omega)
      have i1 := in_ok (n := c) (N := 64) (by omega) (by decide)
      have ich : Ic_reach 0 (nI c) (nI who) S = if bt_ z c = false then some (0, S) else some (1, S) := by
        rw [Ic_reach, ic_within, bI_s, if_pos hx, if_neg n1, ic_within, bI_s, if_pos hy, if_neg n1, show iz_rf 0 0 = 1 from rfl, b1, bL_s, z1, bL_s]
        simp only [bt, Ic_reach_50]
      have moh : Mo_reach 82 (nI c) (nI who) S = if S2.1 107 c = 0 then some (0, S2) else some (1, S2) := by
        rw [Mo_reach, mo_isCell, bI_s, if_pos hx, if_neg n1, mo_isIn, bI_s, if_pos hy, if_neg n1, show Mo_flood 82 (nI who) (-1) S = _ from a1, bV_s, i1, ck_t, show iz_rf 82 29 = 107 from rfl, g_nI _ _ (show c < 2 ^ 31 by omega), Mo_reach_42, Mo_reach_42]
      rcases a2 c (by omega) with ⟨q1, q2⟩ | ⟨q1, q2⟩
      · have e : ¬ bt_ z c = false := by rw [(z2 c).mpr q2]; decide
        rw [if_neg e] at ich
        rw [if_neg (by rw [q1]; decide)] at moh
        exact pc_of ich moh (rl_78 h a3)
      · have e : bt_ z c = false := by
          cases e : bt_ z c with
          | false => rfl
          | true => exact absurd ((z2 c).mp e) q2
        rw [if_pos e] at ich
        rw [if_pos q1] at moh
        exact pc_of ich moh (rl_78 h a3)
    · refine pc_of (r := -1000001) (S1 := iz_up S 81 1 (S.1 81 1 + 1)) ?_ ?_ (rl_find (k := 1) h)
      · simp only [Ic_reach, Ic_reach_19, ic_within, ck_t, lt_e, bI_s, bL_s, bV_s, one_n0, zero_0, if_true, if_false, rfs, if_pos hx, if_neg hy, ic_f1]
      · simp only [Mo_reach, Mo_reach_16, mo_isCell, mo_isIn, ck_t, lt_e, bI_s, bL_s, bV_s, one_n0, zero_0, if_true, if_false, rfs, if_pos hx, if_neg hy, mo_f1]
  · refine pc_of (r := -1000001) (S1 := iz_up S 81 1 (S.1 81 1 + 1)) ?_ ?_ (rl_find (k := 1) h)
    · simp only [Ic_reach, Ic_reach_19, ic_within, ck_t, lt_e, bI_s, bL_s, bV_s, one_n0, zero_0, if_true, if_false, rfs, if_neg hx, ic_f1]
    · simp only [Mo_reach, Mo_reach_16, mo_isCell, ck_t, lt_e, bI_s, bL_s, bV_s, one_n0, zero_0, if_true, if_false, rfs, if_neg hx, mo_f1]
