/-! PURE: sets of cells as longs; the bits of a long are counted -/
def uN (x : Int64) : Nat := x.toUInt64.toNat
theorem uN_lt (x : Int64) : uN x < 18446744073709551616 := x.toUInt64.toNat_lt
theorem uN_inj {x y : Int64} (h : uN x = uN y) : x = y := congrArg UInt64.toInt64 (UInt64.toNat_inj.mp h)
theorem uN_add (x y : Int64) : uN (x + y) = (uN x + uN y) % 18446744073709551616 := by
  show (x.toUInt64 + y.toUInt64).toNat = _
  exact UInt64.toNat_add _ _
theorem uN_and (x y : Int64) : uN (x &&& y) = uN x &&& uN y := by
  show (x.toUInt64 &&& y.toUInt64).toNat = _
  exact UInt64.toNat_and _ _
theorem uN_or (x y : Int64) : uN (x ||| y) = uN x ||| uN y := by
  show (x.toUInt64 ||| y.toUInt64).toNat = _
  exact UInt64.toNat_or _ _
theorem uN_sub {x y : Int64} (h : uN y ≤ uN x) : uN (x - y) = uN x - uN y := by
  show (x.toUInt64 - y.toUInt64).toNat = _
  exact UInt64.toNat_sub_of_le _ _ (UInt64.le_iff_toNat_le.mpr h)
theorem uN_shr (x : Int64) (s : UInt64) : uN (x.toUInt64 >>> s).toInt64 = uN x / 2 ^ (s.toNat % 64) := by
  show (x.toUInt64 >>> s).toNat = _
  rw [UInt64.toNat_shiftRight, Nat.shiftRight_eq_div_pow]
  rfl
theorem and_cat {a b c d : Nat} (ha : a < 256) (hc : c < 256) : (a + 256 * b) &&& (c + 256 * d) = (a &&& c) + 256 * (b &&& d) := by
  have e : ∀ x y : Nat, x + 256 * y = 2 ^ 8 * y + x := fun x y => by omega
  rw [e, e, e]
  have hac : a &&& c < 2 ^ 8 := Nat.and_lt_two_pow _ hc
  apply Nat.eq_of_testBit_eq
  intro j
  rw [Nat.testBit_and, Nat.testBit_two_pow_mul_add _ ha, Nat.testBit_two_pow_mul_add _ hc, Nat.testBit_two_pow_mul_add _ hac]
  by_cases h : j < 8
  · simp [h]
  · simp [h]
def e8 (a0 a1 a2 a3 a4 a5 a6 a7 : Nat) : Nat := a0 + 256 * (a1 + 256 * (a2 + 256 * (a3 + 256 * (a4 + 256 * (a5 + 256 * (a6 + 256 * a7))))))
theorem and_e8 {a0 a1 a2 a3 a4 a5 a6 a7 m : Nat} (h0 : a0 < 256) (h1 : a1 < 256) (h2 : a2 < 256) (h3 : a3 < 256) (h4 : a4 < 256) (h5 : a5 < 256) (h6 : a6 < 256) (hm : m < 256) : e8 a0 a1 a2 a3 a4 a5 a6 a7 &&& e8 m m m m m m m m = (e8 (a0 &&& m) (a1 &&& m) (a2 &&& m) (a3 &&& m) (a4 &&& m) (a5 &&& m) (a6 &&& m) (a7 &&& m)) := by
  unfold e8
  rw [and_cat h0 hm, and_cat h1 hm, and_cat h2 hm, and_cat h3 hm, and_cat h4 hm, and_cat h5 hm, and_cat h6 hm]
def p1 (b : Nat) : Nat := b - (b / 2 &&& 85)
def p2 (c : Nat) : Nat := (c &&& 51) + (c / 4 &&& 51)
def p3 (d : Nat) : Nat := (d + d / 16) % 16
theorem q1 : ∀ b, b < 256 → (b / 2 &&& 85) ≤ b ∧ p1 b < 256 := by decide +kernel
theorem q1c : ∀ b, b < 256 → ∀ c, c < 2 → (b / 2 + 128 * c) &&& 85 = b / 2 &&& 85 := by decide +kernel
theorem q2c : ∀ b, b < 256 → ∀ c, c < 4 → (b / 4 + 64 * c) &&& 51 = b / 4 &&& 51 := by decide +kernel
theorem q2 : ∀ b, b < 256 → p2 (p1 b) / 16 ≤ 4 ∧ p2 (p1 b) % 16 ≤ 4 ∧ (p1 b &&& 51) ≤ 51 ∧ (p1 b / 4 &&& 51) ≤ 51 := by decide +kernel
theorem q3 : ∀ b, b < 256 → p3 (p2 (p1 b)) = fa_ct (fun i => b.testBit i) 8 := by decide +kernel
theorem ct_add (p : Nat → Bool) (m : Nat) : ∀ n, fa_ct p (m + n) = fa_ct p m + fa_ct (fun i => p (m + i)) n
  | 0 => rfl
  | n + 1 => by
    show fa_ct p (m + n) + _ = fa_ct p m + (fa_ct _ n + _)
    rw [ct_add p m n, Nat.add_assoc]
    rfl
theorem ct_bytes (N : Nat) : fa_ct (fun i => N.testBit i) 64 = fa_ct (fun i => (N % 256).testBit i) 8 + fa_ct (fun i => (N / 256 % 256).testBit i) 8 + fa_ct (fun i => (N / 65536 % 256).testBit i) 8 + fa_ct (fun i => (N / 16777216 % 256).testBit i) 8 + fa_ct (fun i => (N / 4294967296 % 256).testBit i) 8 + fa_ct (fun i => (N / 1099511627776 % 256).testBit i) 8 + fa_ct (fun i => (N / 281474976710656 % 256).testBit i) 8 + fa_ct (fun i => (N / 72057594037927936 % 256).testBit i) 8 := by
  have h : ∀ k, fa_ct (fun i => N.testBit (8 * k + i)) 8 = fa_ct (fun i => (N / 2 ^ (8 * k) % 256).testBit i) 8 := fun k => ct_cong (fun i hi => by
    rw [show (256 : Nat) = 2 ^ 8 from rfl, Nat.testBit_mod_two_pow, Nat.testBit_div_two_pow]
    simp [hi, Nat.add_comm])
  have e : fa_ct (fun i => N.testBit i) 64 = fa_ct (fun i => N.testBit (8 * 0 + i)) 8 + fa_ct (fun i => N.testBit (8 * 1 + i)) 8 + fa_ct (fun i => N.testBit (8 * 2 + i)) 8 + fa_ct (fun i => N.testBit (8 * 3 + i)) 8 + fa_ct (fun i => N.testBit (8 * 4 + i)) 8 + fa_ct (fun i => N.testBit (8 * 5 + i)) 8 + fa_ct (fun i => N.testBit (8 * 6 + i)) 8 + fa_ct (fun i => N.testBit (8 * 7 + i)) 8 := by
    have g := fun m => ct_add (fun i => N.testBit i) m 8
    rw [show 64 = 56 + 8 from rfl, g 56, show 56 = 48 + 8 from rfl, g 48, show 48 = 40 + 8 from rfl, g 40, show 40 = 32 + 8 from rfl, g 32, show 32 = 24 + 8 from rfl, g 24, show 24 = 16 + 8 from rfl, g 16, show 16 = 8 + 8 from rfl, g 8]
    have z : fa_ct (fun i => N.testBit i) 8 = fa_ct (fun i => N.testBit (8 * 0 + i)) 8 := ct_cong (fun i _ => by simp)
    rw [z]
  rw [e, h 0, h 1, h 2, h 3, h 4, h 5, h 6, h 7]
  simp
theorem p3_le {d : Nat} (h1 : d / 16 ≤ 4) (h2 : d % 16 ≤ 4) : p3 d ≤ 8 :=
  (show ∀ d, d < 80 → d / 16 ≤ 4 → d % 16 ≤ 4 → p3 d ≤ 8 by decide +kernel) d (by omega) h1 h2
theorem e8_div {a0 a1 a2 a3 a4 a5 a6 a7 : Nat} (h : a0 < 256) : e8 a0 a1 a2 a3 a4 a5 a6 a7 / 256 = e8 a1 a2 a3 a4 a5 a6 a7 0 := by
  unfold e8
  rw [Nat.add_mul_div_left _ _ (by decide), Nat.div_eq_of_lt h]
  omega
theorem e8_add (a0 a1 a2 a3 a4 a5 a6 a7 b0 b1 b2 b3 b4 b5 b6 b7 : Nat) : e8 a0 a1 a2 a3 a4 a5 a6 a7 + e8 b0 b1 b2 b3 b4 b5 b6 b7 = e8 (a0 + b0) (a1 + b1) (a2 + b2) (a3 + b3) (a4 + b4) (a5 + b5) (a6 + b6) (a7 + b7) := by unfold e8; omega
theorem e8_lt {a0 a1 a2 a3 a4 a5 a6 a7 : Nat} (h0 : a0 < 256) (h1 : a1 < 256) (h2 : a2 < 256) (h3 : a3 < 256) (h4 : a4 < 256) (h5 : a5 < 256) (h6 : a6 < 256) (h7 : a7 < 256) : e8 a0 a1 a2 a3 a4 a5 a6 a7 < 18446744073709551616 := by unfold e8; omega
theorem e8_mod {a0 a1 a2 a3 a4 a5 a6 a7 : Nat} (h : a0 < 128) : e8 a0 a1 a2 a3 a4 a5 a6 a7 % 128 = a0 := by
  unfold e8
  rw [show (256 : Nat) = 128 * 2 from rfl, Nat.mul_assoc, Nat.add_mul_mod_self_left, Nat.mod_eq_of_lt h]
theorem bit_fin {e0 e1 e2 e3 e4 e5 e6 e7 v3 : Nat} (x0 : e0 ≤ 8) (x1 : e1 ≤ 8) (x2 : e2 ≤ 8) (x3 : e3 ≤ 8) (x4 : e4 ≤ 8) (x5 : e5 ≤ 8) (x6 : e6 ≤ 8) (x7 : e7 ≤ 8) (h3 : v3 = e8 e0 e1 e2 e3 e4 e5 e6 e7) : ∃ v4 v5 v6 : Nat,
    v4 = v3 + v3 / 256 ∧ v4 < 18446744073709551616 ∧ v5 = v4 + v4 / 65536 ∧ v5 < 18446744073709551616 ∧ v6 = v5 + v5 / 4294967296 ∧ v6 < 18446744073709551616 ∧ v6 % 128 = e0 + e1 + e2 + e3 + e4 + e5 + e6 + e7 := by
  have o : ∀ a : Nat, a ≤ 64 → a < 256 := fun a h => by omega
  have d2 : ∀ n : Nat, n / 65536 = n / 256 / 256 := fun n => by omega
  have d4 : ∀ n : Nat, n / 4294967296 = n / 256 / 256 / 256 / 256 := fun n => by omega
  refine ⟨_, _, _, rfl, ?_, rfl, ?_, rfl, ?_, ?_⟩
  all_goals (subst h3; rw [e8_div (by omega), e8_add])
  · exact e8_lt (by omega) (by omega) (by omega) (by omega) (by omega) (by omega) (by omega) (by omega)
  · rw [d2, e8_div (by omega), e8_div (by omega), e8_add]
    exact e8_lt (by omega) (by omega) (by omega) (by omega) (by omega) (by omega) (by omega) (by omega)
  · rw [d2, e8_div (by omega), e8_div (by omega), e8_add, d4, e8_div (by omega), e8_div (by omega), e8_div (by omega), e8_div (by omega), e8_add]
    exact e8_lt (by omega) (by omega) (by omega) (by omega) (by omega) (by omega) (by omega) (by omega)
  · rw [d2, e8_div (by omega), e8_div (by omega), e8_add, d4, e8_div (by omega), e8_div (by omega), e8_div (by omega), e8_div (by omega), e8_add, e8_mod (by omega)]
    omega
theorem bit_nat {N : Nat} (hN : N < 18446744073709551616) : ∃ v1 v2 v3 v4 v5 v6 : Nat,
    (N / 2 &&& 6148914691236517205) ≤ N ∧ v1 = N - (N / 2 &&& 6148914691236517205) ∧ v2 = (v1 &&& 3689348814741910323) + (v1 / 4 &&& 3689348814741910323) ∧ v2 < 18446744073709551616 ∧ v3 = (v2 + v2 / 16) &&& 1085102592571150095 ∧ v2 + v2 / 16 < 18446744073709551616 ∧
    v4 = v3 + v3 / 256 ∧ v4 < 18446744073709551616 ∧ v5 = v4 + v4 / 65536 ∧ v5 < 18446744073709551616 ∧ v6 = v5 + v5 / 4294967296 ∧ v6 < 18446744073709551616 ∧ v6 % 128 = fa_ct (fun i => N.testBit i) 64 := by
  obtain ⟨b0, hb0⟩ : ∃ b, b = N % 256 := ⟨_, rfl⟩
  obtain ⟨b1, hb1⟩ : ∃ b, b = N / 256 % 256 := ⟨_, rfl⟩
  obtain ⟨b2, hb2⟩ : ∃ b, b = N / 65536 % 256 := ⟨_, rfl⟩
  obtain ⟨b3, hb3⟩ : ∃ b, b = N / 16777216 % 256 := ⟨_, rfl⟩
  obtain ⟨b4, hb4⟩ : ∃ b, b = N / 4294967296 % 256 := ⟨_, rfl⟩
  obtain ⟨b5, hb5⟩ : ∃ b, b = N / 1099511627776 % 256 := ⟨_, rfl⟩
  obtain ⟨b6, hb6⟩ : ∃ b, b = N / 281474976710656 % 256 := ⟨_, rfl⟩
  obtain ⟨b7, hb7⟩ : ∃ b, b = N / 72057594037927936 % 256 := ⟨_, rfl⟩
  have hct := ct_bytes N
  rw [← hb0, ← hb1, ← hb2, ← hb3, ← hb4, ← hb5, ← hb6, ← hb7] at hct
  have l0 : b0 < 256 := by omega
  have l1 : b1 < 256 := by omega
  have l2 : b2 < 256 := by omega
  have l3 : b3 < 256 := by omega
  have l4 : b4 < 256 := by omega
  have l5 : b5 < 256 := by omega
  have l6 : b6 < 256 := by omega
  have l7 : b7 < 256 := by omega
  have hE : N = (e8 b0 b1 b2 b3 b4 b5 b6 b7) := by unfold e8; omega
  rw [← q3 b0 l0, ← q3 b1 l1, ← q3 b2 l2, ← q3 b3 l3, ← q3 b4 l4, ← q3 b5 l5, ← q3 b6 l6, ← q3 b7 l7] at hct
  clear hb0 hb1 hb2 hb3 hb4 hb5 hb6 hb7
  have s1 : N / 2 = (e8 (b0 / 2 + 128 * (b1 % 2)) (b1 / 2 + 128 * (b2 % 2)) (b2 / 2 + 128 * (b3 % 2)) (b3 / 2 + 128 * (b4 % 2)) (b4 / 2 + 128 * (b5 % 2)) (b5 / 2 + 128 * (b6 % 2)) (b6 / 2 + 128 * (b7 % 2)) (b7 / 2 + 128 * 0)) := by rw [hE]; unfold e8; omega
  have t1 : N / 2 &&& 6148914691236517205 = (e8 (b0 / 2 &&& 85) (b1 / 2 &&& 85) (b2 / 2 &&& 85) (b3 / 2 &&& 85) (b4 / 2 &&& 85) (b5 / 2 &&& 85) (b6 / 2 &&& 85) (b7 / 2 &&& 85)) := by
    rw [s1, show 6148914691236517205 = e8 85 85 85 85 85 85 85 85 from rfl, and_e8 (by omega) (by omega) (by omega) (by omega) (by omega) (by omega) (by omega) (by omega), q1c b0 l0 _ (by omega), q1c b1 l1 _ (by omega), q1c b2 l2 _ (by omega), q1c b3 l3 _ (by omega), q1c b4 l4 _ (by omega), q1c b5 l5 _ (by omega), q1c b6 l6 _ (by omega), q1c b7 l7 _ (by omega)]
  have u0 := q1 b0 l0
  have u1 := q1 b1 l1
  have u2 := q1 b2 l2
  have u3 := q1 b3 l3
  have u4 := q1 b4 l4
  have u5 := q1 b5 l5
  have u6 := q1 b6 l6
  have u7 := q1 b7 l7
  have hle : (N / 2 &&& 6148914691236517205) ≤ N := by rw [t1, hE]; unfold e8; omega
  have v1e : N - (N / 2 &&& 6148914691236517205) = (e8 (p1 b0) (p1 b1) (p1 b2) (p1 b3) (p1 b4) (p1 b5) (p1 b6) (p1 b7)) := by rw [t1, hE]; unfold e8 p1; omega
  have w0 := q2 b0 l0
  obtain ⟨c0, hc0⟩ : ∃ c, c = p1 b0 := ⟨_, rfl⟩
  rw [← hc0] at u0 w0
  have w1 := q2 b1 l1
  obtain ⟨c1, hc1⟩ : ∃ c, c = p1 b1 := ⟨_, rfl⟩
  rw [← hc1] at u1 w1
  have w2 := q2 b2 l2
  obtain ⟨c2, hc2⟩ : ∃ c, c = p1 b2 := ⟨_, rfl⟩
  rw [← hc2] at u2 w2
  have w3 := q2 b3 l3
  obtain ⟨c3, hc3⟩ : ∃ c, c = p1 b3 := ⟨_, rfl⟩
  rw [← hc3] at u3 w3
  have w4 := q2 b4 l4
  obtain ⟨c4, hc4⟩ : ∃ c, c = p1 b4 := ⟨_, rfl⟩
  rw [← hc4] at u4 w4
  have w5 := q2 b5 l5
  obtain ⟨c5, hc5⟩ : ∃ c, c = p1 b5 := ⟨_, rfl⟩
  rw [← hc5] at u5 w5
  have w6 := q2 b6 l6
  obtain ⟨c6, hc6⟩ : ∃ c, c = p1 b6 := ⟨_, rfl⟩
  rw [← hc6] at u6 w6
  have w7 := q2 b7 l7
  obtain ⟨c7, hc7⟩ : ∃ c, c = p1 b7 := ⟨_, rfl⟩
  rw [← hc7] at u7 w7
  rw [← hc0, ← hc1, ← hc2, ← hc3, ← hc4, ← hc5, ← hc6, ← hc7] at v1e hct
  obtain ⟨v1, hv1⟩ : ∃ v, v = N - (N / 2 &&& 6148914691236517205) := ⟨_, rfl⟩
  rw [← hv1] at v1e
  have s2 : v1 / 4 = (e8 (c0 / 4 + 64 * (c1 % 4)) (c1 / 4 + 64 * (c2 % 4)) (c2 / 4 + 64 * (c3 % 4)) (c3 / 4 + 64 * (c4 % 4)) (c4 / 4 + 64 * (c5 % 4)) (c5 / 4 + 64 * (c6 % 4)) (c6 / 4 + 64 * (c7 % 4)) (c7 / 4 + 64 * 0)) := by rw [v1e]; unfold e8; omega
  have t2 : v1 / 4 &&& 3689348814741910323 = (e8 (c0 / 4 &&& 51) (c1 / 4 &&& 51) (c2 / 4 &&& 51) (c3 / 4 &&& 51) (c4 / 4 &&& 51) (c5 / 4 &&& 51) (c6 / 4 &&& 51) (c7 / 4 &&& 51)) := by
    rw [s2, show 3689348814741910323 = e8 51 51 51 51 51 51 51 51 from rfl, and_e8 (by omega) (by omega) (by omega) (by omega) (by omega) (by omega) (by omega) (by omega), q2c c0 u0.2 _ (by omega), q2c c1 u1.2 _ (by omega), q2c c2 u2.2 _ (by omega), q2c c3 u3.2 _ (by omega), q2c c4 u4.2 _ (by omega), q2c c5 u5.2 _ (by omega), q2c c6 u6.2 _ (by omega), q2c c7 u7.2 _ (by omega)]
  have t3 : v1 &&& 3689348814741910323 = (e8 (c0 &&& 51) (c1 &&& 51) (c2 &&& 51) (c3 &&& 51) (c4 &&& 51) (c5 &&& 51) (c6 &&& 51) (c7 &&& 51)) := by
    rw [v1e, show 3689348814741910323 = e8 51 51 51 51 51 51 51 51 from rfl, and_e8 u0.2 u1.2 u2.2 u3.2 u4.2 u5.2 u6.2 (by omega)]
  obtain ⟨v2, hv2⟩ : ∃ v, v = (v1 &&& 3689348814741910323) + (v1 / 4 &&& 3689348814741910323) := ⟨_, rfl⟩
  have v2e : v2 = (e8 (p2 c0) (p2 c1) (p2 c2) (p2 c3) (p2 c4) (p2 c5) (p2 c6) (p2 c7)) := by rw [hv2, t2, t3]; unfold e8 p2; omega
  obtain ⟨d0, hd0⟩ : ∃ d, d = p2 c0 := ⟨_, rfl⟩
  rw [← hd0] at w0
  obtain ⟨w0a, w0b, -, -⟩ := w0
  obtain ⟨d1, hd1⟩ : ∃ d, d = p2 c1 := ⟨_, rfl⟩
  rw [← hd1] at w1
  obtain ⟨w1a, w1b, -, -⟩ := w1
  obtain ⟨d2, hd2⟩ : ∃ d, d = p2 c2 := ⟨_, rfl⟩
  rw [← hd2] at w2
  obtain ⟨w2a, w2b, -, -⟩ := w2
  obtain ⟨d3, hd3⟩ : ∃ d, d = p2 c3 := ⟨_, rfl⟩
  rw [← hd3] at w3
  obtain ⟨w3a, w3b, -, -⟩ := w3
  obtain ⟨d4, hd4⟩ : ∃ d, d = p2 c4 := ⟨_, rfl⟩
  rw [← hd4] at w4
  obtain ⟨w4a, w4b, -, -⟩ := w4
  obtain ⟨d5, hd5⟩ : ∃ d, d = p2 c5 := ⟨_, rfl⟩
  rw [← hd5] at w5
  obtain ⟨w5a, w5b, -, -⟩ := w5
  obtain ⟨d6, hd6⟩ : ∃ d, d = p2 c6 := ⟨_, rfl⟩
  rw [← hd6] at w6
  obtain ⟨w6a, w6b, -, -⟩ := w6
  obtain ⟨d7, hd7⟩ : ∃ d, d = p2 c7 := ⟨_, rfl⟩
  rw [← hd7] at w7
  obtain ⟨w7a, w7b, -, -⟩ := w7
  rw [← hd0, ← hd1, ← hd2, ← hd3, ← hd4, ← hd5, ← hd6, ← hd7] at v2e hct
  have s3 : v2 + v2 / 16 = (e8 (d0 + d0 / 16 + 16 * (d1 % 16)) (d1 + d1 / 16 + 16 * (d2 % 16)) (d2 + d2 / 16 + 16 * (d3 % 16)) (d3 + d3 / 16 + 16 * (d4 % 16)) (d4 + d4 / 16 + 16 * (d5 % 16)) (d5 + d5 / 16 + 16 * (d6 % 16)) (d6 + d6 / 16 + 16 * (d7 % 16)) (d7 + d7 / 16 + 16 * 0)) := by rw [v2e]; unfold e8; omega
  have hm : ∀ n : Nat, n &&& 15 = n % 16 := fun n => Nat.and_two_pow_sub_one_eq_mod n 4
  have t4 : (v2 + v2 / 16) &&& 1085102592571150095 = (e8 (p3 d0) (p3 d1) (p3 d2) (p3 d3) (p3 d4) (p3 d5) (p3 d6) (p3 d7)) := by
    rw [s3, show 1085102592571150095 = e8 15 15 15 15 15 15 15 15 from rfl, and_e8 (by omega) (by omega) (by omega) (by omega) (by omega) (by omega) (by omega) (by omega)]
    simp only [hm]
    unfold p3
    rw [show (d0 + d0 / 16 + 16 * (d1 % 16)) % 16 = (d0 + d0 / 16) % 16 by omega]
    rw [show (d1 + d1 / 16 + 16 * (d2 % 16)) % 16 = (d1 + d1 / 16) % 16 by omega]
    rw [show (d2 + d2 / 16 + 16 * (d3 % 16)) % 16 = (d2 + d2 / 16) % 16 by omega]
    rw [show (d3 + d3 / 16 + 16 * (d4 % 16)) % 16 = (d3 + d3 / 16) % 16 by omega]
    rw [show (d4 + d4 / 16 + 16 * (d5 % 16)) % 16 = (d4 + d4 / 16) % 16 by omega]
    rw [show (d5 + d5 / 16 + 16 * (d6 % 16)) % 16 = (d5 + d5 / 16) % 16 by omega]
    rw [show (d6 + d6 / 16 + 16 * (d7 % 16)) % 16 = (d6 + d6 / 16) % 16 by omega]
    rw [show (d7 + d7 / 16 + 16 * 0) % 16 = (d7 + d7 / 16) % 16 by omega]
  have x0 : p3 d0 ≤ 8 := p3_le w0a w0b
  obtain ⟨e0, he0⟩ : ∃ e, e = p3 d0 := ⟨_, rfl⟩
  rw [← he0] at x0
  have x1 : p3 d1 ≤ 8 := p3_le w1a w1b
  obtain ⟨e1, he1⟩ : ∃ e, e = p3 d1 := ⟨_, rfl⟩
  rw [← he1] at x1
  have x2 : p3 d2 ≤ 8 := p3_le w2a w2b
  obtain ⟨e2, he2⟩ : ∃ e, e = p3 d2 := ⟨_, rfl⟩
  rw [← he2] at x2
  have x3 : p3 d3 ≤ 8 := p3_le w3a w3b
  obtain ⟨e3, he3⟩ : ∃ e, e = p3 d3 := ⟨_, rfl⟩
  rw [← he3] at x3
  have x4 : p3 d4 ≤ 8 := p3_le w4a w4b
  obtain ⟨e4, he4⟩ : ∃ e, e = p3 d4 := ⟨_, rfl⟩
  rw [← he4] at x4
  have x5 : p3 d5 ≤ 8 := p3_le w5a w5b
  obtain ⟨e5, he5⟩ : ∃ e, e = p3 d5 := ⟨_, rfl⟩
  rw [← he5] at x5
  have x6 : p3 d6 ≤ 8 := p3_le w6a w6b
  obtain ⟨e6, he6⟩ : ∃ e, e = p3 d6 := ⟨_, rfl⟩
  rw [← he6] at x6
  have x7 : p3 d7 ≤ 8 := p3_le w7a w7b
  obtain ⟨e7, he7⟩ : ∃ e, e = p3 d7 := ⟨_, rfl⟩
  rw [← he7] at x7
  rw [← he0, ← he1, ← he2, ← he3, ← he4, ← he5, ← he6, ← he7] at t4 hct
  obtain ⟨v3, hv3⟩ : ∃ v, v = (v2 + v2 / 16) &&& 1085102592571150095 := ⟨_, rfl⟩
  rw [← hv3] at t4
  have y2 : v2 + v2 / 16 < 18446744073709551616 := by
    rw [s3]
    clear s3 v2e hct t4 t3 t2 s2 v1e hE s1 t1 hle hv1 hv2 hv3
    exact e8_lt (by omega) (by omega) (by omega) (by omega) (by omega) (by omega) (by omega) (by omega)
  clear s3 v2e t3 t2 s2 v1e hE s1 t1
  clear w0a w1a w2a w3a w4a w5a w6a w7a w0b w1b w2b w3b w4b w5b w6b w7b hd0 hd1 hd2 hd3 hd4 hd5 hd6 hd7 hc0 hc1 hc2 hc3 hc4 hc5 hc6 hc7 he0 he1 he2 he3 he4 he5 he6 he7 u0 u1 u2 u3 u4 u5 u6 u7
  have y1 : v2 < 18446744073709551616 := Nat.lt_of_le_of_lt (Nat.le_add_right _ _) y2
  obtain ⟨v4, v5, v6, g4, g4l, g5, g5l, g6, g6l, g⟩ := bit_fin x0 x1 x2 x3 x4 x5 x6 x7 t4
  exact ⟨v1, v2, v3, v4, v5, v6, hle, hv1, hv2, y1, hv3, y2, g4, g4l, g5, g5l, g6, g6l, g.trans hct.symm⟩
