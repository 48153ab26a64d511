/-! PURE: what melts of a block, reference side -/
theorem mo_m96i {S : iz_S} {h : Nat → Nat} {k40 : Int32 → Int32 → Int32 → Int32 → Int32 → Int32 → iz_S → Option (Int32 × iz_S)} {l W a k r t : Nat} {x1 x4 x7 s0 s1 : Int32} (hh : ∀ c, c < 16 → S.1 91 c = nI (h c) ∧ h c ≤ 6) (hl : l < 6) (hr : r ≤ 3) (ht : t ≤ 3) (e7 : x7 = nI r) (es : s0 + s1 = nI t) :
    Mo_meltOf_96 82 k40 x1 (nI l) (nI W) x4 (nI a) (nI k) x7 s0 s1 S = k40 x1 (nI l) (nI W) x4 (nI (a + W * hop_s h (4 * r + t) l)) (nI (k + 1)) S := by
  subst e7
  have i1 : 0 ≤ nI r ∧ nI r ≤ 3 := ⟨nI_pos' (by omega), nI_le (b := 3) hr (by decide)⟩
  have i2 : 0 ≤ nI t ∧ nI t ≤ 3 := ⟨nI_pos' (by omega), nI_le (b := 3) ht (by decide)⟩
  have e4 : (4 : Int32) * nI r + nI t = nI (4 * r + t) := by rw [show (4 : Int32) = nI 4 from rfl, pk_mul, nI_add]
  have i3 := in_ok (n := 4 * r + t) (N := 16) (by omega) (by decide)
  have e10 : nI W * 10 = nI (W * 10) := pk_mul W 10
  obtain ⟨g1, g2⟩ := hh (4 * r + t) (by omega)
  have le : (nI (h (4 * r + t)) ≤ nI l) = (h (4 * r + t) ≤ l) := nI_leP (by omega) (by omega)
  unfold hop_s
  simp only [Mo_meltOf_96, Mo_meltOf_164, es, mo_isIn, if_pos i1, if_pos i2, ck_t, lt_e, bI_s, bL_s, bV_s, one_n0, zero_0, if_true, if_false, rfs, e4, i3, g_nI _ _ (show 4 * r + t < 2 ^ 31 by omega), g1, le, e10, nI_add, nI_1]
  by_cases q : h (4 * r + t) ≤ l
  · rw [if_pos q, if_pos q]
  · rw [if_neg q, if_neg q, Nat.mul_zero, Nat.add_zero]
theorem mo_m96o {S : iz_S} {d : Nat → Nat} {k40 : Int32 → Int32 → Int32 → Int32 → Int32 → Int32 → iz_S → Option (Int32 × iz_S)} {W a k : Nat} {x1 x2 x4 x7 s0 s1 : Int32} (hd : ∀ i, i < 4 → S.1 92 i = nI (d i) ∧ d i ≤ 10) (hk : k < 4) (ho : ¬ (0 ≤ x7 ∧ x7 ≤ 3) ∨ ¬ (0 ≤ s0 + s1 ∧ s0 + s1 ≤ 3)) :
    Mo_meltOf_96 82 k40 x1 x2 (nI W) x4 (nI a) (nI k) x7 s0 s1 S = k40 x1 x2 (nI W) x4 (nI (a + W * (10 - d k))) (nI (k + 1)) S := by
  have i3 := in_ok (n := k) (N := 4) hk (by decide)
  obtain ⟨g1, g2⟩ := hd k hk
  have e10 : (10 : Int32) - nI (d k) = nI (10 - d k) := nI_sb (a := 10) g2 (by decide)
  have e : Mo_meltOf_119 82 k40 x1 x2 (nI W) x4 (nI a) (nI k) S = k40 x1 x2 (nI W) x4 (nI (a + W * (10 - d k))) (nI (k + 1)) S := by
    simp only [Mo_meltOf_119, Mo_meltOf_164, ck_t, lt_e, bI_s, bL_s, bV_s, one_n0, zero_0, if_true, if_false, rfs, i3, g_nI _ _ (show k < 2 ^ 31 by omega), g1, e10, pk_mul, nI_add, nI_1]
  by_cases q : 0 ≤ x7 ∧ x7 ≤ 3
  · have q2 : ¬ (0 ≤ s0 + s1 ∧ s0 + s1 ≤ 3) := by
      rcases ho with ho | ho
      · exact absurd q ho
      · exact ho
    simp only [Mo_meltOf_96, mo_isIn, if_pos q, if_neg q2, ck_t, lt_e, bI_s, bL_s, bV_s, one_n0, zero_0, if_true, if_false, rfs, e]
  · simp only [Mo_meltOf_96, mo_isIn, if_neg q, ck_t, lt_e, bI_s, bL_s, bV_s, one_n0, zero_0, if_true, if_false, rfs, e]
/-- tenths by side -/
def hsd (h d : Nat → Nat) (c l : Nat) : Nat → Nat
  | 0 => if c / 4 = 0 then 10 - d 0 else hop_s h (c - 4) l
  | 1 => if c / 4 = 3 then 10 - d 1 else hop_s h (c + 4) l
  | 2 => if c % 4 = 0 then 10 - d 2 else hop_s h (c - 1) l
  | _ => if c % 4 = 3 then 10 - d 3 else hop_s h (c + 1) l
theorem m1_out : ¬ ((0 : Int32) ≤ nI 0 + (-1) ∧ nI 0 + (-1) ≤ (3 : Int32)) := by decide +kernel
theorem p4_out : ¬ ((0 : Int32) ≤ nI 4 ∧ nI 4 ≤ (3 : Int32)) := by decide +kernel
theorem mo_m40 {S : iz_S} {h d : Nat → Nat} (hh : ∀ c, c < 16 → S.1 91 c = nI (h c) ∧ h c ≤ 6) (hd : ∀ i, i < 4 → S.1 92 i = nI (d i) ∧ d i ≤ 10) {c l : Nat} (hc : c < 16) (hl : l < 6) (W : Nat) (x4 : Int32) {k : Nat} (hk : k < 4) (n a : Nat) :
    Mo_meltOf_40 82 (n + 1) (nI c) (nI l) (nI W) x4 (nI a) (nI k) S = Mo_meltOf_40 82 n (nI c) (nI l) (nI W) x4 (nI (a + W * hsd h d c l k)) (nI (k + 1)) S := by
  show Mo_meltOf_40b 82 (Mo_meltOf_40 82 n) (nI c) (nI l) (nI W) x4 (nI a) (nI k) S = _
  have d4 := s_d4 (s := c) (by omega)
  have lt : nI k < 4 := nI_lt (b := 4) hk (by decide)
  have az : ∀ y : Int32, y + 0 = y := fun y => Int32.add_zero y
  have n10 : ¬ (nI 1 = 0) := by decide +kernel
  have n20 : ¬ (nI 2 = 0) := by decide +kernel
  have n21 : ¬ (nI 2 = 1) := by decide +kernel
  have n30 : ¬ (nI 3 = 0) := by decide +kernel
  have n31 : ¬ (nI 3 = 1) := by decide +kernel
  have n32 : ¬ (nI 3 = 2) := by decide +kernel
  have n02 : ¬ (nI 0 = 2) := by decide +kernel
  have n03 : ¬ (nI 0 = 3) := by decide +kernel
  have n12 : ¬ (nI 1 = 2) := by decide +kernel
  have n13 : ¬ (nI 1 = 3) := by decide +kernel
  have e00 : nI 0 = 0 := rfl
  have e11 : nI 1 = 1 := rfl
  have e22 : nI 2 = 2 := rfl
  have e33 : nI 3 = 3 := rfl
  unfold Mo_meltOf_40b
  rw [if_pos lt]
  obtain rfl | rfl | rfl | rfl : k = 0 ∨ k = 1 ∨ k = 2 ∨ k = 3 := by omega
  · rw [if_pos e00]
    unfold Mo_meltOf_69
    rw [lt_e, if_neg n02, if_neg n03, d4.2, d4.1]
    unfold hsd
    by_cases q : c / 4 = 0
    · rw [if_pos q, q]
      exact mo_m96o (k := 0) hd (by decide) (Or.inl m1_out)
    · rw [if_neg q]
      obtain ⟨r, hr⟩ : ∃ r, c / 4 = r + 1 := ⟨c / 4 - 1, by omega⟩
      rw [hr, mo_m96i hh hl (r := r) (t := c % 4) (by omega) (by omega) (pk_m1 r) (az _), show 4 * r + c % 4 = c - 4 by omega]
  · rw [if_neg n10, if_pos e11]
    unfold Mo_meltOf_69
    rw [lt_e, if_neg n12, if_neg n13, d4.2, d4.1]
    unfold hsd
    by_cases q : c / 4 = 3
    · rw [if_pos q, q]
      exact mo_m96o (k := 1) hd (by decide) (Or.inl (by decide +kernel))
    · rw [if_neg q, mo_m96i hh hl (r := c / 4 + 1) (t := c % 4) (by omega) (by omega) (nI_1 _) (az _), show 4 * (c / 4 + 1) + c % 4 = c + 4 by omega]
  · rw [if_neg n20, if_neg n21]
    unfold Mo_meltOf_69
    rw [lt_e, if_pos e22, d4.2, d4.1, az]
    unfold hsd
    by_cases q : c % 4 = 0
    · rw [if_pos q, q]
      exact mo_m96o (k := 2) hd (by decide) (Or.inr m1_out)
    · rw [if_neg q]
      obtain ⟨r, hr⟩ : ∃ r, c % 4 = r + 1 := ⟨c % 4 - 1, by omega⟩
      rw [hr, mo_m96i hh hl (r := c / 4) (t := r) (by omega) (by omega) rfl (pk_m1 r), show 4 * (c / 4) + r = c - 1 by omega]
  · rw [if_neg n30, if_neg n31]
    unfold Mo_meltOf_69
    rw [lt_e, if_neg n32, if_pos e33, d4.2, d4.1, az]
    unfold hsd
    by_cases q : c % 4 = 3
    · rw [if_pos q, q]
      exact mo_m96o (k := 3) hd (by decide) (Or.inr (by decide +kernel))
    · rw [if_neg q, mo_m96i hh hl (r := c / 4) (t := c % 4 + 1) (by omega) (by omega) rfl (nI_1 _), show 4 * (c / 4) + (c % 4 + 1) = c + 1 by omega]
theorem hsd_all (h d cv : Nat → Nat) {c : Nat} (l : Nat) (hc : c < 16) (W : Nat) : W * hop_0 h cv c l + W * hsd h d c l 0 + W * hsd h d c l 1 + W * hsd h d c l 2 + W * hsd h d c l 3 = W * (hop h cv c l + (wl_r d c + wl_s d c)) := by
  have e1 : hsd h d c l 0 + hsd h d c l 1 = hop_1 h c l + hop_2 h c l + wl_r d c := by
    unfold hsd hop_1 hop_2 wl_r
    by_cases q0 : c / 4 = 0
    · rw [if_pos q0, if_neg (by omega), if_pos (by omega), if_pos (by omega), if_pos q0]; omega
    · by_cases q3 : c / 4 = 3
      · rw [if_neg q0, if_pos q3, if_neg (by omega), if_neg (by omega), if_neg q0, if_pos q3]
      · rw [if_neg q0, if_neg q3, if_neg (by omega), if_pos (by omega), if_neg q0, if_neg q3]; omega
  have e2 : hsd h d c l 2 + hsd h d c l 3 = hop_3 h c l + hop_4 h c l + wl_s d c := by
    unfold hsd hop_3 hop_4 wl_s
    by_cases q0 : c % 4 = 0
    · rw [if_pos q0, if_neg (by omega), if_pos (by omega), if_pos (by omega), if_pos q0]; omega
    · by_cases q3 : c % 4 = 3
      · rw [if_neg q0, if_pos q3, if_neg (by omega), if_neg (by omega), if_neg q0, if_pos q3]
      · rw [if_neg q0, if_neg q3, if_neg (by omega), if_pos (by omega), if_neg q0, if_neg q3]; omega
  rw [← Nat.mul_add, ← Nat.mul_add, ← Nat.mul_add, ← Nat.mul_add]
  congr 1
  unfold hop
  omega
theorem mo_melt {S : iz_S} {B w : Nat} {h : Nat → Nat} {b : Nat → Nat → Nat} {kd wt pl cv d : Nat → Nat} (hc : hs_m S B w h b kd wt pl) (hi : hs_i B w h b kd wt pl) (hv : ∀ c, c < 16 → S.1 93 c = nI (cv c) ∧ cv c ≤ 10) (hd : ∀ i, i < 4 → S.1 92 i = nI (d i) ∧ d i ≤ 10) {W : Nat} (hW : W ≤ 40) {c l : Nat} (c16 : c < 16) (hl : l < h c) :
    Mo_meltOf 82 (nI c) (nI l) (nI W) S = some (nI (hml W (hop h cv c l + (wl_r d c + wl_s d c)) (hfk (kd (b c l))) (wt (b c l))), S) := by
  have b60 := hi.1
  have h6 := hi.2.2.2.1 c c16
  obtain ⟨g1, g2⟩ := hi.2.2.2.2.1 c l c16 hl
  obtain ⟨k1, k2, k3⟩ := hi.2.2.1 _ g1
  have hh : ∀ c, c < 16 → S.1 91 c = nI (h c) ∧ h c ≤ 6 := fun c q => ⟨hc.2.2.2.1 c q, hi.2.2.2.1 c q⟩
  have e1 := mo_at (S := S) c16 (show l < 6 by omega)
  rw [hc.2.2.2.2.1 c l c16 hl] at e1
  have i1 := in_ok (n := b c l) (N := 60) (by omega) (by decide)
  have i2 := in_ok (n := c) (N := 16) c16 (by decide)
  obtain ⟨f1, f2⟩ := fk_e (kd (b c l)) (by omega)
  have ol := hop_le h cv c l
  have wl := wl_le d c
  have p1 : W * (hop h cv c l + (wl_r d c + wl_s d c)) ≤ 40 * 70 := Nat.mul_le_mul hW (by omega)
  have p2 : W * (hop h cv c l + (wl_r d c + wl_s d c)) * hfk (kd (b c l)) ≤ 40 * 70 * 6 := Nat.mul_le_mul p1 f2
  obtain ⟨T, hT⟩ : ∃ T, T = W * (hop h cv c l + (wl_r d c + wl_s d c)) := ⟨_, rfl⟩
  have sm := hsd_all h d cv l c16 W
  have fin : ∀ f, f ≤ 6 → Mo_meltOf_203 82 (nI (b c l)) (nI T) (nI f) S = some (nI (if T * f / 400 < wt (b c l) then T * f / 400 else wt (b c l)), S) := fun f hf => by
    have p3 : T * f ≤ 40 * 70 * 6 := Nat.mul_le_mul (hT ▸ p1) hf
    have dv : nI (T * f) / 400 = nI (T * f / 400) := pk_div (d := 400) (by omega) (by decide) (by decide)
    have lt : (nI (T * f / 400) < nI (wt (b c l))) = (T * f / 400 < wt (b c l)) := propext (nI_ltI (by omega) (by omega))
    simp only [Mo_meltOf_203, Mo_meltOf_234, ck_t, lt_e, bI_s, bL_s, bV_s, one_n0, zero_0, if_true, if_false, rfs, pk_mul, dv, i1, g_nI _ _ (show b c l < 2 ^ 31 by omega), (hc.2.2.1 _ g1).2.1, lt]
    split <;> rfl
  have loop : Mo_meltOf_40 82 iz_FU (nI c) (nI l) (nI W) (nI (b c l)) (nI (W * hop_0 h cv c l)) (nI 0) S = some (nI (hml W (hop h cv c l + (wl_r d c + wl_s d c)) (hfk (kd (b c l))) (wt (b c l))), S) := by
    show Mo_meltOf_40 82 (19995 + 5) (nI c) (nI l) (nI W) (nI (b c l)) (nI (W * hop_0 h cv c l)) (nI 0) S = _
    have st := fun k (hk : k < 4) n a => mo_m40 hh hd c16 (show l < 6 by omega) W (nI (b c l)) hk n a
    rw [show 19995 + 5 = (19995 + 4) + 1 from rfl, st 0 (by decide), show 19995 + 4 = (19995 + 3) + 1 from rfl, st 1 (by decide), show 19995 + 3 = (19995 + 2) + 1 from rfl, st 2 (by decide), show 19995 + 2 = (19995 + 1) + 1 from rfl, st 3 (by decide), sm, ← hT]
    show Mo_meltOf_40b 82 (Mo_meltOf_40 82 19995) (nI c) (nI l) (nI W) (nI (b c l)) (nI T) (nI 4) S = _
    have n4 : ¬ nI 4 < 4 := by decide +kernel
    have k0 : (nI (kd (b c l)) = 0) = (kd (b c l) = 0) := n0_iff (by omega)
    have k2 : (nI (kd (b c l)) = 2) = (kd (b c l) = 2) := propext (nI_eq (b := 2) (by omega) (by decide))
    simp only [Mo_meltOf_40b, if_neg n4, ck_t, lt_e, bI_s, bL_s, bV_s, one_n0, zero_0, if_true, if_false, rfs, i1, g_nI _ _ (show b c l < 2 ^ 31 by omega), (hc.2.2.1 _ g1).1, k0, k2]
    unfold hml hfk
    rw [← hT]
    by_cases q0 : kd (b c l) = 0
    · rw [if_pos q0, if_pos q0]; exact fin 4 (by decide)
    · rw [if_neg q0, if_neg q0]
      by_cases q2 : kd (b c l) = 2
      · rw [if_pos q2, if_pos q2]; exact fin 6 (by decide)
      · rw [if_neg q2, if_neg q2]; exact fin 3 (by decide)
  have e : (nI l = nI (h c) - 1) = (l + 1 = h c) := by
    rw [nI_m1 (by omega)]
    apply propext
    rw [nI_eq (by omega) (by omega)]
    omega
  have e0 : (0 : Int32) = nI 0 := rfl
  by_cases hx : l + 1 = h c
  · have e10 : (10 : Int32) - nI (cv c) = nI (10 - cv c) := nI_sb (a := 10) (hv c c16).2 (by decide)
    simp only [Mo_meltOf, Mo_meltOf_35, e1, ck_t, lt_e, bI_s, bL_s, bV_s, one_n0, zero_0, if_true, if_false, rfs, i2, g_nI _ _ (show c < 2 ^ 31 by omega), (hh c c16).1, (hv c c16).1, e, hx, e10, pk_mul]
    rw [show hop_0 h cv c l = 10 - cv c from if_pos hx] at loop
    exact loop
  · simp only [Mo_meltOf, Mo_meltOf_35, e1, ck_t, lt_e, bI_s, bL_s, bV_s, one_n0, zero_0, if_true, if_false, rfs, i2, g_nI _ _ (show c < 2 ^ 31 by omega), (hh c c16).1, e, hx]
    rw [show hop_0 h cv c l = 0 from if_neg hx, Nat.mul_zero] at loop
    exact loop
