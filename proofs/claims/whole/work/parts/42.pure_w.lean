/-! PURE: what melts of a block, reference side -/
theorem mo_m96i {S : iz_S} {h : Nat → Nat} {k40 : Int32 → Int32 → Int32 → Int32 → Int32 → Int32 → iz_S → Option (Int32 × iz_S)} {l W a k r t : Nat} {x1 x4 x7 s0 s1 : Int32} (hh : ∀ c, c < 16 → S.1 91 c = nI (h c) ∧ h c ≤ 6) (hl : l < 6) (hr : r ≤ 3) (ht : t ≤ 3) (e7 : x7 = nI r) (es : s0 + s1 = nI t) :
    Mo_meltOf_96 82 k40 x1 (nI l) (nI W) x4 (nI a) (nI k) x7 s0 s1 S = k40 x1 (nI l) (nI W) x4 (nI (a + W * hop_s h (4 * r + t) l)) (nI (k + 1)) S := by
  subst e7
  have i1 : 0 ≤ nI r ∧ nI r ≤ 3 := ⟨nI_pos' (by omega), nI_le (b := 3) hr (by decide)⟩
  have i2 : 0 ≤ nI t ∧ nI t ≤ 3 := ⟨nI_pos' (by omega), nI_le (b := 3) ht (by decide)⟩
  have e4 : (4 : Int32) * nI r + nI t = nI (4 * r + t) := by rw [show (4 : Int32) = nI 4 from rfl, pk_mul, nI_add]
  have i3 := in_ok (n := 4 * r + t) (N := 16) (by omega) (by decide)
  have e10 : nI W * 10 = nI (W * 10) := pk_mul W 10
  obtain ⟨g1, g2⟩ := hh (4 * r + t) (by omega)
  have le : (nI (h (4 * r + t)) ≤ nI l) = (h (4 * r + t) ≤ l) := nI_leP (by omega) (by omega)
  unfold hop_s
  simp only [Mo_meltOf_96, Mo_meltOf_164, es, mo_isIn, if_pos i1, if_pos i2, ck_t, lt_e, bI_s, bL_s, bV_s, one_n0, zero_0, if_true, if_false, rfs, e4, i3, g_nI _ _ (show 4 * r + t < 2 ^ 31 by omega), g1, le, e10, nI_add, nI_1]
  by_cases q : h (4 * r + t) ≤ l
  · rw [if_pos q, if_pos q]
  · rw [if_neg q, if_neg q]; rfl
theorem mo_m96o {S : iz_S} {d : Nat → Nat} {k40 : Int32 → Int32 → Int32 → Int32 → Int32 → Int32 → iz_S → Option (Int32 × iz_S)} {W a k : Nat} {x1 x2 x4 x7 s0 s1 : Int32} (hd : ∀ i, i < 4 → S.1 92 i = nI (d i) ∧ d i ≤ 10) (hk : k < 4) (ho : ¬ (0 ≤ x7 ∧ x7 ≤ 3) ∨ ¬ (0 ≤ s0 + s1 ∧ s0 + s1 ≤ 3)) :
    Mo_meltOf_96 82 k40 x1 x2 (nI W) x4 (nI a) (nI k) x7 s0 s1 S = k40 x1 x2 (nI W) x4 (nI (a + W * (10 - d k))) (nI (k + 1)) S := by
  have i3 := in_ok (n := k) (N := 4) hk (by decide)
  obtain ⟨g1, g2⟩ := hd k hk
  have e10 : (10 : Int32) - nI (d k) = nI (10 - d k) := nI_sb (a := 10) g2 (by decide)
  have e : Mo_meltOf_119 82 k40 x1 x2 (nI W) x4 (nI a) (nI k) S = k40 x1 x2 (nI W) x4 (nI (a + W * (10 - d k))) (nI (k + 1)) S := by
    simp only [Mo_meltOf_119, Mo_meltOf_164, ck_t, lt_e, bI_s, bL_s, bV_s, one_n0, zero_0, if_true, if_false, rfs, i3, g_nI _ _ (show k < 2 ^ 31 by omega), g1, e10, pk_mul, nI_add, nI_1]
  by_cases q : 0 ≤ x7 ∧ x7 ≤ 3
  · have q2 : ¬ (0 ≤ s0 + s1 ∧ s0 + s1 ≤ 3) := by
      rcases ho with ho | ho
      · exact absurd q ho
      · exact ho
    simp only [Mo_meltOf_96, mo_isIn, if_pos q, if_neg q2, ck_t, lt_e, bI_s, bL_s, bV_s, one_n0, zero_0, if_true, if_false, rfs, e]
  · simp only [Mo_meltOf_96, mo_isIn, if_neg q, ck_t, lt_e, bI_s, bL_s, bV_s, one_n0, zero_0, if_true, if_false, rfs, e]
/-- tenths by side -/
def hsd (h d : Nat → Nat) (c l : Nat) : Nat → Nat
  | 0 => if c / 4 = 0 then 10 - d 0 else hop_s h (c - 4) l
  | 1 => if c / 4 = 3 then 10 - d 1 else hop_s h (c + 4) l
  | 2 => if c % 4 = 0 then 10 - d 2 else hop_s h (c - 1) l
  | _ => if c % 4 = 3 then 10 - d 3 else hop_s h (c + 1) l
theorem hsd0 (h d : Nat → Nat) (c l : Nat) : hsd h d c l 0 = if c / 4 = 0 then 10 - d 0 else hop_s h (c - 4) l := rfl
theorem hsd1 (h d : Nat → Nat) (c l : Nat) : hsd h d c l 1 = if c / 4 = 3 then 10 - d 1 else hop_s h (c + 4) l := rfl
theorem hsd2 (h d : Nat → Nat) (c l : Nat) : hsd h d c l 2 = if c % 4 = 0 then 10 - d 2 else hop_s h (c - 1) l := rfl
theorem hsd3 (h d : Nat → Nat) (c l : Nat) : hsd h d c l 3 = if c % 4 = 3 then 10 - d 3 else hop_s h (c + 1) l := rfl
theorem m1_out : ¬ ((0 : Int32) ≤ nI 0 + (-1) ∧ nI 0 + (-1) ≤ (3 : Int32)) := by decide +kernel
theorem p4_out : ¬ ((0 : Int32) ≤ nI 4 ∧ nI 4 ≤ (3 : Int32)) := by decide +kernel
theorem mo_m40 {S : iz_S} {h d : Nat → Nat} (hh : ∀ c, c < 16 → S.1 91 c = nI (h c) ∧ h c ≤ 6) (hd : ∀ i, i < 4 → S.1 92 i = nI (d i) ∧ d i ≤ 10) {c l : Nat} (hc : c < 16) (hl : l < 6) (W : Nat) (x4 : Int32) {k : Nat} (hk : k < 4) (n a : Nat) :
    Mo_meltOf_40 82 (n + 1) (nI c) (nI l) (nI W) x4 (nI a) (nI k) S = Mo_meltOf_40 82 n (nI c) (nI l) (nI W) x4 (nI (a + W * hsd h d c l k)) (nI (k + 1)) S := by
  show Mo_meltOf_40b 82 (Mo_meltOf_40 82 n) (nI c) (nI l) (nI W) x4 (nI a) (nI k) S = _
  have d4 := s_d4 (s := c) (by omega)
  have lt : nI k < 4 := nI_lt (b := 4) hk (by decide)
  have az : ∀ y : Int32, y + 0 = y := fun y => Int32.add_zero y
  have n10 : ¬ (nI 1 = 0) := by decide +kernel
  have n20 : ¬ (nI 2 = 0) := by decide +kernel
  have n21 : ¬ (nI 2 = 1) := by decide +kernel
  have n30 : ¬ (nI 3 = 0) := by decide +kernel
  have n31 : ¬ (nI 3 = 1) := by decide +kernel
  have n32 : ¬ (nI 3 = 2) := by decide +kernel
  have n02 : ¬ (nI 0 = 2) := by decide +kernel
  have n03 : ¬ (nI 0 = 3) := by decide +kernel
  have n12 : ¬ (nI 1 = 2) := by decide +kernel
  have n13 : ¬ (nI 1 = 3) := by decide +kernel
  have e00 : nI 0 = 0 := rfl
  have e11 : nI 1 = 1 := rfl
  have e22 : nI 2 = 2 := rfl
  have e33 : nI 3 = 3 := rfl
  unfold Mo_meltOf_40b
  rw [if_pos lt]
  obtain rfl | rfl | rfl | rfl : k = 0 ∨ k = 1 ∨ k = 2 ∨ k = 3 := by omega
  · rw [if_pos e00]
    unfold Mo_meltOf_69
    rw [lt_e, if_neg n02, if_neg n03, d4.2, d4.1]
    rw [hsd0]
    by_cases q : c / 4 = 0
    · rw [if_pos q, q]
      exact mo_m96o (k := 0) hd (by decide) (Or.inl m1_out)
    · rw [if_neg q]
      obtain ⟨r, hr⟩ : ∃ r, c / 4 = r + 1 := ⟨c / 4 - 1, by omega⟩
      rw [hr, mo_m96i hh hl (r := r) (t := c % 4) (by omega) (by omega) (pk_m1 r) (az _), show 4 * r + c % 4 = c - 4 by omega]
  · rw [if_neg n10, if_pos e11]
    unfold Mo_meltOf_69
    rw [lt_e, if_neg n12, if_neg n13, d4.2, d4.1]
    rw [hsd1]
    by_cases q : c / 4 = 3
    · rw [if_pos q, q]
      exact mo_m96o (k := 1) hd (by decide) (Or.inl (by decide +kernel))
    · rw [if_neg q, mo_m96i hh hl (r := c / 4 + 1) (t := c % 4) (by omega) (by omega) (nI_1 _) (az _), show 4 * (c / 4 + 1) + c % 4 = c + 4 by omega]
  · rw [if_neg n20, if_neg n21]
    unfold Mo_meltOf_69
    rw [lt_e, if_pos e22, d4.2, d4.1, az]
    rw [hsd2]
    by_cases q : c % 4 = 0
    · rw [if_pos q, q]
      exact mo_m96o (k := 2) hd (by decide) (Or.inr m1_out)
    · rw [if_neg q]
      obtain ⟨r, hr⟩ : ∃ r, c % 4 = r + 1 := ⟨c % 4 - 1, by omega⟩
      rw [hr, mo_m96i hh hl (r := c / 4) (t := r) (by omega) (by omega) rfl (pk_m1 r), show 4 * (c / 4) + r = c - 1 by omega]
  · rw [if_neg n30, if_neg n31]
    unfold Mo_meltOf_69
    rw [lt_e, if_neg n32, if_pos e33, d4.2, d4.1, az]
    rw [hsd3]
    by_cases q : c % 4 = 3
    · rw [if_pos q, q]
      exact mo_m96o (k := 3) hd (by decide) (Or.inr (by decide +kernel))
    · rw [if_neg q, mo_m96i hh hl (r := c / 4) (t := c % 4 + 1) (by omega) (by omega) rfl (nI_1 _), show 4 * (c / 4) + (c % 4 + 1) = c + 1 by omega]
theorem hsd_all (h d cv : Nat → Nat) {c : Nat} (l : Nat) (hc : c < 16) (W : Nat) : W * hop_0 h cv c l + W * hsd h d c l 0 + W * hsd h d c l 1 + W * hsd h d c l 2 + W * hsd h d c l 3 = W * (hop h cv c l + (wl_r d c + wl_s d c)) := by
  have e1 : hsd h d c l 0 + hsd h d c l 1 = hop_1 h c l + hop_2 h c l + wl_r d c := by
    rw [hsd0, hsd1]
    unfold hop_1 hop_2 wl_r
    by_cases q0 : c / 4 = 0
    · have a1 : ¬ c / 4 = 3 := by omega
      have a2 : c / 4 ≤ 0 := by omega
      have a3 : c / 4 < 3 := by omega
      simp only [if_pos q0, if_neg a1, if_pos a2, if_pos a3]
      omega
    · have a2 : ¬ c / 4 ≤ 0 := by omega
      by_cases q3 : c / 4 = 3
      · have a3 : ¬ c / 4 < 3 := by omega
        simp only [if_neg q0, if_pos q3, if_neg a2, if_neg a3]
        omega
      · have a3 : c / 4 < 3 := by omega
        simp only [if_neg q0, if_neg q3, if_neg a2, if_pos a3]
        omega
  have e2 : hsd h d c l 2 + hsd h d c l 3 = hop_3 h c l + hop_4 h c l + wl_s d c := by
    rw [hsd2, hsd3]
    unfold hop_3 hop_4 wl_s
    by_cases q0 : c % 4 = 0
    · have a1 : ¬ c % 4 = 3 := by omega
      have a2 : c % 4 ≤ 0 := by omega
      have a3 : c % 4 < 3 := by omega
      simp only [if_pos q0, if_neg a1, if_pos a2, if_pos a3]
      omega
    · have a2 : ¬ c % 4 ≤ 0 := by omega
      by_cases q3 : c % 4 = 3
      · have a3 : ¬ c % 4 < 3 := by omega
        simp only [if_neg q0, if_pos q3, if_neg a2, if_neg a3]
        omega
      · have a3 : c % 4 < 3 := by omega
        simp only [if_neg q0, if_neg q3, if_neg a2, if_pos a3]
        omega
  rw [← Nat.mul_add, ← Nat.mul_add, ← Nat.mul_add, ← Nat.mul_add]
  congr 1
  unfold hop
  omega
theorem mo_mfin {S : iz_S} {a T f w : Nat} (ha : a < 60) (hw : S.1 87 a = nI w) (w12 : w ≤ 1200) (hT : T ≤ 2800) (hf : f ≤ 6) : Mo_meltOf_203 82 (nI a) (nI T) (nI f) S = some (nI (if T * f / 400 < w then T * f / 400 else w), S) := by
  have p3 : T * f ≤ 2800 * 6 := Nat.mul_le_mul hT hf
  have i1 := in_ok (n := a) (N := 60) ha (by decide)
  have dv : nI (T * f) / 400 = nI (T * f / 400) := pk_div (d := 400) (by omega) (by decide) (by decide)
  have lt : (nI (T * f / 400) < nI w) = (T * f / 400 < w) := propext (nI_ltI (by omega) (by omega))
  simp only [Mo_meltOf_203, Mo_meltOf_234, ck_t, lt_e, bI_s, bL_s, bV_s, one_n0, zero_0, if_true, if_false, rfs, pk_mul, dv, i1, g_nI _ _ (show a < 2 ^ 31 by omega), hw, lt]
  split <;> rfl
theorem mo_mend {S : iz_S} {c l W a T k w : Nat} (n : Nat) (ha : a < 60) (hk : S.1 86 a = nI k) (hw : S.1 87 a = nI w) (k3 : k ≤ 3) (w12 : w ≤ 1200) (hT : T ≤ 2800) : Mo_meltOf_40 82 (n + 1) (nI c) (nI l) (nI W) (nI a) (nI T) (nI 4) S = some (nI (if T * hfk k / 400 < w then T * hfk k / 400 else w), S) := by
  show Mo_meltOf_40b 82 (Mo_meltOf_40 82 n) (nI c) (nI l) (nI W) (nI a) (nI T) (nI 4) S = _
  have i1 := in_ok (n := a) (N := 60) ha (by decide)
  have n4 : ¬ nI 4 < 4 := by decide +kernel
  have k0 : (nI k = 0) = (k = 0) := n0_iff (by omega)
  have k2 : (nI k = 2) = (k = 2) := propext (nI_eq (b := 2) (by omega) (by decide))
  simp only [Mo_meltOf_40b, if_neg n4, ck_t, lt_e, bI_s, bL_s, bV_s, one_n0, zero_0, if_true, if_false, rfs, i1, g_nI _ _ (show a < 2 ^ 31 by omega), hk, k0, k2]
  unfold hfk
  by_cases q0 : k = 0
  · rw [if_pos q0, if_pos q0]; exact mo_mfin (f := 4) ha hw w12 hT (by decide)
  · rw [if_neg q0, if_neg q0]
    by_cases q2 : k = 2
    · rw [if_pos q2, if_pos q2]; exact mo_mfin (f := 6) ha hw w12 hT (by decide)
    · rw [if_neg q2, if_neg q2]; exact mo_mfin (f := 3) ha hw w12 hT (by decide)
theorem mo_mloop {S : iz_S} {h d cv : Nat → Nat} (hh : ∀ c, c < 16 → S.1 91 c = nI (h c) ∧ h c ≤ 6) (hd : ∀ i, i < 4 → S.1 92 i = nI (d i) ∧ d i ≤ 10) {c l W a k w : Nat} (hc : c < 16) (hl : l < 6) (hW : W ≤ 40) (n : Nat) (ha : a < 60) (hk : S.1 86 a = nI k) (hw : S.1 87 a = nI w) (k3 : k ≤ 3) (w12 : w ≤ 1200) :
    Mo_meltOf_40 82 (n + 5) (nI c) (nI l) (nI W) (nI a) (nI (W * hop_0 h cv c l)) (nI 0) S = some (nI (hml W (hop h cv c l + (wl_r d c + wl_s d c)) (hfk k) w), S) := by
  have ol := hop_le h cv c l
  have wl := wl_le d c
  have p1 : W * (hop h cv c l + (wl_r d c + wl_s d c)) ≤ 40 * 70 := Nat.mul_le_mul hW (by omega)
  have st := fun k (hk : k < 4) n b => mo_m40 hh hd hc hl W (nI a) hk n b
  have s0 := st 0 (by decide) (n + 4) (W * hop_0 h cv c l)
  have s1 := st 1 (by decide) (n + 3) (W * hop_0 h cv c l + W * hsd h d c l 0)
  have s2 := st 2 (by decide) (n + 2) (W * hop_0 h cv c l + W * hsd h d c l 0 + W * hsd h d c l 1)
  have s3 := st 3 (by decide) (n + 1) (W * hop_0 h cv c l + W * hsd h d c l 0 + W * hsd h d c l 1 + W * hsd h d c l 2)
  rw [hsd_all h d cv l hc W] at s3
  unfold hml
  exact s0.trans (s1.trans (s2.trans (s3.trans (mo_mend n ha hk hw k3 w12 p1))))
theorem mo_mloop5 {S : iz_S} {h d cv : Nat → Nat} (hh : ∀ c, c < 16 → S.1 91 c = nI (h c) ∧ h c ≤ 6) (hd : ∀ i, i < 4 → S.1 92 i = nI (d i) ∧ d i ≤ 10) {c l W a k w : Nat} (hc : c < 16) (hl : l < 6) (hW : W ≤ 40) (n : Nat) (hn : 5 ≤ n) (ha : a < 60) (hk : S.1 86 a = nI k) (hw : S.1 87 a = nI w) (k3 : k ≤ 3) (w12 : w ≤ 1200) :
    Mo_meltOf_40 82 n (nI c) (nI l) (nI W) (nI a) (nI (W * hop_0 h cv c l)) 0 S = some (nI (hml W (hop h cv c l + (wl_r d c + wl_s d c)) (hfk k) w), S) := by
  obtain ⟨m, rfl⟩ : ∃ m, n = m + 5 := ⟨n - 5, by omega⟩
  exact mo_mloop hh hd hc hl hW m ha hk hw k3 w12
theorem mo_mA {S : iz_S} {c l W a H v : Nat} (c16 : c < 16) (hl : l < H) (h6 : H ≤ 6) (hH : S.1 91 c = nI H) (hb : S.1 90 (6 * c + l) = nI a) (hv : S.1 93 c = nI v) (v10 : v ≤ 10) : Mo_meltOf 82 (nI c) (nI l) (nI W) S = Mo_meltOf_35 82 (nI c) (nI l) (nI W) (nI a) (nI (W * (if l + 1 = H then 10 - v else 0))) S := by
  have e1 := mo_at (S := S) c16 (show l < 6 by omega)
  rw [hb] at e1
  have i2 := in_ok (n := c) (N := 16) c16 (by decide)
  have e10 : (10 : Int32) - nI v = nI (10 - v) := nI_sb (a := 10) v10 (by decide)
  have gc := g_nI S 91 (show c < 2 ^ 31 by omega)
  have gv := g_nI S 93 (show c < 2 ^ 31 by omega)
  have e2 : nI H - 1 = nI (H - 1) := nI_m1 (by omega)
  unfold Mo_meltOf
  rw [e1, bI_s, i2, ck_t, show iz_rf 82 9 = 91 from rfl, show iz_rf 82 11 = 93 from rfl, gc, hH, e2]
  by_cases hx : l + 1 = H
  · rw [if_pos hx, if_pos (by rw [nI_eq (by omega) (by omega)]; omega), ck_t, gv, hv, e10, pk_mul]
  · rw [if_neg hx, if_neg (by rw [nI_eq (by omega) (by omega)]; omega)]
    rfl
theorem mo_mB {S : iz_S} {h d cv : Nat → Nat} (hh : ∀ c, c < 16 → S.1 91 c = nI (h c) ∧ h c ≤ 6) (hd : ∀ i, i < 4 → S.1 92 i = nI (d i) ∧ d i ≤ 10) {c l W a k w : Nat} (hc : c < 16) (hl : l < 6) (hW : W ≤ 40) (ha : a < 60) (hk : S.1 86 a = nI k) (hw : S.1 87 a = nI w) (k3 : k ≤ 3) (w12 : w ≤ 1200) :
    Mo_meltOf_35 82 (nI c) (nI l) (nI W) (nI a) (nI (W * hop_0 h cv c l)) S = some (nI (hml W (hop h cv c l + (wl_r d c + wl_s d c)) (hfk k) w), S) := by
  unfold Mo_meltOf_35
  exact mo_mloop5 hh hd hc hl hW iz_FU (by have := fu_ge; omega) ha hk hw k3 w12
theorem mo_melt {S : iz_S} {B w : Nat} {h : Nat → Nat} {b : Nat → Nat → Nat} {kd wt pl cv d : Nat → Nat} (hc : hs_m S B w h b kd wt pl) (hi : hs_i B w h b kd wt pl) (hv : ∀ c, c < 16 → S.1 93 c = nI (cv c) ∧ cv c ≤ 10) (hd : ∀ i, i < 4 → S.1 92 i = nI (d i) ∧ d i ≤ 10) {W : Nat} (hW : W ≤ 40) {c l : Nat} (c16 : c < 16) (hl : l < h c) :
    Mo_meltOf 82 (nI c) (nI l) (nI W) S = some (nI (hml W (hop h cv c l + (wl_r d c + wl_s d c)) (hfk (kd (b c l))) (wt (b c l))), S) := by
  have b60 := hi.1
  have h6 := hi.2.2.2.1 c c16
  obtain ⟨g1, g2⟩ := hi.2.2.2.2.1 c l c16 hl
  obtain ⟨k1, k2, -⟩ := hi.2.2.1 _ g1
  have hh : ∀ c, c < 16 → S.1 91 c = nI (h c) ∧ h c ≤ 6 := fun c q => ⟨hc.2.2.2.1 c q, hi.2.2.2.1 c q⟩
  have loop := mo_mB (cv := cv) hh hd c16 (show l < 6 by omega) hW (show b c l < 60 by omega) (hc.2.2.1 _ g1).1 (hc.2.2.1 _ g1).2.1 k1 k2
  unfold hop_0 at loop
  rw [mo_mA c16 hl h6 (hh c c16).1 (hc.2.2.2.2.1 c l c16 hl) (hv c c16).1 (hv c c16).2]
  exact loop
