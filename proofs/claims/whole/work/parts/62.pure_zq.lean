/-! PURE: orders: what hinders them -/
theorem mx_n {a b : Nat} (ha : a < 100000) (hb : b < 100000) : (if 0 < nI a - nI b then nI a - nI b else 0) = nI (a - b) ∧ (if nI a - nI b < 0 then 0 else nI a - nI b) = nI (a - b) := by
  by_cases h : b ≤ a
  · have e := nI_sb h (show a < 2 ^ 31 by omega)
    rw [e]
    have np : ¬ nI (a - b) < 0 := nI_pos (by omega)
    rw [if_neg np]
    refine ⟨?_, rfl⟩
    by_cases q : a - b = 0
    · rw [q]; rfl
    · have lt : 0 < nI (a - b) := nI_lt (a := 0) (b := a - b) (by omega) (by omega)
      rw [if_pos lt]
  · have t : (nI a - nI b).toInt = (a : Int) - b := by
      rw [fb_subI (by rw [nI_tI (by omega), nI_tI (by omega)]; omega) (by rw [nI_tI (by omega), nI_tI (by omega)]; omega), nI_tI (by omega), nI_tI (by omega)]
    have z : (0 : Int32).toInt = 0 := rfl
    have n1 : ¬ 0 < nI a - nI b := by rw [fa_lt, t, z]; omega
    have n2 : nI a - nI b < 0 := by rw [fa_lt, t, z]; omega
    rw [if_neg n1, if_pos n2, show a - b = 0 by omega]
    exact ⟨rfl, rfl⟩
/-- what comes of a block -/
def cm_ (wt hr Wk : Nat) : Nat := wt - hr * Wk / 10
def grd_ok (k g : Nat) : Bool := g == 0 || (g == 1 && !(k == 2)) || (k == 1 || k == 3)
/-- what hinders an order with a block, or with none -/
def hd_ (sv : Bool) (w up : Nat) (kd wt : Nat → Nat) (g lw hr Wk : Nat) : Option Nat → Nat
  | none => if sv then 1 else if up < w then 2 else 3
  | some b => if sv then 1 else if up < w then 2 else if grd_ok (kd b) g then (if cm_ (wt b) hr Wk < lw then 5 else 0) else 4
def bkI : Option Nat → Int32
  | none => -1
  | some b => nI b
theorem or_grade {S : iz_S} {k g : Nat} (hk : k ≤ 3) (hg : g ≤ 2) : Or_isOfGrade (nI k) (nI g) S = some (if grd_ok k g then 1 else 0, S) := by
  have u1 : Ic_isUnder (nI k) 1 S = _ := ic_under S hk (a := 1) (by omega)
  have u2 : Ic_isUnder (nI k) 2 S = _ := ic_under S hk (a := 2) (by omega)
  have g0 : (nI g = 0) = (g = 0) := n0_iff (by omega)
  have g1 : (nI g = 1) = (g = 1) := propext (nI_eq (b := 1) (by omega) (by decide))
  have p1 : un_p k 1 = (k == 1 || k == 3) := by unfold un_p; simp
  have p2 : un_p k 2 = (k == 2) := by unfold un_p; simp
  rw [p1] at u1
  rw [p2] at u2
  have n1 : ¬ (1 : Int32) = 0 := by decide
  have e17 : Or_isOfGrade_17 (nI k) S = some (if (k == 1 || k == 3) = true then 1 else 0, S) := by
    rw [Or_isOfGrade_17, u1, bI_s]
    by_cases q : (k == 1 || k == 3) = true
    · rw [if_pos q, if_neg n1]; simp only [Or_isOfGrade_25, Or_isOfGrade_30, nb_1, decide_true, ck_t]
    · rw [if_neg q, if_pos rfl]; simp only [Or_isOfGrade_30, nb_0, decide_true, ck_t]
  have e25 : Or_isOfGrade_25 S = some (1, S) := by simp only [Or_isOfGrade_25, Or_isOfGrade_30, nb_1, decide_true, ck_t]
  unfold Or_isOfGrade
  simp only [g0, g1]
  unfold grd_ok
  by_cases q0 : g = 0
  · rw [if_pos q0, e25, q0]; rfl
  · rw [if_neg q0]
    by_cases q1 : g = 1
    · rw [if_pos q1, u2, bI_s]
      by_cases q2 : (k == 2) = true
      · rw [if_pos q2, if_neg n1, e17, q1, q2]
        simp
      · rw [if_neg q2, if_pos rfl, e25, q1]
        simp [q2]
    · rw [if_neg q1, e17]
      simp [q0, q1]
theorem or_comes {S : iz_S} {o b hr w wb : Nat} {W : Nat → Nat} (o10 : o < 10) (b60 : b < 60) (hh : S.1 43 o = nI hr) (hr20 : hr ≤ 20) (hw : S.1 13 5 = nI w) (w2 : w ≤ 200) (hW : ∀ i, i < 100 → S.1 12 i = nI (W i) ∧ W i ≤ 40) (hb : S.1 15 b = nI wb) (wb12 : wb ≤ 1200) : Or_whatComes 38 (nI o) (nI b) S = some (nI (cm_ wb hr (wk_w W w)), S) := by
  have i1 := in_ok (n := o) (N := 10) o10 (by decide)
  have i2 := in_ok (n := b) (N := 60) b60 (by decide)
  have e2 := sh_warm (S := S) (W := W) (fun i hi => (hW i hi).1) (w := w) (by omega)
  have wl := wk_le (fun i hi => (hW i hi).2) w
  have p1 : hr * wk_w W w ≤ 20 * 40 := Nat.mul_le_mul hr20 wl
  have dv : nI (hr * wk_w W w) / 10 = nI (hr * wk_w W w / 10) := pk_div (d := 10) (by omega) (by decide) (by decide)
  have mx := (mx_n (a := wb) (b := hr * wk_w W w / 10) (by omega) (by omega)).1
  unfold cm_
  simp only [Or_whatComes, ck_t, lt_e, bI_s, bL_s, bV_s, one_n0, zero_0, if_true, if_false, rfs, i1, i2, g_nI _ _ (show o < 2 ^ 31 by omega), g_nI _ _ (show b < 2 ^ 31 by omega), hh, hw, e2, hb, pk_mul, dv, mx]
theorem or_hind {S : iz_S} {o g lw up hr w : Nat} {sv : Bool} {kd wt W : Nat → Nat} {blk : Option Nat} (o10 : o < 10) (h44 : S.1 44 o = if sv = true then 1 else 0) (h42 : S.1 42 o = nI up) (up1 : up ≤ 100) (h40 : S.1 40 o = nI g) (g2 : g ≤ 2) (h41 : S.1 41 o = nI lw) (lw2 : lw ≤ 2000) (hh : S.1 43 o = nI hr) (hr20 : hr ≤ 20) (hw : S.1 13 5 = nI w) (w2 : w ≤ 200) (hW : ∀ i, i < 100 → S.1 12 i = nI (W i) ∧ W i ≤ 40)
    (hb : ∀ b, blk = some b → b < 60 ∧ S.1 14 b = nI (kd b) ∧ kd b ≤ 3 ∧ S.1 15 b = nI (wt b) ∧ wt b ≤ 1200) : Or_hindrance 38 (nI o) (bkI blk) S = some (nI (hd_ sv w up kd wt g lw hr (wk_w W w) blk), S) := by
  have i1 := in_ok (n := o) (N := 10) o10 (by decide)
  have go := fun (T : iz_S) p => g_nI T p (show o < 2 ^ 31 by omega)
  have le : (nI w ≤ nI up) = (w ≤ up) := nI_leP (by omega) (by omega)
  have n1 : ¬ (1 : Int32) = 0 := by decide
  cases sv with
  | true =>
    have h44' : S.1 44 o = 1 := h44
    simp only [Or_hindrance, ck_t, lt_e, bI_s, bL_s, bV_s, one_n0, zero_0, if_true, if_false, rfs, i1, go, h44']
    cases blk <;> rfl
  | false =>
    have h44' : S.1 44 o = 0 := h44
    by_cases hu : w ≤ up
    · have hu2 : ¬ up < w := by omega
      cases blk with
      | none =>
        have lt : (-1 : Int32) < 0 := by decide +kernel
        simp only [Or_hindrance, ck_t, lt_e, bI_s, bL_s, bV_s, one_n0, zero_0, if_true, if_false, rfs, i1, go, h44', h42, hw, le, if_pos hu, bkI, if_pos lt, hd_, if_neg hu2, Bool.false_eq_true]
        rfl
      | some b =>
        obtain ⟨b60, b1, k3, b2, w12⟩ := hb b rfl
        have i2 := in_ok (n := b) (N := 60) b60 (by decide)
        have np : ¬ nI b < 0 := nI_pos (by omega)
        have gb := fun (T : iz_S) p => g_nI T p (show b < 2 ^ 31 by omega)
        have gr := or_grade (S := S) k3 g2
        have cm := or_comes o10 b60 hh hr20 hw w2 hW b2 w12
        have lt : (nI (cm_ (wt b) hr (wk_w W w)) < nI lw) = (cm_ (wt b) hr (wk_w W w) < lw) := propext (nI_ltI (by unfold cm_; omega) (by omega))
        simp only [Or_hindrance, Or_hindrance_78, ck_t, lt_e, bI_s, bL_s, bV_s, one_n0, zero_0, if_true, if_false, rfs, i1, i2, go, gb, h44', h42, h40, h41, hw, b1, le, if_pos hu, bkI, if_neg np, gr, hd_, if_neg hu2, Bool.false_eq_true]
        by_cases q : grd_ok (kd b) g = true
        · simp only [if_pos q, one_n0, if_false, cm, bI_s, h41, lt]
          by_cases q5 : cm_ (wt b) hr (wk_w W w) < lw
          · rw [if_pos q5, if_pos q5]; rfl
          · rw [if_neg q5, if_neg q5]; rfl
        · simp only [if_neg q, if_true]
          rfl
    · have hu2 : up < w := by omega
      simp only [Or_hindrance, ck_t, lt_e, bI_s, bL_s, bV_s, one_n0, zero_0, if_true, if_false, rfs, i1, go, h44', h42, hw, le, if_neg hu]
      cases blk with
      | none => simp only [hd_, if_pos hu2, Bool.false_eq_true, if_false]; rfl
      | some b => simp only [hd_, if_pos hu2, Bool.false_eq_true, if_false]; rfl
theorem mo_grade {S : iz_S} {o b k g : Nat} (o10 : o < 10) (b60 : b < 60) (hk : k ≤ 3) (hg : g ≤ 2) (h95 : S.1 95 o = nI g) (h86 : S.1 86 b = nI k) : Mo_isOfGrade 82 (nI o) (nI b) S = some (if grd_ok k g then 1 else 0, S) := by
  have i1 := in_ok (n := o) (N := 10) o10 (by decide)
  have i2 := in_ok (n := b) (N := 60) b60 (by decide)
  have g0 : (nI g = 0) = (g = 0) := n0_iff (by omega)
  have g1 : (nI g = 1) = (g = 1) := propext (nI_eq (b := 1) (by omega) (by decide))
  have k1 : (nI k = 1) = (k = 1) := propext (nI_eq (b := 1) (by omega) (by decide))
  have k2 : (nI k = 2) = (k = 2) := propext (nI_eq (b := 2) (by omega) (by decide))
  have k3 : (nI k = 3) = (k = 3) := propext (nI_eq (b := 3) (by omega) (by decide))
  have e49 : Mo_isOfGrade_49 82 S = some (1, S) := by simp only [Mo_isOfGrade_49, Mo_isOfGrade_54, nb_1, decide_true, ck_t]
  have e54 : Mo_isOfGrade_54 82 0 S = some (0, S) := by simp only [Mo_isOfGrade_54, nb_0, decide_true, ck_t]
  simp only [Mo_isOfGrade, Mo_isOfGrade_29, ck_t, lt_e, bI_s, bL_s, bV_s, one_n0, zero_0, if_true, if_false, rfs, i1, i2, g_nI _ _ (show o < 2 ^ 31 by omega), g_nI _ _ (show b < 2 ^ 31 by omega), h95, h86, g0, g1, k1, k2, k3, e49, e54]
  unfold grd_ok
  by_cases q0 : g = 0
  · rw [if_pos q0, q0]; rfl
  · rw [if_neg q0]
    by_cases q1 : g = 1
    · rw [if_pos q1, q1]
      by_cases q2 : k = 2
      · rw [if_pos q2, q2]; rfl
      · rw [if_neg q2]
        simp [q2]
    · rw [if_neg q1]
      by_cases r1 : k = 1
      · rw [if_pos r1, r1]; simp
      · rw [if_neg r1]
        by_cases r3 : k = 3
        · rw [if_pos r3, r3]; simp
        · rw [if_neg r3]; simp [q0, q1, r1, r3]
theorem mo_comes {S : iz_S} {o b hr w wb : Nat} {W : Nat → Nat} (o10 : o < 10) (b60 : b < 60) (hh : S.1 98 o = nI hr) (hr20 : hr ≤ 20) (hw : S.1 82 13 = nI w) (w2 : w ≤ 200) (hW : ∀ i, i < 100 → S.1 94 i = nI (W i) ∧ W i ≤ 40) (hb : S.1 87 b = nI wb) (wb12 : wb ≤ 1200) : Mo_comesOf 82 (nI o) (nI b) S = some (nI (cm_ wb hr (wk_w W w)), S) := by
  have i1 := in_ok (n := o) (N := 10) o10 (by decide)
  have i2 := in_ok (n := b) (N := 60) b60 (by decide)
  have e2 := mo_warm (S := S) (W := W) (fun i hi => (hW i hi).1) (w := w) (by omega)
  have wl := wk_le (fun i hi => (hW i hi).2) w
  have p1 : hr * wk_w W w ≤ 20 * 40 := Nat.mul_le_mul hr20 wl
  have dv : nI (hr * wk_w W w) / 10 = nI (hr * wk_w W w / 10) := pk_div (d := 10) (by omega) (by decide) (by decide)
  have mx := (mx_n (a := wb) (b := hr * wk_w W w / 10) (by omega) (by omega)).2
  unfold cm_
  rw [← mx]
  simp only [Mo_comesOf, Mo_comesOf_35, ck_t, lt_e, bI_s, bL_s, bV_s, one_n0, zero_0, if_true, if_false, rfs, i1, i2, g_nI _ _ (show o < 2 ^ 31 by omega), g_nI _ _ (show b < 2 ^ 31 by omega), hh, hw, e2, hb, pk_mul, dv]
  split <;> rfl
theorem mo_why {S : iz_S} {o c g lw up hr w H : Nat} {sv : Bool} {kd wt W : Nat → Nat} {blk : Option Nat} (o10 : o < 10) (c16 : c < 16) (h44 : S.1 100 o = if sv = true then 1 else 0) (h42 : S.1 97 o = nI up) (up1 : up ≤ 100) (h40 : S.1 95 o = nI g) (g2 : g ≤ 2) (h41 : S.1 96 o = nI lw) (lw2 : lw ≤ 2000) (hh : S.1 98 o = nI hr) (hr20 : hr ≤ 20) (hw : S.1 82 13 = nI w) (w2 : w ≤ 200) (hW : ∀ i, i < 100 → S.1 94 i = nI (W i) ∧ W i ≤ 40) (hH : S.1 91 c = nI H) (h6 : H ≤ 6)
    (hn : blk = none → H = 0) (hb : ∀ b, blk = some b → 0 < H ∧ S.1 90 (6 * c + (H - 1)) = nI b ∧ b < 60 ∧ S.1 86 b = nI (kd b) ∧ kd b ≤ 3 ∧ S.1 87 b = nI (wt b) ∧ wt b ≤ 1200) : Mo_whyNot 82 (nI o) (nI c) S = some (nI (hd_ sv w up kd wt g lw hr (wk_w W w) blk), S) := by
  have i1 := in_ok (n := o) (N := 10) o10 (by decide)
  have i3 := in_ok (n := c) (N := 16) c16 (by decide)
  have go := fun (T : iz_S) p => g_nI T p (show o < 2 ^ 31 by omega)
  have gc := fun (T : iz_S) p => g_nI T p (show c < 2 ^ 31 by omega)
  have le : (nI w ≤ nI up) = (w ≤ up) := nI_leP (by omega) (by omega)
  have n1 : ¬ (1 : Int32) = 0 := by decide
  have e0 : (nI H = 0) = (H = 0) := n0_iff (by omega)
  cases sv with
  | true =>
    have h44' : S.1 100 o = 1 := h44
    simp only [Mo_whyNot, ck_t, lt_e, bI_s, bL_s, bV_s, one_n0, zero_0, if_true, if_false, rfs, i1, go, h44']
    cases blk <;> rfl
  | false =>
    have h44' : S.1 100 o = 0 := h44
    by_cases hu : w ≤ up
    · have hu2 : ¬ up < w := by omega
      cases blk with
      | none =>
        have H0 := hn rfl
        simp only [Mo_whyNot, ck_t, lt_e, bI_s, bL_s, bV_s, one_n0, zero_0, if_true, if_false, rfs, i1, i3, go, gc, h44', h42, hw, le, if_pos hu, hH, e0, if_pos H0, hd_, if_neg hu2, Bool.false_eq_true]
        rfl
      | some b =>
        obtain ⟨H0, b0, b60, b1, k3, b2, w12⟩ := hb b rfl
        have nH : ¬ H = 0 := by omega
        have bl := mo_at (S := S) c16 (show H - 1 < 6 by omega)
        rw [b0] at bl
        have e1 : nI H - 1 = nI (H - 1) := nI_m1 (by omega)
        have gr := mo_grade (S := S) o10 b60 k3 g2 h40 b1
        have cm := mo_comes o10 b60 hh hr20 hw w2 hW b2 w12
        have lt : (nI (cm_ (wt b) hr (wk_w W w)) < nI lw) = (cm_ (wt b) hr (wk_w W w) < lw) := propext (nI_ltI (by unfold cm_; omega) (by omega))
        simp only [Mo_whyNot, Mo_whyNot_84, ck_t, lt_e, bI_s, bL_s, bV_s, one_n0, zero_0, if_true, if_false, rfs, i1, i3, go, gc, h44', h42, h41, hw, le, if_pos hu, hH, e0, if_neg nH, e1, bl, gr, hd_, if_neg hu2, Bool.false_eq_true]
        by_cases q : grd_ok (kd b) g = true
        · simp only [if_pos q, one_n0, if_false, cm, bI_s, h41, lt]
          by_cases q5 : cm_ (wt b) hr (wk_w W w) < lw
          · rw [if_pos q5, if_pos q5]; rfl
          · rw [if_neg q5, if_neg q5]; rfl
        · simp only [if_neg q, if_true]
          rfl
    · have hu2 : up < w := by omega
      simp only [Mo_whyNot, ck_t, lt_e, bI_s, bL_s, bV_s, one_n0, zero_0, if_true, if_false, rfs, i1, go, h44', h42, hw, le, if_neg hu]
      cases blk with
      | none => simp only [hd_, if_pos hu2, Bool.false_eq_true, if_false]; rfl
      | some b => simp only [hd_, if_pos hu2, Bool.false_eq_true, if_false]; rfl
