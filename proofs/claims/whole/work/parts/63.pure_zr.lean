/-! PURE: why, serve -/
/-- the orders, as numbers -/
def od (S : iz_S) (n : Nat) (g lw up hr pr : Nat → Nat) (sv : Nat → Bool) : Prop := n ≤ 10 ∧ S.1 38 0 = nI n ∧ ∀ i, i < n → S.1 40 i = nI (g i) ∧ S.1 41 i = nI (lw i) ∧ S.1 42 i = nI (up i) ∧ S.1 43 i = nI (hr i) ∧ S.1 39 i = nI (pr i) ∧ S.1 44 i = if sv i = true then 1 else 0
def om (S : iz_S) (n : Nat) (g lw up hr pr : Nat → Nat) (sv : Nat → Bool) : Prop := n ≤ 10 ∧ S.1 82 14 = nI n ∧ ∀ i, i < n → S.1 95 i = nI (g i) ∧ S.1 96 i = nI (lw i) ∧ S.1 97 i = nI (up i) ∧ S.1 98 i = nI (hr i) ∧ S.1 99 i = nI (pr i) ∧ S.1 100 i = if sv i = true then 1 else 0
def ob (n : Nat) (g lw up hr pr : Nat → Nat) : Prop := ∀ i, i < n → g i ≤ 2 ∧ 1 ≤ lw i ∧ lw i ≤ 2000 ∧ up i ≤ 100 ∧ hr i ≤ 20 ∧ 1 ≤ pr i ∧ pr i ≤ 1000
theorem ord_f {S : iz_S} (h : rl_ord S) : ∃ n g lw up hr pr sv, od S n g lw up hr pr sv ∧ om S n g lw up hr pr sv ∧ ob n g lw up hr pr := by
  obtain ⟨n, n10, o2, o3, o4, o5, o6⟩ := h
  have key : ∀ i, i < n → (S.1 40 i = nI (S.1 40 i).toNatClampNeg ∧ S.1 41 i = nI (S.1 41 i).toNatClampNeg ∧ S.1 42 i = nI (S.1 42 i).toNatClampNeg ∧ S.1 43 i = nI (S.1 43 i).toNatClampNeg ∧ S.1 39 i = nI (S.1 39 i).toNatClampNeg ∧ S.1 44 i = if decide (S.1 44 i ≠ 0) = true then 1 else 0) ∧ (S.1 40 i).toNatClampNeg ≤ 2 ∧ 1 ≤ (S.1 41 i).toNatClampNeg ∧ (S.1 41 i).toNatClampNeg ≤ 2000 ∧ (S.1 42 i).toNatClampNeg ≤ 100 ∧ (S.1 43 i).toNatClampNeg ≤ 20 ∧ 1 ≤ (S.1 39 i).toNatClampNeg ∧ (S.1 39 i).toNatClampNeg ≤ 1000 := fun i hi => by
    obtain ⟨-, -, -, -, -, -, z, -, q⟩ := o6 i (by omega)
    obtain ⟨g, lw, up, hr, pr, b1, b2, b3, b4, b5, b6, b7, e1, e2, e3, e4, e5⟩ := q hi
    rw [e1, e2, e3, e4, e5, nI_clamp (by omega), nI_clamp (by omega), nI_clamp (by omega), nI_clamp (by omega), nI_clamp (by omega)]
    refine ⟨⟨rfl, rfl, rfl, rfl, rfl, ?_⟩, b1, b2, b3, b4, b5, b6, b7⟩
    rcases z with z | z
    · rw [z]; rfl
    · rw [z]; rfl
  refine ⟨n, fun i => (S.1 40 i).toNatClampNeg, fun i => (S.1 41 i).toNatClampNeg, fun i => (S.1 42 i).toNatClampNeg, fun i => (S.1 43 i).toNatClampNeg, fun i => (S.1 39 i).toNatClampNeg, fun i => decide (S.1 44 i ≠ 0), ⟨n10, o2, fun i hi => (key i hi).1⟩, ⟨n10, o3, fun i hi => ?_⟩, fun i hi => (key i hi).2⟩
  obtain ⟨x1, x2, x3, x4, x5, x6, -⟩ := o6 i (by omega)
  rw [x1, x2, x3, x4, x5, x6]
  exact (key i hi).1
theorem or_has_t {S : iz_S} {n i : Nat} (hB : S.1 38 0 = nI n) (n10 : n ≤ 10) (hi : i < n) : Or_has 38 (nI i) S = some (1, S) := by
  have h := (btw_iff (x := nI i) (n := n) (by omega)).mpr ⟨i, hi, rfl⟩
  simp only [Or_has, ic_within, hB, if_pos h, bI_s, nb_1, decide_true, ck_t]
theorem or_has_f {S : iz_S} {n : Nat} {x : Int32} (hB : S.1 38 0 = nI n) (n10 : n ≤ 10) (hi : ¬ ∃ i, i < n ∧ x = nI i) : Or_has 38 x S = some (0, S) := by
  have h : ¬ (0 ≤ x ∧ x ≤ nI n - 1) := fun h => hi ((btw_iff (by omega)).mp h)
  simp only [Or_has, ic_within, hB, if_neg h, bI_s, nb_0, decide_true, ck_t]
theorem mo_ord_t {S : iz_S} {n i : Nat} (hB : S.1 82 14 = nI n) (n10 : n ≤ 10) (hi : i < n) : Mo_isOrder 82 (nI i) S = some (1, S) := by
  have h := (lt_iff (x := nI i) (n := n) (by omega)).mpr ⟨i, hi, rfl⟩
  simp only [Mo_isOrder, Mo_isOrder_17, hB, if_neg h.1, if_pos h.2, nb_1, decide_true, ck_t]
theorem mo_ord_f {S : iz_S} {n : Nat} {x : Int32} (hB : S.1 82 14 = nI n) (n10 : n ≤ 10) (hi : ¬ ∃ i, i < n ∧ x = nI i) : Mo_isOrder 82 x S = some (0, S) := by
  by_cases h1 : x < 0
  · simp only [Mo_isOrder, Mo_isOrder_16, Mo_isOrder_17, if_pos h1, nb_0, decide_true, ck_t]
  · have h2 : ¬ x < nI n := fun h2 => hi ((lt_iff (by omega)).mp ⟨h1, h2⟩)
    simp only [Mo_isOrder, Mo_isOrder_16, Mo_isOrder_17, hB, if_neg h1, if_neg h2, nb_0, decide_true, ck_t]
/-- the block on top -/
def tp (L : List Nat) : Option Nat := L.getLast?
theorem tp_n : tp [] = none := rfl
theorem tp_s (K : List Nat) (a : Nat) : tp (K ++ [a]) = some a := by unfold tp; simp
theorem ho_tp {S : iz_S} {q B w : Nat} {kd wt : Nat → Nat} {sh : Nat → Bool} {col : Nat → List Nat} (hq : hq_p q) (h : hvc S q B w kd wt sh col) (hi : hvi B w kd wt sh col) {c : Nat} (c16 : c < 16) : Ho_topOf q (nI c) S = some (bkI (tp (col c)), S) := by
  by_cases hn : col c = []
  · have i1 := in_ok (n := c) (N := 16) c16 (by decide)
    have hH := h.2.2.2.1 c c16
    have h0 : hl_h col c = 0 := by unfold hl_h; rw [hn]; rfl
    rw [h0] at hH
    have hb : Ho_blockAt q (nI c) (nI 0 - 1) S = some (-1, S) := by
      have hn : ¬ (0 ≤ nI 0 - 1 ∧ nI 0 - 1 ≤ nI 0 - 1) := by decide +kernel
      simp only [Ho_blockAt, Ho_blockAt_31, ck_t, bI_s, zero_0, if_true, hq.2.2.2.1, i1, g_nI _ _ (show c < 2 ^ 31 by omega), hH, ic_within, if_neg hn]
    rw [Ho_topOf, i1, ck_t, hq.2.2.2.1, g_nI _ _ (show c < 2 ^ 31 by omega), hH, hb, bI_s, hn]
    rfl
  · obtain ⟨K, a, e⟩ := top_of hn
    rw [(ho_lift hq h hi c16 e).2.1, e, tp_s]
    rfl
theorem or_hd {S : iz_S} {n B w : Nat} {g lw up hr pr kd wt W : Nat → Nat} {sv sh : Nat → Bool} {col : Nat → List Nat} (ho : od S n g lw up hr pr sv) (hb : ob n g lw up hr pr) (hc : hvc S 13 B w kd wt sh col) (hi : hvi B w kd wt sh col) (hW : ∀ i, i < 100 → S.1 12 i = nI (W i) ∧ W i ≤ 40) {o : Nat} (on : o < n) {blk : Option Nat} (hbk : ∀ b, blk = some b → ∃ c, c < 16 ∧ b ∈ col c) :
    Or_hindrance 38 (nI o) (bkI blk) S = some (nI (hd_ (sv o) w (up o) kd wt (g o) (lw o) (hr o) (wk_w W w) blk), S) := by
  obtain ⟨n10, -, q⟩ := ho
  obtain ⟨a1, a2, a3, a4, a5, a6⟩ := q o on
  obtain ⟨b1, b2, b3, b4, b5, b6, b7⟩ := hb o on
  refine or_hind (by omega) a6 a3 b4 a1 b1 a2 b3 a4 b5 hc.2.1 hi.2.1 hW (fun b hbb => ?_)
  obtain ⟨c, c16, mb⟩ := hbk b hbb
  have bB := (hi.2.2.2.2.1 c b c16 mb).1
  have B60 := hi.1
  obtain ⟨k3, w12⟩ := hi.2.2.1 b bB
  have g := hc.2.2.1 b bB
  rw [w_in c16 mb] at g
  exact ⟨by omega, g.1, k3, g.2.1, w12⟩
theorem mo_hd {S : iz_S} {n B w : Nat} {g lw up hr pr kd wt W : Nat → Nat} {sv sh : Nat → Bool} {col : Nat → List Nat} (ho : om S n g lw up hr pr sv) (hb : ob n g lw up hr pr) (hm : hvm S B w kd wt sh col) (hi : hvi B w kd wt sh col) (hW : ∀ i, i < 100 → S.1 94 i = nI (W i) ∧ W i ≤ 40) {o c : Nat} (on : o < n) (c16 : c < 16) :
    Mo_whyNot 82 (nI o) (nI c) S = some (nI (hd_ (sv o) w (up o) kd wt (g o) (lw o) (hr o) (wk_w W w) (tp (col c))), S) := by
  obtain ⟨n10, -, q⟩ := ho
  obtain ⟨a1, a2, a3, a4, a5, a6⟩ := q o on
  obtain ⟨b1, b2, b3, b4, b5, b6, b7⟩ := hb o on
  have l6 : hl_h col c ≤ 6 := (hi.2.2.2.1 c c16).1
  refine mo_why (by omega) c16 a6 a3 b4 a1 b1 a2 b3 a4 b5 hm.2.1 hi.2.1 hW (hm.2.2.1.2.1 c c16) l6 (fun hn => ?_) (fun b hbb => ?_)
  · by_cases q : col c = []
    · unfold hl_h; rw [q]; rfl
    · obtain ⟨K, a, e⟩ := top_of q
      rw [e, tp_s] at hn
      cases hn
  · by_cases q : col c = []
    · rw [q, tp_n] at hbb
      cases hbb
    · obtain ⟨K, a, e⟩ := top_of q
      rw [e, tp_s] at hbb
      obtain rfl := Option.some.inj hbb
      have mb : a ∈ col c := by rw [e]; simp
      have hk : hl_h col c = K.length + 1 := by unfold hl_h; rw [e, List.length_append]; rfl
      have bB := (hi.2.2.2.2.1 c a c16 mb).1
      have B60 := hi.1
      obtain ⟨k3, w12⟩ := hi.2.2.1 a bB
      have g := hm.2.2.1.1 a bB
      rw [w_in c16 mb] at g
      refine ⟨by omega, ?_, by omega, g.1, k3, g.2.1, w12⟩
      rw [hm.2.2.1.2.2 c _ c16 (by omega), hk, Nat.add_sub_cancel]
      unfold hl_b
      rw [e, get_r (Nat.le_refl _), Nat.sub_self]
      rfl
theorem hd_le (sv : Bool) (w up : Nat) (kd wt : Nat → Nat) (g lw hr Wk : Nat) (blk : Option Nat) : hd_ sv w up kd wt g lw hr Wk blk ≤ 5 := by
  cases blk <;> (unfold hd_; repeat' split) <;> omega
theorem tp_mem {L : List Nat} {b : Nat} (h : tp L = some b) : b ∈ L := List.mem_of_getLast? h
theorem pc_why {S : iz_S} (h : rl S) (x y : Int32) : pc (Ic_why 0 x y) (Mo_why 82 x y) S := by
  obtain ⟨n, g, lw, up, hr, pr, sv, ho, hm, hb⟩ := ord_f h.2.2.2.1
  have n10 := ho.1
  have u14 : ∀ k v, (iz_up S 81 k v).1 82 14 = nI n := fun k v => by rw [up_p _ _ _ _ (by decide), hm.2.1]
  by_cases hx : ∃ i, i < n ∧ x = nI i
  · obtain ⟨o, on, rfl⟩ := hx
    have h1 := or_has_t ho.2.1 n10 on
    by_cases hy : 0 ≤ y ∧ y ≤ 15
    · obtain ⟨c, -, c15, rfl⟩ := nI_btw (a := 0) (b := 15) (by decide) hy.1 hy.2 (by decide)
      have c16 : c < 16 := by omega
      obtain ⟨B, w, kd, wt, sh, col, hc, hmm, hi, hw, hs, hl⟩ := house_l h.2.2.1
      obtain ⟨d, cv, W, s1, s2⟩ := shel_s h.2.1
      have t1 := ho_tp hq_13 hc hi c16
      have e1 := or_hd ho hb hc hi s1.2.2 on (blk := tp (col c)) (fun b hb => ⟨c, c16, tp_mem hb⟩)
      have e2 := mo_hd hm hb hmm hi s2.2.2 on c16
      refine pc_of (r := nI (hd_ (sv o) w (up o) kd wt (g o) (lw o) (hr o) (wk_w W w) (tp (col c)))) (S1 := S) (S2 := S) ?_ ?_ h
      · simp only [Ic_why, ic_isColumn, ck_t, lt_e, bI_s, bL_s, bV_s, one_n0, zero_0, if_true, if_false, rfs, h1, if_pos hy, t1, e1]
      · simp only [Mo_why, Mo_why_29, mo_isColumn, ck_t, lt_e, bI_s, bL_s, bV_s, one_n0, zero_0, if_true, if_false, rfs, mo_ord_t hm.2.1 n10 on, if_pos hy, e2]
    · refine pc_of (r := -1000001) (S1 := iz_up S 81 1 (S.1 81 1 + 1)) ?_ ?_ (rl_find (k := 1) h)
      · simp only [Ic_why, Ic_why_18, ic_isColumn, ck_t, lt_e, bI_s, bL_s, bV_s, one_n0, zero_0, if_true, if_false, rfs, h1, if_neg hy, ic_f1]
      · simp only [Mo_why, Mo_why_24, Mo_why_29, mo_isColumn, ck_t, lt_e, bI_s, bL_s, bV_s, one_n0, zero_0, if_true, if_false, rfs, mo_ord_t (u14 _ _) n10 on, if_neg hy, mo_f1]
  · refine pc_of (r := -1000001) (S1 := iz_up S 81 1 (S.1 81 1 + 1)) ?_ ?_ (rl_find (k := 1) h)
    · simp only [Ic_why, Ic_why_18, ck_t, lt_e, bI_s, bL_s, bV_s, one_n0, zero_0, if_true, if_false, rfs, or_has_f ho.2.1 n10 hx, ic_f1]
    · simp only [Mo_why, Mo_why_24, Mo_why_29, ck_t, lt_e, bI_s, bL_s, bV_s, one_n0, zero_0, if_true, if_false, rfs, mo_ord_f (u14 _ _) n10 hx, mo_f1]
