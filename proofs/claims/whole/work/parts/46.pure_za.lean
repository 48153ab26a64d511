/-! PURE: a block is taken out of a column -/
def shP (S : iz_S) (ps s e : Nat) : iz_S := (fun p i => if p = ps ∧ s ≤ i ∧ i < e then S.1 ps (i + 1) else S.1 p i, S.2)
theorem shP_0 {S : iz_S} {ps s e : Nat} (h : e ≤ s) : shP S ps s e = S := by
  unfold shP
  have : (fun p i => if p = ps ∧ s ≤ i ∧ i < e then S.1 ps (i + 1) else S.1 p i) = S.1 := by
    funext p i
    rw [if_neg (by omega)]
  rw [this]
theorem shP_p {S : iz_S} {ps s e p : Nat} (h : p ≠ ps) : (shP S ps s e).1 p = S.1 p := by
  funext i
  exact if_neg (fun q => h q.1)
theorem shP_in {S : iz_S} {ps s e i : Nat} (h : s ≤ i ∧ i < e) : (shP S ps s e).1 ps i = S.1 ps (i + 1) := if_pos ⟨rfl, h⟩
theorem shP_out {S : iz_S} {ps s e i : Nat} (h : ¬ (s ≤ i ∧ i < e)) : (shP S ps s e).1 ps i = S.1 ps i := if_neg (fun q => h q.2)
theorem shP_st {S : iz_S} {ps s e : Nat} (h : s < e) : shP (iz_up S ps s (S.1 ps (s + 1))) ps (s + 1) e = shP S ps s e := by
  unfold shP
  rw [up_L]
  congr 1
  funext p i
  by_cases e1 : p = ps
  · subst e1
    by_cases e2 : i = s
    · subst e2
      rw [if_neg (by omega), if_pos (by omega), up_same]
    · rw [up_ne _ _ _ _ (Or.inr e2)]
      by_cases e3 : s + 1 ≤ i ∧ i < e
      · rw [if_pos ⟨rfl, e3⟩, if_pos ⟨rfl, by omega⟩, up_ne _ _ _ _ (Or.inr (by omega))]
      · rw [if_neg (fun q => e3 q.2), if_neg (by omega)]
  · rw [if_neg (fun q => e1 q.1), if_neg (fun q => e1 q.1), up_p _ _ _ _ e1]
theorem ho_rm {q c H : Nat} (hq : hq_p q) (c16 : c < 16) (hH : H ≤ 6) : ∀ (j s n : Nat) (S : iz_S), S.1 (q + 4) c = nI H → s + j + 1 = 6 * c + H → 6 * c ≤ s → j < n → Ho_removeAt_10 q n (nI c) (nI (6 * c)) (nI s) S = some (iz_up (shP S (q + 5) s (s + j)) (q + 4) c (nI (H - 1))) := by
  intro j
  have i1 := in_ok (n := c) (N := 16) c16 (by decide)
  have gc := fun (T : iz_S) p => g_nI T p (show c < 2 ^ 31 by omega)
  have sc := fun (T : iz_S) p => s_nI T p (show c < 2 ^ 31 by omega)
  induction j with
  | zero =>
    intro s n S hS hs hs6 hn
    obtain ⟨m, rfl⟩ : ∃ m, n = m + 1 := ⟨n - 1, by omega⟩
    have e1 : nI (6 * c + H) - 1 = nI (6 * c + H - 1) := nI_m1 (by omega)
    have e2 : nI H - 1 = nI (H - 1) := nI_m1 (by omega)
    have lt : ¬ nI s < nI (6 * c + H - 1) := nI_nlt (by omega) (by omega)
    show Ho_removeAt_10b q (Ho_removeAt_10 q m) (nI c) (nI (6 * c)) (nI s) S = _
    simp only [Ho_removeAt_10b, ck_t, lt_e, i1, hq.2.2.2.1, gc, sc, hS, nI_add, e1, if_neg lt, e2, Nat.add_zero, shP_0 (Nat.le_refl s)]
  | succ j ih =>
    intro s n S hS hs hs6 hn
    obtain ⟨m, rfl⟩ : ∃ m, n = m + 1 := ⟨n - 1, by omega⟩
    have e1 : nI (6 * c + H) - 1 = nI (6 * c + H - 1) := nI_m1 (by omega)
    have lt : nI s < nI (6 * c + H - 1) := nI_lt (by omega) (by omega)
    have i2 := in_ok (n := s) (N := 96) (by omega) (by decide)
    have i3 := in_ok (n := s + 1) (N := 96) (by omega) (by decide)
    show Ho_removeAt_10b q (Ho_removeAt_10 q m) (nI c) (nI (6 * c)) (nI s) S = _
    simp only [Ho_removeAt_10b, ck_t, lt_e, i1, i2, i3, hq.2.2.2.1, hq.2.2.2.2.1, gc, hS, nI_add, e1, if_pos lt, nI_1, g_nI _ _ (show s + 1 < 2 ^ 31 by omega), s_nI _ _ (show s < 2 ^ 31 by omega)]
    rw [ih (s + 1) m _ (by rw [up_p _ _ _ _ (by omega)]; exact hS) (by omega) (by omega) (by omega), show s + 1 + j = s + (j + 1) by omega, shP_st (by omega)]
theorem nI_6 (c : Nat) : nI c * 6 = nI (6 * c) := by
  rw [show (6 : Int32) = nI 6 from rfl, pk_mul, Nat.mul_comm]
theorem nI_6' (c : Nat) : (6 : Int32) * nI c = nI (6 * c) := by
  rw [show (6 : Int32) = nI 6 from rfl, pk_mul]
theorem ho_remove {S : iz_S} {q c H l : Nat} (hq : hq_p q) (c16 : c < 16) (hH : H ≤ 6) (hS : S.1 (q + 4) c = nI H) (hl : l < H) : Ho_removeAt q (nI c) (nI l) S = some (iz_up (shP S (q + 5) (6 * c + l) (6 * c + H - 1)) (q + 4) c (nI (H - 1))) := by
  simp only [Ho_removeAt, lt_e, nI_6, nI_add]
  rw [ho_rm hq c16 hH (H - 1 - l) (6 * c + l) iz_FU S hS (by omega) (by omega) (by have := fu_ge; omega), show 6 * c + l + (H - 1 - l) = 6 * c + H - 1 by omega]
theorem ho_let {S : iz_S} {q a : Nat} (hq : hq_p q) (ha : a < 60) : Ho_letGo q (nI a) S = some (iz_up (iz_up S (q + 2) a 0) (q + 3) a 2) := by
  have i1 := in_ok (n := a) (N := 60) ha (by decide)
  simp only [Ho_letGo, ck_t, lt_e, i1, hq.2.1, hq.2.2.1, s_nI _ _ (show a < 2 ^ 31 by omega)]
theorem mo_rm {c H a : Nat} (c16 : c < 16) (hH : H ≤ 6) (ha : a < 60) : ∀ (j s n : Nat) (S : iz_S), S.1 91 c = nI (H - 1) → s + j + 1 = H → j < n → Mo_takeOut_20 82 n (nI c) (nI a) (nI s) S = some (iz_up (shP S 90 (6 * c + s) (6 * c + s + j)) 89 a (-1)) := by
  intro j
  have i1 := in_ok (n := c) (N := 16) c16 (by decide)
  have ia := in_ok (n := a) (N := 60) ha (by decide)
  have gc := fun (T : iz_S) p => g_nI T p (show c < 2 ^ 31 by omega)
  induction j with
  | zero =>
    intro s n S hS hs hn
    obtain ⟨m, rfl⟩ : ∃ m, n = m + 1 := ⟨n - 1, by omega⟩
    have lt : ¬ nI s < nI (H - 1) := nI_nlt (by omega) (by omega)
    show Mo_takeOut_20b 82 (Mo_takeOut_20 82 m) (nI c) (nI a) (nI s) S = _
    simp only [Mo_takeOut_20b, ck_t, lt_e, bI_s, bL_s, bV_s, one_n0, zero_0, if_true, if_false, rfs, i1, ia, gc, hS, if_neg lt, s_nI _ _ (show a < 2 ^ 31 by omega), Nat.add_zero, shP_0 (Nat.le_refl (6 * c + s))]
  | succ j ih =>
    intro s n S hS hs hn
    obtain ⟨m, rfl⟩ : ∃ m, n = m + 1 := ⟨n - 1, by omega⟩
    have lt : nI s < nI (H - 1) := nI_lt (by omega) (by omega)
    have i2 := in_ok (n := 6 * c + s) (N := 96) (by omega) (by decide)
    have i3 := in_ok (n := 6 * c + s + 1) (N := 96) (by omega) (by decide)
    show Mo_takeOut_20b 82 (Mo_takeOut_20 82 m) (nI c) (nI a) (nI s) S = _
    simp only [Mo_takeOut_20b, ck_t, lt_e, bI_s, bL_s, bV_s, one_n0, zero_0, if_true, if_false, rfs, i1, gc, hS, if_pos lt, nI_6', nI_add, nI_1, i2, i3, g_nI _ _ (show 6 * c + s + 1 < 2 ^ 31 by omega), s_nI _ _ (show 6 * c + s < 2 ^ 31 by omega)]
    rw [ih (s + 1) m _ (by rw [up_p _ _ _ _ (by decide)]; exact hS) (by omega) (by omega), show 6 * c + (s + 1) = 6 * c + s + 1 by omega, show 6 * c + s + 1 + j = 6 * c + s + (j + 1) by omega, shP_st (by omega)]
theorem mo_take {S : iz_S} {c H l a : Nat} (c16 : c < 16) (hH : H ≤ 6) (ha : a < 60) (hS : S.1 91 c = nI H) (hl : l < H) (hb : S.1 90 (6 * c + l) = nI a) : Mo_takeOut 82 (nI c) (nI l) S = some (iz_up (shP (iz_up S 91 c (nI (H - 1))) 90 (6 * c + l) (6 * c + H - 1)) 89 a (-1)) := by
  have i1 := in_ok (n := c) (N := 16) c16 (by decide)
  have e1 := mo_at (S := S) c16 (show l < 6 by omega)
  rw [hb] at e1
  have e2 : nI H - 1 = nI (H - 1) := nI_m1 (by omega)
  simp only [Mo_takeOut, ck_t, lt_e, bI_s, bL_s, bV_s, one_n0, zero_0, if_true, if_false, rfs, e1, i1, g_nI _ _ (show c < 2 ^ 31 by omega), s_nI _ _ (show c < 2 ^ 31 by omega), hS, e2]
  rw [mo_rm c16 hH ha (H - 1 - l) l iz_FU _ (up_same _ _ _ _) (by omega) (by have := fu_ge; omega), show 6 * c + l + (H - 1 - l) = 6 * c + H - 1 by omega]
theorem mo_goes {S : iz_S} {c H l a : Nat} (c16 : c < 16) (hH : H ≤ 6) (ha : a < 60) (hS : S.1 91 c = nI H) (hl : l < H) (hb : S.1 90 (6 * c + l) = nI a) : Mo_goes 82 (nI c) (nI l) S = some (iz_up (iz_up (iz_up (shP (iz_up S 91 c (nI (H - 1))) 90 (6 * c + l) (6 * c + H - 1)) 89 a (-1)) 88 a 2) 87 a 0) := by
  have ia := in_ok (n := a) (N := 60) ha (by decide)
  have e1 := mo_at (S := S) c16 (show l < 6 by omega)
  rw [hb] at e1
  simp only [Mo_goes, ck_t, lt_e, bI_s, bL_s, bV_s, one_n0, zero_0, if_true, if_false, rfs, e1, mo_take c16 hH ha hS hl hb, ia, s_nI _ _ (show a < 2 ^ 31 by omega)]
/-- the frame of what happens in a house -/
def fhc (q : Nat) (p i : Nat) : Bool := (p == q && (i == 5 || i == 7 || i == 8)) || p == q + 2 || p == q + 3 || p == q + 4 || p == q + 5
def fhm (p i : Nat) : Bool := (p == 82 && i == 13) || p == 87 || p == 88 || p == 89 || p == 90 || p == 91 || (p == 104 && (i == 1 || i == 2)) || p == 113
/-- class: the block a behind K goes -/
theorem hvc_out {S : iz_S} {q B w : Nat} {kd wt : Nat → Nat} {sh : Nat → Bool} {col : Nat → List Nat} (hq : hq_p q) (h : hvc S q B w kd wt sh col) (hi : hvi B w kd wt sh col) {c a : Nat} {K R : List Nat} (c16 : c < 16) (e : col c = K ++ a :: R) :
    ∃ S1 S2, Ho_removeAt q (nI c) (nI K.length) S = some S1 ∧ Ho_letGo q (nI a) S1 = some S2 ∧ hvc S2 q B w kd wt sh (hl_r col c (K ++ R)) ∧ fr (fun p i => (p == q + 4 && i == c) || p == q + 5) S S1 ∧ fr (fun p i => (p == q + 2 && i == a) || (p == q + 3 && i == a)) S1 S2 := by
  have hl6 := (hi.2.2.2.1 c c16).1
  have eh : hl_h col c = K.length + R.length + 1 := by unfold hl_h; rw [e, List.length_append, List.length_cons]; omega
  have ha := (hi.2.2.2.2.1 c a c16 (by rw [e]; simp)).1
  have hB := hi.1
  have hH := h.2.2.2.1 c c16
  rw [eh] at hH
  have l6 : K.length + R.length + 1 ≤ 6 := by rw [← eh]; exact hl6
  have e1 := ho_remove (S := S) hq c16 l6 hH (l := K.length) (by omega)
  rw [show K.length + R.length + 1 - 1 = K.length + R.length by omega, show 6 * c + (K.length + R.length + 1) - 1 = 6 * c + K.length + R.length by omega] at e1
  refine ⟨_, _, e1, ho_let hq (by omega), ?_, ?_, ?_⟩
  · refine ⟨?_, ?_, hvg_out h.2.2 hi c16 e ?_ ?_ ?_ ?_ ?_ ?_ ?_ ?_ ?_⟩
    · rw [up_p _ _ _ _ (by omega), up_p _ _ _ _ (by omega), up_p _ _ _ _ (by omega), shP_p (by omega)]; exact h.1
    · rw [up_p _ _ _ _ (by omega), up_p _ _ _ _ (by omega), up_p _ _ _ _ (by omega), shP_p (by omega)]; exact h.2.1
    · rw [up_p _ _ _ _ (by omega), up_p _ _ _ _ (by omega), up_p _ _ _ _ (by omega), shP_p (by omega)]
    · intro i hia
      rw [up_p _ _ _ _ (by omega), up_ne _ _ _ _ (Or.inr hia), up_p _ _ _ _ (by omega), shP_p (by omega)]
    · rw [up_p _ _ _ _ (by omega), up_same]
    · intro i hia
      rw [up_ne _ _ _ _ (Or.inr hia), up_p _ _ _ _ (by omega), up_p _ _ _ _ (by omega), shP_p (by omega)]
    · rw [up_same]
    · intro i hic
      rw [up_p _ _ _ _ (by omega), up_p _ _ _ _ (by omega), up_ne _ _ _ _ (Or.inr hic), shP_p (by omega)]
    · rw [up_p _ _ _ _ (by omega), up_p _ _ _ _ (by omega), up_same]
    · intro i hn
      rw [up_p _ _ _ _ (by omega), up_p _ _ _ _ (by omega), up_p _ _ _ _ (by omega), shP_out hn]
    · intro i hn
      rw [up_p _ _ _ _ (by omega), up_p _ _ _ _ (by omega), up_p _ _ _ _ (by omega), shP_in hn]
  · intro p i hp
    simp only [Bool.or_eq_false_iff, Bool.and_eq_false_iff, beq_eq_false_iff_ne] at hp
    rw [up_ne _ _ _ _ hp.1, shP_p hp.2]
  · intro p i hp
    simp only [Bool.or_eq_false_iff, Bool.and_eq_false_iff, beq_eq_false_iff_ne] at hp
    rw [up_ne _ _ _ _ hp.2, up_ne _ _ _ _ hp.1]
/-- reference: the block a behind K goes -/
theorem hvm_out {S : iz_S} {B w : Nat} {kd wt : Nat → Nat} {sh : Nat → Bool} {col : Nat → List Nat} (h : hvm S B w kd wt sh col) (hi : hvi B w kd wt sh col) {c a : Nat} {K R : List Nat} (c16 : c < 16) (e : col c = K ++ a :: R) :
    ∃ S2, Mo_goes 82 (nI c) (nI K.length) S = some S2 ∧ hvm S2 B w kd wt sh (hl_r col c (K ++ R)) ∧ fr (fun p _ => p == 87 || p == 88 || p == 89 || p == 90 || p == 91) S S2 := by
  have hl6 := (hi.2.2.2.1 c c16).1
  have eh : hl_h col c = K.length + R.length + 1 := by unfold hl_h; rw [e, List.length_append, List.length_cons]; omega
  have ha := (hi.2.2.2.2.1 c a c16 (by rw [e]; simp)).1
  have hB := hi.1
  have hH := h.2.2.1.2.1 c c16
  rw [eh] at hH
  have l6 : K.length + R.length + 1 ≤ 6 := by rw [← eh]; exact hl6
  have hb : S.1 90 (6 * c + K.length) = nI a := by
    rw [h.2.2.1.2.2 c K.length c16 (by omega)]
    unfold hl_b
    rw [e, get_r (Nat.le_refl _), Nat.sub_self]
    rfl
  have e1 := mo_goes (S := S) c16 l6 (by omega) hH (l := K.length) (by omega) hb
  rw [show K.length + R.length + 1 - 1 = K.length + R.length by omega, show 6 * c + (K.length + R.length + 1) - 1 = 6 * c + K.length + R.length by omega] at e1
  refine ⟨_, e1, ?_, ?_⟩
  · refine ⟨?_, ?_, hvg_out h.2.2.1 hi c16 e ?_ ?_ ?_ ?_ ?_ ?_ ?_ ?_ ?_, fun k i hk hm => ?_, fun i hiB hn => ?_⟩
    · rw [up_p _ _ _ _ (by decide), up_p _ _ _ _ (by decide), up_p _ _ _ _ (by decide), shP_p (by decide), up_p _ _ _ _ (by decide)]; exact h.1
    · rw [up_p _ _ _ _ (by decide), up_p _ _ _ _ (by decide), up_p _ _ _ _ (by decide), shP_p (by decide), up_p _ _ _ _ (by decide)]; exact h.2.1
    · rw [up_p _ _ _ _ (by decide), up_p _ _ _ _ (by decide), up_p _ _ _ _ (by decide), shP_p (by decide), up_p _ _ _ _ (by decide)]
    · intro i hia
      rw [up_ne _ _ _ _ (Or.inr hia), up_p _ _ _ _ (by decide), up_p _ _ _ _ (by decide), shP_p (by decide), up_p _ _ _ _ (by decide)]
    · rw [up_same]
    · intro i hia
      rw [up_p _ _ _ _ (by decide), up_ne _ _ _ _ (Or.inr hia), up_p _ _ _ _ (by decide), shP_p (by decide), up_p _ _ _ _ (by decide)]
    · rw [up_p _ _ _ _ (by decide), up_same]
    · intro i hic
      rw [up_p _ _ _ _ (by decide), up_p _ _ _ _ (by decide), up_p _ _ _ _ (by decide), shP_p (by decide), up_ne _ _ _ _ (Or.inr hic)]
    · rw [up_p _ _ _ _ (by decide), up_p _ _ _ _ (by decide), up_p _ _ _ _ (by decide), shP_p (by decide), up_same]
    · intro i hn
      rw [up_p _ _ _ _ (by decide), up_p _ _ _ _ (by decide), up_p _ _ _ _ (by decide), shP_out hn, up_p _ _ _ _ (by decide)]
    · intro i hn
      rw [up_p _ _ _ _ (by decide), up_p _ _ _ _ (by decide), up_p _ _ _ _ (by decide), shP_in hn, up_p _ _ _ _ (by decide)]
    · have hne : i ≠ a := fun q => by
        subst q
        have := in_gone c16 e (hi.2.2.2.1 c c16).2 hi.2.2.2.2.2
        rw [in_iff.mpr ⟨k, hk, hm⟩] at this
        cases this
      rw [up_p _ _ _ _ (by decide), up_p _ _ _ _ (by decide), up_ne _ _ _ _ (Or.inr hne), shP_p (by decide), up_p _ _ _ _ (by decide)]
      by_cases ek : k = c
      · subst ek
        rw [r_same] at hm
        exact h.2.2.2.1 k i hk (by rw [e]; exact mem_mid hm)
      · rw [r_ne ek] at hm
        exact h.2.2.2.1 k i hk hm
    · by_cases ea : i = a
      · subst ea
        rw [up_p _ _ _ _ (by decide), up_p _ _ _ _ (by decide), up_same]
      · rw [up_p _ _ _ _ (by decide), up_p _ _ _ _ (by decide), up_ne _ _ _ _ (Or.inr ea), shP_p (by decide), up_p _ _ _ _ (by decide)]
        rw [in_out c16 e ea] at hn
        exact h.2.2.2.2 i hiB hn
  · intro p i hp
    simp only [Bool.or_eq_false_iff, beq_eq_false_iff_ne] at hp
    obtain ⟨⟨⟨⟨p1, p2⟩, p3⟩, p4⟩, p5⟩ := hp
    rw [up_p _ _ _ _ p1, up_p _ _ _ _ p2, up_p _ _ _ _ p3, shP_p p4, up_p _ _ _ _ p5]
