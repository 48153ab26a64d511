/-! PURE: shelves break -/
theorem ls_list (f : Nat → Nat) (L : List Nat) : ∀ (j s : Nat), s + j = L.length → hs_ls (fun k => f ((L[k]?).getD 0)) L.length s = hl_sm f (L.drop s)
  | 0, s, h => by
    rw [ls_0 _ _ _ (by omega), List.drop_eq_nil_of_le (by omega)]
    rfl
  | j + 1, s, h => by
    rw [ls_s _ _ _ (by omega), ls_list f L j (s + 1) (by omega), List.drop_eq_getElem_cons (i := s) (l := L) (by omega), hl_sm, List.getElem?_eq_getElem (i := s) (by omega)]
    rfl
theorem sm_le {wt : Nat → Nat} {M : Nat} : ∀ {L : List Nat}, (∀ i, i ∈ L → wt i ≤ M) → hl_sm wt L ≤ M * L.length
  | [], _ => Nat.zero_le _
  | a :: R, h => by
    have h1 := h a List.mem_cons_self
    have h2 := sm_le (L := R) (fun i hi => h i (List.mem_cons_of_mem a hi))
    rw [hl_sm, List.length_cons, Nat.mul_succ]
    omega
theorem sm_col {B w : Nat} {kd wt : Nat → Nat} {sh : Nat → Bool} {col : Nat → List Nat} (hi : hvi B w kd wt sh col) {c : Nat} (c16 : c < 16) {L : List Nat} (h : ∀ i, i ∈ L → i ∈ col c) (h6 : L.length ≤ 6) : hl_sm wt L ≤ 7200 := by
  have := sm_le (wt := wt) (M := 1200) (L := L) (fun i q => (hi.2.2.1 i (hi.2.2.2.2.1 c i c16 (h i q)).1).2)
  have h3 : 1200 * L.length ≤ 1200 * 6 := Nat.mul_le_mul_left 1200 h6
  omega
/-- what breaks of a column -/
def hl_bs (kd wt : Nat → Nat) : List Nat → Nat
  | [] => 0
  | a :: R => if kd a = 3 ∧ 2 * wt a < hl_sm wt R then wt a + hl_bs kd wt R else hl_bs kd wt R
theorem drop_mid {K R : List Nat} {a : Nat} : (K ++ a :: R).drop (K.length + 1) = R := by
  rw [List.drop_append, List.drop_eq_nil_of_le (by omega), show K.length + 1 - K.length = 1 by omega]
  rfl
theorem hl_load {B w : Nat} {kd wt : Nat → Nat} {sh : Nat → Bool} {col : Nat → List Nat} {c a : Nat} {K R : List Nat} (c16 : c < 16) (e : col c = K ++ a :: R) : hs_ls (fun k => hl_w sh col wt (hl_b col c k)) (hl_h col c) (K.length + 1) = hl_sm wt R := by
  have h1 := ls_list (hl_w sh col wt) (col c) R.length (K.length + 1) (by rw [e, List.length_append, List.length_cons]; omega)
  have h2 : hs_ls (fun k => hl_w sh col wt (hl_b col c k)) (hl_h col c) (K.length + 1) = hl_sm (hl_w sh col wt) ((col c).drop (K.length + 1)) := h1
  rw [h2, e, drop_mid]
  exact sm_cong (fun i hi => w_in c16 (by rw [e]; simp [hi]))
theorem ho_breaks {S : iz_S} {q B w : Nat} {kd wt : Nat → Nat} {sh : Nat → Bool} {col : Nat → List Nat} (hq : hq_p q) (h : hvc S q B w kd wt sh col) (hi : hvi B w kd wt sh col) {c a : Nat} {K R : List Nat} (c16 : c < 16) (e : col c = K ++ a :: R) :
    Ho_blockAt q (nI c) (nI K.length) S = some (nI a, S) ∧ S.1 (q + 2) a = nI (wt a) ∧ Ho_breaksAt q (nI c) (nI K.length) S = some (if kd a = 3 ∧ 2 * wt a < hl_sm wt R then 1 else 0, S) := by
  have hl6 := (hi.2.2.2.1 c c16).1
  have eh : hl_h col c = K.length + R.length + 1 := by unfold hl_h; rw [e, List.length_append, List.length_cons]; omega
  have l6 : hl_h col c ≤ 6 := hl6
  have ma : a ∈ col c := by rw [e]; simp
  have ha := (hi.2.2.2.2.1 c a c16 ma).1
  have hB := hi.1
  obtain ⟨k3, w12⟩ := hi.2.2.1 a ha
  have b1 := hq_at hq c16 (h.2.2.2.1 c c16) l6 (l := K.length) (by omega)
  rw [h.2.2.2.2 c K.length c16 (by omega), show hl_b col c K.length = a by unfold hl_b; rw [e, get_r (Nat.le_refl _), Nat.sub_self]; rfl] at b1
  obtain ⟨g1, g2, g3⟩ := h.2.2.1 a ha
  rw [w_in c16 ma] at g2
  refine ⟨b1, g2, ?_⟩
  have fu := fu_ge
  have ld := ho_load hq (hvc_c h) (hvi_i hi) c16 R.length (K.length + 1) iz_FU 0 (by omega) (by omega)
  rw [hl_load (B := B) (w := w) (kd := kd) c16 e, nI_0, Nat.zero_add] at ld
  have sm := sm_col hi c16 (L := R) (fun i q => by rw [e]; simp [q]) (by omega)
  have i1 := in_ok (n := a) (N := 60) (by omega) (by decide)
  have k3' : (nI (kd a) = 3) = (kd a = 3) := propext (nI_eq (b := 3) (by omega) (by decide))
  have e2 : (2 : Int32) * nI (wt a) = nI (2 * wt a) := pk_mul 2 (wt a)
  have le : (nI (hl_sm wt R) ≤ nI (2 * wt a)) = (hl_sm wt R ≤ 2 * wt a) := nI_leP (by omega) (by omega)
  simp only [Ho_breaksAt, Ho_breaksAt_38, Ho_breaksAt_39, Ho_loadOver, b1, bI_s, ck_t, lt_e, i1, hq.1, hq.2.1, g_nI _ _ (show a < 2 ^ 31 by omega), g1, g2, k3', nI_1, ld, e2, le, nb_0, nb_1, decide_true]
  by_cases q1 : kd a = 3
  · rw [if_pos q1]
    by_cases q2 : hl_sm wt R ≤ 2 * wt a
    · rw [if_pos q2, if_neg (by omega)]
    · rw [if_neg q2, if_pos (by omega)]
  · rw [if_neg q1, if_neg (by omega)]
def fhb (q : Nat) (p i : Nat) : Bool := (p == q && i == 8) || p == q + 2 || p == q + 3 || p == q + 4 || p == q + 5
theorem brk_end {S : iz_S} {q c H : Nat} (hq : hq_p q) (c16 : c < 16) (hH : S.1 (q + 4) c = nI H) (h6 : H ≤ 6) : ∀ (j x2 x3 n : Nat), x3 + j = 6 → H ≤ x2 → x2 + j < 1000 → j < n → Ho_breakShelves_4 q n (nI c) (nI x2) (nI x3) S = some S := by
  intro j
  induction j with
  | zero =>
    intro x2 x3 n hj hx hx2 hn
    obtain ⟨m, rfl⟩ : ∃ m, n = m + 1 := ⟨n - 1, by omega⟩
    have lt : ¬ nI x3 < 6 := nI_nlt (b := 6) (by omega) (by omega)
    show Ho_breakShelves_4b q (Ho_breakShelves_4 q m) (nI c) (nI x2) (nI x3) S = _
    simp only [Ho_breakShelves_4b, if_neg lt]
  | succ j ih =>
    intro x2 x3 n hj hx hx2 hn
    obtain ⟨m, rfl⟩ : ∃ m, n = m + 1 := ⟨n - 1, by omega⟩
    have lt : nI x3 < 6 := nI_lt (b := 6) (by omega) (by omega)
    have b1 := hq_at_f hq c16 hH h6 (l := x2) (by omega) (by omega)
    have n1 : (-1 : Int32) < 0 := by decide +kernel
    show Ho_breakShelves_4b q (Ho_breakShelves_4 q m) (nI c) (nI x2) (nI x3) S = _
    simp only [Ho_breakShelves_4b, Ho_breakShelves_63, Ho_breakShelves_66, if_pos lt, b1, bI_s, if_pos n1, nI_1]
    exact ih (x2 + 1) (x3 + 1) m (by omega) (by omega) (by omega) (by omega)
theorem hvc_st {S T : iz_S} {q B w : Nat} {kd wt : Nat → Nat} {sh : Nat → Bool} {col : Nat → List Nat} (h : hvc S q B w kd wt sh col) (hi : hvi B w kd wt sh col) {ch : Nat → Nat → Bool} (hf : fr ch S T) (h0 : ch q 0 = false) (h5 : ch q 5 = false) (hc : ∀ i, ch (q + 1) i = false ∧ ch (q + 2) i = false ∧ ch (q + 3) i = false ∧ ch (q + 4) i = false ∧ ch (q + 5) i = false) : hvc T q B w kd wt sh col :=
  ⟨(hf _ _ h0).trans h.1, (hf _ _ h5).trans h.2.1, hvg_st h.2.2 (fun i _ => hf _ _ (hc i).1) (fun i _ => hf _ _ (hc i).2.1) (fun i _ => hf _ _ (hc i).2.2.1) (fun i _ => hf _ _ (hc i).2.2.2.1) (fun i _ => hf _ _ (hc i).2.2.2.2) (fun c hc => (hi.2.2.2.1 c hc).1)⟩
theorem hvm_st {S T : iz_S} {B w : Nat} {kd wt : Nat → Nat} {sh : Nat → Bool} {col : Nat → List Nat} (h : hvm S B w kd wt sh col) (hi : hvi B w kd wt sh col) {ch : Nat → Nat → Bool} (hf : fr ch S T) (h0 : ch 82 3 = false) (h5 : ch 82 13 = false) (hc : ∀ i, ch 86 i = false ∧ ch 87 i = false ∧ ch 88 i = false ∧ ch 91 i = false ∧ ch 90 i = false ∧ ch 89 i = false) : hvm T B w kd wt sh col :=
  ⟨(hf _ _ h0).trans h.1, (hf _ _ h5).trans h.2.1, hvg_st h.2.2.1 (fun i _ => hf _ _ (hc i).1) (fun i _ => hf _ _ (hc i).2.1) (fun i _ => hf _ _ (hc i).2.2.1) (fun i _ => hf _ _ (hc i).2.2.2.1) (fun i _ => hf _ _ (hc i).2.2.2.2.1) (fun c hc => (hi.2.2.2.1 c hc).1),
    fun c i q1 q2 => (hf _ _ (hc i).2.2.2.2.2).trans (h.2.2.2.1 c i q1 q2), fun i q1 q2 => (hf _ _ (hc i).2.2.2.2.2).trans (h.2.2.2.2 i q1 q2)⟩
theorem fr_1 {S : iz_S} {p i : Nat} {v : Int32} : fr (fun p2 i2 => p2 == p && i2 == i) S (iz_up S p i v) := fun p2 i2 h => up_ne _ _ _ _ (by
  simp only [Bool.and_eq_false_iff, beq_eq_false_iff_ne] at h
  exact h)
theorem sub_mid {K R : List Nat} {a : Nat} : (K ++ R).Sublist (K ++ a :: R) := List.Sublist.append_left (List.sublist_cons_self a R) K
theorem hvi_out {B w : Nat} {kd wt : Nat → Nat} {sh : Nat → Bool} {col : Nat → List Nat} (hi : hvi B w kd wt sh col) {c : Nat} {L : List Nat} (hs : L.Sublist (col c)) : hvi B w kd wt sh (hl_r col c L) :=
  hvi_sub hi (fun k hk => by
    by_cases ek : k = c
    · subst ek; rw [r_same]; exact hs
    · rw [r_ne ek]; exact List.Sublist.refl _) (fun _ => Nat.le_refl _) hi.2.1
theorem ho_brk {q B w : Nat} {kd wt : Nat → Nat} {sh : Nat → Bool} (hq : hq_p q) {c : Nat} (c16 : c < 16) : ∀ (j x3 : Nat) (K R : List Nat) (n : Nat) (S : iz_S) (col : Nat → List Nat), x3 + j = 6 → R.length ≤ j → j < n → hvc S q B w kd wt sh col → hvi B w kd wt sh col → col c = K ++ R →
    ∃ S2, Ho_breakShelves_4 q n (nI c) (nI K.length) (nI x3) S = some S2 ∧ hvc S2 q B w kd wt sh (hl_r col c (K ++ hl_bk kd wt R)) ∧ S2.1 q 8 = S.1 q 8 + nI (hl_bs kd wt R) ∧ fr (fhb q) S S2 := by
  intro j
  induction j with
  | zero =>
    intro x3 K R n S col hj hR hn h hi e
    obtain rfl : R = [] := List.length_eq_zero_iff.mp (by omega)
    rw [List.append_nil] at e
    have hl6 := (hi.2.2.2.1 c c16).1
    have e0 := brk_end hq c16 (h.2.2.2.1 c c16) hl6 0 K.length x3 n (by omega) (by unfold hl_h; rw [e]; exact Nat.le_refl _) (by rw [e] at hl6; omega) (by omega)
    refine ⟨S, e0, ?_, by rw [hl_bs, nI_0, Int32.add_zero], fr_rf _ _⟩
    rw [hl_bk, List.append_nil, r_id e]
    exact h
  | succ j ih =>
    intro x3 K R n S col hj hR hn h hi e
    obtain ⟨m, rfl⟩ : ∃ m, n = m + 1 := ⟨n - 1, by omega⟩
    cases R with
    | nil =>
      rw [List.append_nil] at e
      have hl6 := (hi.2.2.2.1 c c16).1
      have e0 := brk_end hq c16 (h.2.2.2.1 c c16) hl6 (j + 1) K.length x3 (m + 1) (by omega) (by unfold hl_h; rw [e]; exact Nat.le_refl _) (by rw [e] at hl6; omega) (by omega)
      refine ⟨S, e0, ?_, by rw [hl_bs, nI_0, Int32.add_zero], fr_rf _ _⟩
      rw [hl_bk, List.append_nil, r_id e]
      exact h
    | cons a R =>
      rw [List.length_cons] at hR
      obtain ⟨b1, b2, b3⟩ := ho_breaks hq h hi c16 e
      have ha := (hi.2.2.2.2.1 c a c16 (by rw [e]; simp)).1
      have hB := hi.1
      have na : ¬ nI a < 0 := nI_pos (by omega)
      have lt : nI x3 < 6 := nI_lt (b := 6) (by omega) (by omega)
      have i1 := in_ok (n := a) (N := 60) (by omega) (by decide)
      by_cases hb : kd a = 3 ∧ 2 * wt a < hl_sm wt R
      · rw [if_pos hb] at b3
        obtain ⟨S5, h5⟩ : ∃ S5, S5 = iz_up S q 8 (S.1 q 8 + nI (wt a)) := ⟨_, rfl⟩
        have f5 : fr (fun p2 i2 => p2 == q && i2 == 8) S S5 := by rw [h5]; exact fr_1
        have v5 : hvc S5 q B w kd wt sh col := hvc_st h hi f5 (by simp) (by simp) (fun i => by simp)
        obtain ⟨S6, S7, r1, r2, r3, r4, r5⟩ := hvc_out hq v5 hi c16 e
        obtain ⟨S8, t1, t2, t3, t4⟩ := ih (x3 + 1) K R m S7 (hl_r col c (K ++ R)) (by omega) (by omega) (by omega) r3 (hvi_out hi (by rw [e]; exact sub_mid)) (r_same _ _ _)
        rw [r_r] at t2
        refine ⟨S8, ?_, ?_, ?_, ?_⟩
        · show Ho_breakShelves_4b q (Ho_breakShelves_4 q m) (nI c) (nI K.length) (nI x3) S = _
          simp only [Ho_breakShelves_4b, Ho_breakShelves_66, if_pos lt, b1, bI_s, bV_s, if_neg na, b3, one_n0, if_false, ck_t, lt_e, i1, hq.2.1, g_nI _ _ (show a < 2 ^ 31 by omega), b2, ← h5, r1, r2, nI_1, t1]
        · rw [hl_bk, if_pos hb]; exact t2
        · rw [t3, r5 q 8 (by simp), r4 q 8 (by simp), h5, up_same, hl_bs, if_pos hb, ← nI_add, Int32.add_assoc]
        · refine fr_tr (fr_tr (fr_tr (fr_mono f5 ?_) (fr_mono r4 ?_)) (fr_mono r5 ?_)) t4 <;>
          · intro p i hp
            simp only [fhb, Bool.or_eq_true, Bool.and_eq_true, beq_iff_eq] at hp ⊢
            omega
      · rw [if_neg hb] at b3
        obtain ⟨S8, t1, t2, t3, t4⟩ := ih (x3 + 1) (K ++ [a]) R m S col (by omega) (by omega) (by omega) h hi (by rw [e, List.append_assoc]; rfl)
        rw [List.length_append, List.length_cons, List.length_nil] at t1
        refine ⟨S8, ?_, ?_, ?_, t4⟩
        · show Ho_breakShelves_4b q (Ho_breakShelves_4 q m) (nI c) (nI K.length) (nI x3) S = _
          simp only [Ho_breakShelves_4b, Ho_breakShelves_63, Ho_breakShelves_66, if_pos lt, b1, bI_s, if_neg na, b3, if_true, nI_1, t1]
        · rw [hl_bk, if_neg hb]
          rw [List.append_assoc] at t2
          exact t2
        · rw [t3, hl_bs, if_neg hb]
theorem ho_break {S : iz_S} {q B w : Nat} {kd wt : Nat → Nat} {sh : Nat → Bool} {col : Nat → List Nat} (hq : hq_p q) {c : Nat} (c16 : c < 16) (h : hvc S q B w kd wt sh col) (hi : hvi B w kd wt sh col) :
    ∃ S2, Ho_breakShelves q (nI c) S = some S2 ∧ hvc S2 q B w kd wt sh (hl_r col c (hl_bk kd wt (col c))) ∧ S2.1 q 8 = S.1 q 8 + nI (hl_bs kd wt (col c)) ∧ fr (fhb q) S S2 :=
  ho_brk hq c16 6 0 [] (col c) iz_FU S col (by omega) (hi.2.2.2.1 c c16).1 (by have := fu_ge; omega) h hi rfl
