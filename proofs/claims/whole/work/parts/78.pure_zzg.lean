/-! PURE: season: longest rows of squares -/
theorem b_sh : ∀ u, u < 64 → ∀ i, i < 6 → decide ((nI u >>> (nI i &&& 31)) &&& 1 = 0) = !u.testBit i := by decide +kernel
theorem b_or : ∀ u, u < 64 → ∀ i, i < 6 → nI u ||| ((1 : Int32) <<< (nI i &&& 31)) = nI (u ||| 2 ^ i) := by decide +kernel
theorem b_top : ∀ n, n < 7 → ((1 : Int32) <<< (nI n &&& 31)) - 1 = nI (2 ^ n) - 1 := by decide +kernel
theorem b_gt : ∀ u, u < 64 → ∀ i, i < 6 → u.testBit i = false → u < u ||| 2 ^ i := by decide +kernel
theorem b_pow : ∀ n, n < 7 → 2 ^ n ≤ 64 := by decide
theorem b_in {n u i : Nat} (hu : u < 2 ^ n) (hi : i < n) : u ||| 2 ^ i < 2 ^ n := Nat.or_lt_two_pow hu (Nat.pow_lt_pow_right (by decide) hi)
theorem b_if {u i : Nat} (hu : u < 64) (hi : i < 6) {α : Type} (a b : α) : (if (nI u >>> (nI i &&& 31)) &&& 1 = 0 then a else b) = if u.testBit i = true then b else a := by
  have h := b_sh u hu i hi
  cases e : u.testBit i with
  | true =>
    rw [e] at h
    rw [if_neg (of_decide_eq_false h), if_pos rfl]
  | false =>
    rw [e] at h
    rw [if_pos (of_decide_eq_true h), if_neg (by decide)]
/-- the cells that a set of squares opens -/
def opu (sq : Nat → Nat) : Nat → Nat → Nat → Bool
  | 0, _, _ => false
  | n + 1, u, c => opu sq n u c || (u.testBit n && io c (sq n))
def fu_ (f : Nat → Int32) (sq : Nat → Nat) (n u : Nat) (c : Nat) : Int32 := if opu sq n u c = true then 0 else f c
noncomputable def dC (P : Prop) : Bool := @decide P (Classical.propDecidable P)
theorem dC_t {P : Prop} (h : P) : dC P = true := @decide_eq_true P (Classical.propDecidable P) h
theorem dC_f {P : Prop} (h : ¬ P) : dC P = false := @decide_eq_false P (Classical.propDecidable P) h
/-- whether square i may be cut behind the set u -/
noncomputable def mbf (f : Nat → Int32) (sq : Nat → Nat) (n u i : Nat) : Bool := !u.testBit i && dC (brv (th8 (fu_ f sq n u)) (hb1 (fu_ f sq n u)) (sq i) 0)
/-- the plan's own facts -/
def SP (T : iz_S) (n : Nat) (sq : Nat → Nat) (f : Nat → Int32) : Prop := T.1 5 3 = nI n ∧ n ≤ 6 ∧ (∀ i, i < n → T.1 7 i = nI (sq i) ∧ isq (sq i) = true) ∧ (∀ i, i < 64 → bt_ (T.2 5 6) i = th8 f i) ∧ ∀ i, bt_ (T.2 5 7) i = hb1 f i
theorem se_opn {T : iz_S} {n : Nat} {sq : Nat → Nat} {f : Nat → Int32} (h : SP T n sq f) {u : Nat} (hu : u < 64) : ∀ (j k m : Nat) (x2 : Int64), k + j = n → j < m → (∀ c, bt_ x2 c = opu sq k u c) → ∃ y, Se_openCells_5 5 m (nI u) x2 (nI k) T = some (y, T) ∧ ∀ c, bt_ y c = opu sq n u c := by
  intro j
  induction j with
  | zero =>
    intro k m x2 hk hm hx
    obtain ⟨m, rfl⟩ : ∃ z, m = z + 1 := ⟨m - 1, by omega⟩
    obtain rfl : k = n := by omega
    have n6 := h.2.1
    have lt : ¬ nI k < nI k := nI_nlt (Nat.le_refl _) (by omega)
    refine ⟨x2, ?_, hx⟩
    show Se_openCells_5b 5 (Se_openCells_5 5 m) (nI u) x2 (nI k) T = _
    rw [Se_openCells_5b, h.1, if_neg lt]
  | succ j ih =>
    intro k m x2 hk hm hx
    obtain ⟨m, rfl⟩ : ∃ z, m = z + 1 := ⟨m - 1, by omega⟩
    have n6 := h.2.1
    have lt : nI k < nI n := nI_lt (by omega) (by omega)
    have i1 := in_ok (n := k) (N := 6) (by omega) (by decide)
    obtain ⟨s1, s2⟩ := h.2.2.1 k (by omega)
    have head : Se_openCells_5 5 (m + 1) (nI u) x2 (nI k) T = Se_openCells_5b 5 (Se_openCells_5 5 m) (nI u) x2 (nI k) T := rfl
    cases e : u.testBit k with
    | false =>
      obtain ⟨y, y1, y2⟩ := ih (k + 1) m x2 (by omega) (by omega) (fun c => by rw [hx c, opu, e]; simp)
      refine ⟨y, ?_, y2⟩
      rw [head, Se_openCells_5b, h.1, if_pos lt, b_if hu (by omega), e, if_neg (by decide), Se_openCells_36, nI_1, y1]
    | true =>
      obtain ⟨z, z1, z2⟩ := la_sq s2 T
      obtain ⟨y, y1, y2⟩ := ih (k + 1) m (x2 ||| z) (by omega) (by omega) (fun c => by rw [bt_or, hx c, z2 c, opu, e]; simp)
      refine ⟨y, ?_, y2⟩
      rw [head, Se_openCells_5b, h.1, if_pos lt, b_if hu (by omega), e, if_pos rfl, i1, ck_t, show iz_rf 5 2 = 7 from rfl, g_nI _ _ (show k < 2 ^ 31 by omega), s1, z1, bL_s, lt_e, Se_openCells_36, nI_1, y1]
theorem th_fu (f : Nat → Int32) (sq : Nat → Nat) (n u c : Nat) : th8 (fu_ f sq n u) c = (th8 f c && !opu sq n u c) ∧ hb1 (fu_ f sq n u) c = (hb1 f c && !opu sq n u c) := by
  unfold th8 hb1 bpf nio fu_
  have z8 : (0 : Int32) < 8 := by decide +kernel
  have z10 : (0 : Int32) < iz_zV 3 1 := by decide +kernel
  cases e : opu sq n u c with
  | true => simp [z8, z10]
  | false => simp
theorem se_may {T : iz_S} {n : Nat} {sq : Nat → Nat} {f : Nat → Int32} (h : SP T n sq f) {u i : Nat} (hu : u < 64) (hi : i < n) : Se_mayFollow 5 (nI i) (nI u) T = some (bI_ (mbf f sq n u i), T) := by
  have n6 := h.2.1
  have i1 := in_ok (n := i) (N := 6) (by omega) (by decide)
  obtain ⟨s1, s2⟩ := h.2.2.1 i hi
  unfold mbf
  cases e : u.testBit i with
  | true =>
    rw [Se_mayFollow, b_if hu (by omega), e, if_pos rfl]
    simp only [nb_0, decide_true, ck_t]
    rfl
  | false =>
    have z0 : bt_ 0 = fun _ => false := funext bt_0
    obtain ⟨y, y1, y2⟩ := se_opn h hu n 0 iz_FU 0 (by omega) (by have := fu_ge; omega) (fun c => by rw [bt_0]; rfl)
    obtain ⟨z, z1, z2⟩ := la_sq s2 T
    obtain ⟨r, r1, r2⟩ := la_among (th := th8 (fu_ f sq n u)) (hb := hb1 (fu_ f sq n u)) s2 z2 (x2 := T.2 5 6 &&& (y ^^^ (-1))) (x4 := T.2 5 7 &&& (y ^^^ (-1))) (fun c hc => by rw [bt_and, bt_not _ hc, h.2.2.2.1 c hc, y2 c, (th_fu f sq n u c).1]) (fun c => by
      by_cases hc : c < 64
      · rw [bt_and, bt_not _ hc, h.2.2.2.2 c, y2 c, (th_fu f sq n u c).2]
      · rw [bt_hi _ (by omega)]
        unfold hb1 bpf
        simp [hc]) T
    have hd : Se_mayFollow 5 (nI i) (nI u) T = if nI r = 0 then Se_mayFollow_56 5 1 T else Se_mayFollow_56 5 0 T := by
      rw [Se_mayFollow, b_if hu (by omega), e, if_neg (by decide), Se_openCells, show Se_openCells_5 5 iz_FU (nI u) 0 0 T = _ from y1, bL_s, i1, ck_t, show iz_rf 5 2 = 7 from rfl, g_nI _ _ (show i < 2 ^ 31 by omega), s1, z1, bL_s, r1, bI_s]
    have r2le := brv_le r2
    have e0 : (nI r = 0) = (r = 0) := n0_iff (by omega)
    rw [hd]
    by_cases q : r = 0
    · subst q
      rw [if_pos (show nI 0 = 0 from rfl), dC_t r2]
      simp only [Se_mayFollow_56, nb_1, decide_true, ck_t]
      rfl
    · rw [if_neg (by rw [e0]; exact q), dC_f (fun z => q (brv_f r2 z))]
      simp only [Se_mayFollow_56, nb_0, decide_true, ck_t]
      rfl
/-- the longest behind u, with L for larger sets; the first square of it -/
def mxl (mb : Nat → Nat → Bool) (L : Nat → Nat) (u : Nat) : Nat → Nat
  | 0 => 0
  | m + 1 => if mb u m = true ∧ mxl mb L u m < 1 + L (u ||| 2 ^ m) then 1 + L (u ||| 2 ^ m) else mxl mb L u m
def fst_ (mb : Nat → Nat → Bool) (L : Nat → Nat) (u : Nat) : Nat → Option Nat
  | 0 => none
  | m + 1 => if mb u m = true ∧ mxl mb L u m < 1 + L (u ||| 2 ^ m) then some m else fst_ mb L u m
theorem mxl_cong {mb : Nat → Nat → Bool} {L L2 : Nat → Nat} {u : Nat} : ∀ {m : Nat}, (∀ i, i < m → mb u i = true → L (u ||| 2 ^ i) = L2 (u ||| 2 ^ i)) → mxl mb L u m = mxl mb L2 u m
  | 0, _ => rfl
  | m + 1, h => by
    have ih := mxl_cong (m := m) (fun i hi => h i (by omega))
    rw [mxl, mxl, ih]
    by_cases e : mb u m = true
    · rw [h m (by omega) e]
    · rw [if_neg (fun q => e q.1), if_neg (fun q => e q.1)]
theorem mxl_le {mb : Nat → Nat → Bool} {L : Nat → Nat} {u B : Nat} : ∀ {m : Nat}, (∀ i, i < m → mb u i = true → 1 + L (u ||| 2 ^ i) ≤ B) → mxl mb L u m ≤ B
  | 0, _ => Nat.zero_le _
  | m + 1, h => by
    have ih := mxl_le (m := m) (fun i hi => h i (by omega))
    rw [mxl]
    split
    · rename_i q; exact h m (by omega) q.1
    · exact ih
theorem fst_spec {mb : Nat → Nat → Bool} {L : Nat → Nat} {u : Nat} : ∀ {m : Nat}, (fst_ mb L u m = none ∧ mxl mb L u m = 0) ∨ ∃ k, fst_ mb L u m = some k ∧ k < m ∧ mb u k = true ∧ 1 + L (u ||| 2 ^ k) = mxl mb L u m ∧ ∀ i, i < k → mb u i = true → 1 + L (u ||| 2 ^ i) < mxl mb L u m
  | 0 => Or.inl ⟨rfl, rfl⟩
  | m + 1 => by
    have ge : ∀ m i, i < m → mb u i = true → 1 + L (u ||| 2 ^ i) ≤ mxl mb L u m := by
      intro m
      induction m with
      | zero => intro i hi; omega
      | succ m ih =>
        intro i hi hb
        rw [mxl]
        by_cases e : i = m
        · subst e
          split
          · exact Nat.le_refl _
          · rename_i q
            have : ¬ mxl mb L u i < 1 + L (u ||| 2 ^ i) := fun z => q ⟨hb, z⟩
            omega
        · have := ih i (by omega) hb
          split
          · rename_i q; omega
          · exact this
    by_cases q : mb u m = true ∧ mxl mb L u m < 1 + L (u ||| 2 ^ m)
    · refine Or.inr ⟨m, by rw [fst_, if_pos q], by omega, q.1, by rw [mxl, if_pos q], fun i hi hb => ?_⟩
      rw [mxl, if_pos q]
      have := ge m i hi hb
      omega
    · rw [fst_, mxl, if_neg q, if_neg q]
      rcases fst_spec (m := m) (mb := mb) (L := L) (u := u) with h | ⟨k, h1, h2, h3⟩
      · exact Or.inl h
      · exact Or.inr ⟨k, h1, by omega, h3⟩
theorem fst_cong {mb : Nat → Nat → Bool} {L L2 : Nat → Nat} {u : Nat} : ∀ {m : Nat}, (∀ i, i < m → mb u i = true → L (u ||| 2 ^ i) = L2 (u ||| 2 ^ i)) → fst_ mb L u m = fst_ mb L2 u m
  | 0, _ => rfl
  | m + 1, h => by
    have ih := fst_cong (m := m) (fun i hi => h i (by omega))
    rw [fst_, fst_, ih, mxl_cong (m := m) (fun i hi => h i (by omega))]
    by_cases e : mb u m = true
    · rw [h m (by omega) e]
    · rw [if_neg (fun q => e q.1), if_neg (fun q => e q.1)]
theorem SP_k {T T2 : iz_S} {n : Nat} {sq : Nat → Nat} {f : Nat → Int32} (h : SP T n sq f) (h5 : T2.1 5 3 = T.1 5 3) (h7 : ∀ i, T2.1 7 i = T.1 7 i) (e : T2.2 = T.2) : SP T2 n sq f :=
  ⟨h5.trans h.1, h.2.1, fun i hi => by rw [h7 i]; exact h.2.2.1 i hi, fun i hi => by rw [e]; exact h.2.2.2.1 i hi, fun i => by rw [e]; exact h.2.2.2.2 i⟩
/-- what is asked behind the set u: its longest row's length and first square -/
def fak (u p i : Nat) : Bool := (p == 8 || p == 120) && i == u
theorem se_ask {n : Nat} {sq : Nat → Nat} {f : Nat → Int32} {u : Nat} (hu : u < 2 ^ n) {L : Nat → Nat} : ∀ (j i m : Nat) (T : iz_S), SP T n sq f → (∀ v, u < v → v < 2 ^ n → T.1 8 v = nI (L v) ∧ L v ≤ 6) → i + j = n → j < m → T.1 8 u = nI (mxl (mbf f sq n) L u i) → (∀ k, fst_ (mbf f sq n) L u i = some k → T.1 120 u = nI k) →
    ∃ T2, Se_askBehind_9 5 m (nI u) (nI i) T = some T2 ∧ T2.1 8 u = nI (mxl (mbf f sq n) L u n) ∧ (∀ k, fst_ (mbf f sq n) L u n = some k → T2.1 120 u = nI k) ∧ fr (fak u) T T2 ∧ T2.2 = T.2 := by
  intro j
  induction j with
  | zero =>
    intro i m T h hL hi hm h8 hn
    obtain ⟨m, rfl⟩ : ∃ z, m = z + 1 := ⟨m - 1, by omega⟩
    obtain rfl : i = n := by omega
    have n6 := h.2.1
    have lt : ¬ nI i < nI i := nI_nlt (Nat.le_refl _) (by omega)
    refine ⟨T, ?_, h8, hn, fr_rf _ _, rfl⟩
    show Se_askBehind_9b 5 (Se_askBehind_9 5 m) (nI u) (nI i) T = _
    rw [Se_askBehind_9b, h.1, if_neg lt]
  | succ j ih =>
    intro i m T h hL hi hm h8 hn
    obtain ⟨m, rfl⟩ : ∃ z, m = z + 1 := ⟨m - 1, by omega⟩
    have n6 := h.2.1
    have p64 := b_pow n (by omega)
    have lt : nI i < nI n := nI_lt (by omega) (by omega)
    have head : Se_askBehind_9 5 (m + 1) (nI u) (nI i) T = Se_askBehind_9b 5 (Se_askBehind_9 5 m) (nI u) (nI i) T := rfl
    have skip : ¬ (mbf f sq n u i = true ∧ mxl (mbf f sq n) L u i < 1 + L (u ||| 2 ^ i)) → Se_askBehind_9 5 (m + 1) (nI u) (nI i) T = Se_askBehind_9 5 m (nI u) (nI (i + 1)) T → ∃ T2, Se_askBehind_9 5 (m + 1) (nI u) (nI i) T = some T2 ∧ T2.1 8 u = nI (mxl (mbf f sq n) L u n) ∧ (∀ k, fst_ (mbf f sq n) L u n = some k → T2.1 120 u = nI k) ∧ fr (fak u) T T2 ∧ T2.2 = T.2 := fun q he => by
      obtain ⟨T2, a1, a2⟩ := ih (i + 1) m T h hL (by omega) (by omega) (by rw [mxl, if_neg q]; exact h8) (fun k hk => by rw [fst_, if_neg q] at hk; exact hn k hk)
      exact ⟨T2, he.trans a1, a2⟩
    cases e : mbf f sq n u i with
    | false =>
      refine skip (by rw [e]; simp) ?_
      rw [head, Se_askBehind_9b, h.1, if_pos lt, se_may h (by omega) (show i < n by omega), bI_s, e, if_pos (show bI_ false = 0 from rfl), Se_askBehind_72, nI_1]
    | true =>
      have bf : u.testBit i = false := by
        unfold mbf at e
        rw [Bool.and_eq_true] at e
        simpa using e.1
      have vgt := b_gt u (by omega) i (by omega) bf
      have vin := b_in hu (show i < n by omega)
      obtain ⟨t1, t2⟩ := hL _ vgt vin
      have iv := in_ok (n := u ||| 2 ^ i) (N := 64) (by omega) (by decide)
      have iu := in_ok (n := u) (N := 64) (by omega) (by decide)
      have bd : mxl (mbf f sq n) L u i ≤ 7 := mxl_le (fun k hk hb => by
        have bf2 : u.testBit k = false := by
          unfold mbf at hb
          rw [Bool.and_eq_true] at hb
          simpa using hb.1
        have := (hL _ (b_gt u (by omega) k (by omega) bf2) (b_in hu (show k < n by omega))).2
        omega)
      have e1 : (1 : Int32) + nI (L (u ||| 2 ^ i)) = nI (1 + L (u ||| 2 ^ i)) := by rw [show (1 : Int32) = nI 1 from rfl, nI_add]
      have lep : (nI (1 + L (u ||| 2 ^ i)) ≤ nI (mxl (mbf f sq n) L u i)) = (1 + L (u ||| 2 ^ i) ≤ mxl (mbf f sq n) L u i) := nI_leP (by omega) (by omega)
      by_cases q : mxl (mbf f sq n) L u i < 1 + L (u ||| 2 ^ i)
      · obtain ⟨U, hU⟩ : ∃ U, U = iz_up (iz_up T 8 u (nI (1 + L (u ||| 2 ^ i)))) 120 u (nI i) := ⟨_, rfl⟩
        have fU : fr (fak u) T U := by
          rw [hU]
          exact fr_up (fr_up (fr_rf _ _) (by simp [fak])) (by simp [fak])
        have U2 : U.2 = T.2 := by rw [hU]; rfl
        obtain ⟨T2, a1, a2, a3, a4, a5⟩ := ih (i + 1) m U (SP_k h (fU 5 3 rfl) (fun k => fU 7 k rfl) U2) (fun v h1 h2 => by rw [fU 8 v (by simp [fak]; omega)]; exact hL v h1 h2) (by omega) (by omega) (by rw [mxl, if_pos ⟨e, q⟩, hU, up_p _ _ _ _ (by decide), up_same]) (fun k hk => by
          rw [fst_, if_pos ⟨e, q⟩] at hk
          rw [hU, up_same, Option.some.inj hk])
        refine ⟨T2, ?_, a2, a3, fr_tr fU a4, a5.trans U2⟩
        rw [← a1, head, Se_askBehind_9b, h.1, if_pos lt, se_may h (by omega) (show i < n by omega), bI_s, e, if_neg (show ¬ bI_ true = 0 by decide), b_or u (by omega) i (by omega), iv, ck_t, iu, ck_t, show iz_rf 5 4 = 8 from rfl, show iz_rf 5 5 = 120 from rfl, g_nI _ _ (show u ||| 2 ^ i < 2 ^ 31 by omega), g_nI _ _ (show u < 2 ^ 31 by omega), t1, h8, e1, if_neg (by rw [lep]; omega), ck_t, ck_t, lt_e, ck_t, lt_e, s_nI _ _ (show u < 2 ^ 31 by omega), s_nI _ _ (show u < 2 ^ 31 by omega), ← hU, Se_askBehind_72, nI_1]
      · refine skip (fun z => q z.2) ?_
        rw [head, Se_askBehind_9b, h.1, if_pos lt, se_may h (by omega) (show i < n by omega), bI_s, e, if_neg (show ¬ bI_ true = 0 by decide), b_or u (by omega) i (by omega), iv, ck_t, iu, ck_t, show iz_rf 5 4 = 8 from rfl, g_nI _ _ (show u ||| 2 ^ i < 2 ^ 31 by omega), g_nI _ _ (show u < 2 ^ 31 by omega), t1, h8, e1, if_pos (by rw [lep]; omega), Se_askBehind_72, nI_1]
def cnt (n u : Nat) : Nat := fa_ct (fun i => u.testBit i) n
theorem cnt_up {n u i : Nat} (hi : i < n) (hb : u.testBit i = false) : cnt n (u ||| 2 ^ i) = cnt n u + 1 := by
  unfold cnt
  refine ct_upd (o := i) (fun k hk => ?_) hb ?_ n hi
  · rw [or_bit]
    have : decide (i = k) = false := decide_eq_false (fun q => hk q.symm)
    rw [this, Bool.or_false]
  · rw [or_bit]; simp
theorem mb_bit {f : Nat → Int32} {sq : Nat → Nat} {n u i : Nat} (h : mbf f sq n u i = true) : u.testBit i = false := by
  unfold mbf at h
  rw [Bool.and_eq_true] at h
  simpa using h.1
/-- the table of longest rows -/
def TL (T : iz_S) (n : Nat) (mb : Nat → Nat → Bool) (L : Nat → Nat) (c : Nat) : Prop := ∀ v, c ≤ v → v < 2 ^ n → T.1 8 v = nI (L v) ∧ L v = mxl mb L v n ∧ L v + cnt n v ≤ n
/-- the table of their first squares -/
def TN (T : iz_S) (n : Nat) (mb : Nat → Nat → Bool) (L : Nat → Nat) (c : Nat) : Prop := ∀ v, c ≤ v → v < 2 ^ n → ∀ k, fst_ mb L v n = some k → T.1 120 v = nI k
theorem se_plan28 {n : Nat} {sq : Nat → Nat} {f : Nat → Int32} : ∀ (c m : Nat) (T : iz_S) (L : Nat → Nat), c ≤ 2 ^ n → c < m → SP T n sq f → TL T n (mbf f sq n) L c → TN T n (mbf f sq n) L c → ∃ T2 L2, Se_plan_28 5 1 m (nI c - 1) T = iz_bV (Se_walk 5 T2) (fun S8 => some S8) ∧ SP T2 n sq f ∧ TL T2 n (mbf f sq n) L2 0 ∧ fr (fun p _ => p == 8 || p == 120) T T2 ∧ TN T2 n (mbf f sq n) L2 0 := by
  intro c
  induction c with
  | zero =>
    intro m T L hc hm h hT hN
    obtain ⟨m, rfl⟩ : ∃ z, m = z + 1 := ⟨m - 1, by omega⟩
    have ng : nI 0 - 1 < 0 := by decide +kernel
    refine ⟨T, L, ?_, h, hT, fr_rf _ _, hN⟩
    show Se_plan_28b 5 1 (Se_plan_28 5 1 m) (nI 0 - 1) T = _
    rw [Se_plan_28b, if_pos ng]
  | succ c ih =>
    intro m T L hc hm h hT hN
    obtain ⟨m, rfl⟩ : ∃ z, m = z + 1 := ⟨m - 1, by omega⟩
    have n6 := h.2.1
    have p64 := b_pow n (by omega)
    have x1 : nI (c + 1) - 1 = nI c := nI_m1 (by omega)
    have np : ¬ nI c < 0 := nI_pos (by omega)
    have i1 := in_ok (n := c) (N := 64) (by omega) (by decide)
    obtain ⟨T0, hT0⟩ : ∃ T0, T0 = iz_up T 8 c 0 := ⟨_, rfl⟩
    have f0 : fr (fak c) T T0 := by rw [hT0]; exact fr_up (fr_rf _ _) (by simp [fak])
    have e0 : T0.2 = T.2 := by rw [hT0]; rfl
    obtain ⟨U, lb, u8, uN, fU0, eU0⟩ := se_ask (u := c) (by omega) (L := L) n 0 iz_FU T0 (SP_k h (f0 5 3 rfl) (fun k => f0 7 k rfl) e0) (fun v h1 h2 => by rw [f0 8 v (by simp [fak]; omega)]; exact ⟨(hT v (by omega) h2).1, by have := (hT v (by omega) h2).2.2; omega⟩) (by omega) (by have := fu_ge; omega) (by rw [hT0, up_same]; rfl) (fun k hk => by cases hk)
    obtain ⟨M, hM⟩ : ∃ M, M = mxl (mbf f sq n) L c n := ⟨_, rfl⟩
    rw [← hM] at u8
    have fU : fr (fak c) T U := fr_tr f0 fU0
    have eU : U.2 = T.2 := eU0.trans e0
    have cg : ∀ v, c ≤ v → v < 2 ^ n → ∀ i, i < n → mbf f sq n v i = true → L (v ||| 2 ^ i) = wtU L c M (v ||| 2 ^ i) := fun v h1 h2 i hi hb => by
      have := b_gt v (by omega) i (by omega) (mb_bit hb)
      rw [wtU_n (by omega)]
    have eL : ∀ v, c ≤ v → v < 2 ^ n → mxl (mbf f sq n) L v n = mxl (mbf f sq n) (wtU L c M) v n := fun v h1 h2 => mxl_cong (cg v h1 h2)
    have eF : ∀ v, c ≤ v → v < 2 ^ n → fst_ (mbf f sq n) L v n = fst_ (mbf f sq n) (wtU L c M) v n := fun v h1 h2 => fst_cong (cg v h1 h2)
    obtain ⟨T2, L2, a1, a2, a3, a4, a5⟩ := ih m U (wtU L c M) (by omega) (by omega) (SP_k h (fU 5 3 rfl) (fun k => fU 7 k rfl) eU) (fun v h1 h2 => by
      by_cases e : v = c
      · subst e
        rw [u8, wtU_s, ← eL v (Nat.le_refl v) h2, ← hM]
        refine ⟨rfl, rfl, ?_⟩
        have cl : cnt n v ≤ n := cnt_le _ n
        have : M ≤ n - cnt n v := by
          rw [hM]
          refine mxl_le (fun i hi hb => ?_)
          have bf := mb_bit hb
          have q := (hT (v ||| 2 ^ i) (by have := b_gt v (by omega) i (by omega) bf; omega) (b_in h2 hi)).2.2
          rw [cnt_up hi bf] at q
          omega
        omega
      · rw [fU 8 v (by simp [fak, e]), wtU_n e, ← eL v h1 h2]
        exact hT v (by omega) h2) (fun v h1 h2 k hk => by
      rw [← eF v h1 h2] at hk
      by_cases e : v = c
      · subst e
        exact uN k hk
      · rw [fU 120 v (by simp [fak, e])]
        exact hN v (by omega) h2 k hk)
    refine ⟨T2, L2, ?_, a2, a3, fr_tr (fr_mono fU (fun p i hp => ?_)) a4, a5⟩
    · rw [x1, ← a1]
      show Se_plan_28b 5 1 (Se_plan_28 5 1 m) (nI c) T = _
      rw [Se_plan_28b, if_neg np, Se_askBehind, i1, ck_t, lt_e, show iz_rf 5 4 = 8 from rfl, s_nI _ _ (show c < 2 ^ 31 by omega), ← hT0, show Se_askBehind_9 5 iz_FU (nI c) 0 T0 = _ from lb, bV_s, pm1]
    · unfold fak at hp
      rw [Bool.and_eq_true] at hp
      exact hp.1
