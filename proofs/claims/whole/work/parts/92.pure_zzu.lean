/-! PURE: sales, class: the rows -/
theorem get_a1 {R : List (Nat × Nat)} {x y : Nat × Nat} {i : Nat} (h : (R ++ [x])[i]? = some y) : (i < R.length ∧ R[i]? = some y) ∨ (i = R.length ∧ y = x) := by
  rcases Nat.lt_trichotomy i R.length with q | q | q
  · rw [List.getElem?_append_left q] at h
    exact Or.inl ⟨q, h⟩
  · rw [q, List.getElem?_append_right (Nat.le_refl _), Nat.sub_self] at h
    exact Or.inr ⟨q, (Option.some.inj h).symm⟩
  · rw [List.getElem?_eq_none (by rw [List.length_append]; show R.length + 1 ≤ i; omega)] at h
    cases h
theorem sa_push {V : iz_S} {u : Nat → Bool} {t : Nat → Nat} {R : List (Nat × Nat)} {B : sl_B} (h : sa_d V u t R B) (hl : R.length < 4) {k p : Nat} (k10 : k < 10) (p3 : p < 3) : ∃ V2, Sa_push 45 (nI R.length) (nI k) (nI p) V = some V2 ∧ sa_d V2 (sl_u u k) (sl_t t p) (R ++ [(k, p)]) B ∧ fr fsa V V2 := by
  have i1 := in_ok (n := R.length) (N := 4) hl (by decide)
  have i2 := in_ok (n := k) (N := 10) k10 (by decide)
  have i3 := in_ok (n := p) (N := 3) p3 (by decide)
  obtain ⟨Y, hY⟩ : ∃ Y, Y = iz_up (iz_up (iz_up (iz_up V 53 R.length (nI k)) 54 R.length (nI p)) 51 k 1) 52 p (nI (t p + 1)) := ⟨_, rfl⟩
  refine ⟨Y, ?_, ⟨fun i hi => ?_, fun i hi => ?_, fun i x hx => ?_, ?_, ?_, fun i x hx => ?_⟩, ?_⟩
  · rw [Sa_push, i1, ck_t, lt_e, ck_t, lt_e, i2, ck_t, lt_e, i3, ck_t, ck_t, lt_e, show iz_rf 45 13 = 53 from rfl, show iz_rf 45 14 = 54 from rfl, show iz_rf 45 11 = 51 from rfl, show iz_rf 45 12 = 52 from rfl, nb_1, s_nI _ _ (show R.length < 2 ^ 31 by omega), s_nI _ _ (show R.length < 2 ^ 31 by omega), s_nI _ _ (show k < 2 ^ 31 by omega), s_nI _ _ (show p < 2 ^ 31 by omega), g_nI _ _ (show p < 2 ^ 31 by omega), up_p _ _ _ _ (by decide), up_p _ _ _ _ (by decide), up_p _ _ _ _ (by decide), h.2.1 p p3, nI_1, hY]
  · rw [hY, up_p _ _ _ _ (by decide)]
    unfold sl_u
    by_cases e : i = k
    · rw [if_pos e, e, up_same]; rfl
    · rw [if_neg e, up_ne _ _ _ _ (Or.inr e), up_p _ _ _ _ (by decide), up_p _ _ _ _ (by decide)]
      exact h.1 i hi
  · rw [hY]
    unfold sl_t
    by_cases e : i = p
    · rw [if_pos e, e, up_same]
    · rw [if_neg e, up_ne _ _ _ _ (Or.inr e), up_p _ _ _ _ (by decide), up_p _ _ _ _ (by decide), up_p _ _ _ _ (by decide)]
      exact h.2.1 i hi
  · have y53 : Y.1 53 i = (iz_up V 53 R.length (nI k)).1 53 i := by rw [hY, up_p _ _ _ _ (by decide), up_p _ _ _ _ (by decide), up_p _ _ _ _ (by decide)]
    have y54 : Y.1 54 i = (iz_up (iz_up V 53 R.length (nI k)) 54 R.length (nI p)).1 54 i := by rw [hY, up_p _ _ _ _ (by decide), up_p _ _ _ _ (by decide)]
    rw [y53, y54]
    rcases get_a1 hx with ⟨q1, q2⟩ | ⟨q1, q2⟩
    · rw [up_ne _ _ _ _ (Or.inr (by omega)), up_ne _ _ _ _ (Or.inr (by omega)), up_p _ _ _ _ (by decide)]
      exact h.2.2.1 i x q2
    · rw [q1, q2, up_same, up_same]
      exact ⟨rfl, rfl⟩
  · rw [hY, up_p _ _ _ _ (by decide), up_p _ _ _ _ (by decide), up_p _ _ _ _ (by decide), up_p _ _ _ _ (by decide)]
    exact h.2.2.2.1
  · rw [hY, up_p _ _ _ _ (by decide), up_p _ _ _ _ (by decide), up_p _ _ _ _ (by decide), up_p _ _ _ _ (by decide)]
    exact h.2.2.2.2.1
  · rw [hY, up_p _ _ _ _ (by decide), up_p _ _ _ _ (by decide), up_p _ _ _ _ (by decide), up_p _ _ _ _ (by decide), up_p _ _ _ _ (by decide), up_p _ _ _ _ (by decide), up_p _ _ _ _ (by decide), up_p _ _ _ _ (by decide)]
    exact h.2.2.2.2.2 i x hx
  · rw [hY]
    exact fr_up (fr_up (fr_up (fr_up (fr_rf _ _) rfl) rfl) rfl) rfl
theorem sa_pop {V : iz_S} {u : Nat → Bool} {t : Nat → Nat} {R : List (Nat × Nat)} {B : sl_B} {k p : Nat} (h : sa_d V (sl_u u k) (sl_t t p) (R ++ [(k, p)]) B) (hu : u k = false) (k10 : k < 10) (p3 : p < 3) (t4 : t p < 4) : ∃ V2, Sa_pop 45 (nI k) (nI p) V = some V2 ∧ sa_d V2 u t R B ∧ fr fsa V V2 := by
  have i2 := in_ok (n := k) (N := 10) k10 (by decide)
  have i3 := in_ok (n := p) (N := 3) p3 (by decide)
  have tp : V.1 52 p = nI (t p + 1) := by
    rw [h.2.1 p p3]
    unfold sl_t
    rw [if_pos rfl]
  have m1 : nI (t p + 1) - 1 = nI (t p) := by rw [nI_m1 (by omega)]; rfl
  obtain ⟨Y, hY⟩ : ∃ Y, Y = iz_up (iz_up V 51 k 0) 52 p (nI (t p)) := ⟨_, rfl⟩
  refine ⟨Y, ?_, ⟨fun i hi => ?_, fun i hi => ?_, fun i x hx => ?_, ?_, ?_, fun i x hx => ?_⟩, ?_⟩
  · rw [Sa_pop, i2, ck_t, lt_e, i3, ck_t, ck_t, lt_e, show iz_rf 45 11 = 51 from rfl, show iz_rf 45 12 = 52 from rfl, nb_0, s_nI _ _ (show k < 2 ^ 31 by omega), s_nI _ _ (show p < 2 ^ 31 by omega), g_nI _ _ (show p < 2 ^ 31 by omega), up_p _ _ _ _ (by decide), tp, m1, hY]
  · rw [hY, up_p _ _ _ _ (by decide)]
    by_cases e : i = k
    · rw [e, up_same, hu]; rfl
    · rw [up_ne _ _ _ _ (Or.inr e), h.1 i hi]
      unfold sl_u
      rw [if_neg e]
  · rw [hY]
    by_cases e : i = p
    · rw [e, up_same]
    · rw [up_ne _ _ _ _ (Or.inr e), up_p _ _ _ _ (by decide), h.2.1 i hi]
      unfold sl_t
      rw [if_neg e]
  · rw [hY, up_p _ _ _ _ (by decide), up_p _ _ _ _ (by decide), up_p _ _ _ _ (by decide), up_p _ _ _ _ (by decide)]
    have il : i < R.length := (List.getElem?_eq_some_iff.mp hx).1
    exact h.2.2.1 i x (by rw [List.getElem?_append_left il]; exact hx)
  · rw [hY, up_p _ _ _ _ (by decide), up_p _ _ _ _ (by decide)]
    exact h.2.2.2.1
  · rw [hY, up_p _ _ _ _ (by decide), up_p _ _ _ _ (by decide)]
    exact h.2.2.2.2.1
  · rw [hY, up_p _ _ _ _ (by decide), up_p _ _ _ _ (by decide), up_p _ _ _ _ (by decide), up_p _ _ _ _ (by decide)]
    exact h.2.2.2.2.2 i x hx
  · rw [hY]
    exact fr_up (fr_up (fr_rf _ _) rfl) rfl
/-- a search from R on, in the class -/
def sa_R (n N : Nat) (pr : Nat → Nat) (fit : Nat → Nat → Nat → Bool) (D : List Nat) (d : Nat) (rc : Nat → Int32 → Int32 → iz_S → Option iz_S) : Prop := ∀ (u : Nat → Bool) (t : Nat → Nat) (R : List (Nat × Nat)) (s : Nat) (B : sl_B) (V : iz_S), R.length + d = 4 → sl_i D pr u t R s → sl_b D pr B → sa_s V n N pr fit D → sa_d V u t R B → ∃ V2, rc 45 (nI R.length) (nI s) V = some V2 ∧ sa_d V2 u t R (sl_c n N pr fit D d u t R s B) ∧ fr fsa V V2
theorem sa_37 {n N : Nat} {pr : Nat → Nat} {fit : Nat → Nat → Nat → Bool} {D : List Nat} (hD : ∀ k p t, k < n → p < N → t < 4 → fit k p t = true → k ∈ D) (hS : D.Pairwise (fun a b => pr b ≤ pr a)) (hp : ∀ k, k ∈ D → 1 ≤ pr k) (hz : sa_z n N pr D) {d : Nat} {rc : Nat → Int32 → Int32 → iz_S → Option iz_S} (hr : sa_R n N pr fit D d rc) {u : Nat → Bool} {t : Nat → Nat} {R : List (Nat × Nat)} {s : Nat} (hl : R.length + (d + 1) = 4) (hi : sl_i D pr u t R s) {k : Nat} (kn : k < n) (k23 : Int32 → Int32 → Int32 → iz_S → Option iz_S) : ∀ (j p m : Nat) (B : sl_B) (V : iz_S), p + j = N → j < m → sl_b D pr B → sa_s V n N pr fit D → sa_d V u t R B →
    ∃ V2, Sa_tryRows_37 45 rc k23 m (nI R.length) (nI s) (nI k) (nI p) V = k23 (nI R.length) (nI s) (nI (k + 1)) V2 ∧ sa_d V2 u t R (itr (fun p B => if (!u k && fit k p (t p)) = true then sl_c n N pr fit D d (sl_u u k) (sl_t t p) (R ++ [(k, p)]) (s + pr k) B else B) p j B) ∧ sl_b D pr (itr (fun p B => if (!u k && fit k p (t p)) = true then sl_c n N pr fit D d (sl_u u k) (sl_t t p) (R ++ [(k, p)]) (s + pr k) B else B) p j B) ∧ fr fsa V V2 := by
  have z1 := hz.1
  have z2 := hz.2.1
  intro j
  induction j with
  | zero =>
    intro p m B V hj hm hb hs h
    obtain ⟨m, rfl⟩ : ∃ q, m = q + 1 := ⟨m - 1, by omega⟩
    have lt : ¬ nI p < nI N := nI_nlt (by omega) (by omega)
    refine ⟨V, ?_, h, hb, fr_rf _ _⟩
    show Sa_tryRows_37b 45 rc k23 (Sa_tryRows_37 45 rc k23 m) (nI R.length) (nI s) (nI k) (nI p) V = _
    rw [Sa_tryRows_37b, hs.1, if_neg lt, nI_1]
  | succ j ih =>
    intro p m B V hj hm hb hs h
    obtain ⟨m, rfl⟩ : ∃ q, m = q + 1 := ⟨m - 1, by omega⟩
    have lt : nI p < nI N := nI_lt (by omega) (by omega)
    have t4 : t p < 4 := by have := hi.2.2.2 p; omega
    have sv := sa_serve hs hz h kn (show p < N by omega) t4
    have head : Sa_tryRows_37 45 rc k23 (m + 1) (nI R.length) (nI s) (nI k) (nI p) V = iz_bI (Sa_mayServe 45 (nI k) (nI p) V) (fun r5 S4 => if r5 = 0 then Sa_tryRows_89 45 rc k23 (Sa_tryRows_37 45 rc k23 m) (nI R.length) (nI s) (nI k) (nI p) S4 else iz_bV (Sa_push 45 (nI R.length) (nI k) (nI p) S4) (fun S6 => iz_ck (iz_in (nI k) 10) (iz_bV (rc 45 (nI R.length + 1) (nI s + iz_g S6 (iz_rf (iz_rf 45 6) 3) (nI k)) S6) (fun S7 => iz_bV (Sa_pop 45 (nI k) (nI p) S7) (fun S8 => Sa_tryRows_89 45 rc k23 (Sa_tryRows_37 45 rc k23 m) (nI R.length) (nI s) (nI k) (nI p) S8))))) := by
      show Sa_tryRows_37b 45 rc k23 (Sa_tryRows_37 45 rc k23 m) (nI R.length) (nI s) (nI k) (nI p) V = _
      rw [Sa_tryRows_37b, hs.1, if_pos lt]
    rw [head, sv, bI_s, itr]
    by_cases c : (!u k && fit k p (t p)) = true
    · rw [c, if_neg (show ¬ bI_ true = 0 by decide)]
      have c' := c
      simp only [Bool.and_eq_true, Bool.not_eq_true'] at c'
      have kD := hD k p (t p) kn (by omega) t4 c'.2
      have hi2 := sl_is (p := p) hi c'.1 kD
      have i2 := in_ok (n := k) (N := 10) (by omega) (by decide)
      have ll : (R ++ [(k, p)]).length = R.length + 1 := by rw [List.length_append]; rfl
      obtain ⟨V1, a1, a2, a3⟩ := sa_push h (show R.length < 4 by omega) (show k < 10 by omega) (show p < 3 by omega)
      obtain ⟨V2, b1, b2, b3⟩ := hr _ _ _ _ B V1 (by rw [ll]; omega) hi2 hb (sa_sf hs a3) a2
      obtain ⟨V3, c1, c2, c3⟩ := sa_pop b2 c'.1 (by omega) (by omega) t4
      have hb2 : sl_b D pr (sl_c n N pr fit D d (sl_u u k) (sl_t t p) (R ++ [(k, p)]) (s + pr k) B) := by
        obtain ⟨e1, e2⟩ := sl_eq hD hS hp d _ _ _ _ B hi2 (by rw [ll]; omega) hb
        rw [e1]; exact e2
      have f3 := fr_tr a3 (fr_tr b3 c3)
      obtain ⟨V4, d1, d2, d3, d4⟩ := ih (p + 1) m _ V3 (by omega) (by omega) hb2 (sa_sf hs f3) c2
      rw [ll, ← nI_1] at b1
      have e39 : iz_g V1 (iz_rf (iz_rf 45 6) 3) (nI k) = nI (pr k) := by
        rw [show iz_rf (iz_rf 45 6) 3 = 39 from rfl, g_nI _ _ (show k < 2 ^ 31 by omega), a3 39 k rfl]
        exact hs.2.2.1 k kn
      refine ⟨V4, ?_, d2, d3, fr_tr f3 d4⟩
      rw [a1, bV_s, i2, ck_t, e39, nI_add, b1, bV_s, c1, bV_s, Sa_tryRows_89, nI_1]
      exact d1
    · have c0 : (!u k && fit k p (t p)) = false := by simpa using c
      rw [c0, if_pos (show bI_ false = 0 from rfl), Sa_tryRows_89, nI_1]
      obtain ⟨V4, d1, d2, d3, d4⟩ := ih (p + 1) m B V (by omega) (by omega) hb hs h
      exact ⟨V4, d1, d2, d3, d4⟩
theorem sa_23 {n N : Nat} {pr : Nat → Nat} {fit : Nat → Nat → Nat → Bool} {D : List Nat} (hD : ∀ k p t, k < n → p < N → t < 4 → fit k p t = true → k ∈ D) (hS : D.Pairwise (fun a b => pr b ≤ pr a)) (hp : ∀ k, k ∈ D → 1 ≤ pr k) (hz : sa_z n N pr D) {d : Nat} {rc : Nat → Int32 → Int32 → iz_S → Option iz_S} (hr : sa_R n N pr fit D d rc) {u : Nat → Bool} {t : Nat → Nat} {R : List (Nat × Nat)} {s : Nat} (hl : R.length + (d + 1) = 4) (hi : sl_i D pr u t R s) : ∀ (j k m : Nat) (B : sl_B) (V : iz_S), k + j = n → j < m → sl_b D pr B → sa_s V n N pr fit D → sa_d V u t R B →
    ∃ V2, Sa_tryRows_23 45 rc m (nI R.length) (nI s) (nI k) V = some V2 ∧ sa_d V2 u t R (itr (fun k B => itr (fun p B => if (!u k && fit k p (t p)) = true then sl_c n N pr fit D d (sl_u u k) (sl_t t p) (R ++ [(k, p)]) (s + pr k) B else B) 0 N B) k j B) ∧ fr fsa V V2 := by
  have z1 := hz.1
  have z2 := hz.2.1
  have r6 : iz_rf 45 6 = 38 := rfl
  intro j
  induction j with
  | zero =>
    intro k m B V hj hm hb hs h
    obtain ⟨m, rfl⟩ : ∃ q, m = q + 1 := ⟨m - 1, by omega⟩
    have lt : ¬ nI k < nI n := nI_nlt (by omega) (by omega)
    refine ⟨V, ?_, h, fr_rf _ _⟩
    show Sa_tryRows_23b 45 rc (Sa_tryRows_23 45 rc m) (nI R.length) (nI s) (nI k) V = _
    rw [Sa_tryRows_23b, r6, hs.2.1, if_neg lt]
  | succ j ih =>
    intro k m B V hj hm hb hs h
    obtain ⟨m, rfl⟩ : ∃ q, m = q + 1 := ⟨m - 1, by omega⟩
    have lt : nI k < nI n := nI_lt (by omega) (by omega)
    obtain ⟨V1, a1, a2, a3, a4⟩ := sa_37 hD hS hp hz hr hl hi (show k < n by omega) (Sa_tryRows_23 45 rc m) N 0 iz_FU B V (by omega) (by have := fu_ge; omega) hb hs h
    obtain ⟨V2, b1, b2, b3⟩ := ih (k + 1) m _ V1 (by omega) (by omega) a3 (sa_sf hs a4) a2
    refine ⟨V2, ?_, b2, fr_tr a4 b3⟩
    show Sa_tryRows_23b 45 rc (Sa_tryRows_23 45 rc m) (nI R.length) (nI s) (nI k) V = _
    rw [Sa_tryRows_23b, r6, hs.2.1, if_pos lt]
    exact Eq.trans a1 b1
theorem sa_rows {n N : Nat} {pr : Nat → Nat} {fit : Nat → Nat → Nat → Bool} {D : List Nat} (hD : ∀ k p t, k < n → p < N → t < 4 → fit k p t = true → k ∈ D) (hS : D.Pairwise (fun a b => pr b ≤ pr a)) (hp : ∀ k, k ∈ D → 1 ≤ pr k) (hz : sa_z n N pr D) : ∀ (d F : Nat), d < F → sa_R n N pr fit D d (Sa_tryRows F) := by
  intro d
  induction d with
  | zero =>
    intro F hF u t R s B V hl hi hb hs h
    obtain ⟨F, rfl⟩ : ∃ q, F = q + 1 := ⟨F - 1, by omega⟩
    obtain ⟨V1, a1, a2, a3⟩ := sa_keep hz hi hb (by omega) h
    refine ⟨V1, ?_, a2, a3⟩
    show Sa_tryRows_b 45 (Sa_tryRows F) (nI R.length) (nI s) V = _
    rw [Sa_tryRows_b, a1, bV_s, if_neg (show ¬ nI R.length < 4 from nI_nlt (b := 4) (by omega) (by omega)), Sa_tryRows_20]
  | succ d ih =>
    intro F hF u t R s B V hl hi hb hs h
    obtain ⟨F, rfl⟩ : ∃ q, F = q + 1 := ⟨F - 1, by omega⟩
    obtain ⟨V1, a1, a2, a3⟩ := sa_keep hz hi hb (by omega) h
    have hb1 := sl_kb hi (show R.length ≤ 4 by omega) hb
    have hs1 := sa_sf hs a3
    have may := sa_may hs1 hz hi hb1 hl a2
    have head : Sa_tryRows (F + 1) 45 (nI R.length) (nI s) V = if (if s + sl_d pr u (d + 1) D ≤ (sl_k s R B).1 then (0 : Int32) else 1) = 0 then Sa_tryRows_20 45 (Sa_tryRows F) V1 else Sa_tryRows_23 45 (Sa_tryRows F) iz_FU (nI R.length) (nI s) 0 V1 := by
      show Sa_tryRows_b 45 (Sa_tryRows F) (nI R.length) (nI s) V = _
      rw [Sa_tryRows_b, a1, bV_s, if_pos (show nI R.length < 4 from nI_lt (b := 4) (by omega) (by decide)), may, bI_s]
    rw [head, sl_c]
    by_cases c : s + sl_d pr u (d + 1) D ≤ (sl_k s R B).1
    · rw [if_pos c, if_pos rfl, if_pos c, Sa_tryRows_20]
      exact ⟨V1, rfl, a2, a3⟩
    · rw [if_neg c, if_neg (by decide), if_neg c]
      obtain ⟨V2, b1, b2, b3⟩ := sa_23 hD hS hp hz (ih F (by omega)) hl hi n 0 iz_FU _ V1 (by omega) (by have := fu_ge; have := hz.1; omega) hb1 hs1 a2
      exact ⟨V2, b1, b2, fr_tr a3 b3⟩
