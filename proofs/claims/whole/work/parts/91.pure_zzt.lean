/-! PURE: sales, class: one row more -/
def sa_s (V : iz_S) (n N : Nat) (pr : Nat → Nat) (fit : Nat → Nat → Nat → Bool) (D : List Nat) : Prop := V.1 45 7 = nI N ∧ V.1 38 0 = nI n ∧ (∀ k, k < n → V.1 39 k = nI (pr k)) ∧ V.1 45 10 = nI D.length ∧ (∀ i k, D[i]? = some k → V.1 50 i = nI k) ∧ ∀ k p t, k < n → p < N → t < 4 → V.1 49 ((k * 3 + p) * 4 + t) = bI_ (fit k p t)
/-- sizes -/
def sa_z (n N : Nat) (pr : Nat → Nat) (D : List Nat) : Prop := n ≤ 10 ∧ N ≤ 3 ∧ (∀ k, pr k ≤ 1000) ∧ D.length ≤ 10 ∧ ∀ k, k ∈ D → k < n
def sa_d (V : iz_S) (u : Nat → Bool) (t : Nat → Nat) (R : List (Nat × Nat)) (B : sl_B) : Prop := (∀ k, k < 10 → V.1 51 k = bI_ (u k)) ∧ (∀ p, p < 3 → V.1 52 p = nI (t p)) ∧ (∀ i x, R[i]? = some x → V.1 53 i = nI x.1 ∧ V.1 54 i = nI x.2) ∧ V.1 45 1 = nI B.1 ∧ V.1 45 2 = nI B.2.length ∧ ∀ i x, B.2[i]? = some x → V.1 47 i = nI x.1 ∧ V.1 48 i = nI x.2
def fsa (p i : Nat) : Bool := p == 45 && (i == 1 || i == 2) || p == 47 || p == 48 || p == 51 || p == 52 || p == 53 || p == 54
theorem sa_sf {V W : iz_S} {n N : Nat} {pr : Nat → Nat} {fit : Nat → Nat → Nat → Bool} {D : List Nat} (h : sa_s V n N pr fit D) (hf : fr fsa V W) : sa_s W n N pr fit D :=
  ⟨(hf 45 7 rfl).trans h.1, (hf 38 0 rfl).trans h.2.1, fun k hk => (hf 39 k rfl).trans (h.2.2.1 k hk), (hf 45 10 rfl).trans h.2.2.2.1, fun i k e => (hf 50 i rfl).trans (h.2.2.2.2.1 i k e), fun k p t h1 h2 h3 => (hf 49 _ rfl).trans (h.2.2.2.2.2 k p t h1 h2 h3)⟩
theorem sl_sl {pr : Nat → Nat} (hp : ∀ k, pr k ≤ 1000) : ∀ X : List (Nat × Nat), sl_s pr X ≤ 1000 * X.length
  | [] => Nat.le_refl 0
  | x :: X => by
    have := sl_sl hp X
    have := hp x.1
    rw [sl_s, List.length_cons]
    omega
theorem sa_keep {V : iz_S} {n N : Nat} {pr : Nat → Nat} {D : List Nat} {u : Nat → Bool} {t : Nat → Nat} {R : List (Nat × Nat)} {s : Nat} {B : sl_B} (hz : sa_z n N pr D) (hi : sl_i D pr u t R s) (hb : sl_b D pr B) (hl : R.length ≤ 4) (h : sa_d V u t R B) : ∃ V2, Sa_keepIfBetter 45 (nI R.length) (nI s) V = some V2 ∧ sa_d V2 u t R (sl_k s R B) ∧ fr fsa V V2 := by
  have q1 := sl_sl hz.2.2.1 R
  have q2 := sl_sl hz.2.2.1 B.2
  have e1 := hi.2.2.1
  have e2 := hb.2.1
  have e3 := hb.2.2
  have le : (nI s ≤ nI B.1) = (s ≤ B.1) := nI_leP (by omega) (by omega)
  have eq : (nI s = nI B.1) = (s = B.1) := propext (nI_eq (by omega) (by omega))
  have lt : (nI R.length < nI B.2.length) = (R.length < B.2.length) := propext (nI_ltI (by omega) (by omega))
  have t0 : Int32.toNatClampNeg 0 = 0 := by decide +kernel
  have tr := nI_clamp (show R.length < 2 ^ 31 by omega)
  have ck : iz_cpk 0 0 (nI R.length) 4 4 = true := by
    unfold iz_cpk
    have np : ¬ nI R.length < 0 := nI_pos (by omega)
    rw [tr, t0]
    simp [np, hl]
  have k24 : ∃ V2, Sa_keepIfBetter_24 45 (nI R.length) (nI s) V = some V2 ∧ sa_d V2 u t R (s, R) ∧ fr fsa V V2 := by
    obtain ⟨W, hW⟩ : ∃ W, W = iz_up (iz_up V 45 1 (nI s)) 45 2 (nI R.length) := ⟨_, rfl⟩
    have fW : fr (fun p i => p == 45 && (i == 1 || i == 2)) V W := by rw [hW]; exact fr_up (fr_up (fr_rf _ _) rfl) rfl
    obtain ⟨Y, hY⟩ : ∃ Y, Y = iz_cpy (iz_cpy W 53 0 47 0 R.length) 54 0 48 0 R.length := ⟨_, rfl⟩
    have y47 : Y.1 47 = va_cpy (W.1 53) (W.1 47) 0 0 R.length := by rw [hY]; rfl
    have y48 : Y.1 48 = va_cpy (W.1 54) (W.1 48) 0 0 R.length := by rw [hY]; rfl
    have yo : ∀ p, p ≠ 47 → p ≠ 48 → Y.1 p = W.1 p := fun p h1 h2 => by
      rw [hY]
      have a1 : (iz_cpy (iz_cpy W 53 0 47 0 R.length) 54 0 48 0 R.length).1 p = (iz_cpy W 53 0 47 0 R.length).1 p := if_neg h2
      have a2 : (iz_cpy W 53 0 47 0 R.length).1 p = W.1 p := if_neg h1
      rw [a1, a2]
    have yf : ∀ p i, p ≠ 47 → p ≠ 48 → p ≠ 45 → Y.1 p i = V.1 p i := fun p i h1 h2 h3 => by
      rw [yo p h1 h2, fW p i (by simp [h3])]
    refine ⟨Y, ?_, ⟨fun k hk => ?_, fun p hp => ?_, fun i x hx => ?_, ?_, ?_, fun i x hx => ?_⟩, fun p i hp => ?_⟩
    · rw [Sa_keepIfBetter_24, lt_e, lt_e, ck, ck_t, lt_e, ck_t, lt_e, t0, tr, show iz_rf 45 13 = 53 from rfl, show iz_rf 45 3 = 47 from rfl, show iz_rf 45 14 = 54 from rfl, show iz_rf 45 4 = 48 from rfl, Sa_keepIfBetter_62, hY, hW]
    · rw [yf 51 k (by decide) (by decide) (by decide)]; exact h.1 k hk
    · rw [yf 52 p (by decide) (by decide) (by decide)]; exact h.2.1 p hp
    · rw [yf 53 i (by decide) (by decide) (by decide), yf 54 i (by decide) (by decide) (by decide)]; exact h.2.2.1 i x hx
    · rw [yo 45 (by decide) (by decide), hW, up_ne _ _ _ _ (by omega), up_same]
    · rw [yo 45 (by decide) (by decide), hW, up_same]
    · have il : i < R.length := (List.getElem?_eq_some_iff.mp hx).1
      rw [y47, y48, pk_cpy_in (Nat.zero_le _) (by omega), pk_cpy_in (Nat.zero_le _) (by omega), Nat.zero_add, Nat.sub_zero, fW 53 i rfl, fW 54 i rfl]
      exact h.2.2.1 i x hx
    · simp only [fsa, Bool.or_eq_false_iff, Bool.and_eq_false_iff, beq_eq_false_iff_ne] at hp
      rw [yo p (by omega) (by omega), fW p i (by simp; omega)]
  have e62 : ∃ V2, Sa_keepIfBetter_62 45 V = some V2 ∧ sa_d V2 u t R B ∧ fr fsa V V2 := ⟨V, rfl, h, fr_rf _ _⟩
  rw [Sa_keepIfBetter, h.2.2.2.1, h.2.2.2.2.1]
  unfold sl_k
  by_cases c1 : s ≤ B.1
  · rw [if_pos (le.mpr c1)]
    by_cases c2 : s = B.1
    · rw [if_pos (eq.mpr c2)]
      by_cases c3 : R.length < B.2.length
      · rw [if_pos (lt.mpr c3), if_pos (Or.inr ⟨c2, c3⟩)]
        exact k24
      · rw [if_neg (fun q => c3 (lt.mp q)), if_neg (by omega)]
        exact e62
    · rw [if_neg (fun q => c2 (eq.mp q)), if_neg (by omega)]
      exact e62
  · rw [if_neg (fun q => c1 (le.mp q)), if_pos (by omega)]
    exact k24
theorem sl_d0 (pr : Nat → Nat) (u : Nat → Bool) (L : List Nat) : sl_d pr u 0 L = 0 := by cases L <;> rfl
theorem bI_0 (b : Bool) : (bI_ b = 0) = (b = false) := by cases b <;> simp [bI_]
theorem sa_dear {V : iz_S} {n N : Nat} {pr : Nat → Nat} {fit : Nat → Nat → Nat → Bool} {D : List Nat} {u : Nat → Bool} (hs : sa_s V n N pr fit D) (hz : sa_z n N pr D) (h51 : ∀ k, k < 10 → V.1 51 k = bI_ (u k)) : ∀ (j i m a q : Nat), i + j = D.length → j < m → q ≤ 4 → Sa_dearest_7 45 m (nI a) (nI q) (nI i) V = some (nI (a + sl_d pr u q (D.drop i)), V) := by
  have z1 := hz.1
  have z4 := hz.2.2.2.1
  intro j
  induction j with
  | zero =>
    intro i m a q hj hm hq
    obtain ⟨m, rfl⟩ : ∃ k, m = k + 1 := ⟨m - 1, by omega⟩
    have lt : ¬ nI i < nI D.length := nI_nlt (by omega) (by omega)
    have d0 : D.drop i = [] := List.drop_eq_nil_of_le (by omega)
    have e0 : sl_d pr u q [] = 0 := by cases q <;> rfl
    show Sa_dearest_7b 45 (Sa_dearest_7 45 m) (nI a) (nI q) (nI i) V = _
    rw [Sa_dearest_7b, hs.2.2.2.1, if_neg lt, Sa_dearest_62, d0, e0]
    rfl
  | succ j ih =>
    intro i m a q hj hm hq
    obtain ⟨m, rfl⟩ : ∃ k, m = k + 1 := ⟨m - 1, by omega⟩
    have lt : nI i < nI D.length := nI_lt (by omega) (by omega)
    obtain ⟨k, hk⟩ : ∃ k, D[i]? = some k := ⟨_, List.getElem?_eq_getElem (show i < D.length by omega)⟩
    have kD : k ∈ D := List.mem_of_getElem? hk
    have kn := hz.2.2.2.2 k kD
    have i1 := in_ok (n := i) (N := 10) (by omega) (by decide)
    have i2 := in_ok (n := k) (N := 10) (by omega) (by decide)
    have dr : D.drop i = k :: D.drop (i + 1) := by
      obtain ⟨hl, e⟩ := List.getElem?_eq_some_iff.mp hk
      rw [List.drop_eq_getElem_cons hl, e]
    show Sa_dearest_7b 45 (Sa_dearest_7 45 m) (nI a) (nI q) (nI i) V = _
    rw [Sa_dearest_7b, hs.2.2.2.1, if_pos lt]
    cases q with
    | zero =>
      rw [if_pos (show nI 0 ≤ 0 by decide +kernel), Sa_dearest_62, sl_d0]
      rfl
    | succ q =>
      have np : ¬ nI (q + 1) ≤ 0 := by rw [show (0 : Int32) = nI 0 from rfl, nI_leP (by omega) (by decide)]; omega
      have e39 := hs.2.2.1 k kn
      have qm : nI (q + 1) + (-1) = nI q := by
        have : q = 0 ∨ q = 1 ∨ q = 2 ∨ q = 3 := by omega
        rcases this with rfl | rfl | rfl | rfl <;> decide +kernel
      rw [if_neg np, i1, ck_t, show iz_rf 45 9 = 50 from rfl, g_nI _ _ (show i < 2 ^ 31 by omega), hs.2.2.2.2.1 i k hk, i2, ck_t, show iz_rf 45 11 = 51 from rfl, g_nI _ _ (show k < 2 ^ 31 by omega), h51 k (by omega), dr, sl_d]
      by_cases hu : u k = true
      · rw [if_neg (by rw [bI_0, hu]; decide), if_pos hu, Sa_dearest_56, nI_1]
        exact ih (i + 1) m a (q + 1) (by omega) (by omega) hq
      · have hu2 : u k = false := by simpa using hu
        rw [if_pos (by rw [bI_0]; exact hu2), if_neg hu, ck_t, ck_t, lt_e, show iz_rf (iz_rf 45 6) 3 = 39 from rfl, g_nI _ _ (show k < 2 ^ 31 by omega), e39, nI_add, Sa_dearest_56, qm, nI_1, ih (i + 1) m _ q (by omega) (by omega) (by omega), Nat.add_assoc]
theorem sl_dle {pr : Nat → Nat} {u : Nat → Bool} (hp : ∀ k, pr k ≤ 1000) : ∀ (D : List Nat) (m : Nat), sl_d pr u m D ≤ 1000 * m
  | L, 0 => by rw [sl_d0]; exact Nat.zero_le _
  | [], m + 1 => Nat.zero_le _
  | k :: D, m + 1 => by
    have h1 := sl_dle (u := u) hp D (m + 1)
    have h2 := sl_dle (u := u) hp D m
    have := hp k
    rw [sl_d]
    split <;> omega
theorem sa_may {V : iz_S} {n N : Nat} {pr : Nat → Nat} {fit : Nat → Nat → Nat → Bool} {D : List Nat} {u : Nat → Bool} {t : Nat → Nat} {R : List (Nat × Nat)} {s d : Nat} {B : sl_B} (hs : sa_s V n N pr fit D) (hz : sa_z n N pr D) (hi : sl_i D pr u t R s) (hb : sl_b D pr B) (hl : R.length + d = 4) (h : sa_d V u t R B) : Sa_mayImprove 45 (nI R.length) (nI s) V = some (if s + sl_d pr u d D ≤ B.1 then 0 else 1, V) := by
  have e := sa_dear hs hz h.1 D.length 0 iz_FU 0 d (by omega) (by have := fu_ge; have := hz.2.2.2.1; omega) (by omega)
  have q0 := sl_dle (u := u) hz.2.2.1 D d
  have q1 := sl_sl hz.2.2.1 R
  have q2 := sl_sl hz.2.2.1 B.2
  have e1 := hi.2.2.1
  have e2 := hb.2.1
  have e3 := hb.2.2
  have e4 : (4 : Int32) - nI R.length = nI d := by
    rw [show (4 : Int32) = nI 4 from rfl, nI_sb (by omega) (by decide)]
    congr 1
    omega
  have le : (nI (s + sl_d pr u d D) ≤ nI B.1) = (s + sl_d pr u d D ≤ B.1) := nI_leP (by omega) (by omega)
  rw [Nat.zero_add, List.drop_zero] at e
  rw [Sa_mayImprove, e4, Sa_dearest, show Sa_dearest_7 45 iz_FU 0 (nI d) 0 V = _ from e, bI_s, nI_add, h.2.2.2.1]
  by_cases c : s + sl_d pr u d D ≤ B.1
  · rw [if_pos (le.mpr c), if_pos c, Sa_mayImprove_21]; rfl
  · rw [if_neg (fun q => c (le.mp q)), if_neg c, Sa_mayImprove_21]; rfl
theorem sa_serve {V : iz_S} {n N : Nat} {pr : Nat → Nat} {fit : Nat → Nat → Nat → Bool} {D : List Nat} {u : Nat → Bool} {t : Nat → Nat} {R : List (Nat × Nat)} {B : sl_B} (hs : sa_s V n N pr fit D) (hz : sa_z n N pr D) (h : sa_d V u t R B) {k p : Nat} (kn : k < n) (pN : p < N) (t4 : t p < 4) : Sa_mayServe 45 (nI k) (nI p) V = some (bI_ (!u k && fit k p (t p)), V) := by
  have z1 := hz.1
  have z2 := hz.2.1
  have i1 := in_ok (n := k) (N := 10) (by omega) (by decide)
  have i2 := in_ok (n := p) (N := 3) (by omega) (by decide)
  have iv : (0 : Int32) ≤ nI (t p) ∧ nI (t p) ≤ 3 := ⟨nI_pos' (by omega), nI_le (b := 3) (by omega) (by decide)⟩
  have sl : nI k * 3 + nI p = nI (k * 3 + p) := by rw [show (3 : Int32) = nI 3 from rfl, pk_mul, nI_add]
  have sl2 : nI (k * 3 + p) * 4 + nI (t p) = nI ((k * 3 + p) * 4 + t p) := by rw [show (4 : Int32) = nI 4 from rfl, pk_mul, nI_add]
  have i3 := in_ok (n := (k * 3 + p) * 4 + t p) (N := 120) (by omega) (by decide)
  have e0 : Sa_mayServe_46 45 V = some (0, V) := by rw [Sa_mayServe_46, Sa_mayServe_47]; rfl
  have e1 : Sa_mayServe_47 45 1 V = some (1, V) := by rw [Sa_mayServe_47]; rfl
  rw [Sa_mayServe, i1, ck_t, show iz_rf 45 11 = 51 from rfl, g_nI _ _ (show k < 2 ^ 31 by omega), h.1 k (by omega)]
  cases hu : u k with
  | true => rw [if_neg (by decide), e0]; rfl
  | false =>
    rw [if_pos (show bI_ false = 0 from rfl), i2, ck_t, show iz_rf 45 12 = 52 from rfl, g_nI _ _ (show p < 2 ^ 31 by omega), h.2.1 p (by omega), ic_within, if_pos iv, bI_s, if_neg (by decide), ck_t, g_nI _ _ (show p < 2 ^ 31 by omega), h.2.1 p (by omega), Sa_slot, sl, sl2, bI_s, i3, ck_t, show iz_rf 45 8 = 49 from rfl, g_nI _ _ (show (k * 3 + p) * 4 + t p < 2 ^ 31 by omega), hs.2.2.2.2.2 k p (t p) kn pN t4]
    cases hf : fit k p (t p) with
    | true => rw [if_neg (by decide), e1]; rfl
    | false => rw [if_pos (show bI_ false = 0 from rfl), e0]; rfl
