/-! PURE: loops that go through a row: scrape, snow -/
/-- the numbers at c .. c + j - 1 of some places become new ones -/
def mp (S : iz_S) (G : Nat → Nat → Option Int32) (c j : Nat) : iz_S := (fun q i => if c ≤ i ∧ i < c + j then (G q i).getD (S.1 q i) else S.1 q i, S.2)
theorem mp_0 (S : iz_S) (G : Nat → Nat → Option Int32) (c : Nat) : mp S G c 0 = S := by
  unfold mp
  have : (fun q i => if c ≤ i ∧ i < c + 0 then (G q i).getD (S.1 q i) else S.1 q i) = S.1 := by
    funext q i
    rw [if_neg (by omega)]
  rw [this]
theorem mp_step {S T : iz_S} {G : Nat → Nat → Option Int32} {c j : Nat} (h : ∀ q i, T.1 q i = if i = c then (G q i).getD (S.1 q i) else S.1 q i) (h2 : T.2 = S.2) : mp T G (c + 1) j = mp S G c (j + 1) := by
  unfold mp
  rw [h2]
  congr 1
  funext q i
  rw [h q i]
  by_cases e : i = c
  · subst e
    rw [if_neg (by omega), if_pos rfl, if_pos (by omega)]
  · rw [if_neg e]
    by_cases e2 : c + 1 ≤ i ∧ i < c + 1 + j
    · rw [if_pos e2, if_pos (by omega)]
    · rw [if_neg e2, if_neg (by omega)]
theorem mp_in {S : iz_S} {G : Nat → Nat → Option Int32} {c j q i : Nat} (h : c ≤ i ∧ i < c + j) : (mp S G c j).1 q i = (G q i).getD (S.1 q i) := if_pos h
theorem mp_out {S : iz_S} {G : Nat → Nat → Option Int32} {c j q i : Nat} (h : ¬ (c ≤ i ∧ i < c + j)) : (mp S G c j).1 q i = S.1 q i := if_neg h
theorem mp_no {S : iz_S} {G : Nat → Nat → Option Int32} {c j q : Nat} (h : ∀ i, G q i = none) : (mp S G c j).1 q = S.1 q := by
  funext i
  by_cases e : c ≤ i ∧ i < c + j
  · rw [mp_in e, h i]; rfl
  · rw [mp_out e]
theorem mp_fr {S : iz_S} {G : Nat → Nat → Option Int32} {c j : Nat} {ch : Nat → Nat → Bool} (h : ∀ q i, ch q i = false → G q i = none) : fr ch S (mp S G c j) := fun q i hq => by
  by_cases e : c ≤ i ∧ i < c + j
  · rw [mp_in e, h q i hq]; rfl
  · rw [mp_out e]
/-- a sum that grows -/
def ac (f : Nat → Int32) : Nat → Nat → Int32 → Int32
  | _, 0, a => a
  | c, j + 1, a => ac f (c + 1) j (a + f c)
theorem ac_cong {f g : Nat → Int32} : ∀ {j c : Nat} {a : Int32}, (∀ i, c ≤ i → i < c + j → f i = g i) → ac f c j a = ac g c j a
  | 0, _, _, _ => rfl
  | j + 1, c, a, h => by
    unfold ac
    rw [h c (Nat.le_refl c) (by omega)]
    exact ac_cong (fun i h1 h2 => h i (by omega) (by omega))
theorem fu_ge : 20000 ≤ iz_FU := Nat.le_refl _
theorem nI_8 (r : Nat) : nI r * 8 = nI (8 * r) := by
  have : (8 : Int32) = nI 8 := rfl
  rw [this, pk_mul, Nat.mul_comm]
theorem nI_8' (r : Nat) : (8 : Int32) * nI r = nI (8 * r) := by
  have : (8 : Int32) = nI 8 := rfl
  rw [this, pk_mul]
theorem nI_p8 (r : Nat) : nI r + 8 = nI (r + 8) := nI_add r 8
def gZ (p : Nat) : Nat → Nat → Option Int32 := fun q _ => if q = p then some 0 else none
theorem la_clear (r : Nat) (hr : r < 8) (S0 : iz_S) : ∀ (j c n : Nat) (a : Int32) (S : iz_S), c + j = 8 * r + 8 → j < n → (∀ i, c ≤ i → S.1 3 i = S0.1 3 i) → La_clearRow_7 1 n (nI r) a (nI c) S = some (ac (S0.1 3) c j a, mp S (gZ 3) c j) := by
  intro j
  induction j with
  | zero =>
    intro c n a S hcj hn hS
    obtain ⟨m, rfl⟩ : ∃ m, n = m + 1 := ⟨n - 1, by omega⟩
    have hc : ¬ nI c < nI r * 8 + 8 := by
      rw [nI_8, nI_p8]
      exact nI_nlt (by omega) (by omega)
    show La_clearRow_7b 1 (La_clearRow_7 1 m) (nI r) a (nI c) S = _
    simp only [La_clearRow_7b, if_neg hc, mp_0, ac]
  | succ j ih =>
    intro c n a S hcj hn hS
    obtain ⟨m, rfl⟩ : ∃ m, n = m + 1 := ⟨n - 1, by omega⟩
    have hc : nI c < nI r * 8 + 8 := by
      rw [nI_8, nI_p8]
      exact nI_lt (by omega) (by omega)
    show La_clearRow_7b 1 (La_clearRow_7 1 m) (nI r) a (nI c) S = _
    simp only [La_clearRow_7b, if_pos hc, ck_t, lt_e, bI_s, bL_s, bV_s, one_n0, zero_0, if_true, if_false, rfs, ic_exchange sh_3 (show c < 64 by omega) (by decide), nI_1]
    rw [ih (c + 1) m (a + S.1 3 c) (iz_up S 3 c 0) (by omega) (by omega) (fun i hi => by rw [up_ne _ _ _ _ (Or.inr (by omega))]; exact hS i (by omega))]
    rw [mp_step (S := S) (T := iz_up S 3 c 0) (fun q i => ?_) rfl, hS c (Nat.le_refl c)]
    · rfl
    · by_cases e : i = c
      · subst e
        by_cases e2 : q = 3
        · subst e2; simp [upA, upd, gZ]
        · simp [upA, gZ, e2]
      · rw [if_neg e, up_ne _ _ _ _ (Or.inr e)]
theorem mo_clear (r : Nat) (hr : r < 8) (S0 : iz_S) : ∀ (j c n : Nat) (a : Int32) (S : iz_S), c + j = 8 * r + 8 → j < n → (∀ i, c ≤ i → S.1 84 i = S0.1 84 i) → Mo_scrape_23 82 n (nI r) a (nI c) S = some (ac (S0.1 84) c j a, mp S (gZ 84) c j) := by
  intro j
  induction j with
  | zero =>
    intro c n a S hcj hn hS
    obtain ⟨m, rfl⟩ : ∃ m, n = m + 1 := ⟨n - 1, by omega⟩
    have hc : ¬ nI c < (8 : Int32) * nI r + 8 := by
      rw [nI_8', nI_p8]
      exact nI_nlt (by omega) (by omega)
    show Mo_scrape_23b 82 (Mo_scrape_23 82 m) (nI r) a (nI c) S = _
    simp only [Mo_scrape_23b, if_neg hc, mp_0, ac]
  | succ j ih =>
    intro c n a S hcj hn hS
    obtain ⟨m, rfl⟩ : ∃ m, n = m + 1 := ⟨n - 1, by omega⟩
    have hc : nI c < (8 : Int32) * nI r + 8 := by
      rw [nI_8', nI_p8]
      exact nI_lt (by omega) (by omega)
    have i1 := in_ok (n := c) (N := 64) (by omega) (by decide)
    show Mo_scrape_23b 82 (Mo_scrape_23 82 m) (nI r) a (nI c) S = _
    simp only [Mo_scrape_23b, if_pos hc, ck_t, lt_e, bI_s, bL_s, bV_s, one_n0, zero_0, if_true, if_false, rfs, i1, g_nI _ _ (show c < 2 ^ 31 by omega), s_nI _ _ (show c < 2 ^ 31 by omega), nI_1]
    rw [ih (c + 1) m (a + S.1 84 c) (iz_up S 84 c 0) (by omega) (by omega) (fun i hi => by rw [up_ne _ _ _ _ (Or.inr (by omega))]; exact hS i (by omega))]
    rw [mp_step (S := S) (T := iz_up S 84 c 0) (fun q i => ?_) rfl, hS c (Nat.le_refl c)]
    · rfl
    · by_cases e : i = c
      · subst e
        by_cases e2 : q = 84
        · subst e2; simp [upA, upd, gZ]
        · simp [upA, gZ, e2]
      · rw [if_neg e, up_ne _ _ _ _ (Or.inr e)]
theorem pc_scrape {S : iz_S} (h : rl S) (x : Int32) : pc (Ic_scrape 0 x) (Mo_scrape 82 x) S := by
  by_cases h1 : 0 ≤ x ∧ x ≤ 7
  · obtain ⟨r, -, r2, rfl⟩ := nI_btw (a := 0) (b := 7) (by decide) h1.1 h1.2 (by decide)
    obtain ⟨S1, hS1⟩ : ∃ S1, S1 = mp S (gZ 3) (8 * r) 8 := ⟨_, rfl⟩
    obtain ⟨S2, hS2⟩ : ∃ S2, S2 = mp S1 (gZ 84) (8 * r) 8 := ⟨_, rfl⟩
    refine pc_of (r := ac (S.1 3) (8 * r) 8 0) (S1 := S1) (S2 := S2) ?_ ?_ ?_
    · have := la_clear r (by omega) S 8 (8 * r) iz_FU 0 S (by omega) (by have := fu_ge; omega) (fun _ _ => rfl)
      simp only [Ic_scrape, ic_within, La_clearRow, ck_t, lt_e, bI_s, bL_s, bV_s, one_n0, zero_0, if_true, if_false, rfs, if_pos h1, nI_8, this]
      rw [hS1]
    · have := mo_clear r (by omega) S1 8 (8 * r) iz_FU 0 S1 (by omega) (by have := fu_ge; omega) (fun _ _ => rfl)
      have e : ac (S1.1 84) (8 * r) 8 0 = ac (S.1 3) (8 * r) 8 0 := ac_cong (fun i i1 i2 => by
        rw [hS1, mp_no (fun _ => rfl)]
        exact (h.1 i (by omega)).2.1)
      simp only [Mo_scrape, mo_isIn, ck_t, lt_e, bI_s, bL_s, bV_s, one_n0, zero_0, if_true, if_false, rfs, if_pos h1, nI_8', this, e]
      rw [hS2]
    · have hf : fr (fun p _ => p == 3 || p == 84) S S2 := by
        rw [hS2, hS1]
        refine fr_tr (mp_fr (fun q i hq => ?_)) (mp_fr (fun q i hq => ?_))
        · simp only [Bool.or_eq_false_iff, beq_eq_false_iff_ne] at hq
          exact if_neg hq.1
        · simp only [Bool.or_eq_false_iff, beq_eq_false_iff_ne] at hq
          exact if_neg hq.2
      refine ⟨fun c hc => ?_, st_shel hf (fun _ => ⟨rfl, rfl, rfl, rfl, rfl, rfl⟩) h.2.1, st_house hf (fun _ => ⟨rfl, rfl, rfl, rfl, rfl, rfl, rfl, rfl, rfl, rfl, rfl, rfl⟩) rfl rfl (fun _ _ => rfl) h.2.2.1, st_ord hf (fun _ => ⟨rfl, rfl, rfl, rfl, rfl, rfl, rfl, rfl, rfl, rfl, rfl, rfl, rfl⟩) rfl rfl h.2.2.2.1, st_rail hf (fun _ => ⟨rfl, rfl, rfl, rfl, rfl, rfl, rfl⟩) rfl h.2.2.2.2.1, st_wait hf (fun _ => ⟨rfl, rfl, rfl⟩) rfl h.2.2.2.2.2.1, st_sale hf (fun _ => ⟨rfl, rfl⟩) h.2.2.2.2.2.2.1, st_found hf (fun _ => ⟨rfl, rfl⟩) h.2.2.2.2.2.2.2⟩
      obtain ⟨g1, g2, g3, t, w, m, t1, w1, m1, e1, e2, e3, e4⟩ := h.1 c hc
      rw [hf 83 c rfl, hf 2 c rfl, hf 85 c rfl, hf 4 c rfl]
      have z84 : S2.1 84 c = if 8 * r ≤ c ∧ c < 8 * r + 8 then 0 else S.1 84 c := by
        rw [hS2]
        by_cases e : 8 * r ≤ c ∧ c < 8 * r + 8
        · rw [mp_in e, if_pos e]; rfl
        · rw [mp_out e, if_neg e, hS1, mp_out e]
      have z3 : S2.1 3 c = if 8 * r ≤ c ∧ c < 8 * r + 8 then 0 else S.1 3 c := by
        rw [hS2, mp_no (fun _ => rfl), hS1]
        by_cases e : 8 * r ≤ c ∧ c < 8 * r + 8
        · rw [mp_in e, if_pos e]; rfl
        · rw [mp_out e, if_neg e]
      rw [z84, z3]
      by_cases e : 8 * r ≤ c ∧ c < 8 * r + 8
      · rw [if_pos e, if_pos e]
        exact ⟨g1, rfl, g3, t, 0, m, t1, by omega, m1, e1, rfl, e3, fun q => ⟨rfl, (e4 q).2⟩⟩
      · rw [if_neg e, if_neg e]
        exact ⟨g1, g2, g3, t, w, m, t1, w1, m1, e1, e2, e3, e4⟩
  · refine pc_of (r := -1000001) (S1 := iz_up S 81 1 (S.1 81 1 + 1)) ?_ ?_ (rl_find (k := 1) h)
    · simp only [Ic_scrape, ic_within, ck_t, lt_e, bI_s, bL_s, bV_s, one_n0, zero_0, if_true, if_false, rfs, if_neg h1, ic_f1]
    · simp only [Mo_scrape, mo_isIn, ck_t, lt_e, bI_s, bL_s, bV_s, one_n0, zero_0, if_true, if_false, rfs, if_neg h1, mo_f1]
/-- snow on a cell, with n more -/
def sn1 (t w x : Int32) : Int32 := if t ≤ 0 then w else if w + x < 30 then w + x else 30
def gS (S0 : iz_S) (pt ps : Nat) (x : Int32) : Nat → Nat → Option Int32 := fun q i => if q = ps then some (sn1 (S0.1 pt i) (S0.1 ps i) x) else none
theorem la_snow (x : Int32) (S0 : iz_S) : ∀ (j c n : Nat) (a : Int32) (S : iz_S), c + j = 64 → j < n → (∀ i, c ≤ i → S.1 3 i = S0.1 3 i ∧ S.1 2 i = S0.1 2 i) → La_snowOver_4 1 n x a (nI c) S = some (ac (fun i => sn1 (S0.1 2 i) (S0.1 3 i) x) c j a, mp S (gS S0 2 3 x) c j) := by
  intro j
  induction j with
  | zero =>
    intro c n a S hcj hn hS
    obtain ⟨m, rfl⟩ : ∃ m, n = m + 1 := ⟨n - 1, by omega⟩
    have hc : ¬ nI c < 64 := nI_nlt (b := 64) (by omega) (by omega)
    show La_snowOver_4b 1 (La_snowOver_4 1 m) x a (nI c) S = _
    simp only [La_snowOver_4b, if_neg hc, mp_0, ac]
  | succ j ih =>
    intro c n a S hcj hn hS
    obtain ⟨m, rfl⟩ : ∃ m, n = m + 1 := ⟨n - 1, by omega⟩
    have hc : nI c < 64 := nI_lt (b := 64) (by omega) (by omega)
    have i1 := in_ok (n := c) (N := 64) (by omega) (by decide)
    obtain ⟨q3, q2⟩ := hS c (Nat.le_refl c)
    have key : La_snowOver_4b 1 (La_snowOver_4 1 m) x a (nI c) S = La_snowOver_4 1 m x (a + sn1 (S0.1 2 c) (S0.1 3 c) x) (nI (c + 1)) (if S0.1 2 c ≤ 0 then S else iz_up S 3 c (sn1 (S0.1 2 c) (S0.1 3 c) x)) := by
      by_cases ht : S0.1 2 c ≤ 0
      · simp only [La_snowOver_4b, La_snowOver_38, if_pos hc, ck_t, lt_e, bI_s, bL_s, bV_s, one_n0, zero_0, if_true, if_false, rfs, i1, g_nI _ _ (show c < 2 ^ 31 by omega), nI_1, q2, q3, if_pos ht, sn1]
      · simp only [La_snowOver_4b, La_snowOver_38, if_pos hc, ck_t, lt_e, bI_s, bL_s, bV_s, one_n0, zero_0, if_true, if_false, rfs, i1, g_nI _ _ (show c < 2 ^ 31 by omega), s_nI _ _ (show c < 2 ^ 31 by omega), nI_1, q2, q3, if_neg ht, sn1, up_same]
    show La_snowOver_4b 1 (La_snowOver_4 1 m) x a (nI c) S = _
    rw [key, ih (c + 1) m _ _ (by omega) (by omega) (fun i hi => ?_)]
    · have hst : mp (if S0.1 2 c ≤ 0 then S else iz_up S 3 c (sn1 (S0.1 2 c) (S0.1 3 c) x)) (gS S0 2 3 x) (c + 1) j = mp S (gS S0 2 3 x) c (j + 1) := by
        refine mp_step (fun q i => ?_) (by split <;> rfl)
        by_cases ht : S0.1 2 c ≤ 0
        · rw [if_pos ht]
          by_cases e : i = c
          · subst e
            by_cases e2 : q = 3
            · subst e2; simp [gS, sn1, ht, q3]
            · simp [gS, e2]
          · rw [if_neg e]
        · rw [if_neg ht]
          by_cases e : i = c
          · subst e
            by_cases e2 : q = 3
            · subst e2; simp [upA, upd, gS]
            · simp [upA, gS, e2]
          · rw [if_neg e, up_ne _ _ _ _ (Or.inr e)]
      rw [hst]
      rfl
    · by_cases ht : S0.1 2 c ≤ 0
      · rw [if_pos ht]; exact hS i (by omega)
      · rw [if_neg ht, up_ne _ _ _ _ (Or.inr (by omega)), up_ne _ _ _ _ (Or.inr (by omega))]; exact hS i (by omega)
theorem le_lt_30 {y : Int32} : (y ≤ 30 ∧ ¬ y < 30) → y = 30 := by
  rintro ⟨h1, h2⟩
  rw [fa_le] at h1
  rw [fa_lt] at h2
  rw [fa_eq]
  have e : (30 : Int32).toInt = 30 := rfl
  omega
theorem sn_le (w x : Int32) : (if w + x ≤ 30 then w + x else 30) = (if w + x < 30 then w + x else 30) := by
  by_cases h1 : w + x < 30
  · rw [if_pos h1, if_pos (Int32.le_of_lt h1)]
  · rw [if_neg h1]
    by_cases h2 : w + x ≤ 30
    · rw [if_pos h2]; exact le_lt_30 ⟨h2, h1⟩
    · rw [if_neg h2]
theorem mo_snow (x : Int32) (S0 : iz_S) : ∀ (j c n : Nat) (a : Int32) (S : iz_S), c + j = 64 → j < n → (∀ i, c ≤ i → S.1 84 i = S0.1 84 i ∧ S.1 83 i = S0.1 83 i) → Mo_snow_20 82 n x a (nI c) S = some (ac (fun i => sn1 (S0.1 83 i) (S0.1 84 i) x) c j a, mp S (gS S0 83 84 x) c j) := by
  intro j
  induction j with
  | zero =>
    intro c n a S hcj hn hS
    obtain ⟨m, rfl⟩ : ∃ m, n = m + 1 := ⟨n - 1, by omega⟩
    have hc : ¬ nI c < 64 := nI_nlt (b := 64) (by omega) (by omega)
    show Mo_snow_20b 82 (Mo_snow_20 82 m) x a (nI c) S = _
    simp only [Mo_snow_20b, if_neg hc, mp_0, ac]
  | succ j ih =>
    intro c n a S hcj hn hS
    obtain ⟨m, rfl⟩ : ∃ m, n = m + 1 := ⟨n - 1, by omega⟩
    have hc : nI c < 64 := nI_lt (b := 64) (by omega) (by omega)
    have i1 := in_ok (n := c) (N := 64) (by omega) (by decide)
    obtain ⟨q3, q2⟩ := hS c (Nat.le_refl c)
    have key : Mo_snow_20b 82 (Mo_snow_20 82 m) x a (nI c) S = Mo_snow_20 82 m x (a + sn1 (S0.1 83 c) (S0.1 84 c) x) (nI (c + 1)) (if S0.1 83 c ≤ 0 then S else iz_up S 84 c (sn1 (S0.1 83 c) (S0.1 84 c) x)) := by
      by_cases ht : S0.1 83 c ≤ 0
      · simp only [Mo_snow_20b, Mo_snow_67, if_pos hc, ck_t, lt_e, bI_s, bL_s, bV_s, one_n0, zero_0, if_true, if_false, rfs, i1, g_nI _ _ (show c < 2 ^ 31 by omega), nI_1, q2, q3, if_pos ht, sn1]
      · have hs := sn_le (S0.1 84 c) x
        by_cases hw : S0.1 84 c + x ≤ 30
        · rw [if_pos hw] at hs
          simp only [Mo_snow_20b, Mo_snow_67, Mo_snow_66, if_pos hc, ck_t, lt_e, bI_s, bL_s, bV_s, one_n0, zero_0, if_true, if_false, rfs, i1, g_nI _ _ (show c < 2 ^ 31 by omega), s_nI _ _ (show c < 2 ^ 31 by omega), nI_1, q2, q3, if_neg ht, if_pos hw, sn1, ← hs, up_same]
        · rw [if_neg hw] at hs
          simp only [Mo_snow_20b, Mo_snow_67, Mo_snow_66, if_pos hc, ck_t, lt_e, bI_s, bL_s, bV_s, one_n0, zero_0, if_true, if_false, rfs, i1, g_nI _ _ (show c < 2 ^ 31 by omega), s_nI _ _ (show c < 2 ^ 31 by omega), nI_1, q2, q3, if_neg ht, if_neg hw, sn1, ← hs, up_same]
    show Mo_snow_20b 82 (Mo_snow_20 82 m) x a (nI c) S = _
    rw [key, ih (c + 1) m _ _ (by omega) (by omega) (fun i hi => ?_)]
    · have hst : mp (if S0.1 83 c ≤ 0 then S else iz_up S 84 c (sn1 (S0.1 83 c) (S0.1 84 c) x)) (gS S0 83 84 x) (c + 1) j = mp S (gS S0 83 84 x) c (j + 1) := by
        refine mp_step (fun q i => ?_) (by split <;> rfl)
        by_cases ht : S0.1 83 c ≤ 0
        · rw [if_pos ht]
          by_cases e : i = c
          · subst e
            by_cases e2 : q = 84
            · subst e2; simp [gS, sn1, ht, q3]
            · simp [gS, e2]
          · rw [if_neg e]
        · rw [if_neg ht]
          by_cases e : i = c
          · subst e
            by_cases e2 : q = 84
            · subst e2; simp [upA, upd, gS]
            · simp [upA, gS, e2]
          · rw [if_neg e, up_ne _ _ _ _ (Or.inr e)]
      rw [hst]
      rfl
    · by_cases ht : S0.1 83 c ≤ 0
      · rw [if_pos ht]; exact hS i (by omega)
      · rw [if_neg ht, up_ne _ _ _ _ (Or.inr (by omega)), up_ne _ _ _ _ (Or.inr (by omega))]; exact hS i (by omega)
theorem pc_snow {S : iz_S} (h : rl S) (x : Int32) : pc (Ic_snow 0 x) (Mo_snow 82 x) S := by
  by_cases h1 : 1 ≤ x ∧ x ≤ 10
  · obtain ⟨S1, hS1⟩ : ∃ S1, S1 = mp S (gS S 2 3 x) 0 64 := ⟨_, rfl⟩
    obtain ⟨S2, hS2⟩ : ∃ S2, S2 = mp S1 (gS S1 83 84 x) 0 64 := ⟨_, rfl⟩
    have k83 : S1.1 83 = S.1 83 := by rw [hS1]; exact mp_no (fun _ => rfl)
    have k84 : S1.1 84 = S.1 84 := by rw [hS1]; exact mp_no (fun _ => rfl)
    refine pc_of (r := ac (fun i => sn1 (S.1 2 i) (S.1 3 i) x) 0 64 0) (S1 := S1) (S2 := S2) ?_ ?_ ?_
    · have hq : La_snowOver_4 1 iz_FU x 0 0 S = some (ac (fun i => sn1 (S.1 2 i) (S.1 3 i) x) 0 64 0, mp S (gS S 2 3 x) 0 64) := la_snow x S 64 0 iz_FU 0 S (by omega) (by have := fu_ge; omega) (fun _ _ => ⟨rfl, rfl⟩)
      simp only [Ic_snow, ic_within, La_snowOver, ck_t, lt_e, bI_s, bL_s, bV_s, one_n0, zero_0, if_true, if_false, rfs, if_pos h1, hq]
      rw [hS1]
    · have := mo_snow x S1 64 0 iz_FU 0 S1 (by omega) (by have := fu_ge; omega) (fun _ _ => ⟨rfl, rfl⟩)
      have e : ac (fun i => sn1 (S1.1 83 i) (S1.1 84 i) x) 0 64 0 = ac (fun i => sn1 (S.1 2 i) (S.1 3 i) x) 0 64 0 := ac_cong (fun i i1 i2 => by
        have hi := h.1 i (by omega)
        rw [k83, k84, hi.1, hi.2.1])
      simp only [Mo_snow, mo_isIn, ck_t, lt_e, bI_s, bL_s, bV_s, one_n0, zero_0, if_true, if_false, rfs, if_pos h1]
      rw [← e, hS2]
      exact this
    · have hf : fr (fun p _ => p == 3 || p == 84) S S2 := by
        rw [hS2, hS1]
        refine fr_tr (mp_fr (fun q i hq => ?_)) (mp_fr (fun q i hq => ?_))
        · simp only [Bool.or_eq_false_iff, beq_eq_false_iff_ne] at hq
          exact if_neg hq.1
        · simp only [Bool.or_eq_false_iff, beq_eq_false_iff_ne] at hq
          exact if_neg hq.2
      refine ⟨fun c hc => ?_, st_shel hf (fun _ => ⟨rfl, rfl, rfl, rfl, rfl, rfl⟩) h.2.1, st_house hf (fun _ => ⟨rfl, rfl, rfl, rfl, rfl, rfl, rfl, rfl, rfl, rfl, rfl, rfl⟩) rfl rfl (fun _ _ => rfl) h.2.2.1, st_ord hf (fun _ => ⟨rfl, rfl, rfl, rfl, rfl, rfl, rfl, rfl, rfl, rfl, rfl, rfl, rfl⟩) rfl rfl h.2.2.2.1, st_rail hf (fun _ => ⟨rfl, rfl, rfl, rfl, rfl, rfl, rfl⟩) rfl h.2.2.2.2.1, st_wait hf (fun _ => ⟨rfl, rfl, rfl⟩) rfl h.2.2.2.2.2.1, st_sale hf (fun _ => ⟨rfl, rfl⟩) h.2.2.2.2.2.2.1, st_found hf (fun _ => ⟨rfl, rfl⟩) h.2.2.2.2.2.2.2⟩
      obtain ⟨g1, g2, g3, t, w, m, t1, w1, m1, e1, e2, e3, e4⟩ := h.1 c hc
      rw [hf 83 c rfl, hf 2 c rfl, hf 85 c rfl, hf 4 c rfl]
      have z3 : S2.1 3 c = sn1 (S.1 2 c) (S.1 3 c) x := by
        rw [hS2, mp_no (fun _ => rfl), hS1, mp_in (by omega)]; rfl
      have z84 : S2.1 84 c = sn1 (S.1 2 c) (S.1 3 c) x := by
        rw [hS2, mp_in (by omega)]
        show sn1 (S1.1 83 c) (S1.1 84 c) x = _
        rw [k83, k84, g1, g2]
      rw [z84, z3]
      obtain ⟨y, y1, y2, rfl⟩ := nI_btw (a := 1) (b := 10) (by decide) h1.1 h1.2 (by decide)
      unfold sn1
      rw [e1, e2, nI_add]
      rcases Nat.eq_zero_or_pos t with rfl | ht
      · rw [if_pos (by decide +kernel)]
        exact ⟨by rw [g1, e1], rfl, g3, 0, w, m, t1, w1, m1, rfl, rfl, e3, e4⟩
      · rw [if_neg (nI_nle ht (by omega))]
        by_cases hw : nI (w + y) < 30
        · rw [if_pos hw]
          have : w + y < 30 := (nI_ltI (b := 30) (by omega) (by decide)).mp hw
          exact ⟨by rw [g1, e1], rfl, g3, t, w + y, m, t1, by omega, m1, rfl, rfl, e3, fun q => absurd q (by omega)⟩
        · rw [if_neg hw]
          exact ⟨by rw [g1, e1], rfl, g3, t, 30, m, t1, by omega, m1, rfl, rfl, e3, fun q => absurd q (by omega)⟩
  · refine pc_of (r := -1000001) (S1 := iz_up S 81 1 (S.1 81 1 + 1)) ?_ ?_ (rl_find (k := 1) h)
    · simp only [Ic_snow, ic_within, ck_t, lt_e, bI_s, bL_s, bV_s, one_n0, zero_0, if_true, if_false, rfs, if_neg h1, ic_f1]
    · simp only [Mo_snow, mo_isIn, ck_t, lt_e, bI_s, bL_s, bV_s, one_n0, zero_0, if_true, if_false, rfs, if_neg h1, mo_f1]
