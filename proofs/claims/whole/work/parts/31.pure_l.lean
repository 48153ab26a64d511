/-! PURE: frost -/
theorem nI_leP {a b : Nat} (ha : a < 2 ^ 31) (hb : b < 2 ^ 31) : (nI a ≤ nI b) = (a ≤ b) := by
  apply propext
  rw [fa_le, nI_tI ha, nI_tI hb]
  omega
/-- the root of v, sought from r up, at most j steps -/
def rtf (v : Nat) : Nat → Nat → Nat
  | r, 0 => r
  | r, j + 1 => if (r + 1) * (r + 1) ≤ v then rtf v (r + 1) j else r
theorem rtf_ge (v : Nat) : ∀ (j r : Nat), r ≤ rtf v r j ∧ rtf v r j ≤ r + j
  | 0, r => ⟨Nat.le_refl r, Nat.le_refl r⟩
  | j + 1, r => by
    unfold rtf
    have := rtf_ge v j (r + 1)
    split <;> omega
theorem rtf_from {v : Nat} : ∀ (k r j : Nat), (r + k) * (r + k) ≤ v → rtf v r (k + j) = rtf v (r + k) j
  | 0, r, j, _ => by rw [Nat.zero_add, Nat.add_zero]
  | k + 1, r, j, h => by
    have e : k + 1 + j = (k + j) + 1 := by omega
    have e2 : r + (k + 1) = r + 1 + k := by omega
    rw [e2] at h
    rw [e, rtf, if_pos (Nat.le_trans (Nat.mul_le_mul (Nat.le_add_right _ _) (Nat.le_add_right _ _)) h), rtf_from k (r + 1) j h, e2]
theorem la_root (S : iz_S) {v : Nat} (hv : v < 2 ^ 31) : ∀ (j r n : Nat), r + j = 60 → j < n → La_rootUpFrom_2 n (nI v) (nI r) S = some (nI (rtf v r j), S) := by
  intro j
  induction j with
  | zero =>
    intro r n hr hn
    obtain ⟨m, rfl⟩ : ∃ m, n = m + 1 := ⟨n - 1, by omega⟩
    have hc : ¬ nI r < 60 := nI_nlt (b := 60) (by omega) (by omega)
    show La_rootUpFrom_2b (La_rootUpFrom_2 m) (nI v) (nI r) S = _
    simp only [La_rootUpFrom_2b, La_rootUpFrom_25, if_neg hc, rtf]
  | succ j ih =>
    intro r n hr hn
    obtain ⟨m, rfl⟩ : ∃ m, n = m + 1 := ⟨n - 1, by omega⟩
    have hc : nI r < 60 := nI_lt (b := 60) (by omega) (by omega)
    have hs : (r + 1) * (r + 1) ≤ 60 * 60 := Nat.mul_le_mul (by omega) (by omega)
    show La_rootUpFrom_2b (La_rootUpFrom_2 m) (nI v) (nI r) S = _
    simp only [La_rootUpFrom_2b, La_rootUpFrom_25, if_pos hc, nI_1, pk_mul, nI_leP (show (r + 1) * (r + 1) < 2 ^ 31 by omega) hv, rtf]
    by_cases h : (r + 1) * (r + 1) ≤ v
    · rw [if_pos h, if_pos h, ih (r + 1) m (by omega) (by omega)]
    · rw [if_neg h, if_neg h]
theorem mo_root (k18 : Int32 → Int32 → iz_S → Option (Int32 × iz_S)) (x c : Int32) (S : iz_S) {v : Nat} (hv : v < 2 ^ 31) : ∀ (j r n : Nat), r + j = 60 → j < n → Mo_frost_55 82 k18 n x c (nI v) (nI r) S = Mo_frost_81 82 k18 x c (nI (rtf v r j)) S := by
  intro j
  induction j with
  | zero =>
    intro r n hr hn
    obtain ⟨m, rfl⟩ : ∃ m, n = m + 1 := ⟨n - 1, by omega⟩
    have hc : ¬ nI r < 60 := nI_nlt (b := 60) (by omega) (by omega)
    show Mo_frost_55b 82 k18 (Mo_frost_55 82 k18 m) x c (nI v) (nI r) S = _
    simp only [Mo_frost_55b, if_neg hc, rtf]
  | succ j ih =>
    intro r n hr hn
    obtain ⟨m, rfl⟩ : ∃ m, n = m + 1 := ⟨n - 1, by omega⟩
    have hc : nI r < 60 := nI_lt (b := 60) (by omega) (by omega)
    have hs : (r + 1) * (r + 1) ≤ 60 * 60 := Nat.mul_le_mul (by omega) (by omega)
    show Mo_frost_55b 82 k18 (Mo_frost_55 82 k18 m) x c (nI v) (nI r) S = _
    simp only [Mo_frost_55b, if_pos hc, nI_1, pk_mul, nI_leP (show (r + 1) * (r + 1) < 2 ^ 31 by omega) hv, rtf]
    by_cases h : (r + 1) * (r + 1) ≤ v
    · rw [if_pos h, if_pos h, ih (r + 1) m (by omega) (by omega)]
    · rw [if_neg h, if_neg h]
def fzv (t w x : Nat) : Nat := t * t + (x * 40) / (2 + w)
def fzt (t w x : Nat) : Nat := rtf (fzv t w x) 0 60
theorem fz_e {t w x : Nat} (ht : t ≤ 60) (hw : w ≤ 30) (hx : 1 ≤ x) (hx2 : x ≤ 40) : (nI t * nI t) + ((nI x * 40) / ((2 : Int32) + nI w)) = nI (fzv t w x) ∧ fzv t w x < 2 ^ 31 ∧ rtf (fzv t w x) t (60 - t) = fzt t w x ∧ 1 ≤ fzt t w x ∧ fzt t w x ≤ 60 ∧ ¬ (2 : Int32) + nI w = 0 := by
  have h2 : (2 : Int32) + nI w = nI (2 + w) := nI_add 2 w
  have h40 : nI x * 40 = nI (x * 40) := pk_mul x 40
  have q1 : t * t ≤ 60 * 60 := Nat.mul_le_mul ht ht
  have q2 : (x * 40) / (2 + w) ≤ x * 40 := Nat.div_le_self _ _
  have q3 : 1 ≤ (x * 40) / (2 + w) := (Nat.le_div_iff_mul_le (by omega)).mpr (by omega)
  have hf : rtf (fzv t w x) t (60 - t) = fzt t w x := by
    have := rtf_from (v := fzv t w x) t 0 (60 - t) (by unfold fzv; rw [Nat.zero_add]; omega)
    rw [Nat.zero_add, show t + (60 - t) = 60 by omega] at this
    exact this.symm
  refine ⟨?_, by unfold fzv; omega, hf, ?_, ?_, ?_⟩
  · rw [h2, h40, pk_mul, pk_div (by omega) (by omega) (by omega)]
    exact nI_add _ _
  · unfold fzt
    rw [rtf, if_pos (by unfold fzv; omega)]
    exact (rtf_ge _ _ _).1
  · exact (rtf_ge _ _ _).2
  · rw [h2]; exact nI_ne0 (by omega) (by omega)
def gF (p2 p4 : Nat) (t w m : Nat → Nat) (x : Nat) : Nat → Nat → Option Int32 := fun q i => if q = p2 then some (nI (fzt (t i) (w i) x)) else if q = p4 then some (nI (if w i = 0 then m i else 1)) else none
theorem la_frost {x : Nat} (hx : 1 ≤ x) (hx2 : x ≤ 40) {t w m : Nat → Nat} (H : ∀ i, i < 64 → t i ≤ 60 ∧ w i ≤ 30 ∧ m i ≤ 1) : ∀ (j c n : Nat) (S : iz_S), c + j = 64 → j < n → (∀ i, c ≤ i → i < 64 → S.1 2 i = nI (t i) ∧ S.1 3 i = nI (w i) ∧ S.1 4 i = nI (m i)) → La_freeze_2 1 n (nI x) (nI c) S = some (mp S (gF 2 4 t w m x) c j) := by
  intro j
  induction j with
  | zero =>
    intro c n S hcj hn hS
    obtain ⟨k, rfl⟩ : ∃ k, n = k + 1 := ⟨n - 1, by omega⟩
    have hc : ¬ nI c < 64 := nI_nlt (b := 64) (by omega) (by omega)
    show La_freeze_2b 1 (La_freeze_2 1 k) (nI x) (nI c) S = _
    simp only [La_freeze_2b, if_neg hc, mp_0]
  | succ j ih =>
    intro c n S hcj hn hS
    obtain ⟨k, rfl⟩ : ∃ k, n = k + 1 := ⟨n - 1, by omega⟩
    have hc : nI c < 64 := nI_lt (b := 64) (by omega) (by omega)
    have i1 := in_ok (n := c) (N := 64) (by omega) (by decide)
    obtain ⟨q2, q3, q4⟩ := hS c (Nat.le_refl c) (by omega)
    obtain ⟨t1, w1, m1⟩ := H c (by omega)
    obtain ⟨z1, z2, z3, z4, z5, z6⟩ := fz_e t1 w1 hx hx2
    obtain ⟨T, hT⟩ : ∃ T, T = if w c = 0 then iz_up S 2 c (nI (fzt (t c) (w c) x)) else iz_up (iz_up S 2 c (nI (fzt (t c) (w c) x))) 4 c 1 := ⟨_, rfl⟩
    have key : La_freeze_2b 1 (La_freeze_2 1 k) (nI x) (nI c) S = La_freeze_2 1 k (nI x) (nI (c + 1)) T := by
      have hr : La_rootUpFrom (nI (t c)) (nI (fzv (t c) (w c) x)) S = some (nI (fzt (t c) (w c) x), S) := by
        rw [← z3]; exact la_root S z2 (60 - t c) (t c) iz_FU (by omega) (by have := fu_ge; omega)
      have w3 : (iz_up S 2 c (nI (fzt (t c) (w c) x))).1 3 c = nI (w c) := by rw [up_ne _ _ _ _ (Or.inl (by decide)), q3]
      have d6 : decide (¬ (2 : Int32) + nI (w c) = 0) = true := decide_eq_true z6
      rw [hT]
      by_cases h0 : w c = 0
      · have h0' : nI (w c) ≤ 0 := by rw [h0]; decide +kernel
        rw [if_pos h0]
        simp only [La_freeze_2b, La_freeze_68, if_pos hc, ck_t, lt_e, bI_s, bL_s, bV_s, one_n0, zero_0, if_true, if_false, rfs, i1, g_nI _ _ (show c < 2 ^ 31 by omega), s_nI _ _ (show c < 2 ^ 31 by omega), nI_1, q2, q3, d6, z1, hr, w3, if_pos h0']
      · have h0' : ¬ nI (w c) ≤ 0 := nI_nle (by omega) (by omega)
        rw [if_neg h0]
        simp only [La_freeze_2b, La_freeze_68, if_pos hc, ck_t, lt_e, bI_s, bL_s, bV_s, one_n0, zero_0, if_true, if_false, rfs, i1, g_nI _ _ (show c < 2 ^ 31 by omega), s_nI _ _ (show c < 2 ^ 31 by omega), nI_1, q2, q3, d6, z1, hr, w3, if_neg h0', nb_1]
    show La_freeze_2b 1 (La_freeze_2 1 k) (nI x) (nI c) S = _
    have hst : mp T (gF 2 4 t w m x) (c + 1) j = mp S (gF 2 4 t w m x) c (j + 1) := by
      refine mp_step (fun q i => ?_) (by rw [hT]; split <;> rfl)
      rw [hT]
      by_cases e : i = c
      · subst e
        rw [if_pos rfl]
        by_cases e2 : q = 2
        · subst e2
          by_cases h0 : w i = 0
          · simp [upA, upd, gF, h0]
          · simp [upA, upd, gF, h0]
        · by_cases e4 : q = 4
          · subst e4
            by_cases h0 : w i = 0
            · simp [upA, gF, h0, q4]
            · simp [upA, upd, gF, h0]; rfl
          · by_cases h0 : w i = 0
            · simp [upA, gF, e2, e4, h0]
            · simp [upA, gF, e2, e4, h0]
      · rw [if_neg e]
        by_cases h0 : w c = 0
        · rw [if_pos h0]; simp only [up_ne _ _ _ _ (Or.inr e)]
        · rw [if_neg h0]; simp only [up_ne _ _ _ _ (Or.inr e)]
    rw [key, ih (c + 1) k T (by omega) (by omega) (fun i hi hi2 => ?_), hst]
    rw [hT]
    have ne : i ≠ c := by omega
    by_cases h0 : w c = 0
    · rw [if_pos h0]; simp only [up_ne _ _ _ _ (Or.inr ne)]; exact hS i (by omega) hi2
    · rw [if_neg h0]; simp only [up_ne _ _ _ _ (Or.inr ne)]; exact hS i (by omega) hi2
