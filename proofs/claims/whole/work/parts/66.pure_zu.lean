/-! PURE: the railway, class side -/
theorem cst_le {pr ck wy : Nat → Nat} {r k c b v : Nat} {f : Nat → Option Nat} (fl : ∀ i u, f i = some u → u ≤ 48000) (hp : ∀ k, pr k ≤ 100) (hr : r ≤ 60) (h : cst pr ck wy r f k c b = some v) : v ≤ 54000 := by
  unfold cst at h
  split at h
  · rename_i q
    cases e : f (c + b - wy k) with
    | none => rw [e] at h; cases h
    | some u =>
      rw [e] at h
      have e2 : u + b * pr k = v := Option.some.inj h
      have h1 := fl _ _ e
      have h2 : b * pr k ≤ 60 * 100 := Nat.mul_le_mul (by omega) (hp k)
      omega
  · cases h
theorem ra_lp {S : iz_S} {n r k c most : Nat} {pr ck wy : Nat → Nat} {f : Nat → Option Nat} (hs : rs S n pr ck wy) (hb : rb n pr ck wy) (k1 : k + 1 < n) (r60 : r ≤ 60) (hm1 : most ≤ ck k) (hm2 : c + most ≤ r) (hf : ∀ i, i ≤ r → S.1 (60 + (k + 1)) i = eC (f i)) (fl : ∀ i u, f i = some u → u ≤ 48000) : ∀ (j b m : Nat), b + j = most + 1 → wy k ≤ c + b → j < m →
    Ra_planAt_34 55 m (nI k) (nI c) (eC ((mn (cst pr ck wy r f k c) b).map Prod.fst)) (eB (mn (cst pr ck wy r f k c) b)) (nI most) (nI b) S = some (iz_up (iz_up S (60 + k) c (eC ((mn (cst pr ck wy r f k c) (most + 1)).map Prod.fst))) (70 + k) c (eB (mn (cst pr ck wy r f k c) (most + 1)))) := by
  intro j
  have n9 := hb.1
  have i1 := in_ok (n := k) (N := 9) (by omega) (by decide)
  have i2 := in_ok (n := c) (N := 61) (by omega) (by decide)
  have i3 := in_ok (n := k + 1) (N := 9) (by omega) (by decide)
  have tk := nI_clamp (show k < 2 ^ 31 by omega)
  have tk1 := nI_clamp (show k + 1 < 2 ^ 31 by omega)
  obtain ⟨p1, p2, p3⟩ := hs.2 k (by omega)
  have r4 : iz_rf 55 4 = 59 := rfl
  have r5 : iz_rf 55 5 = 69 := rfl
  have r2 : iz_rf 55 2 = 57 := rfl
  have r3 : iz_rf 55 3 = 58 := rfl
  induction j with
  | zero =>
    intro b m hj hw hm
    obtain ⟨m, rfl⟩ : ∃ k, m = k + 1 := ⟨m - 1, by omega⟩
    obtain rfl : b = most + 1 := by omega
    have le : ¬ nI (most + 1) ≤ nI most := nI_ge (by omega) (by omega)
    show Ra_planAt_34b 55 (Ra_planAt_34 55 m) (nI k) (nI c) _ _ (nI most) (nI (most + 1)) S = _
    rw [Ra_planAt_34b, if_neg le, i1, ck_t, i2, ck_t, lt_e, ck_t, ck_t, lt_e, r4, r5, tk, (rf59 k (by omega)).1, (rf59 k (by omega)).2, s_nI _ _ (show c < 2 ^ 31 by omega), s_nI _ _ (show c < 2 ^ 31 by omega)]
  | succ j ih =>
    intro b m hj hw hm
    obtain ⟨m, rfl⟩ : ∃ k, m = k + 1 := ⟨m - 1, by omega⟩
    have le : nI b ≤ nI most := nI_le (by omega) (by omega)
    have sb : nI (c + b) - nI (wy k) = nI (c + b - wy k) := nI_sb hw (by omega)
    have i4 := in_ok (n := c + b - wy k) (N := 61) (by omega) (by decide)
    have ev := hf (c + b - wy k) (by omega)
    have gd : cst pr ck wy r f k c b = (f (c + b - wy k)).map (fun v => v + b * pr k) := if_pos ⟨by omega, by omega, hw⟩
    have head : Ra_planAt_34 55 (m + 1) (nI k) (nI c) (eC ((mn (cst pr ck wy r f k c) b).map Prod.fst)) (eB (mn (cst pr ck wy r f k c) b)) (nI most) (nI b) S = Ra_planAt_34 55 m (nI k) (nI c) (eC ((mn (cst pr ck wy r f k c) (b + 1)).map Prod.fst)) (eB (mn (cst pr ck wy r f k c) (b + 1))) (nI most) (nI (b + 1)) S := by
      show Ra_planAt_34b 55 (Ra_planAt_34 55 m) (nI k) (nI c) _ _ (nI most) (nI b) S = _
      rw [Ra_planAt_34b, if_pos le, nI_1, i3, ck_t, i1, ck_t, r3, r2, r4, g_nI _ 58 (show k < 2 ^ 31 by omega), p3, nI_add, sb, i4, ck_t, lt_e, tk1, (rf59 (k + 1) (by omega)).1, g_nI _ _ (show c + b - wy k < 2 ^ 31 by omega), ev, ck_t, lt_e, g_nI _ 57 (show k < 2 ^ 31 by omega), p1, pk_mul]
      cases e : f (c + b - wy k) with
      | none =>
        have lt : eC none < 0 := by decide +kernel
        rw [e] at gd
        rw [if_pos lt, Ra_planAt_102, nI_1, mn_s0 gd]
      | some v =>
        have v4 := fl _ _ e
        have np : ¬ eC (some v) < 0 := nI_pos (by omega)
        rw [e] at gd
        have gd' : cst pr ck wy r f k c b = some (v + b * pr k) := gd
        have b1 := cst_le fl hb.2.1 r60 gd'
        rw [if_neg np, show eC (some v) = nI v from rfl, nI_add]
        cases e2 : mn (cst pr ck wy r f k c) b with
        | none =>
          have lt : eC (Option.map Prod.fst (none : Option (Nat × Nat))) < 0 := by decide +kernel
          rw [if_pos lt, Ra_planAt_94, Ra_planAt_102, nI_1, mn_s1 gd' e2]
          rfl
        | some q =>
          obtain ⟨qv, qb⟩ := q
          obtain ⟨s1, s2, -⟩ := mn_spec e2
          have b2 := cst_le fl hb.2.1 r60 s2
          have ex : eC (Option.map Prod.fst (some (qv, qb))) = nI qv := rfl
          have np2 : ¬ nI qv < 0 := nI_pos (by omega)
          have lt : (nI (v + b * pr k) < nI qv) = (v + b * pr k < qv) := propext (nI_ltI (by omega) (by omega))
          rw [ex, if_neg np2, mn_s2 gd' e2]
          by_cases q : v + b * pr k < qv
          · rw [if_pos (by rw [lt]; exact q), if_pos q, Ra_planAt_94, Ra_planAt_102, nI_1]
            rfl
          · rw [if_neg (by rw [lt]; exact q), if_neg q, Ra_planAt_102, nI_1]
            rfl
    rw [head]
    exact ih (b + 1) m (by omega) (by omega) (by omega)
theorem ra_at {S : iz_S} {n r k c : Nat} {pr ck wy : Nat → Nat} {f : Nat → Option Nat} (hs : rs S n pr ck wy) (hb : rb n pr ck wy) (k1 : k + 1 < n) (r60 : r ≤ 60) (cr : c ≤ r) (hf : ∀ i, i ≤ r → S.1 (60 + (k + 1)) i = eC (f i)) (fl : ∀ i u, f i = some u → u ≤ 48000) :
    Ra_planAt 55 (nI k) (nI c) (nI r) S = some (iz_up (iz_up S (60 + k) c (eC ((mn (cst pr ck wy r f k c) (r + 1)).map Prod.fst))) (70 + k) c (eB (mn (cst pr ck wy r f k c) (r + 1)))) := by
  have n9 := hb.1
  have c60 := hb.2.2.1 k
  have w30 := hb.2.2.2 k
  have i1 := in_ok (n := k) (N := 9) (by omega) (by decide)
  obtain ⟨p1, p2, p3⟩ := hs.2 k (by omega)
  obtain ⟨most, hmost⟩ : ∃ most, most = if r - c < ck k then r - c else ck k := ⟨_, rfl⟩
  have hm1 : most ≤ ck k := by rw [hmost]; split <;> omega
  have hm2 : c + most ≤ r := by rw [hmost]; split <;> omega
  have hm3 : ∀ b, b ≤ ck k → c + b ≤ r → b ≤ most := fun b h1 h2 => by rw [hmost]; split <;> omega
  have rc : nI r - nI c = nI (r - c) := nI_sb cr (by omega)
  have lt : (nI (r - c) < nI (ck k)) = (r - c < ck k) := propext (nI_ltI (by omega) (by omega))
  have em : (if nI (r - c) < nI (ck k) then nI (r - c) else nI (ck k)) = nI most := by
    simp only [lt, hmost]
    split <;> rfl
  have mx := (mx_n (a := wy k) (b := c) (by omega) (by omega)).1
  have fu := fu_ge
  have low : ∀ b, b < wy k - c → cst pr ck wy r f k c b = none := fun b h => if_neg (by omega)
  have ext : mn (cst pr ck wy r f k c) (r + 1) = mn (cst pr ck wy r f k c) (most + 1) := mn_ext (by omega) (fun b h1 h2 => if_neg (fun q => by
    have := hm3 b q.1 q.2.1
    omega))
  rw [Ra_planAt, i1, ck_t, lt_e, ck_t, lt_e, show iz_rf 55 1 = 56 from rfl, show iz_rf 55 3 = 58 from rfl, g_nI _ 56 (show k < 2 ^ 31 by omega), g_nI _ 58 (show k < 2 ^ 31 by omega), p2, p3, rc, em, mx, ext]
  by_cases hle : wy k - c ≤ most + 1
  · have e := ra_lp hs hb k1 r60 hm1 hm2 hf fl (most + 1 - (wy k - c)) (wy k - c) iz_FU (by omega) (by omega) (by omega)
    rw [mn_none low] at e
    exact e
  · have none1 : mn (cst pr ck wy r f k c) (most + 1) = none := mn_none (fun b hb => low b (by omega))
    have le : ¬ nI (wy k - c) ≤ nI most := nI_ge (by omega) (by omega)
    have i2 := in_ok (n := c) (N := 61) (by omega) (by decide)
    have tk := nI_clamp (show k < 2 ^ 31 by omega)
    obtain ⟨m, hm⟩ : ∃ m, iz_FU = m + 1 := ⟨iz_FU - 1, by omega⟩
    rw [none1, hm]
    show Ra_planAt_34b 55 (Ra_planAt_34 55 m) (nI k) (nI c) _ _ (nI most) (nI (wy k - c)) S = _
    rw [Ra_planAt_34b, if_neg le, i1, ck_t, i2, ck_t, lt_e, ck_t, ck_t, lt_e, show iz_rf 55 4 = 59 from rfl, show iz_rf 55 5 = 69 from rfl, tk, (rf59 k (by omega)).1, (rf59 k (by omega)).2, s_nI _ _ (show c < 2 ^ 31 by omega), s_nI _ _ (show c < 2 ^ 31 by omega)]
    rfl
theorem rs_st {S T : iz_S} {n : Nat} {pr ck wy : Nat → Nat} (h : rs S n pr ck wy) {ch : Nat → Nat → Bool} (hf : fr ch S T) (hc : ∀ i, ch 55 i = false ∧ ch 56 i = false ∧ ch 57 i = false ∧ ch 58 i = false) : rs T n pr ck wy :=
  ⟨(hf _ _ (hc 0).1).trans h.1, fun k hk => by rw [hf _ _ (hc k).2.2.1, hf _ _ (hc k).2.1, hf _ _ (hc k).2.2.2]; exact h.2 k hk⟩
def fri (k : Nat) (p _ : Nat) : Bool := p == 60 + k || p == 70 + k
theorem ra_row {n r k : Nat} {pr ck wy : Nat → Nat} {f : Nat → Option Nat} (hb : rb n pr ck wy) (k1 : k + 1 < n) (r60 : r ≤ 60) (fl : ∀ i u, f i = some u → u ≤ 48000) (k22 : Int32 → Int32 → iz_S → Option iz_S) : ∀ (j c m : Nat) (S : iz_S), c + j = r + 1 → j < m → rs S n pr ck wy → (∀ i, i ≤ r → S.1 (60 + (k + 1)) i = eC (f i)) →
    ∃ S2, Ra_plan_28 55 k22 m (nI r) (nI k) (nI c) S = k22 (nI r) (nI k - 1) S2 ∧ (∀ i, c ≤ i → i ≤ r → S2.1 (60 + k) i = eC ((mn (cst pr ck wy r f k i) (r + 1)).map Prod.fst) ∧ S2.1 (70 + k) i = eB (mn (cst pr ck wy r f k i) (r + 1))) ∧ (∀ i, i < c → S2.1 (60 + k) i = S.1 (60 + k) i ∧ S2.1 (70 + k) i = S.1 (70 + k) i) ∧ fr (fri k) S S2 := by
  intro j
  have n9 := hb.1
  induction j with
  | zero =>
    intro c m S hj hm hs hf
    obtain ⟨m, rfl⟩ : ∃ k, m = k + 1 := ⟨m - 1, by omega⟩
    have le : ¬ nI c ≤ nI r := nI_ge (by omega) (by omega)
    refine ⟨S, ?_, fun i h1 h2 => by omega, fun i _ => ⟨rfl, rfl⟩, fr_rf _ _⟩
    show Ra_plan_28b 55 k22 (Ra_plan_28 55 k22 m) (nI r) (nI k) (nI c) S = _
    rw [Ra_plan_28b, if_neg le, pm1]
  | succ j ih =>
    intro c m S hj hm hs hf
    obtain ⟨m, rfl⟩ : ∃ k, m = k + 1 := ⟨m - 1, by omega⟩
    have le : nI c ≤ nI r := nI_le (by omega) (by omega)
    have at_ := ra_at hs hb k1 r60 (show c ≤ r by omega) hf fl
    obtain ⟨T, hT⟩ : ∃ T, T = iz_up (iz_up S (60 + k) c (eC ((mn (cst pr ck wy r f k c) (r + 1)).map Prod.fst))) (70 + k) c (eB (mn (cst pr ck wy r f k c) (r + 1))) := ⟨_, rfl⟩
    rw [← hT] at at_
    have fT : fr (fri k) S T := by
      rw [hT]
      exact fr_up (fr_up (fr_rf _ _) (by simp [fri])) (by simp [fri])
    obtain ⟨S2, a1, a2, a3, a4⟩ := ih (c + 1) m T (by omega) (by omega) (rs_st hs fT (fun i => ⟨by simp [fri]; omega, by simp [fri]; omega, by simp [fri]; omega, by simp [fri]; omega⟩)) (fun i hi => by rw [fT _ _ (by simp [fri]; omega)]; exact hf i hi)
    refine ⟨S2, ?_, fun i h1 h2 => ?_, fun i hi => ?_, fr_tr fT a4⟩
    · show Ra_plan_28b 55 k22 (Ra_plan_28 55 k22 m) (nI r) (nI k) (nI c) S = _
      rw [Ra_plan_28b, if_pos le, at_, bV_s, nI_1, a1]
    · by_cases e : i = c
      · subst e
        obtain ⟨z1, z2⟩ := a3 i (by omega)
        rw [z1, z2, hT, up_same, up_p _ _ _ _ (by omega), up_same]
        exact ⟨rfl, rfl⟩
      · exact a2 i (by omega) h2
    · obtain ⟨z1, z2⟩ := a3 i (by omega)
      rw [z1, z2, hT, up_p _ _ _ _ (by omega), up_ne _ _ _ _ (Or.inr (by omega)), up_ne _ _ _ _ (Or.inr (by omega)), up_p _ _ _ _ (by omega)]
      exact ⟨rfl, rfl⟩
def fra (p _ : Nat) : Bool := decide (60 ≤ p ∧ p ≤ 78)
/-- rows k0 .. n - 1 are made -/
def rD (S : iz_S) (n r : Nat) (pr ck wy : Nat → Nat) (k0 : Nat) : Prop := ∀ k i, k0 ≤ k → k < n → i ≤ r → S.1 (60 + k) i = eC (fk pr ck wy r n k i) ∧ (k + 1 < n → S.1 (70 + k) i = eB (bk_ pr ck wy r n k i))
theorem ra_rows {n r : Nat} {pr ck wy : Nat → Nat} (hb : rb n pr ck wy) (r60 : r ≤ 60) : ∀ (k m : Nat) (S : iz_S), k < n → k < m → rs S n pr ck wy → rD S n r pr ck wy k → ∃ S2, Ra_plan_22 55 m (nI r) (nI k - 1) S = some S2 ∧ rD S2 n r pr ck wy 0 ∧ fr fra S S2 := by
  intro k
  have n9 := hb.1
  induction k with
  | zero =>
    intro m S kn hm hs hd
    obtain ⟨m, rfl⟩ : ∃ k, m = k + 1 := ⟨m - 1, by omega⟩
    have lt : nI 0 - 1 < 0 := by decide +kernel
    refine ⟨S, ?_, hd, fr_rf _ _⟩
    show Ra_plan_22b 55 (Ra_plan_22 55 m) (nI r) (nI 0 - 1) S = _
    rw [Ra_plan_22b, if_pos lt]
  | succ k ih =>
    intro m S kn hm hs hd
    obtain ⟨m, rfl⟩ : ∃ k, m = k + 1 := ⟨m - 1, by omega⟩
    have x1 : nI (k + 1) - 1 = nI k := nI_m1 (by omega)
    have np : ¬ nI k < 0 := nI_pos (by omega)
    obtain ⟨S1, a1, a2, a3, a4⟩ := ra_row (f := fk pr ck wy r n (k + 1)) hb kn r60 (fun i u h => fk_le r60 hb.2.1 n9 h) (Ra_plan_22 55 m) (r + 1) 0 iz_FU S (by omega) (by have := fu_ge; omega) hs (fun i hi => (hd (k + 1) i (Nat.le_refl _) kn hi).1)
    obtain ⟨S2, b1, b2, b3⟩ := ih m S1 (by omega) (by omega) (rs_st hs a4 (fun i => ⟨by simp [fri]; omega, by simp [fri]; omega, by simp [fri]; omega, by simp [fri]; omega⟩)) (fun k2 i h1 h2 h3 => by
      by_cases e : k2 = k
      · subst e
        obtain ⟨z1, z2⟩ := a2 i (Nat.zero_le _) h3
        rw [z1, z2, fk_s kn]
        exact ⟨rfl, fun _ => rfl⟩
      · rw [a4 (60 + k2) i (by simp [fri]; omega), a4 (70 + k2) i (by simp [fri]; omega)]
        exact hd k2 i (by omega) h2 h3)
    refine ⟨S2, ?_, b2, fr_tr (fr_mono a4 (fun p i hp => ?_)) b3⟩
    · rw [x1]
      show Ra_plan_22b 55 (Ra_plan_22 55 m) (nI r) (nI k) S = _
      rw [Ra_plan_22b, if_neg np, ← b1]
      exact a1
    · simp only [fri, fra, Bool.or_eq_true, beq_iff_eq, decide_eq_true_eq] at hp ⊢
      omega
theorem ja_fill {p N : Nat} (hN : (iz_sh p).2 = N) (N1 : N ≤ 1000) (v : Int32) : ∀ (j i m : Nat) (S : iz_S), i + j = N → j < m → ∃ S2, Ja_fill_5 p m v (nI i) (nI N) S = some S2 ∧ (∀ k, i ≤ k → k < N → S2.1 p k = v) ∧ (∀ k, k < i → S2.1 p k = S.1 p k) ∧ fr (fun q _ => q == p) S S2 := by
  intro j
  induction j with
  | zero =>
    intro i m S hj hm
    obtain ⟨m, rfl⟩ : ∃ k, m = k + 1 := ⟨m - 1, by omega⟩
    have lt : ¬ nI i < nI N := nI_nlt (by omega) (by omega)
    refine ⟨S, ?_, fun k h1 h2 => by omega, fun k _ => rfl, fr_rf _ _⟩
    show Ja_fill_5b p (Ja_fill_5 p m) v (nI i) (nI N) S = _
    rw [Ja_fill_5b, if_neg lt]
  | succ j ih =>
    intro i m S hj hm
    obtain ⟨m, rfl⟩ : ∃ k, m = k + 1 := ⟨m - 1, by omega⟩
    have lt : nI i < nI N := nI_lt (by omega) (by omega)
    have i1 := in_ok (n := i) (N := N) (by omega) N1
    obtain ⟨S2, a1, a2, a3, a4⟩ := ih (i + 1) m (iz_up S p i v) (by omega) (by omega)
    refine ⟨S2, ?_, fun k h1 h2 => ?_, fun k hk => ?_, fr_tr (fr_up (fr_rf _ _) (by simp)) a4⟩
    · show Ja_fill_5b p (Ja_fill_5 p m) v (nI i) (nI N) S = _
      rw [Ja_fill_5b, if_pos lt, hN, i1, ck_t, lt_e, s_nI _ _ (show i < 2 ^ 31 by omega), nI_1, a1]
    · by_cases e : k = i
      · subst e
        rw [a3 k (by omega), up_same]
      · exact a2 k (by omega) h2
    · rw [a3 k (by omega), up_ne _ _ _ _ (Or.inr (by omega))]
theorem sh60 : ∀ k, k < 9 → (iz_sh (60 + k)).2 = 61 := by decide +kernel
theorem ra_plan {S : iz_S} {n r : Nat} {pr ck wy : Nat → Nat} (hs : rs S n pr ck wy) (hb : rb n pr ck wy) (n2 : 2 ≤ n) (r60 : r ≤ 60) : ∃ S2, Ra_plan 55 (nI r) S = some S2 ∧ rD S2 n r pr ck wy 0 ∧ fr fra S S2 := by
  have n9 := hb.1
  have x1 : nI n - 1 = nI (n - 1) := nI_m1 (by omega)
  have i1 := in_ok (n := n - 1) (N := 9) (by omega) (by decide)
  have t1 := nI_clamp (show n - 1 < 2 ^ 31 by omega)
  have sh := sh60 (n - 1) (by omega)
  obtain ⟨S1, a1, a2, a3, a4⟩ := ja_fill sh (by decide) 0 61 0 iz_FU S (by omega) (by have := fu_ge; omega)
  have a4' : fr fra S S1 := fr_mono a4 (fun p i hp => by
    simp only [fra, beq_iff_eq, decide_eq_true_eq] at hp ⊢
    omega)
  have hs1 := rs_st hs a4' (fun i => ⟨rfl, rfl, rfl, rfl⟩)
  obtain ⟨S2, b1, b2, b3⟩ := ra_rows hb r60 (n - 1) iz_FU S1 (by omega) (by have := fu_ge; omega) hs1 (fun k i h1 h2 h3 => by
    obtain rfl : k = n - 1 := by omega
    rw [a2 i (Nat.zero_le _) (by omega), fk_last]
    exact ⟨rfl, fun q => by omega⟩)
  refine ⟨S2, ?_, b2, fr_tr a4' b3⟩
  have x2 : nI n - 2 = nI (n - 1) - 1 := by
    rw [show (2 : Int32) = nI 2 from rfl, nI_sb n2 (by omega), nI_m1 (by omega)]
    rfl
  have z55 : S1.1 55 0 = nI n := hs1.1
  rw [Ra_plan, hs.1, x1, i1, ck_t, show iz_rf 55 4 = 59 from rfl, t1, (rf59 (n - 1) (by omega)).1, Ja_fill, lt_e, sh]
  rw [show Ja_fill_5 (60 + (n - 1)) iz_FU 0 0 (Int32.ofNat 61) S = some S1 from a1, bV_s, lt_e, z55, x2]
  exact b1
