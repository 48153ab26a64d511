/-! PURE: the railway, reference side -/
theorem mo_cost {S : iz_S} {n r k c b : Nat} {pr ck wy : Nat → Nat} {f : Nat → Option Nat} (hs : rm_ S n pr ck wy) (hb : rb n pr ck wy) (k1 : k + 1 < n) (r60 : r ≤ 60) (cr : c ≤ r) (br : b ≤ 100) (hf : ∀ i, i ≤ r → S.1 119 (61 * (k + 1) + i) = eM (f i)) (fl : ∀ i u, f i = some u → u ≤ 48000) :
    Mo_costOf 82 (nI k) (nI c) (nI b) (nI r) S = some (eM (cst pr ck wy r f k c b), S) := by
  have n9 := hb.1
  have c60 := hb.2.2.1 k
  have w30 := hb.2.2.2 k
  have i1 := in_ok (n := k) (N := 9) (by omega) (by decide)
  obtain ⟨p1, p2, p3⟩ := hs.2 k (by omega)
  have gk := fun (T : iz_S) p => g_nI T p (show k < 2 ^ 31 by omega)
  have l1 : (nI b ≤ nI (ck k)) = (b ≤ ck k) := nI_leP (by omega) (by omega)
  have l2 : (nI (c + b) ≤ nI r) = (c + b ≤ r) := nI_leP (by omega) (by omega)
  rw [Mo_costOf, i1, ck_t, lt_e, ck_t, show iz_rf 82 24 = 103 from rfl, show iz_rf 82 23 = 102 from rfl, show iz_rf 82 47 = 119 from rfl, show iz_rf 82 22 = 101 from rfl, gk, gk, gk, p1, p2, p3, nI_add]
  unfold cst
  by_cases q1 : b ≤ ck k
  · rw [if_pos (by rw [l1]; exact q1)]
    by_cases q2 : c + b ≤ r
    · rw [if_pos (by rw [l2]; exact q2)]
      by_cases q3 : wy k ≤ c + b
      · have sb : nI (c + b) - nI (wy k) = nI (c + b - wy k) := nI_sb q3 (by omega)
        have np : ¬ nI (c + b - wy k) < 0 := nI_pos (by omega)
        have i2 := in_ok (n := 61 * (k + 1) + (c + b - wy k)) (N := 549) (by omega) (by decide)
        have ix : (61 : Int32) * nI (k + 1) + nI (c + b - wy k) = nI (61 * (k + 1) + (c + b - wy k)) := by rw [show (61 : Int32) = nI 61 from rfl, pk_mul, nI_add]
        have ev := hf (c + b - wy k) (by omega)
        have qq : b ≤ ck k ∧ c + b ≤ r ∧ wy k ≤ c + b := ⟨q1, q2, q3⟩
        rw [sb, if_neg np, nI_1, ix, i2, ck_t, ck_t, ck_t, g_nI _ 119 (show 61 * (k + 1) + (c + b - wy k) < 2 ^ 31 by omega), ev, if_pos qq]
        cases e : f (c + b - wy k) with
        | none => rw [if_pos (show eM none = 1000000 from rfl), Mo_costOf_54]; rfl
        | some v =>
          have v4 := fl _ _ e
          have ne : ¬ eM (some v) = 1000000 := fun q => by
            have := (nI_eq (a := v) (b := 1000000) (by omega) (by decide)).mp q
            omega
          rw [if_neg ne, pk_mul, show eM (some v) = nI v from rfl, nI_add, Nat.add_comm]
          rfl
      · have ng : nI (c + b) - nI (wy k) < 0 := by
          rw [fa_lt, fb_subI (by rw [nI_tI (by omega), nI_tI (by omega)]; omega) (by rw [nI_tI (by omega), nI_tI (by omega)]; omega), nI_tI (by omega), nI_tI (by omega)]
          have z : (0 : Int32).toInt = 0 := rfl
          omega
        rw [if_pos ng, Mo_costOf_54, if_neg (fun q => q3 q.2.2)]
        rfl
    · rw [if_neg (by rw [l2]; exact q2), Mo_costOf_54, if_neg (fun q => q2 q.2.1)]
      rfl
  · rw [if_neg (by rw [l1]; exact q1), Mo_costOf_54, if_neg (fun q => q1 q.1)]
    rfl
theorem mo_lp {S : iz_S} {n r k c : Nat} {pr ck wy : Nat → Nat} {f : Nat → Option Nat} (hs : rm_ S n pr ck wy) (hb : rb n pr ck wy) (k1 : k + 1 < n) (r60 : r ≤ 60) (cr : c ≤ r) (hf : ∀ i, i ≤ r → S.1 119 (61 * (k + 1) + i) = eM (f i)) (fl : ∀ i u, f i = some u → u ≤ 48000) (k67 : Int32 → Int32 → Int32 → Int32 → iz_S → Option (Int32 × iz_S)) (k75 : Int32 → Int32 → Int32 → Int32 → Int32 → iz_S → Option (Int32 × iz_S)) (x2 x3 : Int32) : ∀ (j b m : Nat), b + j = r + 1 → j < m →
    Mo_icing_103 82 k67 k75 m (nI r) x2 x3 (nI k) (nI c) (eM ((mn (cst pr ck wy r f k c) b).map Prod.fst)) (nI b) S = Mo_icing_155 82 k67 k75 (nI r) x2 x3 (nI k) (nI c) (eM ((mn (cst pr ck wy r f k c) (r + 1)).map Prod.fst)) S := by
  intro j
  have n9 := hb.1
  induction j with
  | zero =>
    intro b m hj hm
    obtain ⟨m, rfl⟩ : ∃ k, m = k + 1 := ⟨m - 1, by omega⟩
    obtain rfl : b = r + 1 := by omega
    have le : ¬ nI (r + 1) ≤ nI r := nI_ge (by omega) (by omega)
    show Mo_icing_103b 82 k67 k75 (Mo_icing_103 82 k67 k75 m) (nI r) x2 x3 (nI k) (nI c) _ (nI (r + 1)) S = _
    rw [Mo_icing_103b, if_neg le]
  | succ j ih =>
    intro b m hj hm
    obtain ⟨m, rfl⟩ : ∃ k, m = k + 1 := ⟨m - 1, by omega⟩
    have le : nI b ≤ nI r := nI_le (by omega) (by omega)
    have x1 : nI n - 1 = nI (n - 1) := nI_m1 (by omega)
    have lk : nI k < nI (n - 1) := nI_lt (by omega) (by omega)
    have cs := mo_cost hs hb k1 r60 cr (show b ≤ 100 by omega) hf fl
    have head : Mo_icing_103 82 k67 k75 (m + 1) (nI r) x2 x3 (nI k) (nI c) (eM ((mn (cst pr ck wy r f k c) b).map Prod.fst)) (nI b) S = Mo_icing_103 82 k67 k75 m (nI r) x2 x3 (nI k) (nI c) (eM ((mn (cst pr ck wy r f k c) (b + 1)).map Prod.fst)) (nI (b + 1)) S := by
      show Mo_icing_103b 82 k67 k75 (Mo_icing_103 82 k67 k75 m) (nI r) x2 x3 (nI k) (nI c) _ (nI b) S = _
      rw [Mo_icing_103b, if_pos le, hs.1, x1, if_pos lk, cs, bI_s, Mo_icing_147, Mo_icing_147, nI_1]
      cases e : cst pr ck wy r f k c b with
      | none =>
        rw [mn_s0 e]
        cases e2 : mn (cst pr ck wy r f k c) b with
        | none =>
          have nl : ¬ eM none < eM (Option.map Prod.fst (none : Option (Nat × Nat))) := by decide +kernel
          rw [if_neg nl]
        | some q =>
          obtain ⟨qv, qb⟩ := q
          have b2 := cst_le fl hb.2.1 r60 (mn_spec e2).2.1
          have nl : ¬ eM none < eM (Option.map Prod.fst (some (qv, qb))) := nI_nlt (a := 1000000) (b := qv) (by omega) (by decide)
          rw [if_neg nl]
      | some v =>
        have b1 := cst_le fl hb.2.1 r60 e
        cases e2 : mn (cst pr ck wy r f k c) b with
        | none =>
          have lt : eM (some v) < eM (Option.map Prod.fst (none : Option (Nat × Nat))) := nI_lt (a := v) (b := 1000000) (by omega) (by decide)
          rw [if_pos lt, mn_s1 e e2]
          rfl
        | some q =>
          obtain ⟨qv, qb⟩ := q
          have b2 := cst_le fl hb.2.1 r60 (mn_spec e2).2.1
          have ex : eM (Option.map Prod.fst (some (qv, qb))) = nI qv := rfl
          have ev : eM (some v) = nI v := rfl
          have lt : (nI v < nI qv) = (v < qv) := propext (nI_ltI (by omega) (by omega))
          rw [ex, ev, mn_s2 e e2]
          by_cases q : v < qv
          · rw [if_pos (by rw [lt]; exact q), if_pos q]
            rfl
          · rw [if_neg (by rw [lt]; exact q), if_neg q]
            rfl
    rw [head]
    exact ih (b + 1) m (by omega) (by omega)
theorem rm_st {S T : iz_S} {n : Nat} {pr ck wy : Nat → Nat} (h : rm_ S n pr ck wy) {ch : Nat → Nat → Bool} (hf : fr ch S T) (h0 : ch 82 21 = false) (hc : ∀ i, ch 101 i = false ∧ ch 102 i = false ∧ ch 103 i = false) : rm_ T n pr ck wy :=
  ⟨(hf _ _ h0).trans h.1, fun k hk => by rw [hf _ _ (hc k).1, hf _ _ (hc k).2.1, hf _ _ (hc k).2.2]; exact h.2 k hk⟩
def fr9 (p _ : Nat) : Bool := p == 119
theorem mo_row {n r k : Nat} {pr ck wy : Nat → Nat} (hb : rb n pr ck wy) (kn : k < n) (r60 : r ≤ 60) (k67 : Int32 → Int32 → Int32 → Int32 → iz_S → Option (Int32 × iz_S)) (x2 x3 : Int32) : ∀ (j c m : Nat) (S : iz_S), c + j = r + 1 → j < m → rm_ S n pr ck wy → (k + 1 < n → ∀ i, i ≤ r → S.1 119 (61 * (k + 1) + i) = eM (fk pr ck wy r n (k + 1) i)) →
    ∃ S2, Mo_icing_75 82 k67 m (nI r) x2 x3 (nI k) (nI c) S = k67 (nI r) x2 x3 (nI k - 1) S2 ∧ (∀ i, c ≤ i → i ≤ r → S2.1 119 (61 * k + i) = eM (fk pr ck wy r n k i)) ∧ fr (fun p i => p == 119 && decide (61 * k + c ≤ i ∧ i < 61 * k + 61)) S S2 := by
  intro j
  have n9 := hb.1
  induction j with
  | zero =>
    intro c m S hj hm hs hf
    obtain ⟨m, rfl⟩ : ∃ k, m = k + 1 := ⟨m - 1, by omega⟩
    have le : ¬ nI c ≤ nI r := nI_ge (by omega) (by omega)
    refine ⟨S, ?_, fun i h1 h2 => by omega, fr_rf _ _⟩
    show Mo_icing_75b 82 k67 (Mo_icing_75 82 k67 m) (nI r) x2 x3 (nI k) (nI c) S = _
    rw [Mo_icing_75b, if_neg le, pm1]
  | succ j ih =>
    intro c m S hj hm hs hf
    obtain ⟨m, rfl⟩ : ∃ k, m = k + 1 := ⟨m - 1, by omega⟩
    have le : nI c ≤ nI r := nI_le (by omega) (by omega)
    have x1 : nI n - 1 = nI (n - 1) := nI_m1 (by omega)
    have ek : (nI k = nI (n - 1)) = (k = n - 1) := propext (nI_eq (by omega) (by omega))
    have i2 := in_ok (n := 61 * k + c) (N := 549) (by omega) (by decide)
    have ix : (61 : Int32) * nI k + nI c = nI (61 * k + c) := by rw [show (61 : Int32) = nI 61 from rfl, pk_mul, nI_add]
    have fu := fu_ge
    obtain ⟨T, hT⟩ : ∃ T, T = iz_up S 119 (61 * k + c) (eM (fk pr ck wy r n k c)) := ⟨_, rfl⟩
    have fT : fr (fun p i => p == 119 && i == 61 * k + c) S T := by rw [hT]; exact fr_1
    have head : Mo_icing_75 82 k67 (m + 1) (nI r) x2 x3 (nI k) (nI c) S = Mo_icing_75 82 k67 m (nI r) x2 x3 (nI k) (nI (c + 1)) T := by
      show Mo_icing_75b 82 k67 (Mo_icing_75 82 k67 m) (nI r) x2 x3 (nI k) (nI c) S = _
      rw [Mo_icing_75b, if_pos le, hs.1, x1]
      by_cases e : k = n - 1
      · rw [if_pos (by rw [ek]; exact e), Mo_icing_98]
        obtain ⟨f0, hf0⟩ : ∃ f0, iz_FU = f0 + 1 := ⟨iz_FU - 1, by omega⟩
        rw [hf0]
        show Mo_icing_103b 82 k67 (Mo_icing_75 82 k67 m) (Mo_icing_103 82 k67 (Mo_icing_75 82 k67 m) f0) (nI r) x2 x3 (nI k) (nI c) 0 0 S = _
        have nl : ¬ nI k < nI (n - 1) := nI_nlt (by omega) (by omega)
        rw [Mo_icing_103b, hs.1, x1, if_neg nl, Mo_icing_155, ix, i2, ck_t, lt_e, show iz_rf 82 47 = 119 from rfl, s_nI _ _ (show 61 * k + c < 2 ^ 31 by omega), nI_1, hT, e, fk_last]
        split <;> rfl
      · have k1 : k + 1 < n := by omega
        have lp := mo_lp hs hb k1 r60 (show c ≤ r by omega) (hf k1) (fun i u h => fk_le r60 hb.2.1 n9 h) k67 (Mo_icing_75 82 k67 m) x2 x3 (r + 1) 0 iz_FU (by omega) (by omega)
        rw [if_neg (by rw [ek]; exact e), Mo_icing_98]
        refine Eq.trans lp ?_
        rw [Mo_icing_155, ix, i2, ck_t, lt_e, show iz_rf 82 47 = 119 from rfl, s_nI _ _ (show 61 * k + c < 2 ^ 31 by omega), nI_1, hT, fk_s k1]
        rfl
    obtain ⟨S2, a1, a2, a3⟩ := ih (c + 1) m T (by omega) (by omega) (rm_st hs fT rfl (fun i => ⟨rfl, rfl, rfl⟩)) (fun k1 i hi => by rw [fT _ _ (by simp; omega)]; exact hf k1 i hi)
    refine ⟨S2, head.trans a1, fun i h1 h2 => ?_, fr_tr (fr_mono fT (fun p i hp => ?_)) (fr_mono a3 (fun p i hp => ?_))⟩
    · by_cases e : i = c
      · subst e
        rw [a3 119 _ (by simp; omega), hT, up_same]
      · exact a2 i (by omega) h2
    · simp only [Bool.and_eq_true, beq_iff_eq, decide_eq_true_eq] at hp ⊢
      omega
    · simp only [Bool.and_eq_true, beq_iff_eq, decide_eq_true_eq] at hp ⊢
      omega
def rM (S : iz_S) (n r : Nat) (pr ck wy : Nat → Nat) (k0 : Nat) : Prop := ∀ k i, k0 ≤ k → k < n → i ≤ r → S.1 119 (61 * k + i) = eM (fk pr ck wy r n k i)
theorem mo_rows {n r : Nat} {pr ck wy : Nat → Nat} (hb : rb n pr ck wy) (r60 : r ≤ 60) (x2 x3 : Int32) : ∀ (k m : Nat) (S : iz_S), k ≤ n → k < m → rm_ S n pr ck wy → rM S n r pr ck wy k → ∃ S2 m2, Mo_icing_67 82 m (nI r) x2 x3 (nI k - 1) S = Mo_icing_67b 82 m2 (nI r) x2 x3 (nI 0 - 1) S2 ∧ rM S2 n r pr ck wy 0 ∧ fr fr9 S S2 := by
  intro k
  have n9 := hb.1
  induction k with
  | zero =>
    intro m S kn hm hs hd
    obtain ⟨m, rfl⟩ : ∃ k, m = k + 1 := ⟨m - 1, by omega⟩
    exact ⟨S, Mo_icing_67 82 m, rfl, hd, fr_rf _ _⟩
  | succ k ih =>
    intro m S kn hm hs hd
    obtain ⟨m, rfl⟩ : ∃ k, m = k + 1 := ⟨m - 1, by omega⟩
    have x1 : nI (k + 1) - 1 = nI k := nI_m1 (by omega)
    have np : ¬ nI k < 0 := nI_pos (by omega)
    obtain ⟨S1, a1, a2, a3⟩ := mo_row hb (show k < n by omega) r60 (Mo_icing_67 82 m) x2 x3 (r + 1) 0 iz_FU S (by omega) (by have := fu_ge; omega) hs (fun k1 i hi => hd (k + 1) i (Nat.le_refl _) k1 hi)
    obtain ⟨S2, m2, b1, b2, b3⟩ := ih m S1 (by omega) (by omega) (rm_st hs a3 rfl (fun i => ⟨rfl, rfl, rfl⟩)) (fun k2 i h1 h2 h3 => by
      by_cases e : k2 = k
      · subst e
        exact a2 i (Nat.zero_le _) h3
      · rw [a3 119 _ (by simp; omega)]
        exact hd k2 i (by omega) h2 h3)
    refine ⟨S2, m2, ?_, b2, fr_tr (fr_mono a3 (fun p i hp => ?_)) b3⟩
    · rw [x1, ← b1]
      show Mo_icing_67b 82 (Mo_icing_67 82 m) (nI r) x2 x3 (nI k) S = _
      rw [Mo_icing_67b, if_neg np]
      exact a1
    · simp only [fr9, Bool.and_eq_true, beq_iff_eq] at hp ⊢
      exact hp.1
/-- what is bought at a station -/
def nb_ (pr ck wy : Nat → Nat) (r n k c : Nat) : Nat := match bk_ pr ck wy r n k c with
  | none => 0
  | some q => q.2
def bt (pr ck wy : Nat → Nat) (r n : Nat) : Nat → Nat → Nat → Nat
  | 0, k, c => nb_ pr ck wy r n k c
  | j + 1, k, c => bt pr ck wy r n j (k + 1) (c + nb_ pr ck wy r n k c - wy k)
theorem fk_go {pr ck wy : Nat → Nat} {r n k c v : Nat} (k1 : k + 1 < n) (h : fk pr ck wy r n k c = some v) : bk_ pr ck wy r n k c = some (v, nb_ pr ck wy r n k c) ∧ c + nb_ pr ck wy r n k c ≤ r ∧ wy k ≤ c + nb_ pr ck wy r n k c ∧ ∃ u, fk pr ck wy r n (k + 1) (c + nb_ pr ck wy r n k c - wy k) = some u := by
  rw [fk_s k1] at h
  unfold nb_
  cases e : bk_ pr ck wy r n k c with
  | none => rw [e] at h; cases h
  | some q =>
    obtain ⟨qv, qb⟩ := q
    rw [e] at h
    obtain rfl : qv = v := Option.some.inj h
    obtain ⟨s1, s2, -⟩ := mn_spec e
    unfold cst at s2
    split at s2
    · rename_i q
      refine ⟨rfl, q.2.1, q.2.2, ?_⟩
      cases e3 : fk pr ck wy r n (k + 1) (c + qb - wy k) with
      | none => rw [e3] at s2; cases s2
      | some u => exact ⟨u, rfl⟩
    · cases s2
theorem a_bc {a b c : Nat} (h : c ≤ a + b) (h2 : a + b < 2 ^ 31) : nI a + (nI b - nI c) = nI (a + b - c) := by
  rw [Int32.sub_eq_add_neg, ← Int32.add_assoc, ← Int32.sub_eq_add_neg, nI_add, nI_sb h h2]
theorem ra_bt {S : iz_S} {n r : Nat} {pr ck wy : Nat → Nat} (hs : rs S n pr ck wy) (hb : rb n pr ck wy) (r60 : r ≤ 60) (hd : rD S n r pr ck wy 0) {wh : Nat} (hw : wh + 1 < n) : ∀ (j k c m v : Nat), k + j = wh → j < m → c ≤ r → fk pr ck wy r n k c = some v → Ra_boughtAt_5 55 m (nI wh) (nI c) (nI k) S = some (nI (bt pr ck wy r n j k c), S) := by
  intro j
  have n9 := hb.1
  induction j with
  | zero =>
    intro k c m v hk hm cr hf
    obtain ⟨m, rfl⟩ : ∃ k, m = k + 1 := ⟨m - 1, by omega⟩
    obtain rfl : k = wh := by omega
    obtain ⟨e1, e2, e3, e4⟩ := fk_go hw hf
    have lt : ¬ nI k < nI k := nI_nlt (Nat.le_refl _) (by omega)
    have i1 := in_ok (n := k) (N := 9) (by omega) (by decide)
    have i2 := in_ok (n := c) (N := 61) (by omega) (by decide)
    have ev := (hd k c (Nat.zero_le _) (by omega) cr).2 hw
    show Ra_boughtAt_5b 55 (Ra_boughtAt_5 55 m) (nI k) (nI c) (nI k) S = _
    rw [Ra_boughtAt_5b, if_neg lt, i1, ck_t, i2, ck_t, show iz_rf 55 5 = 69 from rfl, nI_clamp (show k < 2 ^ 31 by omega), (rf59 k (by omega)).2, g_nI _ _ (show c < 2 ^ 31 by omega), ev, e1]
    rfl
  | succ j ih =>
    intro k c m v hk hm cr hf
    obtain ⟨m, rfl⟩ : ∃ k, m = k + 1 := ⟨m - 1, by omega⟩
    obtain ⟨e1, e2, e3, u, e4⟩ := fk_go (by omega) hf
    have lt : nI k < nI wh := nI_lt (by omega) (by omega)
    have i1 := in_ok (n := k) (N := 9) (by omega) (by decide)
    have i2 := in_ok (n := c) (N := 61) (by omega) (by decide)
    have ev := (hd k c (Nat.zero_le _) (by omega) cr).2 (by omega)
    rw [e1, show eB (some (v, nb_ pr ck wy r n k c)) = nI (nb_ pr ck wy r n k c) from rfl] at ev
    show Ra_boughtAt_5b 55 (Ra_boughtAt_5 55 m) (nI wh) (nI c) (nI k) S = _
    rw [Ra_boughtAt_5b, if_pos lt, i1, ck_t, i2, ck_t, ck_t, lt_e, show iz_rf 55 5 = 69 from rfl, show iz_rf 55 3 = 58 from rfl, nI_clamp (show k < 2 ^ 31 by omega), (rf59 k (by omega)).2, g_nI _ _ (show c < 2 ^ 31 by omega), ev, g_nI _ _ (show k < 2 ^ 31 by omega), (hs.2 k (by omega)).2.2, a_bc e3 (by omega), nI_1, ih (k + 1) _ m u (by omega) (by omega) (by omega) e4]
    rfl
theorem mo_wh {S : iz_S} {n r k c v : Nat} {pr ck wy : Nat → Nat} (hs : rm_ S n pr ck wy) (hb : rb n pr ck wy) (r60 : r ≤ 60) (hd : rM S n r pr ck wy 0) (k1 : k + 1 < n) (cr : c ≤ r) (hf : fk pr ck wy r n k c = some v) (k219 : Int32 → Int32 → Int32 → Int32 → Int32 → iz_S → Option (Int32 × iz_S)) (x3 : Int32) : ∀ (j b m : Nat), b + j = nb_ pr ck wy r n k c → j < m →
    Mo_icing_228 82 k219 m (nI r) x3 (nI c) (nI b) (nI k) S = k219 (nI r) x3 (nI (c + nb_ pr ck wy r n k c - wy k)) (nI (nb_ pr ck wy r n k c)) (nI (k + 1)) S := by
  intro j
  have n9 := hb.1
  obtain ⟨e1, e2, e3, e4⟩ := fk_go k1 hf
  obtain ⟨s1, s2, s3, s4⟩ := mn_spec e1
  have v4 := fk_le r60 hb.2.1 n9 hf
  have i2 := in_ok (n := 61 * k + c) (N := 549) (by omega) (by decide)
  have i1 := in_ok (n := k) (N := 9) (by omega) (by decide)
  have ix : (61 : Int32) * nI k + nI c = nI (61 * k + c) := by rw [show (61 : Int32) = nI 61 from rfl, pk_mul, nI_add]
  have ev := hd k c (Nat.zero_le _) (by omega) cr
  rw [hf, show eM (some v) = nI v from rfl] at ev
  have g1 := g_nI S 119 (show 61 * k + c < 2 ^ 31 by omega)
  have hfl : ∀ i u, fk pr ck wy r n (k + 1) i = some u → u ≤ 48000 := fun i u h => fk_le r60 hb.2.1 n9 h
  induction j with
  | zero =>
    intro b m hj hm
    obtain ⟨m, rfl⟩ : ∃ k, m = k + 1 := ⟨m - 1, by omega⟩
    obtain rfl : b = nb_ pr ck wy r n k c := by omega
    have cs := mo_cost hs hb k1 r60 cr (show nb_ pr ck wy r n k c ≤ 100 by omega) (fun i hi => hd (k + 1) i (Nat.zero_le _) k1 hi) hfl
    rw [s2, show eM (some v) = nI v from rfl] at cs
    show Mo_icing_228b 82 k219 (Mo_icing_228 82 k219 m) (nI r) x3 (nI c) (nI (nb_ pr ck wy r n k c)) (nI k) S = _
    rw [Mo_icing_228b, cs, bI_s, ix, i2, ck_t, show iz_rf 82 47 = 119 from rfl, g1, ev, if_pos rfl, i1, ck_t, lt_e, show iz_rf 82 24 = 103 from rfl, g_nI _ _ (show k < 2 ^ 31 by omega), (hs.2 k (by omega)).2.2, a_bc e3 (by omega), nI_1]
  | succ j ih =>
    intro b m hj hm
    obtain ⟨m, rfl⟩ : ∃ k, m = k + 1 := ⟨m - 1, by omega⟩
    have cs := mo_cost hs hb k1 r60 cr (show b ≤ 100 by omega) (fun i hi => hd (k + 1) i (Nat.zero_le _) k1 hi) hfl
    have ne : ¬ eM (cst pr ck wy r (fk pr ck wy r n (k + 1)) k c b) = nI v := fun q => by
      cases e : cst pr ck wy r (fk pr ck wy r n (k + 1)) k c b with
      | none =>
        rw [e] at q
        have := (nI_eq (a := 1000000) (b := v) (by decide) (by omega)).mp q
        omega
      | some u =>
        rw [e] at q
        have b1 := cst_le hfl hb.2.1 r60 e
        have h1 := (nI_eq (a := u) (b := v) (by omega) (by omega)).mp q
        have h2 := s3 b u (by omega) e
        omega
    show Mo_icing_228b 82 k219 (Mo_icing_228 82 k219 m) (nI r) x3 (nI c) (nI b) (nI k) S = _
    rw [Mo_icing_228b, cs, bI_s, ix, i2, ck_t, show iz_rf 82 47 = 119 from rfl, g1, ev, if_neg ne, nI_1, ih (b + 1) m (by omega) (by omega)]
theorem mo_bt {S : iz_S} {n r : Nat} {pr ck wy : Nat → Nat} (hs : rm_ S n pr ck wy) (hb : rb n pr ck wy) (r60 : r ≤ 60) (hd : rM S n r pr ck wy 0) {wh : Nat} (hw : wh + 1 < n) : ∀ (j k c m v : Nat) (x5 : Int32), k + j = wh → j + 1 < m → c ≤ r → fk pr ck wy r n k c = some v → Mo_icing_219 82 m (nI r) (nI wh) (nI c) x5 (nI k) S = some (nI (bt pr ck wy r n j k c), S) := by
  intro j
  have n9 := hb.1
  induction j with
  | zero =>
    intro k c m v x5 hk hm cr hf
    obtain ⟨m, rfl⟩ : ∃ k, m = k + 2 := ⟨m - 2, by omega⟩
    obtain rfl : k = wh := by omega
    obtain ⟨e1, e2, e3, e4⟩ := fk_go hw hf
    have le : nI k ≤ nI k := nI_le (Nat.le_refl _) (by omega)
    have ng : ¬ nI (k + 1) ≤ nI k := nI_ge (by omega) (by omega)
    show Mo_icing_219b 82 (Mo_icing_219 82 (m + 1)) (nI r) (nI k) (nI c) x5 (nI k) S = _
    rw [Mo_icing_219b, if_pos le]
    have w := mo_wh hs hb r60 hd hw cr hf (Mo_icing_219 82 (m + 1)) (nI k) (nb_ pr ck wy r n k c) 0 iz_FU (by omega) (by have := fu_ge; omega)
    refine Eq.trans w ?_
    show Mo_icing_219b 82 (Mo_icing_219 82 m) (nI r) (nI k) _ _ (nI (k + 1)) S = _
    rw [Mo_icing_219b, if_neg ng]
    rfl
  | succ j ih =>
    intro k c m v x5 hk hm cr hf
    obtain ⟨m, rfl⟩ : ∃ k, m = k + 1 := ⟨m - 1, by omega⟩
    obtain ⟨e1, e2, e3, u, e4⟩ := fk_go (by omega) hf
    have le : nI k ≤ nI wh := nI_le (by omega) (by omega)
    show Mo_icing_219b 82 (Mo_icing_219 82 m) (nI r) (nI wh) (nI c) x5 (nI k) S = _
    rw [Mo_icing_219b, if_pos le]
    have w := mo_wh hs hb r60 hd (show k + 1 < n by omega) cr hf (Mo_icing_219 82 m) (nI wh) (nb_ pr ck wy r n k c) 0 iz_FU (by omega) (by have := fu_ge; omega)
    refine Eq.trans w ?_
    rw [ih (k + 1) _ m u _ (by omega) (by omega) (by omega) e4]
    rfl
