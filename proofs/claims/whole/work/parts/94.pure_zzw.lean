/-! PURE: sales, reference: the search -/
/-- how the reference answers whether a sale can be made, in any store of the search -/
def sm_w (S0 : iz_S) (n N : Nat) (col hc : Nat → Nat) (sv : Nat → Bool) (fit : Nat → Nat → Nat → Bool) : Prop := ∀ (V : iz_S) (u : Nat → Bool) (t : Nat → Nat), fr fsmr S0 V → (∀ k, k < 10 → V.1 100 k = bI_ (sv k || u k)) → (∀ p, p < N → V.1 91 (col p) = nI (hc p - t p)) → ∀ k p, k < n → p < N → t p < 4 → ∃ r, Mo_whyNot 82 (nI k) (nI (col p)) V = some (r, V) ∧ (r = 0 ↔ (!u k && fit k p (t p)) = true)
/-- what is fixed -/
def sm_f (n N : Nat) (col hc : Nat → Nat) (sv : Nat → Bool) (fit : Nat → Nat → Nat → Bool) : Prop := (∀ p q, p < N → q < N → col p = col q → p = q) ∧ (∀ p, p < N → col p < 16 ∧ hc p ≤ 6) ∧ ∀ k p t, k < n → p < N → t < 4 → fit k p t = true → t < hc p ∧ sv k = false
/-- a search from R on, in the reference -/
def sm_R (S0 : iz_S) (n N : Nat) (pr col hc : Nat → Nat) (sv : Nat → Bool) (fit : Nat → Nat → Nat → Bool) (D : List Nat) (d : Nat) (rc : Nat → Int32 → Int32 → iz_S → Option iz_S) : Prop := ∀ (u : Nat → Bool) (t : Nat → Nat) (R : List (Nat × Nat)) (s : Nat) (B : sl_B) (V : iz_S), R.length + d = 4 → sl_i D pr u t R s → sl_b D pr B → fr fsmr S0 V → sm_d V S0 N col hc sv u t R B → ∃ V2, rc 82 (nI R.length) (nI s) V = some V2 ∧ sm_d V2 S0 N col hc sv u t R (sl_r n N pr fit d u t R s B) ∧ fr fsmr V V2
theorem sm_79 {S0 : iz_S} {n N : Nat} {pr col hc : Nat → Nat} {sv : Nat → Bool} {fit : Nat → Nat → Nat → Bool} {D : List Nat} (hD : ∀ k p t, k < n → p < N → t < 4 → fit k p t = true → k ∈ D) (hS : D.Pairwise (fun a b => pr b ≤ pr a)) (hp : ∀ k, k ∈ D → 1 ≤ pr k) (hz : sa_z n N pr D) (h0 : sm_s S0 n N pr col) (hf : sm_f n N col hc sv fit) (hw : sm_w S0 n N col hc sv fit) {d : Nat} {rc : Nat → Int32 → Int32 → iz_S → Option iz_S} (hr : sm_R S0 n N pr col hc sv fit D d rc) {u : Nat → Bool} {t : Nat → Nat} {R : List (Nat × Nat)} {s : Nat} (hl : R.length + (d + 1) = 4) (hi : sl_i D pr u t R s) {k : Nat} (kn : k < n) (k63 : Int32 → Int32 → Int32 → iz_S → Option iz_S) : ∀ (j p m : Nat) (B : sl_B) (V : iz_S), p + j = N → j < m → sl_b D pr B → fr fsmr S0 V → sm_d V S0 N col hc sv u t R B →
    ∃ V2, Mo_trySales_79 82 rc k63 m (nI R.length) (nI s) (nI k) (nI p) V = k63 (nI R.length) (nI s) (nI (k + 1)) V2 ∧ sm_d V2 S0 N col hc sv u t R (itr (fun p B => if (!u k && fit k p (t p)) = true then sl_r n N pr fit d (sl_u u k) (sl_t t p) (R ++ [(k, p)]) (s + pr k) B else B) p j B) ∧ sl_b D pr (itr (fun p B => if (!u k && fit k p (t p)) = true then sl_r n N pr fit d (sl_u u k) (sl_t t p) (R ++ [(k, p)]) (s + pr k) B else B) p j B) ∧ fr fsmr V V2 := by
  have z1 := hz.1
  have z2 := hz.2.1
  intro j
  induction j with
  | zero =>
    intro p m B V hj hm hb hfv h
    obtain ⟨m, rfl⟩ : ∃ q, m = q + 1 := ⟨m - 1, by omega⟩
    have lt : ¬ nI p < nI N := nI_nlt (by omega) (by omega)
    have hs := sm_sf h0 hfv
    refine ⟨V, ?_, h, hb, fr_rf _ _⟩
    show Mo_trySales_79b 82 rc k63 (Mo_trySales_79 82 rc k63 m) (nI R.length) (nI s) (nI k) (nI p) V = _
    rw [Mo_trySales_79b, hs.1, if_neg lt, nI_1]
  | succ j ih =>
    intro p m B V hj hm hb hfv h
    obtain ⟨m, rfl⟩ : ∃ q, m = q + 1 := ⟨m - 1, by omega⟩
    have lt : nI p < nI N := nI_lt (by omega) (by omega)
    have pN : p < N := by omega
    have t4 : t p < 4 := by have := hi.2.2.2 p; omega
    have hs := sm_sf h0 hfv
    obtain ⟨c16, hc6⟩ := hf.2.1 p pN
    have i6 := in_ok (n := p) (N := 6) (by omega) (by decide)
    have i16 := in_ok (n := col p) (N := 16) c16 (by decide)
    have i10 := in_ok (n := k) (N := 10) (by omega) (by decide)
    have i8 := in_ok (n := 2 * R.length) (N := 8) (by omega) (by decide)
    have i8b := in_ok (n := 2 * R.length + 1) (N := 8) (by omega) (by decide)
    have gp := fun (T : iz_S) q => g_nI T q (show p < 2 ^ 31 by omega)
    have gc := fun (T : iz_S) q => g_nI T q (show col p < 2 ^ 31 by omega)
    have gk := fun (T : iz_S) q => g_nI T q (show k < 2 ^ 31 by omega)
    have sc := fun (T : iz_S) q => s_nI T q (show col p < 2 ^ 31 by omega)
    have sk := fun (T : iz_S) q => s_nI T q (show k < 2 ^ 31 by omega)
    have s2 := fun (T : iz_S) q => s_nI T q (show 2 * R.length < 2 ^ 31 by omega)
    have s3 := fun (T : iz_S) q => s_nI T q (show 2 * R.length + 1 < 2 ^ 31 by omega)
    obtain ⟨r, w1, w2⟩ := hw V u t hfv h.1 h.2.1 k p kn pN t4
    rw [itr]
    by_cases c : (!u k && fit k p (t p)) = true
    · have r0 := w2.mpr c
      rw [if_pos c]
      have c' := c
      simp only [Bool.and_eq_true, Bool.not_eq_true'] at c'
      obtain ⟨th, svk⟩ := hf.2.2 k p (t p) kn pN t4 c'.2
      have kD := hD k p (t p) kn pN t4 c'.2
      have hi2 := sl_is (p := p) hi c'.1 kD
      have ll : (R ++ [(k, p)]).length = R.length + 1 := by rw [List.length_append]; rfl
      obtain ⟨a2, a3⟩ := sm_push hf.1 h (k := k) pN
      obtain ⟨V2, b1, b2, b3⟩ := hr _ _ _ _ B _ (by rw [ll]; omega) hi2 hb (fr_tr hfv a3) a2
      obtain ⟨c2, c3⟩ := sm_pop hf.1 b2 pN c'.1 svk
      have hb2 : sl_b D pr (sl_r n N pr fit d (sl_u u k) (sl_t t p) (R ++ [(k, p)]) (s + pr k) B) := (sl_eq hD hS hp d _ _ _ _ B hi2 (by rw [ll]; omega) hb).2
      have f3 := fr_tr a3 (fr_tr b3 c3)
      obtain ⟨V4, d1, d2, d3, d4⟩ := ih (p + 1) m _ _ (by omega) (by omega) hb2 (fr_tr hfv f3) c2
      rw [ll, ← nI_1] at b1
      have m1 : nI (hc p - t p) - 1 = nI (hc p - (t p + 1)) := by rw [nI_m1 (by omega)]; congr 1
      have m2 : nI (hc p - (t p + 1)) + 1 = nI (hc p - t p) := by rw [nI_1]; congr 1; omega
      have e91 : V2.1 91 (col p) = nI (hc p - (t p + 1)) := by
        rw [b2.2.1 p pN]
        unfold sl_t
        rw [if_pos rfl]
      have e99 : (sm_P V R.length k (col p) (nI (hc p - (t p + 1)))).1 99 k = nI (pr k) := by
        rw [a3 99 k rfl]; exact hs.2.2.2 k kn
      refine ⟨V4, ?_, d2, d3, fr_tr f3 d4⟩
      show Mo_trySales_79b 82 rc k63 (Mo_trySales_79 82 rc k63 m) (nI R.length) (nI s) (nI k) (nI p) V = _
      rw [Mo_trySales_79b, hs.1, if_pos lt, i6, ck_t, lt_e, show iz_rf 82 31 = 109 from rfl, gp, hs.2.2.1 p pN, w1, bI_s, if_pos r0, nI_2m, i8, ck_t, lt_e, nI_1 (2 * R.length), i8b, ck_t, lt_e, i10, ck_t, lt_e, i16, ck_t, ck_t, lt_e, ck_t, show iz_rf 82 43 = 117 from rfl, show iz_rf 82 20 = 100 from rfl, show iz_rf 82 9 = 91 from rfl, show iz_rf 82 19 = 99 from rfl, nb_1, s2, s3, sk, sc, gc, up_p _ _ _ _ (show 91 ≠ 100 by decide), up_p _ _ _ _ (show 91 ≠ 117 by decide), up_p _ _ _ _ (show 91 ≠ 117 by decide), h.2.1 p pN, m1, gk]
      rw [show (iz_up (iz_up (iz_up (iz_up V 117 (2 * R.length) (nI k)) 117 (2 * R.length + 1) (nI (col p))) 100 k 1) 91 (col p) (nI (hc p - (t p + 1)))) = sm_P V R.length k (col p) (nI (hc p - (t p + 1))) from rfl, e99, nI_add, b1, bV_s, ck_t, ck_t, lt_e, ck_t, lt_e, gc, e91, m2, sc, nb_0, sk, Mo_trySales_179, nI_1]
      exact d1
    · have r0 : ¬ r = 0 := fun q => c (w2.mp q)
      rw [if_neg c]
      obtain ⟨V4, d1, d2, d3, d4⟩ := ih (p + 1) m B V (by omega) (by omega) hb hfv h
      refine ⟨V4, ?_, d2, d3, d4⟩
      show Mo_trySales_79b 82 rc k63 (Mo_trySales_79 82 rc k63 m) (nI R.length) (nI s) (nI k) (nI p) V = _
      rw [Mo_trySales_79b, hs.1, if_pos lt, i6, ck_t, lt_e, show iz_rf 82 31 = 109 from rfl, gp, hs.2.2.1 p pN, w1, bI_s, if_neg r0, Mo_trySales_179, nI_1]
      exact d1
theorem sm_63 {S0 : iz_S} {n N : Nat} {pr col hc : Nat → Nat} {sv : Nat → Bool} {fit : Nat → Nat → Nat → Bool} {D : List Nat} (hD : ∀ k p t, k < n → p < N → t < 4 → fit k p t = true → k ∈ D) (hS : D.Pairwise (fun a b => pr b ≤ pr a)) (hp : ∀ k, k ∈ D → 1 ≤ pr k) (hz : sa_z n N pr D) (h0 : sm_s S0 n N pr col) (hf : sm_f n N col hc sv fit) (hw : sm_w S0 n N col hc sv fit) {d : Nat} {rc : Nat → Int32 → Int32 → iz_S → Option iz_S} (hr : sm_R S0 n N pr col hc sv fit D d rc) {u : Nat → Bool} {t : Nat → Nat} {R : List (Nat × Nat)} {s : Nat} (hl : R.length + (d + 1) = 4) (hi : sl_i D pr u t R s) : ∀ (j k m : Nat) (B : sl_B) (V : iz_S), k + j = n → j < m → sl_b D pr B → fr fsmr S0 V → sm_d V S0 N col hc sv u t R B →
    ∃ V2, Mo_trySales_63 82 rc m (nI R.length) (nI s) (nI k) V = some V2 ∧ sm_d V2 S0 N col hc sv u t R (itr (fun k B => itr (fun p B => if (!u k && fit k p (t p)) = true then sl_r n N pr fit d (sl_u u k) (sl_t t p) (R ++ [(k, p)]) (s + pr k) B else B) 0 N B) k j B) ∧ fr fsmr V V2 := by
  have z1 := hz.1
  have z2 := hz.2.1
  have l4 : nI R.length < 4 := nI_lt (b := 4) (by omega) (by decide)
  intro j
  induction j with
  | zero =>
    intro k m B V hj hm hb hfv h
    obtain ⟨m, rfl⟩ : ∃ q, m = q + 1 := ⟨m - 1, by omega⟩
    have lt : ¬ nI k < nI n := nI_nlt (by omega) (by omega)
    refine ⟨V, ?_, h, fr_rf _ _⟩
    show Mo_trySales_63b 82 rc (Mo_trySales_63 82 rc m) (nI R.length) (nI s) (nI k) V = _
    rw [Mo_trySales_63b, (sm_sf h0 hfv).2.1, if_neg lt, Mo_trySales_191]
  | succ j ih =>
    intro k m B V hj hm hb hfv h
    obtain ⟨m, rfl⟩ : ∃ q, m = q + 1 := ⟨m - 1, by omega⟩
    have lt : nI k < nI n := nI_lt (by omega) (by omega)
    obtain ⟨V1, a1, a2, a3, a4⟩ := sm_79 hD hS hp hz h0 hf hw hr hl hi (show k < n by omega) (Mo_trySales_63 82 rc m) N 0 iz_FU B V (by omega) (by have := fu_ge; omega) hb hfv h
    obtain ⟨V2, b1, b2, b3⟩ := ih (k + 1) m _ V1 (by omega) (by omega) a3 (fr_tr hfv a4) a2
    refine ⟨V2, ?_, b2, fr_tr a4 b3⟩
    show Mo_trySales_63b 82 rc (Mo_trySales_63 82 rc m) (nI R.length) (nI s) (nI k) V = _
    rw [Mo_trySales_63b, (sm_sf h0 hfv).2.1, if_pos lt, if_pos l4]
    exact Eq.trans a1 b1
theorem sm_rows {S0 : iz_S} {n N : Nat} {pr col hc : Nat → Nat} {sv : Nat → Bool} {fit : Nat → Nat → Nat → Bool} {D : List Nat} (hD : ∀ k p t, k < n → p < N → t < 4 → fit k p t = true → k ∈ D) (hS : D.Pairwise (fun a b => pr b ≤ pr a)) (hp : ∀ k, k ∈ D → 1 ≤ pr k) (hz : sa_z n N pr D) (h0 : sm_s S0 n N pr col) (hf : sm_f n N col hc sv fit) (hw : sm_w S0 n N col hc sv fit) : ∀ (d F : Nat), d < F → sm_R S0 n N pr col hc sv fit D d (Mo_trySales F) := by
  have z1 := hz.1
  intro d
  induction d with
  | zero =>
    intro F hF u t R s B V hl hi hb hfv h
    obtain ⟨F, rfl⟩ : ∃ q, F = q + 1 := ⟨F - 1, by omega⟩
    obtain ⟨V1, a1, a2, a3⟩ := sm_keep hz hi hb (by omega) h (Mo_trySales F)
    refine ⟨V1, ?_, a2, a3⟩
    have l4 : ¬ nI R.length < 4 := nI_nlt (b := 4) (by omega) (by omega)
    show Mo_trySales_b 82 (Mo_trySales F) (nI R.length) (nI s) V = _
    obtain ⟨m, hm⟩ : ∃ m, iz_FU = m + 1 := ⟨iz_FU - 1, by have := fu_ge; omega⟩
    rw [a1, Mo_trySales_61, hm]
    show Mo_trySales_63b 82 (Mo_trySales F) (Mo_trySales_63 82 (Mo_trySales F) m) (nI R.length) (nI s) 0 V1 = _
    rw [Mo_trySales_63b, if_neg l4, Mo_trySales_191]
    split <;> rfl
  | succ d ih =>
    intro F hF u t R s B V hl hi hb hfv h
    obtain ⟨F, rfl⟩ : ∃ q, F = q + 1 := ⟨F - 1, by omega⟩
    obtain ⟨V1, a1, a2, a3⟩ := sm_keep hz hi hb (by omega) h (Mo_trySales F)
    have hb1 := sl_kb hi (show R.length ≤ 4 by omega) hb
    obtain ⟨V2, b1, b2, b3⟩ := sm_63 hD hS hp hz h0 hf hw (ih F (by omega)) hl hi n 0 iz_FU _ V1 (by omega) (by have := fu_ge; omega) hb1 (fr_tr hfv a3) a2
    refine ⟨V2, ?_, b2, fr_tr a3 b3⟩
    show Mo_trySales_b 82 (Mo_trySales F) (nI R.length) (nI s) V = _
    rw [a1, Mo_trySales_61]
    exact b1
