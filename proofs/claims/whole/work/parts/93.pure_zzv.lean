/-! PURE: sales, reference: the rows -/
def sm_s (V : iz_S) (n N : Nat) (pr col : Nat → Nat) : Prop := V.1 82 32 = nI N ∧ V.1 82 14 = nI n ∧ (∀ p, p < N → V.1 109 p = nI (col p)) ∧ ∀ k, k < n → V.1 99 k = nI (pr k)
def sm_d (V S0 : iz_S) (N : Nat) (col hc : Nat → Nat) (sv u : Nat → Bool) (t : Nat → Nat) (R : List (Nat × Nat)) (B : sl_B) : Prop := (∀ k, k < 10 → V.1 100 k = bI_ (sv k || u k)) ∧ (∀ p, p < N → V.1 91 (col p) = nI (hc p - t p)) ∧ (∀ c, (∀ p, p < N → c ≠ col p) → V.1 91 c = S0.1 91 c) ∧ (∀ i x, R[i]? = some x → V.1 117 (2 * i) = nI x.1 ∧ V.1 117 (2 * i + 1) = nI (col x.2)) ∧ V.1 82 46 = nI B.1 ∧ V.1 82 45 = nI B.2.length ∧ ∀ i x, B.2[i]? = some x → V.1 118 (2 * i) = nI x.1 ∧ V.1 118 (2 * i + 1) = nI (col x.2)
def fsmr (p i : Nat) : Bool := p == 82 && (i == 45 || i == 46) || p == 117 || p == 118 || p == 100 || p == 91
theorem sm_sf {V W : iz_S} {n N : Nat} {pr col : Nat → Nat} (h : sm_s V n N pr col) (hf : fr fsmr V W) : sm_s W n N pr col :=
  ⟨(hf 82 32 rfl).trans h.1, (hf 82 14 rfl).trans h.2.1, fun p hp => (hf 109 p rfl).trans (h.2.2.1 p hp), fun k hk => (hf 99 k rfl).trans (h.2.2.2 k hk)⟩
theorem nI_2m (r : Nat) : (2 : Int32) * nI r = nI (2 * r) := by
  rw [show (2 : Int32) = nI 2 from rfl, pk_mul]
theorem sm_36 (rc : Nat → Int32 → Int32 → iz_S → Option iz_S) {L : Nat} (L4 : L ≤ 4) (s : Int32) : ∀ (j i m : Nat) (V : iz_S), i + j = 2 * L → j < m → ∃ V2, Mo_trySales_36 82 rc m (nI L) s (nI i) V = Mo_trySales_61 82 rc (nI L) s V2 ∧ (∀ k, i ≤ k → k < 2 * L → V2.1 118 k = V.1 117 k) ∧ (∀ k, k < i → V2.1 118 k = V.1 118 k) ∧ fr (fun p _ => p == 118) V V2 := by
  intro j
  induction j with
  | zero =>
    intro i m V hj hm
    obtain ⟨m, rfl⟩ : ∃ q, m = q + 1 := ⟨m - 1, by omega⟩
    have lt : ¬ nI i < nI (2 * L) := nI_nlt (by omega) (by omega)
    refine ⟨V, ?_, fun k h1 h2 => by omega, fun _ _ => rfl, fr_rf _ _⟩
    show Mo_trySales_36b 82 rc (Mo_trySales_36 82 rc m) (nI L) s (nI i) V = _
    rw [Mo_trySales_36b, nI_2m, if_neg lt]
  | succ j ih =>
    intro i m V hj hm
    obtain ⟨m, rfl⟩ : ∃ q, m = q + 1 := ⟨m - 1, by omega⟩
    have lt : nI i < nI (2 * L) := nI_lt (by omega) (by omega)
    have i1 := in_ok (n := i) (N := 8) (by omega) (by decide)
    obtain ⟨V2, a1, a2, a3, a4⟩ := ih (i + 1) m (iz_up V 118 i (V.1 117 i)) (by omega) (by omega)
    refine ⟨V2, ?_, fun k h1 h2 => ?_, fun k hk => ?_, fr_tr (fr_up (fr_rf _ _) rfl) a4⟩
    · show Mo_trySales_36b 82 rc (Mo_trySales_36 82 rc m) (nI L) s (nI i) V = _
      rw [Mo_trySales_36b, nI_2m, if_pos lt, i1, ck_t, ck_t, lt_e, show iz_rf 82 44 = 118 from rfl, show iz_rf 82 43 = 117 from rfl, s_nI _ _ (show i < 2 ^ 31 by omega), g_nI _ _ (show i < 2 ^ 31 by omega), nI_1]
      exact a1
    · by_cases e : k = i
      · subst e
        rw [a3 k (by omega), up_same]
      · rw [a2 k (by omega) h2, up_p _ _ _ _ (by decide)]
    · rw [a3 k (by omega), up_ne _ _ _ _ (Or.inr (by omega))]
theorem sm_keep {V S0 : iz_S} {n N : Nat} {pr col hc : Nat → Nat} {sv : Nat → Bool} {D : List Nat} {u : Nat → Bool} {t : Nat → Nat} {R : List (Nat × Nat)} {s : Nat} {B : sl_B} (hz : sa_z n N pr D) (hi : sl_i D pr u t R s) (hb : sl_b D pr B) (hl : R.length ≤ 4) (h : sm_d V S0 N col hc sv u t R B) (rc : Nat → Int32 → Int32 → iz_S → Option iz_S) : ∃ V2, Mo_trySales_b 82 rc (nI R.length) (nI s) V = Mo_trySales_61 82 rc (nI R.length) (nI s) V2 ∧ sm_d V2 S0 N col hc sv u t R (sl_k s R B) ∧ fr fsmr V V2 := by
  have q1 := sl_sl hz.2.2.1 R
  have q2 := sl_sl hz.2.2.1 B.2
  have e1 := hi.2.2.1
  have e2 := hb.2.1
  have e3 := hb.2.2
  have le : (nI s ≤ nI B.1) = (s ≤ B.1) := nI_leP (by omega) (by omega)
  have eq : (nI s = nI B.1) = (s = B.1) := propext (nI_eq (by omega) (by omega))
  have lt : (nI R.length < nI B.2.length) = (R.length < B.2.length) := propext (nI_ltI (by omega) (by omega))
  have k24 : ∃ V2, Mo_trySales_24 82 rc (nI R.length) (nI s) V = Mo_trySales_61 82 rc (nI R.length) (nI s) V2 ∧ sm_d V2 S0 N col hc sv u t R (s, R) ∧ fr fsmr V V2 := by
    obtain ⟨W, hW⟩ : ∃ W, W = iz_up (iz_up V 82 46 (nI s)) 82 45 (nI R.length) := ⟨_, rfl⟩
    have fW : fr (fun p i => p == 82 && (i == 45 || i == 46)) V W := by rw [hW]; exact fr_up (fr_up (fr_rf _ _) rfl) rfl
    obtain ⟨Y, a1, a2, a3, a4⟩ := sm_36 rc hl (nI s) (2 * R.length) 0 iz_FU W (by omega) (by have := fu_ge; omega)
    refine ⟨Y, ?_, ⟨fun k hk => ?_, fun p hp => ?_, fun c hc => ?_, fun i x hx => ?_, ?_, ?_, fun i x hx => ?_⟩, fun p i hp => ?_⟩
    · rw [Mo_trySales_24, lt_e, lt_e, ← hW]
      exact a1
    · rw [a4 100 k rfl, fW 100 k rfl]; exact h.1 k hk
    · rw [a4 91 _ rfl, fW 91 _ rfl]; exact h.2.1 p hp
    · rw [a4 91 _ rfl, fW 91 _ rfl]; exact h.2.2.1 c hc
    · rw [a4 117 _ rfl, fW 117 _ rfl, a4 117 _ rfl, fW 117 _ rfl]; exact h.2.2.2.1 i x hx
    · rw [a4 82 46 rfl, hW, up_ne _ _ _ _ (by omega), up_same]
    · rw [a4 82 45 rfl, hW, up_same]
    · have il : i < R.length := (List.getElem?_eq_some_iff.mp hx).1
      rw [a2 (2 * i) (Nat.zero_le _) (by omega), a2 (2 * i + 1) (Nat.zero_le _) (by omega), fW 117 _ rfl, fW 117 _ rfl]
      exact h.2.2.2.1 i x hx
    · simp only [fsmr, Bool.or_eq_false_iff, Bool.and_eq_false_iff, beq_eq_false_iff_ne] at hp
      rw [a4 p i (by simp; omega), fW p i (by simp; omega)]
  have e61 : ∃ V2, Mo_trySales_61 82 rc (nI R.length) (nI s) V = Mo_trySales_61 82 rc (nI R.length) (nI s) V2 ∧ sm_d V2 S0 N col hc sv u t R B ∧ fr fsmr V V2 := ⟨V, rfl, h, fr_rf _ _⟩
  rw [Mo_trySales_b, h.2.2.2.2.1, h.2.2.2.2.2.1]
  unfold sl_k
  by_cases c1 : s ≤ B.1
  · rw [if_pos (le.mpr c1)]
    by_cases c2 : s = B.1
    · rw [if_pos (eq.mpr c2)]
      by_cases c3 : R.length < B.2.length
      · rw [if_pos (lt.mpr c3), if_pos (Or.inr ⟨c2, c3⟩)]
        exact k24
      · rw [if_neg (fun q => c3 (lt.mp q)), if_neg (by omega)]
        exact e61
    · rw [if_neg (fun q => c2 (eq.mp q)), if_neg (by omega)]
      exact e61
  · rw [if_neg (fun q => c1 (le.mp q)), if_pos (by omega)]
    exact k24
/-- the sale is laid into the row -/
def sm_P (V : iz_S) (L k c : Nat) (x : Int32) : iz_S := iz_up (iz_up (iz_up (iz_up V 117 (2 * L) (nI k)) 117 (2 * L + 1) (nI c)) 100 k 1) 91 c x
theorem sm_push {V S0 : iz_S} {N : Nat} {col hc : Nat → Nat} {sv u : Nat → Bool} {t : Nat → Nat} {R : List (Nat × Nat)} {B : sl_B} (hcol : ∀ p q, p < N → q < N → col p = col q → p = q) (h : sm_d V S0 N col hc sv u t R B) {k p : Nat} (pN : p < N) : sm_d (sm_P V R.length k (col p) (nI (hc p - (t p + 1)))) S0 N col hc sv (sl_u u k) (sl_t t p) (R ++ [(k, p)]) B ∧ fr fsmr V (sm_P V R.length k (col p) (nI (hc p - (t p + 1)))) := by
  refine ⟨⟨fun i hi => ?_, fun q qN => ?_, fun c hc2 => ?_, fun i x hx => ?_, ?_, ?_, fun i x hx => ?_⟩, fr_up (fr_up (fr_up (fr_up (fr_rf _ _) rfl) rfl) rfl) rfl⟩
  · unfold sm_P sl_u
    rw [up_p _ _ _ _ (by decide)]
    by_cases e : i = k
    · rw [if_pos e, e, up_same, Bool.or_true]; rfl
    · rw [if_neg e, up_ne _ _ _ _ (Or.inr e), up_p _ _ _ _ (by decide), up_p _ _ _ _ (by decide)]
      exact h.1 i hi
  · unfold sm_P sl_t
    by_cases e : q = p
    · rw [if_pos e, e, up_same]
    · rw [if_neg e, up_ne _ _ _ _ (Or.inr (fun z => e (hcol q p qN pN z))), up_p _ _ _ _ (by decide), up_p _ _ _ _ (by decide), up_p _ _ _ _ (by decide)]
      exact h.2.1 q qN
  · unfold sm_P
    rw [up_ne _ _ _ _ (Or.inr (hc2 p pN)), up_p _ _ _ _ (by decide), up_p _ _ _ _ (by decide), up_p _ _ _ _ (by decide)]
    exact h.2.2.1 c hc2
  · have y : ∀ z, (sm_P V R.length k (col p) (nI (hc p - (t p + 1)))).1 117 z = (iz_up (iz_up V 117 (2 * R.length) (nI k)) 117 (2 * R.length + 1) (nI (col p))).1 117 z := fun z => by
      unfold sm_P
      rw [up_p _ _ _ _ (by decide), up_p _ _ _ _ (by decide)]
    rw [y, y]
    rcases get_a1 hx with ⟨q1, q2⟩ | ⟨q1, q2⟩
    · rw [up_ne _ _ _ _ (Or.inr (by omega)), up_ne _ _ _ _ (Or.inr (by omega)), up_ne _ _ _ _ (Or.inr (by omega)), up_ne _ _ _ _ (Or.inr (by omega))]
      exact h.2.2.2.1 i x q2
    · rw [q1, q2, up_same, up_ne _ _ _ _ (Or.inr (by omega)), up_same]
      exact ⟨rfl, rfl⟩
  · unfold sm_P
    rw [up_p _ _ _ _ (by decide), up_p _ _ _ _ (by decide), up_p _ _ _ _ (by decide), up_p _ _ _ _ (by decide)]
    exact h.2.2.2.2.1
  · unfold sm_P
    rw [up_p _ _ _ _ (by decide), up_p _ _ _ _ (by decide), up_p _ _ _ _ (by decide), up_p _ _ _ _ (by decide)]
    exact h.2.2.2.2.2.1
  · unfold sm_P
    rw [up_p _ _ _ _ (by decide), up_p _ _ _ _ (by decide), up_p _ _ _ _ (by decide), up_p _ _ _ _ (by decide)]
    exact h.2.2.2.2.2.2 i x hx
theorem sm_pop {V S0 : iz_S} {N : Nat} {col hc : Nat → Nat} {sv u : Nat → Bool} {t : Nat → Nat} {R : List (Nat × Nat)} {B : sl_B} (hcol : ∀ p q, p < N → q < N → col p = col q → p = q) {k p : Nat} (h : sm_d V S0 N col hc sv (sl_u u k) (sl_t t p) (R ++ [(k, p)]) B) (pN : p < N) (hu : u k = false) (hs : sv k = false) : sm_d (iz_up (iz_up V 91 (col p) (nI (hc p - t p))) 100 k 0) S0 N col hc sv u t R B ∧ fr fsmr V (iz_up (iz_up V 91 (col p) (nI (hc p - t p))) 100 k 0) := by
  refine ⟨⟨fun i hi => ?_, fun q qN => ?_, fun c hc2 => ?_, fun i x hx => ?_, ?_, ?_, fun i x hx => ?_⟩, fr_up (fr_up (fr_rf _ _) rfl) rfl⟩
  · by_cases e : i = k
    · rw [e, up_same, hu, hs]; rfl
    · rw [up_ne _ _ _ _ (Or.inr e), up_p _ _ _ _ (by decide), h.1 i hi]
      unfold sl_u
      rw [if_neg e]
  · rw [up_p _ _ _ _ (by decide)]
    by_cases e : q = p
    · rw [e, up_same]
    · rw [up_ne _ _ _ _ (Or.inr (fun z => e (hcol q p qN pN z))), h.2.1 q qN]
      unfold sl_t
      rw [if_neg e]
  · rw [up_p _ _ _ _ (by decide), up_ne _ _ _ _ (Or.inr (hc2 p pN))]
    exact h.2.2.1 c hc2
  · have il : i < R.length := (List.getElem?_eq_some_iff.mp hx).1
    rw [up_p _ _ _ _ (by decide), up_p _ _ _ _ (by decide)]
    exact h.2.2.2.1 i x (by rw [List.getElem?_append_left il]; exact hx)
  · rw [up_p _ _ _ _ (by decide), up_p _ _ _ _ (by decide)]
    exact h.2.2.2.2.1
  · rw [up_p _ _ _ _ (by decide), up_p _ _ _ _ (by decide)]
    exact h.2.2.2.2.2.1
  · rw [up_p _ _ _ _ (by decide), up_p _ _ _ _ (by decide)]
    exact h.2.2.2.2.2.2 i x hx
