/-! PURE: sales, class: what fits, and the dearest first -/
def fsb (p i : Nat) : Bool := p == 49 || p == 50 || p == 45 && (i == 1 || i == 2 || i == 10)
/-- whether an order fits, in any store of the plan -/
def sb_w (S : iz_S) (n N : Nat) (col hc : Nat → Nat) (fit : Nat → Nat → Nat → Bool) : Prop := ∀ V, fr fsb S V → ∀ k p t, k < n → p < N → t < 4 → ∃ r3 r5, Ho_blockAt 13 (nI (col p)) (nI (hc p) - 1 - nI t) V = some (r3, V) ∧ Or_hindrance 38 (nI k) r3 V = some (r5, V) ∧ (r5 = 0 ↔ fit k p t = true)
def sb_f (S : iz_S) (n N : Nat) (pr col hc : Nat → Nat) : Prop := n ≤ 10 ∧ N ≤ 3 ∧ S.1 45 7 = nI N ∧ S.1 38 0 = nI n ∧ (∀ p, p < N → S.1 46 p = nI (col p) ∧ col p < 16 ∧ S.1 17 (col p) = nI (hc p)) ∧ ∀ k, k < n → S.1 39 k = nI (pr k) ∧ pr k ≤ 1000
theorem nb_b (b : Bool) : iz_nb (bI_ b) = bI_ b := by cases b <;> decide
theorem sb_33 {S : iz_S} {n N : Nat} {pr col hc : Nat → Nat} {fit : Nat → Nat → Nat → Bool} (hf : sb_f S n N pr col hc) (hw : sb_w S n N col hc fit) {k p : Nat} (kn : k < n) (pN : p < N) (k4 : Int32 → Int32 → Int32 → iz_S → Option (Int32 × iz_S)) : ∀ (j t m : Nat) (b : Bool) (V : iz_S), t + j = 4 → j < m → fr fsb S V → ∃ b2 V2, Sa_fillFits_33 45 k4 m (nI k) (bI_ b) (nI p) (nI (hc p) - 1) (nI t) V = k4 (nI k) (bI_ b2) (nI (p + 1)) V2 ∧ (b2 = true ↔ b = true ∨ ∃ q, t ≤ q ∧ q < 4 ∧ fit k p q = true) ∧ (∀ q, t ≤ q → q < 4 → V2.1 49 ((k * 3 + p) * 4 + q) = bI_ (fit k p q)) ∧ (∀ i, i < (k * 3 + p) * 4 + t ∨ (k * 3 + p) * 4 + 4 ≤ i → V2.1 49 i = V.1 49 i) ∧ fr (fun q _ => q == 49) V V2 := by
  obtain ⟨n10, N3, f1, f2, f3, f4⟩ := hf
  obtain ⟨e46, c16, -⟩ := f3 p pN
  have i3 := in_ok (n := p) (N := 3) (by omega) (by decide)
  intro j
  induction j with
  | zero =>
    intro t m b V hj hm hv
    obtain ⟨m, rfl⟩ : ∃ q, m = q + 1 := ⟨m - 1, by omega⟩
    have lt : ¬ nI t < 4 := nI_nlt (b := 4) (by omega) (by omega)
    refine ⟨b, V, ?_, ⟨fun h => Or.inl h, fun h => h.elim id (fun ⟨q, h1, h2, _⟩ => by omega)⟩, fun q h1 h2 => by omega, fun _ _ => rfl, fr_rf _ _⟩
    show Sa_fillFits_33b 45 k4 (Sa_fillFits_33 45 k4 m) (nI k) (bI_ b) (nI p) (nI (hc p) - 1) (nI t) V = _
    rw [Sa_fillFits_33b, if_neg lt, nI_1]
  | succ j ih =>
    intro t m b V hj hm hv
    obtain ⟨m, rfl⟩ : ∃ q, m = q + 1 := ⟨m - 1, by omega⟩
    have lt : nI t < 4 := nI_lt (b := 4) (by omega) (by decide)
    obtain ⟨r3, r5, w1, w2, w3⟩ := hw V hv k p t kn pN (by omega)
    have i120 := in_ok (n := (k * 3 + p) * 4 + t) (N := 120) (by omega) (by decide)
    have sl : nI k * 3 + nI p = nI (k * 3 + p) := by rw [show (3 : Int32) = nI 3 from rfl, pk_mul, nI_add]
    have sl2 : nI (k * 3 + p) * 4 + nI t = nI ((k * 3 + p) * 4 + t) := by rw [show (4 : Int32) = nI 4 from rfl, pk_mul, nI_add]
    obtain ⟨W, hW⟩ : ∃ W, W = iz_up V 49 ((k * 3 + p) * 4 + t) (bI_ (fit k p t)) := ⟨_, rfl⟩
    have fW : fr (fun q _ => q == 49) V W := by rw [hW]; exact fr_up (fr_rf _ _) rfl
    have fW2 : fr fsb S W := by rw [hW]; exact fr_up hv rfl
    have e77 : Sa_fillFits_33b 45 k4 (Sa_fillFits_33 45 k4 m) (nI k) (bI_ b) (nI p) (nI (hc p) - 1) (nI t) V = Sa_fillFits_77 45 k4 (Sa_fillFits_33 45 k4 m) (nI k) (bI_ b) (nI p) (nI (hc p) - 1) (nI t) (bI_ (fit k p t)) V := by
      rw [Sa_fillFits_33b, if_pos lt, i3, ck_t, show iz_rf 45 0 = 46 from rfl, g_nI _ _ (show p < 2 ^ 31 by omega), hv 46 p rfl, e46, show iz_rf 45 5 = 13 from rfl, w1, bI_s, show iz_rf 45 6 = 38 from rfl, w2, bI_s]
      cases e : fit k p t with
      | true => rw [if_pos (w3.mpr e)]; rfl
      | false => rw [if_neg (fun q => by rw [w3.mp q] at e; cases e)]; rfl
    have e107 : Sa_fillFits_77 45 k4 (Sa_fillFits_33 45 k4 m) (nI k) (bI_ b) (nI p) (nI (hc p) - 1) (nI t) (bI_ (fit k p t)) V = Sa_fillFits_33 45 k4 m (nI k) (bI_ (b || fit k p t)) (nI p) (nI (hc p) - 1) (nI (t + 1)) W := by
      rw [Sa_fillFits_77, Sa_slot, sl, sl2, bI_s, i120, ck_t, lt_e, show iz_rf 45 8 = 49 from rfl, nb_b, s_nI _ _ (show (k * 3 + p) * 4 + t < 2 ^ 31 by omega), ← hW, ← nI_1]
      cases b <;> cases fit k p t <;> rfl
    obtain ⟨b2, V2, a1, a2, a3, a4, a5⟩ := ih (t + 1) m (b || fit k p t) W (by omega) (by omega) fW2
    refine ⟨b2, V2, ?_, ?_, fun q h1 h2 => ?_, fun i hi => ?_, fr_tr fW a5⟩
    · exact (e77.trans e107).trans a1
    · rw [a2, Bool.or_eq_true]
      constructor
      · rintro ((h | h) | ⟨q, h1, h2, h3⟩)
        · exact Or.inl h
        · exact Or.inr ⟨t, Nat.le_refl _, by omega, h⟩
        · exact Or.inr ⟨q, by omega, h2, h3⟩
      · rintro (h | ⟨q, h1, h2, h3⟩)
        · exact Or.inl (Or.inl h)
        · by_cases e : q = t
          · rw [e] at h3; exact Or.inl (Or.inr h3)
          · exact Or.inr ⟨q, by omega, h2, h3⟩
    · by_cases e : q = t
      · rw [e, a4 _ (Or.inl (by omega)), hW, up_same]
      · exact a3 q (by omega) h2
    · rw [a4 i (by omega), hW, up_ne _ _ _ _ (Or.inr (by omega))]
theorem sb_4 {S : iz_S} {n N : Nat} {pr col hc : Nat → Nat} {fit : Nat → Nat → Nat → Bool} (hf : sb_f S n N pr col hc) (hw : sb_w S n N col hc fit) {k : Nat} (kn : k < n) : ∀ (j p m : Nat) (b : Bool) (V : iz_S), p + j = N → j < m → fr fsb S V → ∃ b2 V2, Sa_fillFits_4 45 m (nI k) (bI_ b) (nI p) V = some (bI_ b2, V2) ∧ (b2 = true ↔ b = true ∨ ∃ x q, p ≤ x ∧ x < N ∧ q < 4 ∧ fit k x q = true) ∧ (∀ x q, p ≤ x → x < N → q < 4 → V2.1 49 ((k * 3 + x) * 4 + q) = bI_ (fit k x q)) ∧ (∀ i, i < (k * 3 + p) * 4 ∨ (k * 3 + 3) * 4 ≤ i → V2.1 49 i = V.1 49 i) ∧ fr (fun q _ => q == 49) V V2 := by
  obtain ⟨n10, N3, f1, f2, f3, f4⟩ := id hf
  intro j
  induction j with
  | zero =>
    intro p m b V hj hm hv
    obtain ⟨m, rfl⟩ : ∃ q, m = q + 1 := ⟨m - 1, by omega⟩
    have lt : ¬ nI p < nI N := nI_nlt (by omega) (by omega)
    refine ⟨b, V, ?_, ⟨fun h => Or.inl h, fun h => h.elim id (fun ⟨x, q, h1, h2, _⟩ => by omega)⟩, fun x q h1 h2 => by omega, fun _ _ => rfl, fr_rf _ _⟩
    show Sa_fillFits_4b 45 (Sa_fillFits_4 45 m) (nI k) (bI_ b) (nI p) V = _
    rw [Sa_fillFits_4b, hv 45 7 rfl, f1, if_neg lt, nb_b, decide_eq_true rfl, ck_t]
  | succ j ih =>
    intro p m b V hj hm hv
    obtain ⟨m, rfl⟩ : ∃ q, m = q + 1 := ⟨m - 1, by omega⟩
    have lt : nI p < nI N := nI_lt (by omega) (by omega)
    obtain ⟨e46, c16, e17⟩ := f3 p (by omega)
    have i3 := in_ok (n := p) (N := 3) (by omega) (by decide)
    have i16 := in_ok (n := col p) (N := 16) c16 (by decide)
    obtain ⟨b1, V1, a1, a2, a3, a4, a5⟩ := sb_33 hf hw kn (show p < N by omega) (Sa_fillFits_4 45 m) 4 0 iz_FU b V (by omega) (by have := fu_ge; omega) hv
    have f1' : fr fsb S V1 := fr_tr hv (fr_mono a5 (fun q i hq => by simp only [beq_iff_eq] at hq; simp [fsb, hq]))
    obtain ⟨b2, V2, c1, c2, c3, c4, c5⟩ := ih (p + 1) m b1 V1 (by omega) (by omega) f1'
    refine ⟨b2, V2, ?_, ?_, fun x q h1 h2 h3 => ?_, fun i hi => ?_, fr_tr a5 c5⟩
    · show Sa_fillFits_4b 45 (Sa_fillFits_4 45 m) (nI k) (bI_ b) (nI p) V = _
      rw [Sa_fillFits_4b, hv 45 7 rfl, f1, if_pos lt, i3, ck_t, show iz_rf 45 0 = 46 from rfl, g_nI _ _ (show p < 2 ^ 31 by omega), hv 46 p rfl, e46, i16, ck_t, lt_e, show iz_rf (iz_rf 45 5) 4 = 17 from rfl, g_nI _ _ (show col p < 2 ^ 31 by omega), hv 17 _ rfl, e17]
      exact Eq.trans a1 c1
    · rw [c2, a2]
      constructor
      · rintro ((h | ⟨q, h1, h2, h3⟩) | ⟨x, q, h1, h2, h3, h4⟩)
        · exact Or.inl h
        · exact Or.inr ⟨p, q, Nat.le_refl _, by omega, h2, h3⟩
        · exact Or.inr ⟨x, q, by omega, h2, h3, h4⟩
      · rintro (h | ⟨x, q, h1, h2, h3, h4⟩)
        · exact Or.inl (Or.inl h)
        · by_cases e : x = p
          · rw [e] at h4; exact Or.inl (Or.inr ⟨q, Nat.zero_le _, h3, h4⟩)
          · exact Or.inr ⟨x, q, by omega, h2, h3, h4⟩
    · by_cases e : x = p
      · rw [e, c4 _ (Or.inl (by omega))]
        exact a3 q (Nat.zero_le _) h3
      · exact c3 x q (by omega) h2 h3
    · rw [c4 i (by omega), a4 i (by omega)]
theorem sb_en {S : iz_S} {n N : Nat} {pr col hc : Nat → Nat} (hf : sb_f S n N pr col hc) {k : Nat} (kn : k < n) : ∀ (m : Nat) (A C : List Nat) (V : iz_S), A.length < m → A.length + C.length ≤ 9 → (∀ x, x ∈ A → x < n) → fr fsb S V → A.Pairwise (fun a b => pr b ≤ pr a) → (∀ i x, A[i]? = some x → V.1 50 i = nI x) → (∀ i x, C[i]? = some x → V.1 50 (A.length + 1 + i) = nI x) → V.1 45 10 = nI (A.length + C.length) → ∃ V2 A1 A2, Sa_enlist_5 45 m (nI k) (nI A.length) V = some V2 ∧ A = A1 ++ A2 ∧ (∀ x, x ∈ A1 → pr k ≤ pr x) ∧ (∀ x, x ∈ A2 → pr x ≤ pr k) ∧ (∀ i x, (A1 ++ k :: (A2 ++ C))[i]? = some x → V2.1 50 i = nI x) ∧ V2.1 45 10 = nI (A.length + C.length + 1) ∧ fr (fun q i => q == 50 || q == 45 && i == 10) V V2 := by
  obtain ⟨n10, N3, f1, f2, f3, f4⟩ := id hf
  have wr : ∀ (A C : List Nat) (V : iz_S), A.length + C.length ≤ 9 → (∀ i x, A[i]? = some x → V.1 50 i = nI x) → (∀ i x, C[i]? = some x → V.1 50 (A.length + 1 + i) = nI x) → V.1 45 10 = nI (A.length + C.length) → ∃ V2, Sa_enlist_57 45 (nI k) (nI A.length) V = some V2 ∧ (∀ i x, (A ++ k :: C)[i]? = some x → V2.1 50 i = nI x) ∧ V2.1 45 10 = nI (A.length + C.length + 1) ∧ fr (fun q i => q == 50 || q == 45 && i == 10) V V2 := fun A C V hl hA hC h10 => by
    have i10 := in_ok (n := A.length) (N := 10) (by omega) (by decide)
    refine ⟨iz_up (iz_up V 50 A.length (nI k)) 45 10 (nI (A.length + C.length + 1)), ?_, fun i x hx => ?_, up_same _ _ _ _, fr_up (fr_up (fr_rf _ _) rfl) rfl⟩
    · rw [Sa_enlist_57, i10, ck_t, lt_e, lt_e, show iz_rf 45 9 = 50 from rfl, s_nI _ _ (show A.length < 2 ^ 31 by omega), up_p _ _ _ _ (show 45 ≠ 50 by decide), h10, nI_1]
    · rw [up_p _ _ _ _ (show 50 ≠ 45 by decide)]
      rcases Nat.lt_trichotomy i A.length with q | q | q
      · rw [List.getElem?_append_left q] at hx
        rw [up_ne _ _ _ _ (Or.inr (by omega))]
        exact hA i x hx
      · rw [q, List.getElem?_append_right (Nat.le_refl _), Nat.sub_self] at hx
        rw [q, up_same]
        exact congrArg nI (Option.some.inj hx)
      · rw [List.getElem?_append_right (by omega), show i - A.length = (i - A.length - 1) + 1 by omega, List.getElem?_cons_succ] at hx
        rw [up_ne _ _ _ _ (Or.inr (by omega))]
        have := hC _ x hx
        rw [show A.length + 1 + (i - A.length - 1) = i by omega] at this
        exact this
  intro m
  induction m with
  | zero => intro A C V h; omega
  | succ m ih =>
    intro A C V hm hl hn hv hP hA hC h10
    by_cases hA0 : A = []
    · subst hA0
      obtain ⟨V2, a1, a2, a3, a4⟩ := wr [] C V hl hA hC h10
      refine ⟨V2, [], [], ?_, rfl, fun x hx => (by cases hx), fun x hx => (by cases hx), a2, a3, a4⟩
      show Sa_enlist_5b 45 (Sa_enlist_5 45 m) (nI k) (nI 0) V = _
      rw [Sa_enlist_5b, if_pos (show nI 0 ≤ 0 by decide +kernel)]
      exact a1
    · obtain ⟨K, a, rfl⟩ := top_of hA0
      have ll : (K ++ [a]).length = K.length + 1 := by rw [List.length_append]; rfl
      rw [ll] at hm hl hC h10
      rw [ll]
      have an : a < n := hn a (by simp)
      have np : ¬ nI (K.length + 1) ≤ 0 := by rw [show (0 : Int32) = nI 0 from rfl, nI_leP (by omega) (by decide)]; omega
      have m1 : nI (K.length + 1) - 1 = nI K.length := by rw [nI_m1 (by omega)]; rfl
      have m2 : nI (K.length + 1) + (-1) = nI K.length := (show ∀ z, z < 10 → nI (z + 1) + (-1) = nI z by decide +kernel) K.length (by omega)
      have ia := in_ok (n := a) (N := 10) (by omega) (by decide)
      have ik := in_ok (n := k) (N := 10) (by omega) (by decide)
      have i1 := in_ok (n := K.length) (N := 10) (by omega) (by decide)
      have i2 := in_ok (n := K.length + 1) (N := 10) (by omega) (by decide)
      have ea : V.1 50 K.length = nI a := hA K.length a (by rw [List.getElem?_append_right (Nat.le_refl _), Nat.sub_self]; rfl)
      obtain ⟨pk1, pk2⟩ := f4 k kn
      obtain ⟨pa1, pa2⟩ := f4 a an
      have lt : (nI (pr a) < nI (pr k)) = (pr a < pr k) := propext (nI_ltI (by omega) (by omega))
      have hP2 := List.pairwise_append.mp hP
      have head : Sa_enlist_5 45 (m + 1) (nI k) (nI (K.length + 1)) V = if nI (pr a) < nI (pr k) then Sa_enlist_5 45 m (nI k) (nI K.length) (iz_up V 50 (K.length + 1) (nI a)) else Sa_enlist_57 45 (nI k) (nI (K.length + 1)) V := by
        show Sa_enlist_5b 45 (Sa_enlist_5 45 m) (nI k) (nI (K.length + 1)) V = _
        rw [Sa_enlist_5b, if_neg np, m1, i1, ck_t, show iz_rf 45 9 = 50 from rfl, g_nI _ _ (show K.length < 2 ^ 31 by omega), ea, ia, ck_t, ik, ck_t, show iz_rf (iz_rf 45 6) 3 = 39 from rfl, g_nI _ _ (show a < 2 ^ 31 by omega), g_nI _ _ (show k < 2 ^ 31 by omega), hv 39 a rfl, hv 39 k rfl, pa1, pk1, ck_t, i2, ck_t, lt_e, s_nI _ _ (show K.length + 1 < 2 ^ 31 by omega), m2]
      rw [head]
      by_cases c : pr a < pr k
      · rw [if_pos (lt.mpr c)]
        obtain ⟨V2, A1, A2, b1, b2, b3, b4, b5, b6, b7⟩ := ih K (a :: C) (iz_up V 50 (K.length + 1) (nI a)) (by omega) (by rw [List.length_cons]; omega) (fun x hx => hn x (List.mem_append_left _ hx)) (fr_up hv rfl) hP2.1 (fun i x hx => by
          have il : i < K.length := (List.getElem?_eq_some_iff.mp hx).1
          rw [up_ne _ _ _ _ (Or.inr (by omega))]
          exact hA i x (by rw [List.getElem?_append_left il]; exact hx)) (fun i x hx => by
          cases i with
          | zero =>
            rw [Nat.add_zero, up_same]
            exact congrArg nI (Option.some.inj hx)
          | succ i =>
            rw [List.getElem?_cons_succ] at hx
            rw [up_ne _ _ _ _ (Or.inr (by omega)), show K.length + 1 + (i + 1) = K.length + 1 + 1 + i by omega]
            exact hC i x hx) (by rw [up_p _ _ _ _ (show 45 ≠ 50 by decide), h10, List.length_cons]; congr 1; omega)
        refine ⟨V2, A1, A2 ++ [a], b1, by rw [b2, List.append_assoc], b3, fun x hx => ?_, fun i x hx => ?_, ?_, fr_tr (fr_up (fr_rf _ _) rfl) b7⟩
        · rcases List.mem_append.mp hx with q | q
          · exact b4 x q
          · rw [List.mem_singleton.mp q]; omega
        · rw [List.append_assoc] at hx
          exact b5 i x hx
        · rw [b6, List.length_cons]
          congr 1
          omega
      · rw [if_neg (fun q => c (lt.mp q))]
        obtain ⟨V2, a1, a2, a3, a4⟩ := wr (K ++ [a]) C V (by rw [ll]; exact hl) hA (by rw [ll]; exact hC) (by rw [ll]; exact h10)
        rw [ll] at a1 a3
        refine ⟨V2, K ++ [a], [], a1, by rw [List.append_nil], fun x hx => ?_, fun x hx => (by cases hx), a2, a3, a4⟩
        rcases List.mem_append.mp hx with q | q
        · have := hP2.2.2 x q a (by simp)
          omega
        · rw [List.mem_singleton.mp q]; omega
