/-! PURE: season, all -/
theorem mo_cp15 {many : Nat} (m6 : many ≤ 6) (rc : Nat → Int32 → Int32 → iz_S → Option iz_S) (x1 : Int32) : ∀ (j k m : Nat) (S : iz_S), k + j = many → j < m → ∃ S2, Mo_trySeason_15 82 rc m x1 (nI many) (nI k) S = Mo_trySeason_38 82 rc x1 (nI many) S2 ∧ (∀ q, k ≤ q → q < many → S2.1 111 q = S.1 110 q) ∧ (∀ q, q < k → S2.1 111 q = S.1 111 q) ∧ fr (fun p _ => p == 111) S S2 := by
  intro j
  induction j with
  | zero =>
    intro k m S hk hm
    obtain ⟨m, rfl⟩ : ∃ z, m = z + 1 := ⟨m - 1, by omega⟩
    have lt : ¬ nI k < nI many := nI_nlt (by omega) (by omega)
    refine ⟨S, ?_, fun q h1 h2 => by omega, fun q _ => rfl, fr_rf _ _⟩
    show Mo_trySeason_15b 82 rc (Mo_trySeason_15 82 rc m) x1 (nI many) (nI k) S = _
    rw [Mo_trySeason_15b, if_neg lt]
  | succ j ih =>
    intro k m S hk hm
    obtain ⟨m, rfl⟩ : ∃ z, m = z + 1 := ⟨m - 1, by omega⟩
    have lt : nI k < nI many := nI_lt (by omega) (by omega)
    have i1 := in_ok (n := k) (N := 6) (by omega) (by decide)
    obtain ⟨T, hT⟩ : ∃ T, T = iz_up S 111 k (S.1 110 k) := ⟨_, rfl⟩
    have fT : fr (fun p _ => p == 111) S T := by rw [hT]; exact fr_up (fr_rf _ _) rfl
    obtain ⟨S2, a1, a2, a3, a4⟩ := ih (k + 1) m T (by omega) (by omega)
    refine ⟨S2, ?_, fun q h1 h2 => ?_, fun q hq => ?_, fr_tr fT a4⟩
    · rw [← a1]
      show Mo_trySeason_15b 82 rc (Mo_trySeason_15 82 rc m) x1 (nI many) (nI k) S = _
      rw [Mo_trySeason_15b, if_pos lt, i1, ck_t, ck_t, lt_e, show iz_rf 82 34 = 111 from rfl, show iz_rf 82 33 = 110 from rfl, g_nI _ _ (show k < 2 ^ 31 by omega), s_nI _ _ (show k < 2 ^ 31 by omega), ← hT, nI_1]
    · by_cases e : q = k
      · subst e
        rw [a3 q (by omega), hT, up_same]
      · rw [a2 q (by omega) h2, fT 110 q rfl]
    · rw [a3 q (by omega), hT, up_ne _ _ _ _ (Or.inr (by omega))]
theorem mo_ts1 {f : Nat → Int32} {sq : Nat → Nat} {n : Nat} {L : Nat → Nat} (n6 : n ≤ 6) (hL : ∀ v, v < 2 ^ n → L v = mxl (mbf f sq n) L v n ∧ L v + cnt n v ≤ n) {u many : Nat} (hu : u < 2 ^ n) (hc : cnt n u = many) (mn : many ≤ n) (F : Nat) (hrec : ∀ k, k < n → mbf f sq n u k = true → TRP f sq n L (Mo_trySeason F) (u ||| 2 ^ k) (many + 1)) : TRP f sq n L (Mo_trySeason (F + 1)) u many := by
  intro S b p hR ht hp hb b6
  obtain ⟨l1, l2⟩ := hL u hu
  have head : Mo_trySeason (F + 1) 82 (nI u) (nI many) S = Mo_trySeason_b 82 (Mo_trySeason F) (nI u) (nI many) S := rfl
  have le : (nI many ≤ nI b) = (many ≤ b) := nI_leP (by omega) (by omega)
  have ew : wfs (mbf f sq n) L n u n = wlk (mbf f sq n) L n (L u) u := by
    unfold wfs
    rcases fst_spec (mb := mbf f sq n) (L := L) (u := u) (m := n) with ⟨q1, q2⟩ | ⟨k, k1, k2, k3, k4, k5⟩
    · rw [q1, show L u = 0 by omega]
      rfl
    · rw [k1, show L u = L (u ||| 2 ^ k) + 1 by omega, wlk, k1]
  have key : ∃ S1, Mo_trySeason (F + 1) 82 (nI u) (nI many) S = Mo_trySeason_38 82 (Mo_trySeason F) (nI u) (nI many) S1 ∧ BR S S1 sq many 0 [] b p ∧ fr (fun p i => p == 111 || (p == 82 && i == 35)) S S1 := by
    by_cases q : many ≤ b
    · refine ⟨S, ?_, ⟨fun z => by omega, fun _ => ⟨hb, fun _ => rfl⟩⟩, fr_rf _ _⟩
      rw [head, Mo_trySeason_b, hb, if_pos (by rw [le]; exact q)]
    · obtain ⟨T, hT⟩ : ∃ T, T = iz_up S 82 35 (nI many) := ⟨_, rfl⟩
      have fT : fr (fun p i => p == 82 && i == 35) S T := by rw [hT]; exact fr_1
      obtain ⟨S2, a1, a2, a3, a4⟩ := mo_cp15 (many := many) (by omega) (Mo_trySeason F) (nI u) many 0 iz_FU T (by omega) (by have := fu_ge; omega)
      refine ⟨S2, ?_, ⟨fun _ => ⟨?_, fun j hj => ?_, fun j k hk => by cases j <;> cases hk⟩, fun z => by omega⟩, ?_⟩
      · rw [head, Mo_trySeason_b, hb, if_neg (by rw [le]; exact q), lt_e, ← hT]
        exact a1
      · rw [a4 82 35 rfl, hT, up_same]
        rfl
      · rw [a2 j (Nat.zero_le _) hj, fT 110 j rfl, hp j hj]
      · refine fr_tr (fr_mono fT ?_) (fr_mono a4 ?_)
        · intro p i hp
          simp only [Bool.or_eq_true, Bool.and_eq_true, beq_iff_eq] at hp ⊢
          omega
        · intro p i hp
          simp only [Bool.or_eq_true, Bool.and_eq_true, beq_iff_eq] at hp ⊢
          omega
  obtain ⟨S1, k1, k2, k3⟩ := key
  obtain ⟨S2, a1, a2, a3⟩ := mo_tsl n6 hu (fun v hv => (hL v hv).2) hc (Mo_trySeason F) hrec (S0 := S) (b := b) (p := p) b6 n 0 iz_FU S1 (by omega) (by have := fu_ge; omega) ⟨(k3 _ _ rfl).trans hR.1, fun q hq => by rw [k3 109 q rfl]; exact hR.2 q hq⟩ (fun c hc => by rw [k3 83 c rfl]; exact ht c hc) (fun q hq => by rw [k3 110 q rfl]; exact hp q hq) k2
  rw [← l1, ew] at a2
  refine ⟨S2, ?_, a2, KP_tr ⟨fun c _ => k3 83 c rfl, fun j _ => k3 112 j rfl, fun j _ => k3 110 j rfl, fr_mono k3 (fun p i hp => ?_)⟩ a3⟩
  · rw [k1, Mo_trySeason_38]
    exact a1
  · simp only [fts, Bool.or_eq_true, Bool.and_eq_true, beq_iff_eq] at hp ⊢
    omega
theorem mo_ts {f : Nat → Int32} {sq : Nat → Nat} {n : Nat} {L : Nat → Nat} (n6 : n ≤ 6) (hL : ∀ v, v < 2 ^ n → L v = mxl (mbf f sq n) L v n ∧ L v + cnt n v ≤ n) : ∀ (d u many F : Nat), many + d = n → d < F → u < 2 ^ n → cnt n u = many → TRP f sq n L (Mo_trySeason F) u many := by
  intro d
  induction d with
  | zero =>
    intro u many F hd hF hu hc
    obtain ⟨F, rfl⟩ : ∃ z, F = z + 1 := ⟨F - 1, by omega⟩
    exact mo_ts1 n6 hL hu hc (by omega) F (fun k kn hb => by
      have := cnt_up kn (mb_bit hb)
      have h2 : cnt n (u ||| 2 ^ k) ≤ n := cnt_le _ n
      omega)
  | succ d ih =>
    intro u many F hd hF hu hc
    obtain ⟨F, rfl⟩ : ∃ z, F = z + 1 := ⟨F - 1, by omega⟩
    exact mo_ts1 n6 hL hu hc (by omega) F (fun k kn hb => ih (u ||| 2 ^ k) (many + 1) F (by omega) (by omega) (b_in hu kn) (by rw [cnt_up kn (mb_bit hb), hc]))
theorem rl_ext {S T : iz_S} (h : rl S) (e : ∀ p i, T.1 p i = S.1 p i) : rl T := by
  have : T = (S.1, T.2) := Prod.ext (funext fun p => funext fun i => e p i) rfl
  rw [this]
  exact h
theorem rl_fnd {Z V : iz_S} {k : Nat} (h : rl Z) (e : ∀ p i, ¬ (p = 81 ∧ i = k) → ¬ (p = 106 ∧ i = k) → V.1 p i = Z.1 p i) (e1 : V.1 81 k = Z.1 81 k + 1) (e2 : V.1 106 k = Z.1 106 k + 1) : rl V := by
  refine rl_ext (rl_find (k := k) h) (fun p i => ?_)
  by_cases q2 : p = 106 ∧ i = k
  · obtain ⟨rfl, rfl⟩ := q2
    rw [up_same, up_p _ _ _ _ (by decide), e2]
  · by_cases q1 : p = 81 ∧ i = k
    · obtain ⟨rfl, rfl⟩ := q1
      rw [up_p _ _ _ _ (by decide), up_same, e1]
    · rw [up_ne _ _ _ _ (by omega), up_ne _ _ _ _ (by omega), e p i q1 q2]
def fch (p i : Nat) : Bool := p == 5 || p == 6 || p == 7 || p == 8 || p == 120 || p == 83 || p == 107 || p == 108 || p == 109 || p == 110 || p == 111 || p == 112 || (p == 82 && (i == 32 || i == 35))
theorem rl_sea {S V : iz_S} (h : rl S) (h83 : ∀ c, c < 64 → V.1 83 c = S.1 83 c) (hf : fr fch S V) : rl V := by
  refine ⟨fun c hc => ?_, st_shel hf (fun _ => ⟨rfl, rfl, rfl, rfl, rfl, rfl⟩) h.2.1, st_house hf (fun _ => ⟨rfl, rfl, rfl, rfl, rfl, rfl, rfl, rfl, rfl, rfl, rfl, rfl⟩) rfl rfl (fun _ _ => rfl) h.2.2.1, st_ord hf (fun _ => ⟨rfl, rfl, rfl, rfl, rfl, rfl, rfl, rfl, rfl, rfl, rfl, rfl, rfl⟩) rfl rfl h.2.2.2.1, st_rail hf (fun _ => ⟨rfl, rfl, rfl, rfl, rfl, rfl, rfl⟩) rfl h.2.2.2.2.1, st_wait hf (fun _ => ⟨rfl, rfl, rfl⟩) rfl h.2.2.2.2.2.1, st_sale hf (fun _ => ⟨rfl, rfl⟩) h.2.2.2.2.2.2.1, st_found hf (fun _ => ⟨rfl, rfl⟩) h.2.2.2.2.2.2.2⟩
  rw [h83 c hc, hf 84 c rfl, hf 85 c rfl, hf 2 c rfl, hf 3 c rfl, hf 4 c rfl]
  exact h.1 c hc
