/-! PURE: station, change, order, cell -/
def ok_st (p c w : Int32) : Prop := (1 ≤ p ∧ p ≤ 100) ∧ (0 ≤ c ∧ c ≤ 60) ∧ (0 ≤ w ∧ w ≤ 30)
theorem ic_isStation_t {p c w : Int32} (h : ok_st p c w) (S : iz_S) : Ic_isStation p c w S = some (1, S) := by
  simp only [Ic_isStation, Ic_isStation_35, ic_within, ck_t, lt_e, bI_s, bL_s, bV_s, one_n0, zero_0, if_true, if_false, rfs, if_pos h.1, if_pos h.2.1, if_pos h.2.2]; rfl
theorem mo_isStation_t {p c w : Int32} (h : ok_st p c w) (S : iz_S) : Mo_isStation p c w S = some (1, S) := by
  simp only [Mo_isStation, Mo_isStation_35, mo_isIn, ck_t, lt_e, bI_s, bL_s, bV_s, one_n0, zero_0, if_true, if_false, rfs, if_pos h.1, if_pos h.2.1, if_pos h.2.2]; rfl
theorem ic_isStation_f {p c w : Int32} (h : ¬ ok_st p c w) (S : iz_S) : Ic_isStation p c w S = some (0, S) := by
  by_cases h1 : 1 ≤ p ∧ p ≤ 100
  · by_cases h2 : 0 ≤ c ∧ c ≤ 60
    · by_cases h3 : 0 ≤ w ∧ w ≤ 30
      · exact absurd ⟨h1, h2, h3⟩ h
      · simp only [Ic_isStation, Ic_isStation_34, Ic_isStation_35, ic_within, ck_t, lt_e, bI_s, bL_s, bV_s, one_n0, zero_0, if_true, if_false, rfs, if_pos h1, if_pos h2, if_neg h3]; rfl
    · simp only [Ic_isStation, Ic_isStation_34, Ic_isStation_35, ic_within, ck_t, lt_e, bI_s, bL_s, bV_s, one_n0, zero_0, if_true, if_false, rfs, if_pos h1, if_neg h2]; rfl
  · simp only [Ic_isStation, Ic_isStation_34, Ic_isStation_35, ic_within, ck_t, lt_e, bI_s, bL_s, bV_s, one_n0, zero_0, if_true, if_false, rfs, if_neg h1]; rfl
theorem mo_isStation_f {p c w : Int32} (h : ¬ ok_st p c w) (S : iz_S) : Mo_isStation p c w S = some (0, S) := by
  by_cases h1 : 1 ≤ p ∧ p ≤ 100
  · by_cases h2 : 0 ≤ c ∧ c ≤ 60
    · by_cases h3 : 0 ≤ w ∧ w ≤ 30
      · exact absurd ⟨h1, h2, h3⟩ h
      · simp only [Mo_isStation, Mo_isStation_34, Mo_isStation_35, mo_isIn, ck_t, lt_e, bI_s, bL_s, bV_s, one_n0, zero_0, if_true, if_false, rfs, if_pos h1, if_pos h2, if_neg h3]; rfl
    · simp only [Mo_isStation, Mo_isStation_34, Mo_isStation_35, mo_isIn, ck_t, lt_e, bI_s, bL_s, bV_s, one_n0, zero_0, if_true, if_false, rfs, if_pos h1, if_neg h2]; rfl
  · simp only [Mo_isStation, Mo_isStation_34, Mo_isStation_35, mo_isIn, ck_t, lt_e, bI_s, bL_s, bV_s, one_n0, zero_0, if_true, if_false, rfs, if_neg h1]; rfl
/-- a station's three numbers in both rows of rows -/
def rl_dsc (S : iz_S) (k : Nat) (p c w : Int32) : iz_S := iz_up (iz_up (iz_up S 57 k p) 56 k c) 58 k w
def rl_dsm (S : iz_S) (k : Nat) (p c w : Int32) : iz_S := iz_up (iz_up (iz_up S 101 k p) 102 k c) 103 k w
theorem ra_describe {k : Nat} (hk : k < 9) (p c w : Int32) (S : iz_S) : Ra_describe 55 (nI k) p c w S = some (rl_dsc S k p c w) := by
  have i1 := in_ok (n := k) (N := 9) hk (by decide)
  simp only [Ra_describe, ck_t, lt_e, bI_s, bL_s, bV_s, one_n0, zero_0, if_true, if_false, rfs, i1, s_nI _ _ (show k < 2 ^ 31 by omega)]; rfl
theorem mo_tellStation {k : Nat} (hk : k < 9) (p c w : Int32) (S : iz_S) : Mo_tellStation 82 (nI k) p c w S = some (rl_dsm S k p c w) := by
  have i1 := in_ok (n := k) (N := 9) hk (by decide)
  simp only [Mo_tellStation, ck_t, lt_e, bI_s, bL_s, bV_s, one_n0, zero_0, if_true, if_false, rfs, i1, s_nI _ _ (show k < 2 ^ 31 by omega)]; rfl
theorem pc_station {S : iz_S} (h : rl S) (x y z : Int32) : pc (Ic_station 0 x y z) (Mo_station 82 x y z) S := by
  obtain ⟨n, hn, e1, e2, e3⟩ := id h.2.2.2.2.1
  by_cases ho : ok_st x y z
  · by_cases hc : n = 9
    · subst hc
      refine pc_of (r := -1000004) (S1 := iz_up S 81 4 (S.1 81 4 + 1)) ?_ ?_ (rl_find (k := 4) h)
      · have : ¬ (S.1 55 0 < 9) := by rw [e1]; decide +kernel
        simp only [Ic_station, ic_isStation_t ho, ck_t, lt_e, bI_s, bL_s, bV_s, one_n0, zero_0, if_true, if_false, rfs, if_neg this, ic_f4]
      · have : (iz_up S 81 4 (S.1 81 4 + 1)).1 82 21 = 9 := by rw [up_p _ _ _ _ (by decide), e2]; rfl
        simp only [Mo_station, mo_isStation_t ho, ck_t, lt_e, bI_s, bL_s, bV_s, one_n0, zero_0, if_true, if_false, rfs, if_pos this, mo_f4]
    · have hlt : n < 9 := by omega
      have c1 : nI n < 9 := nI_lt hlt (by decide)
      obtain ⟨S1, hS1⟩ : ∃ S1, S1 = iz_up (rl_dsc S n x y z) 55 0 (nI (n + 1)) := ⟨_, rfl⟩
      obtain ⟨S2, hS2⟩ : ∃ S2, S2 = iz_up (rl_dsm S1 n x y z) 82 21 (nI (n + 1)) := ⟨_, rfl⟩
      have q2 : S1.1 82 21 = nI n := by simp [hS1, rl_dsc, upA, e2]
      refine pc_of (r := nI (n + 1)) (S1 := S1) (S2 := S2) ?_ ?_ ?_
      · have g2 : (rl_dsc S n x y z).1 55 0 + 1 = nI (n + 1) := by
          have : (rl_dsc S n x y z).1 55 0 = nI n := by simp [rl_dsc, upA, e1]
          rw [this, nI_1]
        simp only [Ic_station, ic_isStation_t ho, Ra_enter, ck_t, lt_e, bI_s, bL_s, bV_s, one_n0, zero_0, if_true, if_false, rfs, if_pos c1, e1, ra_describe hlt, g2, up_same]
        rw [hS1]
      · have c2 : ¬ nI n = 9 := fun e => absurd ((nI_eq (b := 9) (by omega) (by decide)).mp e) (by omega)
        have g2 : (rl_dsm S1 n x y z).1 82 21 + 1 = nI (n + 1) := by
          have : (rl_dsm S1 n x y z).1 82 21 = nI n := by simp [rl_dsm, upA, q2]
          rw [this, nI_1]
        simp only [Mo_station, mo_isStation_t ho, ck_t, lt_e, bI_s, bL_s, bV_s, one_n0, zero_0, if_true, if_false, rfs, q2, if_neg c2, mo_tellStation hlt, g2, up_same]
        rw [hS2]
      · have hf : fr (fun p i => p == 55 || p == 56 || p == 57 || p == 58 || p == 101 || p == 102 || p == 103 || (p == 82 && i == 21)) S S2 := by
          rw [hS2, hS1]
          exact fr_up (fr_up (fr_up (fr_up (fr_up (fr_up (fr_up (fr_up (fr_rf _ S) rfl) rfl) rfl) rfl) rfl) rfl) rfl) rfl
        refine ⟨st_lake hf (fun _ => ⟨rfl, rfl, rfl, rfl, rfl, rfl⟩) h.1, st_shel hf (fun _ => ⟨rfl, rfl, rfl, rfl, rfl, rfl⟩) h.2.1, st_house hf (fun _ => ⟨rfl, rfl, rfl, rfl, rfl, rfl, rfl, rfl, rfl, rfl, rfl, rfl⟩) rfl rfl (fun _ _ => rfl) h.2.2.1, st_ord hf (fun _ => ⟨rfl, rfl, rfl, rfl, rfl, rfl, rfl, rfl, rfl, rfl, rfl, rfl, rfl⟩) rfl rfl h.2.2.2.1, ?_, st_wait hf (fun _ => ⟨rfl, rfl, rfl⟩) rfl h.2.2.2.2.2.1, st_sale hf (fun _ => ⟨rfl, rfl⟩) h.2.2.2.2.2.2.1, st_found hf (fun _ => ⟨rfl, rfl⟩) h.2.2.2.2.2.2.2⟩
        refine ⟨n + 1, by omega, by simp [hS2, hS1, rl_dsm, upA, upd], by rw [hS2, up_same], fun i hi => ?_⟩
        obtain ⟨px, py, pz⟩ := ho
        by_cases e : i = n
        · subst e
          obtain ⟨p, p1, p2, rfl⟩ := nI_btw (a := 1) (b := 100) (by decide) px.1 px.2 (by decide)
          obtain ⟨ck, -, k2, rfl⟩ := nI_btw (a := 0) (b := 60) (by decide) py.1 py.2 (by decide)
          obtain ⟨w, -, w2, rfl⟩ := nI_btw (a := 0) (b := 30) (by decide) pz.1 pz.2 (by decide)
          exact ⟨p, ck, w, p1, p2, k2, w2, by simp [hS2, hS1, rl_dsm, rl_dsc, upA, upd]⟩
        · obtain ⟨p, ck, w, g1, g2, g3, g4, g5⟩ := e3 i (by omega)
          exact ⟨p, ck, w, g1, g2, g3, g4, by simpa [hS2, hS1, rl_dsm, rl_dsc, upA, upd, e] using g5⟩
  · refine pc_of (r := -1000001) (S1 := iz_up S 81 1 (S.1 81 1 + 1)) ?_ ?_ (rl_find (k := 1) h)
    · simp only [Ic_station, ic_isStation_f ho, ck_t, lt_e, bI_s, bL_s, bV_s, one_n0, zero_0, if_true, if_false, rfs, ic_f1]
    · simp only [Mo_station, mo_isStation_f ho, ck_t, lt_e, bI_s, bL_s, bV_s, one_n0, zero_0, if_true, if_false, rfs, mo_f1]
theorem nI_m1 {n : Nat} (h : 0 < n) : nI n - 1 = nI (n - 1) := by
  obtain ⟨m, rfl⟩ : ∃ m, n = m + 1 := ⟨n - 1, by omega⟩
  rw [nI_pred]
  rfl
/-- 0 .. n - 1, as the class asks it -/
theorem btw_iff {x : Int32} {n : Nat} (hn : n < 2 ^ 31) : (0 ≤ x ∧ x ≤ nI n - 1) ↔ ∃ k, k < n ∧ x = nI k := by
  rcases Nat.eq_zero_or_pos n with rfl | hp
  · constructor
    · rintro ⟨h1, h2⟩
      exfalso
      have h3 : nI 0 - 1 = -1 := by decide +kernel
      rw [h3] at h2
      rw [fa_le] at h1 h2
      have e1 : (0 : Int32).toInt = 0 := rfl
      have e2 : (-1 : Int32).toInt = -1 := rfl
      omega
    · rintro ⟨k, hk, -⟩
      omega
  · rw [nI_m1 hp]
    constructor
    · rintro ⟨h1, h2⟩
      obtain ⟨k, -, k2, rfl⟩ := nI_btw (a := 0) (b := n - 1) (by omega) h1 h2 (by decide)
      exact ⟨k, by omega, rfl⟩
    · rintro ⟨k, hk, rfl⟩
      exact ⟨nI_le (a := 0) (Nat.zero_le k) (by omega), nI_le (by omega) (by omega)⟩
theorem lt_iff {x : Int32} {n : Nat} (hn : n < 2 ^ 31) : (¬ x < 0 ∧ x < nI n) ↔ ∃ k, k < n ∧ x = nI k := by
  constructor
  · rintro ⟨h1, h2⟩
    obtain ⟨k, hk, rfl⟩ := nI_of h1
    exact ⟨k, (nI_ltI hk hn).mp h2, rfl⟩
  · rintro ⟨k, hk, rfl⟩
    exact ⟨nI_pos (by omega), nI_lt hk hn⟩
theorem pc_change {S : iz_S} (h : rl S) (x1 x y z : Int32) : pc (Ic_change 0 x1 x y z) (Mo_change 82 x1 x y z) S := by
  obtain ⟨n, hn, e1, e2, e3⟩ := id h.2.2.2.2.1
  by_cases hx : ∃ k, k < n ∧ x1 = nI k
  · have cI := (btw_iff (x := x1) (n := n) (by omega)).mpr hx
    have cM := (lt_iff (x := x1) (n := n) (by omega)).mpr hx
    obtain ⟨k, hk, rfl⟩ := hx
    by_cases ho : ok_st x y z
    · obtain ⟨S1, hS1⟩ : ∃ S1, S1 = rl_dsc S k x y z := ⟨_, rfl⟩
      obtain ⟨S2, hS2⟩ : ∃ S2, S2 = rl_dsm S1 k x y z := ⟨_, rfl⟩
      have q2 : S1.1 82 21 = nI n := by simp [hS1, rl_dsc, upA, e2]
      have q3 : S1.1 102 k = S.1 56 k := by
        obtain ⟨p, ck, w, -, -, -, -, -, -, g5, g6, -⟩ := e3 k hk
        simp [hS1, rl_dsc, upA, g5, g6]
      have i9 := in_ok (n := k) (N := 9) (by omega) (by decide)
      refine pc_of (r := S.1 56 k) (S1 := S1) (S2 := S2) ?_ ?_ ?_
      · simp only [Ic_change, ic_within, ck_t, lt_e, bI_s, bL_s, bV_s, one_n0, zero_0, if_true, if_false, rfs, e1, if_pos cI, ic_isStation_t ho, i9, g_nI _ _ (show k < 2 ^ 31 by omega), ra_describe (show k < 9 by omega)]
        rw [hS1]
      · simp only [Mo_change, ck_t, lt_e, bI_s, bL_s, bV_s, one_n0, zero_0, if_true, if_false, rfs, q2, if_neg cM.1, if_pos cM.2, mo_isStation_t ho, i9, g_nI _ _ (show k < 2 ^ 31 by omega), mo_tellStation (show k < 9 by omega), q3]
        rw [hS2]
      · have hf : fr (fun p i => p == 56 || p == 57 || p == 58 || p == 101 || p == 102 || p == 103) S S2 := by
          rw [hS2, hS1]
          exact fr_up (fr_up (fr_up (fr_up (fr_up (fr_up (fr_rf _ S) rfl) rfl) rfl) rfl) rfl) rfl
        refine ⟨st_lake hf (fun _ => ⟨rfl, rfl, rfl, rfl, rfl, rfl⟩) h.1, st_shel hf (fun _ => ⟨rfl, rfl, rfl, rfl, rfl, rfl⟩) h.2.1, st_house hf (fun _ => ⟨rfl, rfl, rfl, rfl, rfl, rfl, rfl, rfl, rfl, rfl, rfl, rfl⟩) rfl rfl (fun _ _ => rfl) h.2.2.1, st_ord hf (fun _ => ⟨rfl, rfl, rfl, rfl, rfl, rfl, rfl, rfl, rfl, rfl, rfl, rfl, rfl⟩) rfl rfl h.2.2.2.1, ?_, st_wait hf (fun _ => ⟨rfl, rfl, rfl⟩) rfl h.2.2.2.2.2.1, st_sale hf (fun _ => ⟨rfl, rfl⟩) h.2.2.2.2.2.2.1, st_found hf (fun _ => ⟨rfl, rfl⟩) h.2.2.2.2.2.2.2⟩
        refine ⟨n, hn, by rw [hf 55 0 rfl, e1], by rw [hf 82 21 rfl, e2], fun i hi => ?_⟩
        obtain ⟨px, py, pz⟩ := ho
        by_cases e : i = k
        · subst e
          obtain ⟨p, p1, p2, rfl⟩ := nI_btw (a := 1) (b := 100) (by decide) px.1 px.2 (by decide)
          obtain ⟨ck, -, k2, rfl⟩ := nI_btw (a := 0) (b := 60) (by decide) py.1 py.2 (by decide)
          obtain ⟨w, -, w2, rfl⟩ := nI_btw (a := 0) (b := 30) (by decide) pz.1 pz.2 (by decide)
          exact ⟨p, ck, w, p1, p2, k2, w2, by simp [hS2, hS1, rl_dsm, rl_dsc, upA, upd]⟩
        · obtain ⟨p, ck, w, g1, g2, g3, g4, g5⟩ := e3 i (by omega)
          exact ⟨p, ck, w, g1, g2, g3, g4, by simpa [hS2, hS1, rl_dsm, rl_dsc, upA, upd, e] using g5⟩
    · refine pc_of (r := -1000001) (S1 := iz_up S 81 1 (S.1 81 1 + 1)) ?_ ?_ (rl_find (k := 1) h)
      · simp only [Ic_change, Ic_change_27, ic_within, ck_t, lt_e, bI_s, bL_s, bV_s, one_n0, zero_0, if_true, if_false, rfs, e1, if_pos cI, ic_isStation_f ho, ic_f1]
      · have q2 : (iz_up S 81 1 (S.1 81 1 + 1)).1 82 21 = nI n := by rw [up_p _ _ _ _ (by decide), e2]
        simp only [Mo_change, Mo_change_22, ck_t, lt_e, bI_s, bL_s, bV_s, one_n0, zero_0, if_true, if_false, rfs, q2, if_neg cM.1, if_pos cM.2, mo_isStation_f ho, mo_f1]
  · have cI : ¬ (0 ≤ x1 ∧ x1 ≤ nI n - 1) := fun q => hx ((btw_iff (by omega)).mp q)
    refine pc_of (r := -1000001) (S1 := iz_up S 81 1 (S.1 81 1 + 1)) ?_ ?_ (rl_find (k := 1) h)
    · simp only [Ic_change, Ic_change_27, ic_within, ck_t, lt_e, bI_s, bL_s, bV_s, one_n0, zero_0, if_true, if_false, rfs, e1, if_neg cI, ic_f1]
    · have q2 : (iz_up S 81 1 (S.1 81 1 + 1)).1 82 21 = nI n := by rw [up_p _ _ _ _ (by decide), e2]
      by_cases c1 : x1 < 0
      · simp only [Mo_change, Mo_change_22, ck_t, lt_e, bI_s, bL_s, bV_s, one_n0, zero_0, if_true, if_false, rfs, if_pos c1, mo_f1]
      · have c2 : ¬ x1 < nI n := fun q => hx ((lt_iff (by omega)).mp ⟨c1, q⟩)
        simp only [Mo_change, Mo_change_22, ck_t, lt_e, bI_s, bL_s, bV_s, one_n0, zero_0, if_true, if_false, rfs, q2, if_neg c1, if_neg c2, mo_f1]
