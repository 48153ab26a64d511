/-! PURE: tell, dust, cover, warmth, station, change -/
theorem rfs : iz_rf 0 0 = 1 ∧ iz_rf 0 1 = 5 ∧ iz_rf 0 2 = 9 ∧ iz_rf 0 3 = 13 ∧ iz_rf 0 4 = 19 ∧ iz_rf 0 5 = 25 ∧ iz_rf 0 6 = 38 ∧ iz_rf 0 7 = 45 ∧ iz_rf 0 8 = 55 ∧ iz_rf 0 9 = 79 ∧ iz_rf 0 10 = 81 ∧ iz_rf 1 0 = 2 ∧ iz_rf 1 1 = 3 ∧ iz_rf 1 2 = 4 ∧ iz_rf 5 0 = 6 ∧ iz_rf 5 2 = 7 ∧ iz_rf 5 4 = 8 ∧ iz_rf 5 5 = 120 ∧ iz_rf 9 0 = 10 ∧ iz_rf 9 1 = 11 ∧ iz_rf 9 2 = 12 ∧ iz_rf 13 1 = 14 ∧ iz_rf 13 2 = 15 ∧ iz_rf 13 3 = 16 ∧ iz_rf 13 4 = 17 ∧ iz_rf 13 11 = 9 ∧ iz_rf 13 12 = 18 ∧ iz_rf 19 1 = 20 ∧ iz_rf 19 2 = 21 ∧ iz_rf 19 3 = 22 ∧ iz_rf 19 4 = 23 ∧ iz_rf 19 11 = 9 ∧ iz_rf 19 12 = 24 ∧ iz_rf 25 1 = 26 ∧ iz_rf 25 4 = 27 ∧ iz_rf 25 5 = 32 ∧ iz_rf 25 6 = 37 ∧ iz_rf 38 3 = 39 ∧ iz_rf 38 4 = 13 ∧ iz_rf 38 5 = 40 ∧ iz_rf 38 6 = 41 ∧ iz_rf 38 7 = 42 ∧ iz_rf 38 8 = 43 ∧ iz_rf 38 9 = 44 ∧ iz_rf 45 0 = 46 ∧ iz_rf 45 3 = 47 ∧ iz_rf 45 4 = 48 ∧ iz_rf 45 5 = 13 ∧ iz_rf 45 6 = 38 ∧ iz_rf 45 8 = 49 ∧ iz_rf 45 9 = 50 ∧ iz_rf 45 11 = 51 ∧ iz_rf 45 12 = 52 ∧ iz_rf 45 13 = 53 ∧ iz_rf 45 14 = 54 ∧ iz_rf 55 1 = 56 ∧ iz_rf 55 2 = 57 ∧ iz_rf 55 3 = 58 ∧ iz_rf 55 4 = 59 ∧ iz_rf 55 5 = 69 ∧ iz_rf 79 1 = 80 ∧ iz_rf 82 0 = 83 ∧ iz_rf 82 1 = 84 ∧ iz_rf 82 2 = 85 ∧ iz_rf 82 4 = 86 ∧ iz_rf 82 5 = 87 ∧ iz_rf 82 6 = 88 ∧ iz_rf 82 7 = 89 ∧ iz_rf 82 8 = 90 ∧ iz_rf 82 9 = 91 ∧ iz_rf 82 10 = 92 ∧ iz_rf 82 11 = 93 ∧ iz_rf 82 12 = 94 ∧ iz_rf 82 15 = 95 ∧ iz_rf 82 16 = 96 ∧ iz_rf 82 17 = 97 ∧ iz_rf 82 18 = 98 ∧ iz_rf 82 19 = 99 ∧ iz_rf 82 20 = 100 ∧ iz_rf 82 22 = 101 ∧ iz_rf 82 23 = 102 ∧ iz_rf 82 24 = 103 ∧ iz_rf 82 25 = 104 ∧ iz_rf 82 27 = 105 ∧ iz_rf 82 28 = 106 ∧ iz_rf 82 29 = 107 ∧ iz_rf 82 30 = 108 ∧ iz_rf 82 31 = 109 ∧ iz_rf 82 33 = 110 ∧ iz_rf 82 34 = 111 ∧ iz_rf 82 36 = 112 ∧ iz_rf 82 37 = 113 ∧ iz_rf 82 38 = 114 ∧ iz_rf 82 41 = 115 ∧ iz_rf 82 42 = 116 ∧ iz_rf 82 43 = 117 ∧ iz_rf 82 44 = 118 ∧ iz_rf 82 47 = 119 := ⟨rfl, rfl, rfl, rfl, rfl, rfl, rfl, rfl, rfl, rfl, rfl, rfl, rfl, rfl, rfl, rfl, rfl, rfl, rfl, rfl, rfl, rfl, rfl, rfl, rfl, rfl, rfl, rfl, rfl, rfl, rfl, rfl, rfl, rfl, rfl, rfl, rfl, rfl, rfl, rfl, rfl, rfl, rfl, rfl, rfl, rfl, rfl, rfl, rfl, rfl, rfl, rfl, rfl, rfl, rfl, rfl, rfl, rfl, rfl, rfl, rfl, rfl, rfl, rfl, rfl, rfl, rfl, rfl, rfl, rfl, rfl, rfl, rfl, rfl, rfl, rfl, rfl, rfl, rfl, rfl, rfl, rfl, rfl, rfl, rfl, rfl, rfl, rfl, rfl, rfl, rfl, rfl, rfl, rfl, rfl, rfl, rfl, rfl⟩
theorem sh_2 : iz_sh 2 = (0, 64) := rfl
theorem sh_3 : iz_sh 3 = (0, 64) := rfl
theorem sh_4 : iz_sh 4 = (1, 64) := rfl
theorem sh_6 : iz_sh 6 = (0, 6) := rfl
theorem sh_7 : iz_sh 7 = (0, 6) := rfl
theorem sh_8 : iz_sh 8 = (0, 64) := rfl
theorem sh_10 : iz_sh 10 = (0, 4) := rfl
theorem sh_11 : iz_sh 11 = (0, 16) := rfl
theorem sh_12 : iz_sh 12 = (0, 100) := rfl
theorem sh_14 : iz_sh 14 = (0, 60) := rfl
theorem sh_15 : iz_sh 15 = (0, 60) := rfl
theorem sh_16 : iz_sh 16 = (0, 60) := rfl
theorem sh_17 : iz_sh 17 = (0, 16) := rfl
theorem sh_18 : iz_sh 18 = (0, 96) := rfl
theorem sh_20 : iz_sh 20 = (0, 60) := rfl
theorem sh_21 : iz_sh 21 = (0, 60) := rfl
theorem sh_22 : iz_sh 22 = (0, 60) := rfl
theorem sh_23 : iz_sh 23 = (0, 16) := rfl
theorem sh_24 : iz_sh 24 = (0, 96) := rfl
theorem sh_26 : iz_sh 26 = (0, 4) := rfl
theorem sh_28 : iz_sh 28 = (0, 11) := rfl
theorem sh_29 : iz_sh 29 = (0, 11) := rfl
theorem sh_30 : iz_sh 30 = (0, 11) := rfl
theorem sh_31 : iz_sh 31 = (0, 11) := rfl
theorem sh_33 : iz_sh 33 = (0, 21) := rfl
theorem sh_34 : iz_sh 34 = (0, 21) := rfl
theorem sh_35 : iz_sh 35 = (0, 21) := rfl
theorem sh_36 : iz_sh 36 = (0, 21) := rfl
theorem sh_37 : iz_sh 37 = (0, 11) := rfl
theorem sh_39 : iz_sh 39 = (0, 10) := rfl
theorem sh_40 : iz_sh 40 = (0, 10) := rfl
theorem sh_41 : iz_sh 41 = (0, 10) := rfl
theorem sh_42 : iz_sh 42 = (0, 10) := rfl
theorem sh_43 : iz_sh 43 = (0, 10) := rfl
theorem sh_44 : iz_sh 44 = (1, 10) := rfl
theorem sh_46 : iz_sh 46 = (0, 3) := rfl
theorem sh_47 : iz_sh 47 = (0, 4) := rfl
theorem sh_48 : iz_sh 48 = (0, 4) := rfl
theorem sh_49 : iz_sh 49 = (1, 120) := rfl
theorem sh_50 : iz_sh 50 = (0, 10) := rfl
theorem sh_51 : iz_sh 51 = (1, 10) := rfl
theorem sh_52 : iz_sh 52 = (0, 3) := rfl
theorem sh_53 : iz_sh 53 = (0, 4) := rfl
theorem sh_54 : iz_sh 54 = (0, 4) := rfl
theorem sh_56 : iz_sh 56 = (0, 9) := rfl
theorem sh_57 : iz_sh 57 = (0, 9) := rfl
theorem sh_58 : iz_sh 58 = (0, 9) := rfl
theorem sh_60 : iz_sh 60 = (0, 61) := rfl
theorem sh_61 : iz_sh 61 = (0, 61) := rfl
theorem sh_62 : iz_sh 62 = (0, 61) := rfl
theorem sh_63 : iz_sh 63 = (0, 61) := rfl
theorem sh_64 : iz_sh 64 = (0, 61) := rfl
theorem sh_65 : iz_sh 65 = (0, 61) := rfl
theorem sh_66 : iz_sh 66 = (0, 61) := rfl
theorem sh_67 : iz_sh 67 = (0, 61) := rfl
theorem sh_68 : iz_sh 68 = (0, 61) := rfl
theorem sh_70 : iz_sh 70 = (0, 61) := rfl
theorem sh_71 : iz_sh 71 = (0, 61) := rfl
theorem sh_72 : iz_sh 72 = (0, 61) := rfl
theorem sh_73 : iz_sh 73 = (0, 61) := rfl
theorem sh_74 : iz_sh 74 = (0, 61) := rfl
theorem sh_75 : iz_sh 75 = (0, 61) := rfl
theorem sh_76 : iz_sh 76 = (0, 61) := rfl
theorem sh_77 : iz_sh 77 = (0, 61) := rfl
theorem sh_78 : iz_sh 78 = (0, 61) := rfl
theorem sh_80 : iz_sh 80 = (0, 16) := rfl
theorem sh_81 : iz_sh 81 = (0, 6) := rfl
theorem sh_83 : iz_sh 83 = (0, 64) := rfl
theorem sh_84 : iz_sh 84 = (0, 64) := rfl
theorem sh_85 : iz_sh 85 = (1, 64) := rfl
theorem sh_86 : iz_sh 86 = (0, 60) := rfl
theorem sh_87 : iz_sh 87 = (0, 60) := rfl
theorem sh_88 : iz_sh 88 = (0, 60) := rfl
theorem sh_89 : iz_sh 89 = (0, 60) := rfl
theorem sh_90 : iz_sh 90 = (0, 96) := rfl
theorem sh_91 : iz_sh 91 = (0, 16) := rfl
theorem sh_92 : iz_sh 92 = (0, 4) := rfl
theorem sh_93 : iz_sh 93 = (0, 16) := rfl
theorem sh_94 : iz_sh 94 = (0, 100) := rfl
theorem sh_95 : iz_sh 95 = (0, 10) := rfl
theorem sh_96 : iz_sh 96 = (0, 10) := rfl
theorem sh_97 : iz_sh 97 = (0, 10) := rfl
theorem sh_98 : iz_sh 98 = (0, 10) := rfl
theorem sh_99 : iz_sh 99 = (0, 10) := rfl
theorem sh_100 : iz_sh 100 = (1, 10) := rfl
theorem sh_101 : iz_sh 101 = (0, 9) := rfl
theorem sh_102 : iz_sh 102 = (0, 9) := rfl
theorem sh_103 : iz_sh 103 = (0, 9) := rfl
theorem sh_104 : iz_sh 104 = (0, 6) := rfl
theorem sh_105 : iz_sh 105 = (0, 16) := rfl
theorem sh_106 : iz_sh 106 = (0, 6) := rfl
theorem sh_107 : iz_sh 107 = (1, 64) := rfl
theorem sh_108 : iz_sh 108 = (0, 64) := rfl
theorem sh_109 : iz_sh 109 = (0, 6) := rfl
theorem sh_110 : iz_sh 110 = (0, 6) := rfl
theorem sh_111 : iz_sh 111 = (0, 6) := rfl
theorem sh_112 : iz_sh 112 = (0, 256) := rfl
theorem sh_113 : iz_sh 113 = (0, 96) := rfl
theorem sh_114 : iz_sh 114 = (0, 320) := rfl
theorem sh_115 : iz_sh 115 = (0, 4) := rfl
theorem sh_116 : iz_sh 116 = (0, 4) := rfl
theorem sh_117 : iz_sh 117 = (0, 8) := rfl
theorem sh_118 : iz_sh 118 = (0, 8) := rfl
theorem sh_119 : iz_sh 119 = (0, 549) := rfl
theorem sh_120 : iz_sh 120 = (0, 64) := rfl
theorem up_p (S : iz_S) (p i : Nat) (v : Int32) {q : Nat} (h : q ≠ p) : (iz_up S p i v).1 q = S.1 q := by rw [upA, if_neg h]
theorem in_ok {n N : Nat} (h : n < N) (hN : N ≤ 1000) : iz_in (nI n) N = true := in_nI h (by omega)
theorem nI_lt_lit {n N : Nat} (h : n < 2 ^ 31) (hN : N < 2 ^ 31) : (nI n < nI N) = (n < N) := propext (nI_ltI h hN)
theorem pc_tell {S : iz_S} (h : rl S) (x : Int32) : pc (Ic_tell 0 x) (Mo_tell 82 x) S := by
  obtain ⟨n, hn, e1, e2, e3⟩ := id h.2.2.2.2.2.1
  by_cases hc : n = 16
  · subst hc
    refine pc_of (r := -1000004) (S1 := iz_up S 81 4 (S.1 81 4 + 1)) ?_ ?_ (rl_find (k := 4) h)
    · have : ¬ (S.1 79 0 < 16) := by rw [e1]; decide +kernel
      simp only [Ic_tell, ck_t, lt_e, bI_s, bL_s, bV_s, one_n0, zero_0, if_true, if_false, rfs, if_neg this, ic_f4]
    · have : (iz_up S 81 4 (S.1 81 4 + 1)).1 82 26 = 16 := by rw [up_p _ _ _ _ (by decide), e2]; rfl
      simp only [Mo_tell, ck_t, lt_e, bI_s, bL_s, bV_s, one_n0, zero_0, if_true, if_false, rfs, if_pos this, mo_f4]
  · have hlt : n < 16 := by omega
    have c1 : S.1 79 0 < 16 := by rw [e1]; exact nI_lt hlt (by decide)
    have i1 : iz_in (S.1 79 0) 16 = true := by rw [e1]; exact in_ok hlt (by decide)
    obtain ⟨S1, hS1⟩ : ∃ S1, S1 = iz_up (iz_up S 80 n x) 79 0 (nI (n + 1)) := ⟨_, rfl⟩
    obtain ⟨S2, hS2⟩ : ∃ S2, S2 = iz_up (iz_up S1 105 n x) 82 26 (nI (n + 1)) := ⟨_, rfl⟩
    have q2 : S1.1 82 26 = nI n := by rw [hS1, up_p _ _ _ _ (by decide), up_p _ _ _ _ (by decide), e2]
    refine pc_of (r := nI (n + 1)) (S1 := S1) (S2 := S2) ?_ ?_ ?_
    · have g1 : iz_s S 80 (S.1 79 0) x = iz_up S 80 n x := by rw [e1, s_nI S 80 (by omega)]
      have g2 : (iz_up S 80 n x).1 79 0 + 1 = nI (n + 1) := by rw [up_p _ _ _ _ (by decide), e1, nI_1]
      simp only [Ic_tell, Wa_enter, ck_t, lt_e, bI_s, bL_s, bV_s, one_n0, zero_0, if_true, if_false, rfs, if_pos c1, i1, g1, g2, up_same]
      rw [hS1]
    · have c2 : ¬ S1.1 82 26 = 16 := by
        rw [q2]
        exact fun e => absurd ((nI_eq (b := 16) (by omega) (by decide)).mp e) (by omega)
      have i2 : iz_in (S1.1 82 26) 16 = true := by rw [q2]; exact in_ok hlt (by decide)
      have g1 : iz_s S1 105 (S1.1 82 26) x = iz_up S1 105 n x := by rw [q2, s_nI S1 105 (by omega)]
      have g2 : (iz_up S1 105 n x).1 82 26 + 1 = nI (n + 1) := by rw [up_p _ _ _ _ (by decide), q2, nI_1]
      simp only [Mo_tell, ck_t, lt_e, bI_s, bL_s, bV_s, one_n0, zero_0, if_true, if_false, rfs, if_neg c2, i2, g1, g2, up_same]
      rw [hS2]
    · have hf : fr (fun p i => p == 79 || p == 80 || p == 105 || (p == 82 && i == 26)) S S2 := by
        rw [hS2, hS1]
        exact fr_up (fr_up (fr_up (fr_up (fr_rf _ S) rfl) rfl) rfl) rfl
      refine ⟨st_lake hf (fun _ => ⟨rfl, rfl, rfl, rfl, rfl, rfl⟩) h.1, st_shel hf (fun _ => ⟨rfl, rfl, rfl, rfl, rfl, rfl⟩) h.2.1, st_house hf (fun _ => ⟨rfl, rfl, rfl, rfl, rfl, rfl, rfl, rfl, rfl, rfl, rfl, rfl⟩) rfl rfl (fun _ _ => rfl) h.2.2.1, st_ord hf (fun _ => ⟨rfl, rfl, rfl, rfl, rfl, rfl, rfl, rfl, rfl, rfl, rfl, rfl, rfl⟩) rfl rfl h.2.2.2.1, st_rail hf (fun _ => ⟨rfl, rfl, rfl, rfl, rfl, rfl, rfl⟩) rfl h.2.2.2.2.1, ?_, st_sale hf (fun _ => ⟨rfl, rfl⟩) h.2.2.2.2.2.2.1, st_found hf (fun _ => ⟨rfl, rfl⟩) h.2.2.2.2.2.2.2⟩
      refine ⟨n + 1, by omega, ?_, by rw [hS2, up_same], fun i hi => ?_⟩
      · simp [hS2, hS1, upA, upd]
      · by_cases e : i = n
        · subst e
          simp [hS2, hS1, upA, upd]
        · simp [hS2, hS1, upA, upd, e]
          exact e3 i (by omega)
theorem ic_exchange {p N k : Nat} (hp : iz_sh p = (0, N)) (hk : k < N) (hN : N ≤ 1000) (v : Int32) (S : iz_S) : Ic_exchange p (nI k) v S = some (S.1 p k, iz_up S p k v) := by
  have i1 := in_ok hk hN
  unfold Ic_exchange
  rw [hp, g_nI S p (by omega), s_nI S p (by omega)]
  simp only [ck_t, lt_e, bI_s, bL_s, bV_s, one_n0, zero_0, if_true, if_false, rfs, i1]
theorem ic_isColumn (v : Int32) (S : iz_S) : Ic_isColumn v S = some (if 0 ≤ v ∧ v ≤ 15 then 1 else 0, S) := by
  unfold Ic_isColumn
  rw [ic_within]
  by_cases h : 0 ≤ v ∧ v ≤ 15
  · simp only [if_pos h, bI_s]; rfl
  · simp only [if_neg h, bI_s]; rfl
theorem mo_isColumn (v : Int32) (S : iz_S) : Mo_isColumn v S = some (if 0 ≤ v ∧ v ≤ 15 then 1 else 0, S) := by
  unfold Mo_isColumn
  rw [mo_isIn]
  by_cases h : 0 ≤ v ∧ v ≤ 15
  · simp only [if_pos h, bI_s]; rfl
  · simp only [if_neg h, bI_s]; rfl
theorem pc_dust {S : iz_S} (h : rl S) (x y : Int32) : pc (Ic_dust 0 x y) (Mo_dust 82 x y) S := by
  by_cases h1 : 0 ≤ x ∧ x ≤ 3
  · by_cases h2 : 0 ≤ y ∧ y ≤ 10
    · obtain ⟨k, -, k2, rfl⟩ := nI_btw (a := 0) (b := 3) (by decide) h1.1 h1.2 (by decide)
      obtain ⟨n, -, n2, rfl⟩ := nI_btw (a := 0) (b := 10) (by decide) h2.1 h2.2 (by decide)
      have i1 := in_ok (n := k) (N := 4) (by omega) (by decide)
      have hw := h.2.1.1 k (by omega)
      obtain ⟨S2, hS2⟩ : ∃ S2, S2 = iz_up (iz_up S 10 k (nI n)) 92 k (nI n) := ⟨_, rfl⟩
      refine pc_of (r := S.1 10 k) (S1 := iz_up S 10 k (nI n)) (S2 := S2) ?_ ?_ ?_
      · simp only [Ic_dust, ic_within, ck_t, lt_e, bI_s, bL_s, bV_s, one_n0, zero_0, if_true, if_false, rfs, if_pos h1, if_pos h2, ic_exchange sh_10 (show k < 4 by omega) (by decide)]
      · have g1 : iz_g (iz_up S 10 k (nI n)) 92 (nI k) = S.1 10 k := by rw [g_nI _ _ (by omega), up_p _ _ _ _ (by decide), hw.1]
        simp only [Mo_dust, mo_isIn, ck_t, lt_e, bI_s, bL_s, bV_s, one_n0, zero_0, if_true, if_false, rfs, if_pos h1, if_pos h2, i1, g1, s_nI _ 92 (show k < 2 ^ 31 by omega)]
        rw [hS2]
      · have hf : fr (fun p i => p == 10 || p == 92) S S2 := by
          rw [hS2]
          exact fr_up (fr_up (fr_rf _ S) rfl) rfl
        refine ⟨st_lake hf (fun _ => ⟨rfl, rfl, rfl, rfl, rfl, rfl⟩) h.1, ⟨fun i hi => ?_, fun i hi => ?_, fun i hi => ?_⟩, st_house hf (fun _ => ⟨rfl, rfl, rfl, rfl, rfl, rfl, rfl, rfl, rfl, rfl, rfl, rfl⟩) rfl rfl (fun _ _ => rfl) h.2.2.1, st_ord hf (fun _ => ⟨rfl, rfl, rfl, rfl, rfl, rfl, rfl, rfl, rfl, rfl, rfl, rfl, rfl⟩) rfl rfl h.2.2.2.1, st_rail hf (fun _ => ⟨rfl, rfl, rfl, rfl, rfl, rfl, rfl⟩) rfl h.2.2.2.2.1, st_wait hf (fun _ => ⟨rfl, rfl, rfl⟩) rfl h.2.2.2.2.2.1, st_sale hf (fun _ => ⟨rfl, rfl⟩) h.2.2.2.2.2.2.1, st_found hf (fun _ => ⟨rfl, rfl⟩) h.2.2.2.2.2.2.2⟩
        · by_cases e : i = k
          · subst e
            simp [hS2, upA, upd]
            exact ⟨n, n2, rfl⟩
          · simp [hS2, upA, upd, e]
            exact h.2.1.1 i hi
        · rw [hf 93 i rfl, hf 11 i rfl]; exact h.2.1.2.1 i hi
        · rw [hf 94 i rfl, hf 12 i rfl]; exact h.2.1.2.2 i hi
    · refine pc_of (r := -1000001) (S1 := iz_up S 81 1 (S.1 81 1 + 1)) ?_ ?_ (rl_find (k := 1) h)
      · simp only [Ic_dust, Ic_dust_19, ic_within, ck_t, lt_e, bI_s, bL_s, bV_s, one_n0, zero_0, if_true, if_false, rfs, if_pos h1, if_neg h2, ic_f1]
      · simp only [Mo_dust, Mo_dust_19, mo_isIn, ck_t, lt_e, bI_s, bL_s, bV_s, one_n0, zero_0, if_true, if_false, rfs, if_pos h1, if_neg h2, mo_f1]
  · refine pc_of (r := -1000001) (S1 := iz_up S 81 1 (S.1 81 1 + 1)) ?_ ?_ (rl_find (k := 1) h)
    · simp only [Ic_dust, Ic_dust_19, ic_within, ck_t, lt_e, bI_s, bL_s, bV_s, one_n0, zero_0, if_true, if_false, rfs, if_neg h1, ic_f1]
    · simp only [Mo_dust, Mo_dust_19, mo_isIn, ck_t, lt_e, bI_s, bL_s, bV_s, one_n0, zero_0, if_true, if_false, rfs, if_neg h1, mo_f1]
theorem pc_cover {S : iz_S} (h : rl S) (x y : Int32) : pc (Ic_cover 0 x y) (Mo_cover 82 x y) S := by
  by_cases h1 : 0 ≤ x ∧ x ≤ 15
  · by_cases h2 : 0 ≤ y ∧ y ≤ 10
    · obtain ⟨k, -, k2, rfl⟩ := nI_btw (a := 0) (b := 15) (by decide) h1.1 h1.2 (by decide)
      obtain ⟨n, -, n2, rfl⟩ := nI_btw (a := 0) (b := 10) (by decide) h2.1 h2.2 (by decide)
      have i1 := in_ok (n := k) (N := 16) (by omega) (by decide)
      have hw := h.2.1.2.1 k (by omega)
      obtain ⟨S2, hS2⟩ : ∃ S2, S2 = iz_up (iz_up S 11 k (nI n)) 93 k (nI n) := ⟨_, rfl⟩
      refine pc_of (r := S.1 11 k) (S1 := iz_up S 11 k (nI n)) (S2 := S2) ?_ ?_ ?_
      · simp only [Ic_cover, ic_within, ic_isColumn, ck_t, lt_e, bI_s, bL_s, bV_s, one_n0, zero_0, if_true, if_false, rfs, if_pos h1, if_pos h2, ic_exchange sh_11 (show k < 16 by omega) (by decide)]
      · have g1 : iz_g (iz_up S 11 k (nI n)) 93 (nI k) = S.1 11 k := by rw [g_nI _ _ (by omega), up_p _ _ _ _ (by decide), hw.1]
        simp only [Mo_cover, mo_isIn, mo_isColumn, ck_t, lt_e, bI_s, bL_s, bV_s, one_n0, zero_0, if_true, if_false, rfs, if_pos h1, if_pos h2, i1, g1, s_nI _ 93 (show k < 2 ^ 31 by omega)]
        rw [hS2]
      · have hf : fr (fun p i => p == 11 || p == 93) S S2 := by
          rw [hS2]
          exact fr_up (fr_up (fr_rf _ S) rfl) rfl
        refine ⟨st_lake hf (fun _ => ⟨rfl, rfl, rfl, rfl, rfl, rfl⟩) h.1, ⟨fun i hi => ?_, fun i hi => ?_, fun i hi => ?_⟩, st_house hf (fun _ => ⟨rfl, rfl, rfl, rfl, rfl, rfl, rfl, rfl, rfl, rfl, rfl, rfl⟩) rfl rfl (fun _ _ => rfl) h.2.2.1, st_ord hf (fun _ => ⟨rfl, rfl, rfl, rfl, rfl, rfl, rfl, rfl, rfl, rfl, rfl, rfl, rfl⟩) rfl rfl h.2.2.2.1, st_rail hf (fun _ => ⟨rfl, rfl, rfl, rfl, rfl, rfl, rfl⟩) rfl h.2.2.2.2.1, st_wait hf (fun _ => ⟨rfl, rfl, rfl⟩) rfl h.2.2.2.2.2.1, st_sale hf (fun _ => ⟨rfl, rfl⟩) h.2.2.2.2.2.2.1, st_found hf (fun _ => ⟨rfl, rfl⟩) h.2.2.2.2.2.2.2⟩
        · rw [hf 92 i rfl, hf 10 i rfl]; exact h.2.1.1 i hi
        · by_cases e : i = k
          · subst e
            simp [hS2, upA, upd]
            exact ⟨n, n2, rfl⟩
          · simp [hS2, upA, upd, e]
            exact h.2.1.2.1 i hi
        · rw [hf 94 i rfl, hf 12 i rfl]; exact h.2.1.2.2 i hi
    · refine pc_of (r := -1000001) (S1 := iz_up S 81 1 (S.1 81 1 + 1)) ?_ ?_ (rl_find (k := 1) h)
      · simp only [Ic_cover, Ic_cover_17, ic_within, ic_isColumn, ck_t, lt_e, bI_s, bL_s, bV_s, one_n0, zero_0, if_true, if_false, rfs, if_pos h1, if_neg h2, ic_f1]
      · simp only [Mo_cover, Mo_cover_17, mo_isIn, mo_isColumn, ck_t, lt_e, bI_s, bL_s, bV_s, one_n0, zero_0, if_true, if_false, rfs, if_pos h1, if_neg h2, mo_f1]
  · refine pc_of (r := -1000001) (S1 := iz_up S 81 1 (S.1 81 1 + 1)) ?_ ?_ (rl_find (k := 1) h)
    · simp only [Ic_cover, Ic_cover_17, ic_within, ic_isColumn, ck_t, lt_e, bI_s, bL_s, bV_s, one_n0, zero_0, if_true, if_false, rfs, if_neg h1, ic_f1]
    · simp only [Mo_cover, Mo_cover_17, mo_isIn, mo_isColumn, ck_t, lt_e, bI_s, bL_s, bV_s, one_n0, zero_0, if_true, if_false, rfs, if_neg h1, mo_f1]
theorem pc_warmth {S : iz_S} (h : rl S) (x y : Int32) : pc (Ic_warmth 0 x y) (Mo_warmth 82 x y) S := by
  by_cases h1 : 0 ≤ x ∧ x ≤ 99
  · by_cases h2 : 0 ≤ y ∧ y ≤ 40
    · obtain ⟨k, -, k2, rfl⟩ := nI_btw (a := 0) (b := 99) (by decide) h1.1 h1.2 (by decide)
      obtain ⟨n, -, n2, rfl⟩ := nI_btw (a := 0) (b := 40) (by decide) h2.1 h2.2 (by decide)
      have i1 := in_ok (n := k) (N := 100) (by omega) (by decide)
      have hw := h.2.1.2.2 k (by omega)
      obtain ⟨S2, hS2⟩ : ∃ S2, S2 = iz_up (iz_up S 12 k (nI n)) 94 k (nI n) := ⟨_, rfl⟩
      refine pc_of (r := S.1 12 k) (S1 := iz_up S 12 k (nI n)) (S2 := S2) ?_ ?_ ?_
      · simp only [Ic_warmth, ic_within, ck_t, lt_e, bI_s, bL_s, bV_s, one_n0, zero_0, if_true, if_false, rfs, if_pos h1, if_pos h2, ic_exchange sh_12 (show k < 100 by omega) (by decide)]
      · have g1 : iz_g (iz_up S 12 k (nI n)) 94 (nI k) = S.1 12 k := by rw [g_nI _ _ (by omega), up_p _ _ _ _ (by decide), hw.1]
        simp only [Mo_warmth, mo_isIn, ck_t, lt_e, bI_s, bL_s, bV_s, one_n0, zero_0, if_true, if_false, rfs, if_pos h1, if_pos h2, i1, g1, s_nI _ 94 (show k < 2 ^ 31 by omega)]
        rw [hS2]
      · have hf : fr (fun p i => p == 12 || p == 94) S S2 := by
          rw [hS2]
          exact fr_up (fr_up (fr_rf _ S) rfl) rfl
        refine ⟨st_lake hf (fun _ => ⟨rfl, rfl, rfl, rfl, rfl, rfl⟩) h.1, ⟨fun i hi => ?_, fun i hi => ?_, fun i hi => ?_⟩, st_house hf (fun _ => ⟨rfl, rfl, rfl, rfl, rfl, rfl, rfl, rfl, rfl, rfl, rfl, rfl⟩) rfl rfl (fun _ _ => rfl) h.2.2.1, st_ord hf (fun _ => ⟨rfl, rfl, rfl, rfl, rfl, rfl, rfl, rfl, rfl, rfl, rfl, rfl, rfl⟩) rfl rfl h.2.2.2.1, st_rail hf (fun _ => ⟨rfl, rfl, rfl, rfl, rfl, rfl, rfl⟩) rfl h.2.2.2.2.1, st_wait hf (fun _ => ⟨rfl, rfl, rfl⟩) rfl h.2.2.2.2.2.1, st_sale hf (fun _ => ⟨rfl, rfl⟩) h.2.2.2.2.2.2.1, st_found hf (fun _ => ⟨rfl, rfl⟩) h.2.2.2.2.2.2.2⟩
        · rw [hf 92 i rfl, hf 10 i rfl]; exact h.2.1.1 i hi
        · rw [hf 93 i rfl, hf 11 i rfl]; exact h.2.1.2.1 i hi
        · by_cases e : i = k
          · subst e
            simp [hS2, upA, upd]
            exact ⟨n, n2, rfl⟩
          · simp [hS2, upA, upd, e]
            exact h.2.1.2.2 i hi
    · refine pc_of (r := -1000001) (S1 := iz_up S 81 1 (S.1 81 1 + 1)) ?_ ?_ (rl_find (k := 1) h)
      · simp only [Ic_warmth, Ic_warmth_20, ic_within, ck_t, lt_e, bI_s, bL_s, bV_s, one_n0, zero_0, if_true, if_false, rfs, if_pos h1, if_neg h2, ic_f1]
      · simp only [Mo_warmth, Mo_warmth_20, mo_isIn, ck_t, lt_e, bI_s, bL_s, bV_s, one_n0, zero_0, if_true, if_false, rfs, if_pos h1, if_neg h2, mo_f1]
  · refine pc_of (r := -1000001) (S1 := iz_up S 81 1 (S.1 81 1 + 1)) ?_ ?_ (rl_find (k := 1) h)
    · simp only [Ic_warmth, Ic_warmth_20, ic_within, ck_t, lt_e, bI_s, bL_s, bV_s, one_n0, zero_0, if_true, if_false, rfs, if_neg h1, ic_f1]
    · simp only [Mo_warmth, Mo_warmth_20, mo_isIn, ck_t, lt_e, bI_s, bL_s, bV_s, one_n0, zero_0, if_true, if_false, rfs, if_neg h1, mo_f1]
