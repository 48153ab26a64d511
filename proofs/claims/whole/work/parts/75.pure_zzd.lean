/-! PURE: cut, all -/
theorem pc_cut {S : iz_S} (h : rl S) (x : Int32) : pc (Ic_cut 0 x) (Mo_cut 82 x) S := by
  have n1 : ¬ (1 : Int32) = 0 := by decide
  rcases sq_both x S with ⟨s, s1, rfl, s3⟩ | ⟨s3, -⟩
  · obtain ⟨r, r1, r2⟩ := la_barTo (S := S) s1
    have r2le := brv_le r2
    have e0 : (nI r = 0) = (r = 0) := n0_iff (by omega)
    obtain ⟨B, w, kd, wt, sh, col, hc, hm, hi, hw, hs, hl⟩ := house_l h.2.2.1
    have B60 := hi.1
    have c0 : S.1 13 0 = nI B := hc.1
    have lt60 : (nI B < 60) = (B < 60) := propext (nI_ltI (b := 60) (by omega) (by decide))
    have eq60 : (nI B = 60) = (B = 60) := propext (nI_eq (b := 60) (by omega) (by decide))
    by_cases hr : r = 0
    · by_cases hB : B < 60
      · obtain ⟨t, ww, m, k1, k2, k3⟩ := lake_f h.1
        obtain ⟨kn, th⟩ := la_kind s1 k1 k3
        obtain ⟨K, hK⟩ : ∃ K, K = knd (sqs m s 64) (sqs t s 64) := ⟨_, rfl⟩
        obtain ⟨V, hV⟩ : ∃ V, V = 5 * sqs t s 64 := ⟨_, rfl⟩
        have K3 : K ≤ 3 := by rw [hK]; exact knd_le _ _
        have V12 : V ≤ 1200 := by
          rw [hV, sqs_64 t s1]
          have b0 := k3 s
          have b1 := k3 (s + 1)
          have b8 := k3 (s + 8)
          have b9 := k3 (s + 9)
          omega
        rw [← hK] at kn
        have v5 : (5 : Int32) * nI (sqs t s 64) = nI V := by rw [hV]; exact pk_mul 5 _
        have iB := in_ok (n := B) (N := 60) hB (by decide)
        have sB := fun (T : iz_S) p => s_nI T p (show B < 2 ^ 31 by omega)
        obtain ⟨T, hT⟩ : ∃ T, T = iz_up (iz_up (iz_up (iz_up S 14 B (nI K)) 15 B (nI V)) 16 B 0) 13 0 (nI (B + 1)) := ⟨_, rfl⟩
        have fT : fr (fun p i => p == 14 || p == 15 || p == 16 || (p == 13 && i == 0)) S T := by
          rw [hT]
          exact fr_up (fr_up (fr_up (fr_up (fr_rf _ _) rfl) rfl) rfl) rfl
        have hiN := hvi_new (K := K) (V := V) hi hB K3 V12
        have vT : hvc T 13 (B + 1) w (wtU kd B K) (wtU wt B V) (shN sh B) col := by
          refine ⟨by rw [hT, up_same], (fT _ _ rfl).trans hc.2.1, hvg_new hc.2.2 hi ?_ ?_ ?_ ?_ ?_ ?_ (fun k => fT _ _ rfl) (fun k => fT _ _ rfl)⟩
          · intro k hk
            rw [hT, up_p _ _ _ _ (by decide), up_p _ _ _ _ (by decide), up_p _ _ _ _ (by decide), up_ne _ _ _ _ (Or.inr hk)]
          · rw [hT, up_p _ _ _ _ (by decide), up_p _ _ _ _ (by decide), up_p _ _ _ _ (by decide), up_same]
          · intro k hk
            rw [hT, up_p _ _ _ _ (by decide), up_p _ _ _ _ (by decide), up_ne _ _ _ _ (Or.inr hk), up_p _ _ _ _ (by decide)]
          · rw [hT, up_p _ _ _ _ (by decide), up_p _ _ _ _ (by decide), up_same]
          · intro k hk
            rw [hT, up_p _ _ _ _ (by decide), up_ne _ _ _ _ (Or.inr hk), up_p _ _ _ _ (by decide), up_p _ _ _ _ (by decide)]
          · rw [hT, up_p _ _ _ _ (by decide), up_same]
        have nb : Ho_newBlock 13 (nI K) (nI V) S = some (nI B, T) := by
          have u1 : (iz_up S 14 B (nI K)).1 13 0 = nI B := by rw [up_p _ _ _ _ (by decide)]; exact c0
          have u2 : (iz_up (iz_up S 14 B (nI K)) 15 B (nI V)).1 13 0 = nI B := by rw [up_p _ _ _ _ (by decide)]; exact u1
          have u3 : (iz_up (iz_up (iz_up S 14 B (nI K)) 15 B (nI V)) 16 B 0).1 13 0 = nI B := by rw [up_p _ _ _ _ (by decide)]; exact u2
          have u4 : T.1 13 0 = nI (B + 1) := by rw [hT, up_same]
          have x1 : nI (B + 1) - 1 = nI B := nI_m1 (by omega)
          rw [Ho_newBlock, c0, iB, ck_t, lt_e, show iz_rf 13 1 = 14 from rfl, show iz_rf 13 2 = 15 from rfl, show iz_rf 13 3 = 16 from rfl, sB, u1, iB, ck_t, lt_e, sB, u2, iB, ck_t, lt_e, sB, lt_e, u3, nI_1, ← hT, u4, x1]
        have lT : lk T 2 3 4 t ww m := fun c hc => by rw [fT 2 c rfl, fT 3 c rfl, fT 4 c rfl]; exact k1 c hc
        obtain ⟨S1, o1, o2, o3⟩ := la_open s1 lT
        have f1 : fr (fun p i => (p == 14 || p == 15 || p == 16 || (p == 13 && i == 0)) || (p == 2 || p == 3 || p == 4)) S S1 := fr_or fT o3
        have vS1 : hvc S1 13 (B + 1) w (wtU kd B K) (wtU wt B V) (shN sh B) col := hvc_st vT hiN o3 rfl rfl (fun i => ⟨rfl, rfl, rfl, rfl, rfl⟩)
        have hm1 : hvm S1 B w kd wt sh col := hvm_st hm hi f1 rfl rfl (fun i => ⟨rfl, rfl, rfl, rfl, rfl, rfl⟩)
        have l1 : lk S1 83 84 85 t ww m := fun c hc => by rw [f1 83 c rfl, f1 84 c rfl, f1 85 c rfl]; exact k2 c hc
        obtain ⟨r', S2, q1, q2, q3⟩ := mo_barOf (S := S1) (f := S.1 2) s1 (fun i hi => by rw [f1 83 i rfl]; exact (h.1 i hi).1)
        obtain rfl := brv_f r2 q2
        have hm2 : hvm S2 B w kd wt sh col := hvm_st hm1 hi q3 rfl rfl (fun i => ⟨rfl, rfl, rfl, rfl, rfl, rfl⟩)
        have l2 : lk S2 83 84 85 t ww m := fun c hc => by rw [q3 83 c rfl, q3 84 c rfl, q3 85 c rfl]; exact l1 c hc
        obtain ⟨S3, c1, c2, c3⟩ := mo_c49 (t := t) (w := ww) (m := m) s1 k3 64 0 iz_FU S2 (by omega) (by have := fu_ge; omega) (fun i hi => by rw [if_neg (by omega), if_neg (by omega), if_neg (by omega)]; exact l2 i hi)
        have hm3 : hvm S3 B w kd wt sh col := hvm_st hm2 hi c3 rfl rfl (fun i => ⟨rfl, rfl, rfl, rfl, rfl, rfl⟩)
        obtain ⟨U, hU⟩ : ∃ U, U = iz_up (iz_up (iz_up (iz_up (iz_up S3 86 B (nI K)) 87 B (nI V)) 88 B 0) 89 B (-1)) 82 3 (nI (B + 1)) := ⟨_, rfl⟩
        have fU : fr (fun p i => p == 86 || p == 87 || p == 88 || p == 89 || (p == 82 && i == 3)) S3 U := by
          rw [hU]
          exact fr_up (fr_up (fr_up (fr_up (fr_up (fr_rf _ _) rfl) rfl) rfl) rfl) rfl
        have nin : hl_in col B = false := by
          cases q : hl_in col B with
          | false => rfl
          | true =>
            obtain ⟨c, c16, mm⟩ := in_iff.mp q
            have := (hi.2.2.2.2.1 c B c16 mm).1
            omega
        have vU : hvm U (B + 1) w (wtU kd B K) (wtU wt B V) (shN sh B) col := by
          refine ⟨by rw [hU, up_same], (fU _ _ rfl).trans hm3.2.1, hvg_new hm3.2.2.1 hi ?_ ?_ ?_ ?_ ?_ ?_ (fun k => fU _ _ rfl) (fun k => fU _ _ rfl), fun c i c16 mi => ?_, fun i iB hn => ?_⟩
          · intro k hk
            rw [hU, up_p _ _ _ _ (by decide), up_p _ _ _ _ (by decide), up_p _ _ _ _ (by decide), up_p _ _ _ _ (by decide), up_ne _ _ _ _ (Or.inr hk)]
          · rw [hU, up_p _ _ _ _ (by decide), up_p _ _ _ _ (by decide), up_p _ _ _ _ (by decide), up_p _ _ _ _ (by decide), up_same]
          · intro k hk
            rw [hU, up_p _ _ _ _ (by decide), up_p _ _ _ _ (by decide), up_p _ _ _ _ (by decide), up_ne _ _ _ _ (Or.inr hk), up_p _ _ _ _ (by decide)]
          · rw [hU, up_p _ _ _ _ (by decide), up_p _ _ _ _ (by decide), up_p _ _ _ _ (by decide), up_same]
          · intro k hk
            rw [hU, up_p _ _ _ _ (by decide), up_p _ _ _ _ (by decide), up_ne _ _ _ _ (Or.inr hk), up_p _ _ _ _ (by decide), up_p _ _ _ _ (by decide)]
          · rw [hU, up_p _ _ _ _ (by decide), up_p _ _ _ _ (by decide), up_same]
          · have iB := (hi.2.2.2.2.1 c i c16 mi).1
            have ne : i ≠ B := by omega
            rw [hU, up_p _ _ _ _ (by decide), up_ne _ _ _ _ (Or.inr ne), up_p _ _ _ _ (by decide), up_p _ _ _ _ (by decide), up_p _ _ _ _ (by decide)]
            exact hm3.2.2.2.1 c i c16 mi
          · by_cases e : i = B
            · subst e
              rw [hU, up_p _ _ _ _ (by decide), up_same]
            · rw [hU, up_p _ _ _ _ (by decide), up_ne _ _ _ _ (Or.inr e), up_p _ _ _ _ (by decide), up_p _ _ _ _ (by decide), up_p _ _ _ _ (by decide)]
              exact hm3.2.2.2.2 i (by omega) hn
        have mo150 : Mo_cut_150 82 (nI (sqs t s 64)) (S3.1 82 3) (nI K) S3 = some (nI B, U) := by
          have m0 : S3.1 82 3 = nI B := hm3.1
          have u1 : (iz_up S3 86 B (nI K)).1 82 3 = nI B := by rw [up_p _ _ _ _ (by decide)]; exact m0
          have u2 : (iz_up (iz_up S3 86 B (nI K)) 87 B (nI V)).1 82 3 = nI B := by rw [up_p _ _ _ _ (by decide)]; exact u1
          have u3 : (iz_up (iz_up (iz_up S3 86 B (nI K)) 87 B (nI V)) 88 B 0).1 82 3 = nI B := by rw [up_p _ _ _ _ (by decide)]; exact u2
          have u4 : (iz_up (iz_up (iz_up (iz_up S3 86 B (nI K)) 87 B (nI V)) 88 B 0) 89 B (-1)).1 82 3 = nI B := by rw [up_p _ _ _ _ (by decide)]; exact u3
          have u5 : U.1 82 3 = nI (B + 1) := by rw [hU, up_same]
          have x1 : nI (B + 1) - 1 = nI B := nI_m1 (by omega)
          rw [Mo_cut_150, m0, iB, ck_t, lt_e, show iz_rf 82 4 = 86 from rfl, show iz_rf 82 5 = 87 from rfl, show iz_rf 82 6 = 88 from rfl, show iz_rf 82 7 = 89 from rfl, v5, sB, u1, iB, ck_t, lt_e, sB, u2, iB, ck_t, lt_e, sB, u3, iB, ck_t, lt_e, sB, lt_e, u4, nI_1, ← hU, u5, x1]
        refine pc_of (r := nI B) (S1 := S1) (S2 := U) ?_ ?_ ?_
        · rw [Ic_cut, (s3 S).1, bI_s, if_neg n1, show iz_rf 0 0 = 1 from rfl, show iz_rf 0 3 = 13 from rfl, r1, bI_s, if_pos (by rw [e0]; exact hr), c0, if_pos (by rw [lt60]; exact hB), kn, bI_s, th, bI_s, v5, nb, bI_s, o1, bV_s]
        · have m2 : S2.1 82 3 = nI B := hm2.1
          have ne60 : ¬ B = 60 := by omega
          rw [Mo_cut, (s3 S1).2, bI_s, if_neg n1, q1, bI_s, if_pos (by rw [e0]; exact hr), m2, if_neg (by rw [eq60]; exact ne60)]
          refine Eq.trans c1 ?_
          rw [← hK, mo150]
        · have hf : fr (fun p i => ((p == 14 || p == 15 || p == 16 || (p == 13 && i == 0)) || (p == 2 || p == 3 || p == 4)) || (f78 p i || ((p == 83 || p == 84 || p == 85) || (p == 86 || p == 87 || p == 88 || p == 89 || (p == 82 && i == 3))))) S U := fr_or f1 (fr_or q3 (fr_or c3 fU))
          have f2 : fr (fun p i => f78 p i || ((p == 83 || p == 84 || p == 85) || (p == 86 || p == 87 || p == 88 || p == 89 || (p == 82 && i == 3)))) S1 U := fr_or q3 (fr_or c3 fU)
          refine ⟨f_lake (t := opn t s) (w := opn ww s) (m := opn m s) (fun c hc => by rw [f2 2 c rfl, f2 3 c rfl, f2 4 c rfl]; exact o2 c hc) (fun c hc => by rw [fU 83 c rfl, fU 84 c rfl, fU 85 c rfl]; exact c2 c hc) (fun c => ?_), st_shel hf (fun _ => ⟨rfl, rfl, rfl, rfl, rfl, rfl⟩) h.2.1, l_house (B := B + 1) (w := w) (kd := wtU kd B K) (wt := wtU wt B V) (sh := shN sh B) (col := col) ⟨hvc_st vS1 hiN f2 rfl rfl (fun i => ⟨rfl, rfl, rfl, rfl, rfl⟩), vU, hiN, hw, ?_, ?_⟩, st_ord hf (fun _ => ⟨rfl, rfl, rfl, rfl, rfl, rfl, rfl, rfl, rfl, rfl, rfl, rfl, rfl⟩) rfl rfl h.2.2.2.1, st_rail hf (fun _ => ⟨rfl, rfl, rfl, rfl, rfl, rfl, rfl⟩) rfl h.2.2.2.2.1, st_wait hf (fun _ => ⟨rfl, rfl, rfl⟩) rfl h.2.2.2.2.2.1, st_sale hf (fun _ => ⟨rfl, rfl⟩) h.2.2.2.2.2.2.1, st_found hf (fun _ => ⟨rfl, rfl⟩) h.2.2.2.2.2.2.2⟩
          · obtain ⟨z1, z2, z3, z4⟩ := k3 c
            unfold opn
            by_cases q : io c s = true
            · rw [if_pos q, if_pos q, if_pos q]
              exact ⟨by omega, by omega, by omega, fun _ => ⟨rfl, rfl⟩⟩
            · rw [if_neg q, if_neg q, if_neg q]
              exact ⟨z1, z2, z3, z4⟩
          · intro c c16
            have := hs c c16
            rw [bk_cg2 (kd := wtU kd B K) (kd2 := kd) (wt := wtU wt B V) (wt2 := wt) (fun i mi => by
              have := (hi.2.2.2.2.1 c i c16 mi).1
              rw [wtU_n (by omega), wtU_n (by omega)]
              exact ⟨rfl, rfl⟩)]
            exact this
          · intro i i5
            rw [hf 104 i rfl, hl i i5]
            have : (6 + i == 0) = false := by simp
            exact (hf 13 (6 + i) (by simp [f78])).symm
      · have B6 : B = 60 := by omega
        obtain ⟨S1, hS1⟩ : ∃ S1, S1 = iz_up S 81 4 (S.1 81 4 + 1) := ⟨_, rfl⟩
        have f1 : fr (fun p i => p == 81 && i == 4) S S1 := by rw [hS1]; exact fr_1
        obtain ⟨r', S2, q1, q2, q3⟩ := mo_barOf (S := S1) (f := S.1 2) s1 (fun i hi => by rw [f1 83 i rfl]; exact (h.1 i hi).1)
        obtain rfl := brv_f r2 q2
        have m2 : S2.1 82 3 = nI B := by rw [q3 82 3 rfl, f1 82 3 rfl]; exact hm.1
        refine pc_of (r := -1000004) (S1 := S1) (S2 := iz_up S2 106 4 (S2.1 106 4 + 1)) ?_ ?_ ?_
        · rw [Ic_cut, (s3 S).1, bI_s, if_neg n1, show iz_rf 0 0 = 1 from rfl, show iz_rf 0 3 = 13 from rfl, r1, bI_s, if_pos (by rw [e0]; exact hr), c0, if_neg (by rw [lt60]; exact hB), ic_f4, bI_s, hS1]
        · rw [Mo_cut, (s3 S1).2, bI_s, if_neg n1, q1, bI_s, if_pos (by rw [e0]; exact hr), m2, if_pos (by rw [eq60]; exact B6), mo_f4, bI_s]
        · have r0 := rl_find (k := 4) h
          rw [← hS1] at r0
          have f4 : fr f78 (iz_up S1 106 4 (S1.1 106 4 + 1)) (iz_up S2 106 4 (S2.1 106 4 + 1)) := fun p i hp => by
            by_cases e : p = 106 ∧ i = 4
            · obtain ⟨rfl, rfl⟩ := e
              rw [up_same, up_same, q3 106 4 rfl]
            · rw [up_ne _ _ _ _ (by omega), up_ne _ _ _ _ (by omega), q3 p i hp]
          exact rl_78 r0 f4
    · obtain ⟨S1, hS1⟩ : ∃ S1, S1 = iz_up S 81 3 (S.1 81 3 + 1) := ⟨_, rfl⟩
      have f1 : fr (fun p i => p == 81 && i == 3) S S1 := by rw [hS1]; exact fr_1
      obtain ⟨r', S2, q1, q2, q3⟩ := mo_barOf (S := S1) (f := S.1 2) s1 (fun i hi => by rw [f1 83 i rfl]; exact (h.1 i hi).1)
      obtain rfl := brv_f r2 q2
      refine pc_of (r := -1000003) (S1 := S1) (S2 := iz_up S2 106 3 (S2.1 106 3 + 1)) ?_ ?_ ?_
      · rw [Ic_cut, (s3 S).1, bI_s, if_neg n1, show iz_rf 0 0 = 1 from rfl, r1, bI_s, if_neg (by rw [e0]; exact hr), ic_f3, bI_s, hS1]
      · rw [Mo_cut, (s3 S1).2, bI_s, if_neg n1, q1, bI_s, if_neg (by rw [e0]; exact hr), mo_f3, bI_s]
      · have r0 := rl_find (k := 3) h
        rw [← hS1] at r0
        have f4 : fr f78 (iz_up S1 106 3 (S1.1 106 3 + 1)) (iz_up S2 106 3 (S2.1 106 3 + 1)) := fun p i hp => by
          by_cases e : p = 106 ∧ i = 3
          · obtain ⟨rfl, rfl⟩ := e
            rw [up_same, up_same, q3 106 3 rfl]
          · rw [up_ne _ _ _ _ (by omega), up_ne _ _ _ _ (by omega), q3 p i hp]
        exact rl_78 r0 f4
  · refine pc_of (r := -1000001) (S1 := iz_up S 81 1 (S.1 81 1 + 1)) ?_ ?_ (rl_find (k := 1) h)
    · rw [Ic_cut, (s3 S).1, bI_s, if_pos rfl, ic_f1, bI_s]
    · rw [Mo_cut, (s3 _).2, bI_s, if_pos rfl, mo_f1, bI_s]
