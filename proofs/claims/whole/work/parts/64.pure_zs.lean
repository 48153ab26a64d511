/-! PURE: serve -/
theorem ct_upd {p p2 : Nat → Bool} {o : Nat} (h : ∀ i, i ≠ o → p2 i = p i) (h1 : p o = false) (h2 : p2 o = true) : ∀ n, o < n → fa_ct p2 n = fa_ct p n + 1 := by
  have low : ∀ n, n ≤ o → fa_ct p2 n = fa_ct p n := by
    intro n
    induction n with
    | zero => intro _; rfl
    | succ n ih => intro hn; rw [fa_ct, fa_ct, ih (by omega), h n (by omega)]
  intro n
  induction n with
  | zero => intro hn; omega
  | succ n ih =>
    intro hn
    rw [fa_ct, fa_ct]
    by_cases e : n = o
    · subst e
      rw [low n (Nat.le_refl n), h1, h2]
      rfl
    · rw [ih (by omega), h n e]
      omega
theorem hd_0 {sv : Bool} {w up : Nat} {kd wt : Nat → Nat} {g lw hr Wk : Nat} {blk : Option Nat} (h : hd_ sv w up kd wt g lw hr Wk blk = 0) : sv = false ∧ ∃ b, blk = some b := by
  cases blk with
  | none =>
    exfalso
    cases sv with
    | true =>
      have e : hd_ true w up kd wt g lw hr Wk none = 1 := rfl
      omega
    | false =>
      have e : hd_ false w up kd wt g lw hr Wk none = if up < w then 2 else 3 := rfl
      rw [e] at h
      split at h <;> omega
  | some b =>
    refine ⟨?_, b, rfl⟩
    cases sv with
    | false => rfl
    | true =>
      have e : hd_ true w up kd wt g lw hr Wk (some b) = 1 := rfl
      omega
def fs0 (p i : Nat) : Bool := p == 15 || p == 16 || p == 17 || (p == 13 && (i == 9 || i == 7))
def fs1 (o p i : Nat) : Bool := (p == 44 && i == o) || (p == 38 && (i == 1 || i == 2))
def fsu (o p i : Nat) : Bool := (p == 104 && (i == 3 || i == 1 || i == 5)) || (p == 100 && i == o)
def fsr (p _ : Nat) : Bool := p == 87 || p == 88 || p == 89 || p == 90 || p == 91
theorem pc_serve {S : iz_S} (h : rl S) (x y : Int32) : pc (Ic_serve 0 x y) (Mo_serve 82 x y) S := by
  obtain ⟨n, g, lw, up, hr, pr, sv, ho, hm, hb⟩ := ord_f h.2.2.2.1
  have n10 := ho.1
  have u14 : ∀ k v, (iz_up S 81 k v).1 82 14 = nI n := fun k v => by rw [up_p _ _ _ _ (by decide), hm.2.1]
  by_cases hx : ∃ i, i < n ∧ x = nI i
  · obtain ⟨o, on, rfl⟩ := hx
    have h1 := or_has_t ho.2.1 n10 on
    by_cases hy : 0 ≤ y ∧ y ≤ 15
    · obtain ⟨c, -, c15, rfl⟩ := nI_btw (a := 0) (b := 15) (by decide) hy.1 hy.2 (by decide)
      have c16 : c < 16 := by omega
      obtain ⟨B, w, kd, wt, sh, col, hc, hmm, hi, hw, hs, hl⟩ := house_l h.2.2.1
      obtain ⟨d, cv, W, s1, s2⟩ := shel_s h.2.1
      have t1 := ho_tp hq_13 hc hi c16
      have e1 := or_hd ho hb hc hi s1.2.2 on (blk := tp (col c)) (fun b hb => ⟨c, c16, tp_mem hb⟩)
      have hd5 := hd_le (sv o) w (up o) kd wt (g o) (lw o) (hr o) (wk_w W w) (tp (col c))
      have e0 : (nI (hd_ (sv o) w (up o) kd wt (g o) (lw o) (hr o) (wk_w W w) (tp (col c))) = 0) = (hd_ (sv o) w (up o) kd wt (g o) (lw o) (hr o) (wk_w W w) (tp (col c)) = 0) := n0_iff (by omega)
      by_cases hd : hd_ (sv o) w (up o) kd wt (g o) (lw o) (hr o) (wk_w W w) (tp (col c)) = 0
      · obtain ⟨svo, a, ta⟩ := hd_0 hd
        have ne : col c ≠ [] := fun q => by rw [q] at ta; cases ta
        obtain ⟨K, a', e⟩ := top_of ne
        rw [e, tp_s] at ta
        obtain rfl := Option.some.inj ta
        rw [e, tp_s] at t1
        have hk : hl_h col c = K.length + 1 := by unfold hl_h; rw [e, List.length_append]; rfl
        have l6 : hl_h col c ≤ 6 := (hi.2.2.2.1 c c16).1
        have ma : a' ∈ col c := by rw [e]; simp
        have aB := (hi.2.2.2.2.1 c a' c16 ma).1
        have B60 := hi.1
        obtain ⟨k3, w12⟩ := hi.2.2.1 a' aB
        obtain ⟨a1, a2, a3, a4, a5, a6⟩ := ho.2.2 o on
        obtain ⟨m1, m2, m3, m4, m5, m6⟩ := hm.2.2 o on
        obtain ⟨b1, b2, b3, b4, b5, b6, b7⟩ := hb o on
        have i1 := in_ok (n := c) (N := 16) c16 (by decide)
        have i2 := in_ok (n := a') (N := 60) (by omega) (by decide)
        have i3 := in_ok (n := o) (N := 10) (by omega) (by decide)
        have gc := fun (T : iz_S) p => g_nI T p (show c < 2 ^ 31 by omega)
        have ga := fun (T : iz_S) p => g_nI T p (show a' < 2 ^ 31 by omega)
        have go := fun (T : iz_S) p => g_nI T p (show o < 2 ^ 31 by omega)
        have so := fun (T : iz_S) p => s_nI T p (show o < 2 ^ 31 by omega)
        have wa := (ho_breaks hq_13 hc hi c16 e).2.1
        have wa' : S.1 15 a' = nI (wt a') := wa
        obtain ⟨v, hv⟩ : ∃ v, v = cm_ (wt a') (hr o) (wk_w W w) := ⟨_, rfl⟩
        have cm := or_comes (o := o) (b := a') (by omega) (by omega) a4 b5 hc.2.1 hi.2.1 s1.2.2 wa' w12
        rw [← hv] at cm
        obtain ⟨t0, t2, t3⟩ := ho_lift hq_13 hc hi c16 e
        obtain ⟨T, hT⟩ : ∃ T, T = iz_up (iz_up (iz_up S 17 c (nI K.length)) 13 9 (S.1 13 9 + nI v)) 13 7 (S.1 13 7 + (nI (wt a') - nI v)) := ⟨_, rfl⟩
        have fT : fr (fun p i => (p == 13 + 4 && i == c) || (p == 13 && decide (6 ≤ i))) S T := by
          rw [hT]
          exact fr_up (fr_up (fr_up (fr_rf _ _) (by simp)) (by simp)) (by simp)
        obtain ⟨S0, hS0⟩ : ∃ S0, S0 = iz_up (iz_up T 15 a' 0) 16 a' 2 := ⟨_, rfl⟩
        have hc0 : hvc S0 13 B w kd wt sh (hl_r col c K) := by
          rw [hS0]
          exact hvc_top hc hi c16 e fT (by rw [hT, up_p _ _ _ _ (by decide), up_p _ _ _ _ (by decide), up_same])
        have hiK : hvi B w kd wt sh (hl_r col c K) := hvi_out hi (by rw [e]; exact List.sublist_append_left K [a'])
        obtain ⟨S1, hS1⟩ : ∃ S1, S1 = iz_up (iz_up (iz_up S0 44 o 1) 38 1 (S.1 38 1 + 1)) 38 2 (S.1 38 2 + nI (pr o)) := ⟨_, rfl⟩
        have f01 : fr (fs1 o) S0 S1 := by
          rw [hS1]
          exact fr_up (fr_up (fr_up (fr_rf _ _) (by simp [fs1])) (by simp [fs1])) (by simp [fs1])
        have fS0 : fr fs0 S S0 := by
          rw [hS0, hT]
          exact fr_up (fr_up (fr_up (fr_up (fr_up (fr_rf _ _) rfl) rfl) rfl) rfl) rfl
        have f1 : fr (fun p i => fs0 p i || fs1 o p i) S S1 := fr_or fS0 f01
        have hc1 : hvc S1 13 B w kd wt sh (hl_r col c K) := hvc_st hc0 hiK f01 rfl rfl (fun i => ⟨rfl, rfl, rfl, rfl, rfl⟩)
        have hm1 : hvm S1 B w kd wt sh col := hvm_st hmm hi f1 rfl rfl (fun i => ⟨rfl, rfl, rfl, rfl, rfl, rfl⟩)
        have om1 : om S1 n g lw up hr pr sv := ⟨n10, (f1 _ _ rfl).trans hm.2.1, fun i hin => by
          rw [f1 95 i rfl, f1 96 i rfl, f1 97 i rfl, f1 98 i rfl, f1 99 i rfl, f1 100 i rfl]
          exact hm.2.2 i hin⟩
        have s21 : sm_ S1 d cv W := sm_st s2 f1 (fun i => ⟨rfl, rfl, rfl⟩)
        have e2 := mo_hd om1 hb hm1 hi s21.2.2 on c16
        rw [hd] at e2
        obtain ⟨c1, c2, -, -, -, -, -, -, -, c9⟩ := mo_breaks hm1 hi c16 e
        rw [List.length_nil, Nat.add_zero] at c9
        have cm2 := mo_comes (o := o) (b := a') (by omega) (by omega) ((f1 98 o rfl).trans m4) b5 hm1.2.1 hi.2.1 s21.2.2 c2 w12
        rw [← hv] at cm2
        obtain ⟨U, hU⟩ : ∃ U, U = iz_up (iz_up (iz_up (iz_up S1 104 3 (S1.1 104 3 + nI v)) 104 1 (S1.1 104 1 + (nI (wt a') - nI v))) 104 5 (S1.1 104 5 + nI (pr o))) 100 o 1 := ⟨_, rfl⟩
        have fU : fr (fsu o) S1 U := by
          rw [hU]
          exact fr_up (fr_up (fr_up (fr_up (fr_rf _ _) rfl) rfl) rfl) (by simp [fsu])
        have hmU : hvm U B w kd wt sh col := hvm_st hm1 hi fU rfl rfl (fun i => ⟨rfl, rfl, rfl, rfl, rfl, rfl⟩)
        obtain ⟨V, r1, r2, r3⟩ := hvm_out hmU hi c16 e
        rw [List.append_nil] at r2
        have u91 : U.1 91 c = nI (K.length + 1) := by rw [fU 91 c rfl]; exact c9
        have x1 : nI (K.length + 1) - 1 = nI K.length := nI_m1 (by omega)
        refine pc_of (r := nI v) (S1 := S1) (S2 := V) ?_ ?_ ?_
        · have y1 : (iz_up (iz_up S 17 c (nI K.length)) 13 9 (S.1 13 9 + nI v)).1 15 a' = nI (wt a') := by rw [up_p _ _ _ _ (by decide), up_p _ _ _ _ (by decide)]; exact wa'
          have y2 : (iz_up S 17 c (nI K.length)).1 13 9 = S.1 13 9 := by rw [up_p _ _ _ _ (by decide)]
          have y3 : (iz_up (iz_up S 17 c (nI K.length)) 13 9 (S.1 13 9 + nI v)).1 13 7 = S.1 13 7 := by rw [up_ne _ _ _ _ (Or.inr (by decide)), up_p _ _ _ _ (by decide)]
          have y4 : (iz_up S0 44 o 1).1 38 1 = S.1 38 1 := by rw [up_p _ _ _ _ (by decide), fS0 38 1 rfl]
          have y5 : (iz_up (iz_up S0 44 o 1) 38 1 (S.1 38 1 + 1)).1 38 2 = S.1 38 2 := by rw [up_ne _ _ _ _ (Or.inr (by decide)), up_p _ _ _ _ (by decide), fS0 38 2 rfl]
          have y6 : (iz_up (iz_up S0 44 o 1) 38 1 (S.1 38 1 + 1)).1 39 o = nI (pr o) := by rw [up_p _ _ _ _ (by decide), up_p _ _ _ _ (by decide), fS0 39 o rfl]; exact a5
          have lg := ho_let (S := T) (a := a') hq_13 (by omega)
          rw [show iz_up (iz_up T (13 + 2) a' 0) (13 + 3) a' 2 = S0 from hS0.symm] at lg
          rw [show iz_up S (13 + 4) c (nI K.length) = iz_up S 17 c (nI K.length) from rfl] at t3
          have sell : Ho_sellTop 13 (nI c) (nI v) S = some S0 := by
            simp only [Ho_sellTop, ck_t, lt_e, bI_s, bL_s, bV_s, one_n0, zero_0, if_true, if_false, rfs, t3, y2, i2, ga, y1, y3, ← hT, lg]
          have tpo : Ho_topOf 13 (nI c) S = some (nI a', S) := t1
          have ff : Or_fulfil 38 (nI o) (nI c) S = some (nI v, S1) := by
            simp only [Or_fulfil, ck_t, lt_e, bI_s, bL_s, bV_s, one_n0, zero_0, if_true, if_false, rfs, tpo, cm, sell, i3, so, go, nb_1, y4, y5, y6, ← hS1]
          have e1' : Or_hindrance 38 (nI o) (nI a') S = some (0, S) := by
            have q := e1
            rw [hd] at q
            rw [e, tp_s] at q
            exact q
          simp only [Ic_serve, ic_isColumn, ck_t, lt_e, bI_s, bL_s, bV_s, one_n0, zero_0, if_true, if_false, rfs, h1, if_pos hy, tpo, e1', ff]
        · have j3 : iz_in 3 6 = true := by decide +kernel
          have j1 : iz_in 1 6 = true := by decide +kernel
          have j5 : iz_in 5 6 = true := by decide +kernel
          have g3 : ∀ T : iz_S, iz_g T 104 3 = T.1 104 3 := g104 3 (by decide)
          have p3 : ∀ (T : iz_S) v, iz_s T 104 3 v = iz_up T 104 3 v := s104 3 (by decide)
          have g1 : ∀ T : iz_S, iz_g T 104 1 = T.1 104 1 := g104 1 (by decide)
          have p1 : ∀ (T : iz_S) v, iz_s T 104 1 v = iz_up T 104 1 v := s104 1 (by decide)
          have g5 : ∀ T : iz_S, iz_g T 104 5 = T.1 104 5 := g104 5 (by decide)
          have p5 : ∀ (T : iz_S) v, iz_s T 104 5 v = iz_up T 104 5 v := s104 5 (by decide)
          have z1 : (iz_up S1 104 3 (S1.1 104 3 + nI v)).1 104 1 = S1.1 104 1 := by rw [up_ne _ _ _ _ (Or.inr (by decide))]
          have z2 : (iz_up S1 104 3 (S1.1 104 3 + nI v)).1 87 a' = nI (wt a') := by rw [up_p _ _ _ _ (by decide)]; exact c2
          have z3 : (iz_up (iz_up S1 104 3 (S1.1 104 3 + nI v)) 104 1 (S1.1 104 1 + (nI (wt a') - nI v))).1 104 5 = S1.1 104 5 := by rw [up_ne _ _ _ _ (Or.inr (by decide)), up_ne _ _ _ _ (Or.inr (by decide))]
          have z4 : (iz_up (iz_up S1 104 3 (S1.1 104 3 + nI v)) 104 1 (S1.1 104 1 + (nI (wt a') - nI v))).1 99 o = nI (pr o) := by rw [up_p _ _ _ _ (by decide), up_p _ _ _ _ (by decide), f1 99 o rfl]; exact m5
          have e2' : Mo_whyNot 82 (nI o) (nI c) S1 = some (0, S1) := e2
          simp only [Mo_serve, mo_isColumn, ck_t, lt_e, bI_s, bL_s, bV_s, one_n0, zero_0, if_true, if_false, rfs, mo_ord_t om1.2.1 n10 on, if_pos hy, e2', i1, i2, i3, gc, ga, go, so, c9, x1, c1, cm2, j3, j1, j5, g3, p3, g1, p1, g5, p5, z1, z2, z3, z4, nb_1, ← hU, u91, r1]
        · have hf : fr (fun p i => (fs0 p i || fs1 o p i) || (fsu o p i || fsr p i)) S V := fr_or f1 (fr_or fU r3)
          have f1V : fr (fun p i => fsu o p i || fsr p i) S1 V := fr_or fU r3
          have v44 : V.1 44 o = 1 := by rw [f1V 44 o rfl, hS1, up_p _ _ _ _ (by decide), up_p _ _ _ _ (by decide), up_same]
          have v100 : V.1 100 o = 1 := by rw [r3 100 o rfl, hU, up_same]
          have v381 : V.1 38 1 = S.1 38 1 + 1 := by rw [f1V 38 1 rfl, hS1, up_ne _ _ _ _ (Or.inr (by decide)), up_same]
          have v382 : V.1 38 2 = S.1 38 2 + nI (pr o) := by rw [f1V 38 2 rfl, hS1, up_same]
          have v1045 : V.1 104 5 = S.1 104 5 + nI (pr o) := by rw [r3 104 5 rfl, hU, up_p _ _ _ _ (by decide), up_same, f1 104 5 rfl]
          refine ⟨st_lake hf (fun _ => ⟨rfl, rfl, rfl, rfl, rfl, rfl⟩) h.1, st_shel hf (fun _ => ⟨rfl, rfl, rfl, rfl, rfl, rfl⟩) h.2.1, l_house (B := B) (w := w) (kd := kd) (wt := wt) (sh := sh) (col := hl_r col c K) ⟨hvc_st hc1 hiK f1V rfl rfl (fun i => ⟨rfl, rfl, rfl, rfl, rfl⟩), r2, hiK, hw, ?_, ?_⟩, ?_, st_rail hf (fun _ => ⟨rfl, rfl, rfl, rfl, rfl, rfl, rfl⟩) rfl h.2.2.2.2.1, st_wait hf (fun _ => ⟨rfl, rfl, rfl⟩) rfl h.2.2.2.2.2.1, st_sale hf (fun _ => ⟨rfl, rfl⟩) h.2.2.2.2.2.2.1, st_found hf (fun _ => ⟨rfl, rfl⟩) h.2.2.2.2.2.2.2⟩
          · intro k k16
            by_cases ek : k = c
            · subst ek
              rw [r_same]
              have := hs k k16
              rw [e] at this
              exact bk_take this
            · rw [r_ne ek]; exact hs k k16
          · intro i i5
            have q := hl i i5
            by_cases e1 : i = 1
            · subst e1
              have z0 : V.1 13 (6 + 1) = S1.1 13 7 := f1V 13 7 rfl
              have z1 : S1.1 13 7 = S.1 13 7 + (nI (wt a') - nI v) := by rw [f01 13 7 rfl, hS0, up_p _ _ _ _ (by decide), up_p _ _ _ _ (by decide), hT, up_same]
              have z2 : V.1 104 1 = S.1 104 1 + (nI (wt a') - nI v) := by rw [r3 104 1 rfl, hU, up_p _ _ _ _ (by decide), up_ne _ _ _ _ (Or.inr (by decide)), up_same, f1 104 1 rfl]
              rw [z0, z1, z2, q]
            · by_cases e3 : i = 3
              · subst e3
                have z0 : V.1 13 (6 + 3) = S1.1 13 9 := f1V 13 9 rfl
                have z1 : S1.1 13 9 = S.1 13 9 + nI v := by rw [f01 13 9 rfl, hS0, up_p _ _ _ _ (by decide), up_p _ _ _ _ (by decide), hT, up_ne _ _ _ _ (Or.inr (by decide)), up_same]
                have z2 : V.1 104 3 = S.1 104 3 + nI v := by rw [r3 104 3 rfl, hU, up_p _ _ _ _ (by decide), up_ne _ _ _ _ (Or.inr (by decide)), up_ne _ _ _ _ (Or.inr (by decide)), up_same, f1 104 3 rfl]
                rw [z0, z1, z2, q]
              · obtain rfl | rfl | rfl : i = 0 ∨ i = 2 ∨ i = 4 := by omega
                · rw [hf 104 0 rfl, q, hf 13 (6 + 0) rfl]
                · rw [hf 104 2 rfl, q, hf 13 (6 + 2) rfl]
                · rw [hf 104 4 rfl, q, hf 13 (6 + 4) rfl]
          · obtain ⟨n', n10', o2, o3, o4, o5, o6⟩ := h.2.2.2.1
            have enn : n' = n := by
              have := o2.symm.trans ho.2.1
              exact (nI_eq (by omega) (by omega)).mp this
            subst enn
            have z44 : S.1 44 o = 0 := by rw [a6, svo]; rfl
            refine ⟨n', n10', by rw [hf 38 0 rfl]; exact o2, by rw [hf 82 14 rfl]; exact o3, by rw [v1045, v382, o4], ?_, fun i hi10 => ?_⟩
            · rw [v381, o5, nI_1, ct_upd (p := fun i => decide (S.1 44 i ≠ 0)) (p2 := fun i => decide (V.1 44 i ≠ 0)) (o := o) ?_ ?_ ?_ n' on]
              · intro i hio
                show decide (V.1 44 i ≠ 0) = decide (S.1 44 i ≠ 0)
                rw [hf 44 i (by simp [fs0, fs1, fsu, fsr, hio])]
              · show decide (S.1 44 o ≠ 0) = false
                rw [z44]; rfl
              · show decide (V.1 44 o ≠ 0) = true
                rw [v44]; rfl
            · obtain ⟨x1, x2, x3, x4, x5, x6, x7, x8, x9⟩ := o6 i hi10
              rw [hf 95 i rfl, hf 40 i rfl, hf 96 i rfl, hf 41 i rfl, hf 97 i rfl, hf 42 i rfl, hf 98 i rfl, hf 43 i rfl, hf 99 i rfl, hf 39 i rfl]
              by_cases eo : i = o
              · subst eo
                rw [v44, v100]
                exact ⟨x1, x2, x3, x4, x5, rfl, Or.inr rfl, fun q => by omega, x9⟩
              · rw [hf 100 i (by simp [fs0, fs1, fsu, fsr, eo]), hf 44 i (by simp [fs0, fs1, fsu, fsr, eo])]
                exact ⟨x1, x2, x3, x4, x5, x6, x7, x8, x9⟩
      · obtain ⟨S1, hS1⟩ : ∃ S1, S1 = iz_up S 81 3 (S.1 81 3 + 1) := ⟨_, rfl⟩
        have f1 : fr (fun p i => p == 81 && i == 3) S S1 := by rw [hS1]; exact fr_1
        have hm1 : hvm S1 B w kd wt sh col := hvm_st hmm hi f1 rfl rfl (fun i => ⟨rfl, rfl, rfl, rfl, rfl, rfl⟩)
        have om1 : om S1 n g lw up hr pr sv := ⟨n10, (f1 _ _ rfl).trans hm.2.1, fun i hin => by
          rw [f1 95 i rfl, f1 96 i rfl, f1 97 i rfl, f1 98 i rfl, f1 99 i rfl, f1 100 i rfl]
          exact hm.2.2 i hin⟩
        have s21 : sm_ S1 d cv W := sm_st s2 f1 (fun i => ⟨rfl, rfl, rfl⟩)
        have e2 := mo_hd om1 hb hm1 hi s21.2.2 on c16
        refine pc_of (r := -1000003) (S1 := S1) (S2 := iz_up S1 106 3 (S1.1 106 3 + 1)) ?_ ?_ ?_
        · simp only [Ic_serve, ic_isColumn, ck_t, lt_e, bI_s, bL_s, bV_s, one_n0, zero_0, if_true, if_false, rfs, h1, if_pos hy, t1, e1, e0, if_neg hd, ic_f3, ← hS1]
        · simp only [Mo_serve, mo_isColumn, ck_t, lt_e, bI_s, bL_s, bV_s, one_n0, zero_0, if_true, if_false, rfs, mo_ord_t om1.2.1 n10 on, if_pos hy, e2, e0, if_neg hd, mo_f3]
        · rw [hS1]; exact rl_find (k := 3) h
    · refine pc_of (r := -1000001) (S1 := iz_up S 81 1 (S.1 81 1 + 1)) ?_ ?_ (rl_find (k := 1) h)
      · simp only [Ic_serve, Ic_serve_18, ic_isColumn, ck_t, lt_e, bI_s, bL_s, bV_s, one_n0, zero_0, if_true, if_false, rfs, h1, if_neg hy, ic_f1]
      · simp only [Mo_serve, Mo_serve_15, mo_isColumn, ck_t, lt_e, bI_s, bL_s, bV_s, one_n0, zero_0, if_true, if_false, rfs, mo_ord_t (u14 _ _) n10 on, if_neg hy, mo_f1]
  · refine pc_of (r := -1000001) (S1 := iz_up S 81 1 (S.1 81 1 + 1)) ?_ ?_ (rl_find (k := 1) h)
    · simp only [Ic_serve, Ic_serve_18, ck_t, lt_e, bI_s, bL_s, bV_s, one_n0, zero_0, if_true, if_false, rfs, or_has_f ho.2.1 n10 hx, ic_f1]
    · simp only [Mo_serve, Mo_serve_15, ck_t, lt_e, bI_s, bL_s, bV_s, one_n0, zero_0, if_true, if_false, rfs, mo_ord_f (u14 _ _) n10 hx, mo_f1]
