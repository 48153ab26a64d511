/-! THE START OF THE LAW: the world behind the two constructors, and the law's end out of a pure statement -/
def ct_S1 : iz_S := ct_fl (ct_fl ct_S0 12 100 10) 94 100 10
/-- the same numbers in the order of making -/
def ct_N1 : iz_S := ct_fl (ct_fl ct_S0 13 100 10) 95 100 10
theorem nt_pi_lt : ∀ k, k < 121 → nt_pi k < 121 ∧ nt_piL.idxOf (nt_pi k) = k := by decide +kernel
theorem ct_n1 {k : Nat} (hk : k < 121) : ct_S1.1 k = ct_N1.1 (nt_pi k) := by
  have h : ∀ k, k < 121 → ((nt_pi k = 95 ↔ k = 94) ∧ (nt_pi k = 13 ↔ k = 12)) := by decide +kernel
  obtain ⟨h1, h2⟩ := h k hk
  show (if k = 94 then _ else _ : Nat → Int32) = (if nt_pi k = 95 then _ else _ : Nat → Int32)
  by_cases e1 : k = 94
  · rw [if_pos e1, if_pos (h1.mpr e1)]
    rfl
  · rw [if_neg e1, if_neg (fun q => e1 (h1.mp q))]
    show (if k = 12 then _ else _ : Nat → Int32) = (if nt_pi k = 13 then _ else _ : Nat → Int32)
    by_cases e2 : k = 12
    · rw [if_pos e2, if_pos (h2.mpr e2)]
      rfl
    · rw [if_neg e2, if_neg (fun q => e2 (h2.mp q))]
      rfl
theorem nt_sh_pi : ∀ k, k < 121 → nt_sh (nt_pi k) = iz_sh k := by decide +kernel
theorem nt_rf_pi2 : ∀ k, k < 121 → (iz_sh k).1 = 2 → ∀ i, i < 20 → nt_rf (nt_pi k) i = nt_pi (iz_rf k i) ∧ iz_rf k i < 121 := by decide +kernel
theorem nt_len2 : ∀ k, k < 121 → (iz_sh k).1 = 2 → (iz_rfL.getD k []).length ≤ 20 ∧ (nt_rfL.getD (nt_pi k) []).length ≤ 20 := by decide +kernel
theorem nt_rf_pi3 : ∀ k, k < 121 → 3 ≤ (iz_sh k).1 → ∀ i, i < (iz_sh k).2 → (iz_ft ((iz_sh k).1 - 3) i = 0 ∨ iz_ft ((iz_sh k).1 - 3) i = 1 ∨ (nt_rf (nt_pi k) i = nt_pi (iz_rf k i) ∧ iz_rf k i < 121 ∧ ct_rd 11 121 (nt_pi k) i = true)) := by decide +kernel
theorem nt_rf_all {k : Nat} (hk : k < 121) (h2 : (iz_sh k).1 = 2) (i : Nat) : nt_rf (nt_pi k) i = nt_pi (iz_rf k i) ∧ iz_rf k i < 121 := by
  rcases Nat.lt_or_ge i 20 with h | h
  · exact nt_rf_pi2 k hk h2 i h
  · obtain ⟨l1, l2⟩ := nt_len2 k hk h2
    have e1 : iz_rf k i = 0 := by
      unfold iz_rf
      rw [List.getD_eq_getElem?_getD (l := iz_rfL.getD k []), List.getElem?_eq_none (Nat.le_trans l1 h)]
      rfl
    have e2 : nt_rf (nt_pi k) i = 0 := by
      unfold nt_rf
      rw [List.getD_eq_getElem?_getD (l := nt_rfL.getD (nt_pi k) []), List.getElem?_eq_none (Nat.le_trans l2 h)]
      rfl
    rw [e1, e2]
    exact ⟨by decide +kernel, by decide⟩
/-- a cell by its label is the cell in the order of making -/
theorem ct_full {X Y : iz_X} {S T : iz_S} (h2 : X.2 = Y.2) (hX : ∀ k, k < 121 → X.1 k = Y.1 (nt_pi k)) (hS : ∀ k, k < 121 → S.1 k = T.1 (nt_pi k)) (hL : ∀ k, k < 121 → S.2 k = T.2 (nt_pi k)) {k : Nat} (hk : k < 121) : iz_cE X S k = ct_c Y (ct_rd 11 121) T (nt_pi k) := by
  unfold ct_c iz_cE
  rw [nt_sh_pi k hk, h2, hS k hk]
  by_cases h0 : (iz_sh k).1 = 0
  · rw [if_pos h0, if_pos h0]
  rw [if_neg h0, if_neg h0]
  by_cases h3 : (iz_sh k).1 = 1
  · rw [if_pos h3, if_pos h3]
  rw [if_neg h3, if_neg h3]
  by_cases h4 : (iz_sh k).1 = 2
  · rw [if_pos h4, if_pos h4]
    have e : (fun i => some (X.1 (iz_rf k i))) = (fun i => some (Y.1 (nt_rf (nt_pi k) i))) := by
      funext i
      obtain ⟨a, b⟩ := nt_rf_all hk h4 i
      rw [a, hX _ b]
    rw [e]
  rw [if_neg h4, if_neg h4]
  congr 2
  apply List.map_congr_left
  intro i hi
  have hi : i < (iz_sh k).2 := List.mem_range.mp hi
  unfold ct_f iz_fE
  by_cases g0 : iz_ft ((iz_sh k).1 - 3) i = 0
  · rw [if_pos g0, if_pos g0, hS k hk]
  rw [if_neg g0, if_neg g0]
  by_cases g1 : iz_ft ((iz_sh k).1 - 3) i = 1
  · rw [if_pos g1, if_pos g1, hL k hk]
  rw [if_neg g1, if_neg g1]
  obtain ⟨a, b, d⟩ := ((nt_rf_pi3 k hk (by omega) i hi).resolve_left g0).resolve_left g1
  rw [if_pos d, a, hX _ b]
theorem ws_len {args : Array Value} {s : State} {tm : Term} {N : Nat} (h : (Cond.eq (.length tm) (.int (Int32.ofNat N))).before args s = true) : (Term.length tm).eval args s none [] s = some (.int (Int32.ofNat N)) := va_eqt h
set_option maxRecDepth 20000 in
set_option maxHeartbeats 4000000 in
/-- what the Statement gives of the four static tables -/
theorem ws_stat {b : Nat} {s : State} (hts : ∀ w ∈ lw_tbl, w.before #[Value.ref b] s = true) (hgv : (Jvm.Cond.and given_1 narrow_1).before #[Value.ref b] s = true) (A : Nat → Prop) (hA : ∀ a : Nat, a < s.heap.size → ¬ A a) :
    ∃ z : Nat → Nat, ∀ j, j < 4 → va_Z (iz_zC j) (iz_zN j) "[I" (.ref (z j)) A s s.heap ∧ va_T .int (z j) (iz_zL j) (fun i => .int (iz_zV j i)) A s s.heap := by
  have hs := flat_of_before _ hgv
  have key : ∀ (C n : String) (N : Nat) (V : Nat → Int32), N < 2 ^ 31 → (Cond.laysStatic C n "[I").before #[Value.ref b] s = true → (Cond.initialized C).before #[Value.ref b] s = true → (Cond.arrayOf (.static C n "[I") .int).before #[Value.ref b] s = true → (Cond.eq (.length (.static C n "[I")) (.int (Int32.ofNat N))).before #[Value.ref b] s = true → (∀ j, j < N → (Cond.eq (.elem (.static C n "[I") (.int (Int32.ofNat j))) (.int (V j))).before #[Value.ref b] s = true) → ∃ t : Nat, va_Z C n "[I" (.ref t) A s s.heap ∧ va_T .int t N (fun i => .int (V i)) A s s.heap := by
    intro C n N V hN h1 h2 h3 h4 h5
    obtain ⟨t, ht, hT⟩ := va_Tof (f := fun i => .int (V i)) hN h3 (ws_len h4) (fun j hj => va_eqt (h5 j hj)) hA
    exact ⟨t, va_Zof h1 h2 ht hA, hT⟩
  obtain ⟨z0, a0, b0⟩ := key "IceHouse" "BEARING_THICK" 3 (iz_zV 0) (by decide) (hts _ (List.mem_of_getElem? (i := 458) (by decide +kernel))) (hts _ (List.mem_of_getElem? (i := 65) (by decide +kernel))) (hs _ (by decide +kernel)) (hs _ (by decide +kernel)) (fun j hj => by
    rcases (show j = 0 ∨ j = 1 ∨ j = 2 by omega) with rfl | rfl | rfl <;> exact hs _ (by decide +kernel))
  obtain ⟨z1, a1, b1⟩ := key "IceHouse" "KIND_ABOVE" 4 (iz_zV 1) (by decide) (hts _ (List.mem_of_getElem? (i := 710) (by decide +kernel))) (hts _ (List.mem_of_getElem? (i := 65) (by decide +kernel))) (hs _ (by decide +kernel)) (hs _ (by decide +kernel)) (fun j hj => by
    rcases (show j = 0 ∨ j = 1 ∨ j = 2 ∨ j = 3 by omega) with rfl | rfl | rfl | rfl <;> exact hs _ (by decide +kernel))
  obtain ⟨z2, a2, b2⟩ := key "IceHouse" "MELT_RATE" 4 (iz_zV 2) (by decide) (hts _ (List.mem_of_getElem? (i := 756) (by decide +kernel))) (hts _ (List.mem_of_getElem? (i := 65) (by decide +kernel))) (hs _ (by decide +kernel)) (hs _ (by decide +kernel)) (fun j hj => by
    rcases (show j = 0 ∨ j = 1 ∨ j = 2 ∨ j = 3 by omega) with rfl | rfl | rfl | rfl <;> exact hs _ (by decide +kernel))
  obtain ⟨z3, a3, b3⟩ := key "IceHouseModel" "BEARS" 3 (iz_zV 3) (by decide) (hts _ (List.mem_of_getElem? (i := 1212) (by decide +kernel))) (hts _ (List.mem_of_getElem? (i := 76) (by decide +kernel))) (hs _ (by decide +kernel)) (hs _ (by decide +kernel)) (fun j hj => by
    rcases (show j = 0 ∨ j = 1 ∨ j = 2 by omega) with rfl | rfl | rfl <;> exact hs _ (by decide +kernel))
  refine ⟨fun j => match j with | 0 => z0 | 1 => z1 | 2 => z2 | _ => z3, fun j hj => ?_⟩
  rcases (show j = 0 ∨ j = 1 ∨ j = 2 ∨ j = 3 by omega) with rfl | rfl | rfl | rfl
  · exact ⟨a0, b0⟩
  · exact ⟨a1, b1⟩
  · exact ⟨a2, b2⟩
  · exact ⟨a3, b3⟩
set_option maxRecDepth 20000 in
set_option maxHeartbeats 4000000 in
/-- the classes' numbers and slots -/
theorem ws_known {b : Nat} {s : State} (hts : ∀ w ∈ lw_tbl, w.before #[Value.ref b] s = true) : ∃ (dC : Nat → ClassId) (dI : Nat → Nat → Nat), ∀ (k : Nat) (q : vw_C), vwCl[k]? = some q → u_Kn s q.1 q.2.1 q.2.2 (dC k) (dI k) := by
  have key : ∀ k : Nat, ∃ (cc : ClassId) (iS : Nat → Nat), ∀ q : vw_C, vwCl[k]? = some q → u_Kn s q.1 q.2.1 q.2.2 cc iS := by
    intro k
    match k with
    | 0 =>
      obtain ⟨cc, iS, h⟩ := u_known (C := RX0) (T := TX0) (N := 7) (n := 7) hts iz_co0.1 (hts (.instantiable RX0 7) in_X0)
      exact ⟨cc, iS, fun q hq => by cases hq; exact h⟩
    | 1 =>
      obtain ⟨cc, iS, h⟩ := u_known (C := RX1) (T := TX1) (N := 13) (n := 13) hts iz_co1.1 (hts (.instantiable RX1 13) in_X1)
      exact ⟨cc, iS, fun q hq => by cases hq; exact h⟩
    | 2 =>
      obtain ⟨cc, iS, h⟩ := u_known (C := RX2) (T := TX2) (N := 3) (n := 3) hts iz_co2.1 (hts (.instantiable RX2 3) in_X2)
      exact ⟨cc, iS, fun q hq => by cases hq; exact h⟩
    | 3 =>
      obtain ⟨cc, iS, h⟩ := u_known (C := RX3) (T := TX3) (N := 10) (n := 10) hts iz_co3.1 (hts (.instantiable RX3 10) in_X3)
      exact ⟨cc, iS, fun q hq => by cases hq; exact h⟩
    | 4 =>
      obtain ⟨cc, iS, h⟩ := u_known (C := RX4) (T := TX4) (N := 6) (n := 6) hts iz_co4.1 (hts (.instantiable RX4 6) in_X4)
      exact ⟨cc, iS, fun q hq => by cases hq; exact h⟩
    | 5 =>
      obtain ⟨cc, iS, h⟩ := u_known (C := RX5) (T := TX5) (N := 15) (n := 15) hts iz_co5.1 (hts (.instantiable RX5 15) in_X5)
      exact ⟨cc, iS, fun q hq => by cases hq; exact h⟩
    | 6 =>
      obtain ⟨cc, iS, h⟩ := u_known (C := RX6) (T := TX6) (N := 8) (n := 8) hts iz_co6.1 (hts (.instantiable RX6 8) in_X6)
      exact ⟨cc, iS, fun q hq => by cases hq; exact h⟩
    | 7 =>
      obtain ⟨cc, iS, h⟩ := u_known (C := RX7) (T := TX7) (N := 3) (n := 3) hts iz_co7.1 (hts (.instantiable RX7 3) in_X7)
      exact ⟨cc, iS, fun q hq => by cases hq; exact h⟩
    | 8 =>
      obtain ⟨cc, iS, h⟩ := u_known (C := RX8) (T := TX8) (N := 2) (n := 2) hts iz_co8.1 (hts (.instantiable RX8 2) in_X8)
      exact ⟨cc, iS, fun q hq => by cases hq; exact h⟩
    | 9 =>
      obtain ⟨cc, iS, h⟩ := u_known (C := RX9) (T := TX9) (N := 11) (n := 11) hts iz_co9.1 (hts (.instantiable RX9 11) in_X9)
      exact ⟨cc, iS, fun q hq => by cases hq; exact h⟩
    | 10 =>
      obtain ⟨cc, iS, h⟩ := u_known (C := RX10) (T := TX10) (N := 48) (n := 48) hts iz_co10.1 (hts (.instantiable RX10 48) in_X10)
      exact ⟨cc, iS, fun q hq => by cases hq; exact h⟩
    | k + 11 => exact ⟨0, fun _ => 0, fun q hq => by simp [vwCl] at hq⟩
  exact ⟨fun k => (key k).choose, fun k => (key k).choose_spec.choose, fun k q hq => (key k).choose_spec.choose_spec q hq⟩
set_option maxRecDepth 20000 in
set_option maxHeartbeats 4000000 in
theorem ws_go {p : Program} {e : Env} {s : State} {m : MethodId} {below : List Frame} {meth : Method} {c : Code} (l : Launch) {b L : Nat} {xs : Nat → Int32} (C0 : lw_At p s m meth c b L xs) (hpure : Lw_law_18 L xs iz_FU 0 ct_S1 = some 1) : W p l e room_1 s m #[Value.ref b] below meth c s.heap [] 0 0 (lw_Z below #[Value.ref b] s) (entryFrame m ([Value.ref b] : List Value).toArray 4) := by
  obtain ⟨hx, hb, hr, hml, hown, hts, hX, hbl, hlocks, hgv⟩ := id C0
  have hdt : ∀ q ∈ tL_law, decode c.code q.1 = .ok q.2 := by rw [hb]; exact dL_law
  obtain ⟨dC, dI, hKn⟩ := ws_known hts
  have hTb : iz_Tb s := fun w hm hk => va_tabs (iz_ok_on hk) rfl (hts w hm)
  have hI : (Cond.arrayClass .int).before #[Value.ref b] s = true := hts _ (List.mem_of_getElem? (i := 107) (by decide +kernel))
  have hZ : (Cond.arrayClass .boolean).before #[Value.ref b] s = true := hts _ (List.mem_of_getElem? (i := 108) (by decide +kernel))
  have hO : (Cond.arrayOver (.array .int)).before #[Value.ref b] s = true := hts _ (List.mem_of_getElem? (i := 234) (by decide +kernel))
  obtain ⟨cI, kI, pI, fI, gI, eI⟩ := Cond.arrayClass_spec hI
  obtain ⟨cZ, kZ, pZ, fZ, gZ, eZ⟩ := Cond.arrayClass_spec hZ
  obtain ⟨pA, cA, kA, qA, gA, eA, fA⟩ := Cond.arrayOver_specA hO
  obtain ⟨z, hz⟩ := ws_stat hts hgv (fun q : Nat => s.heap.size ≤ q) (fun a h => Nat.not_le.mpr h)
  obtain ⟨Y, hYe⟩ : ∃ Y : iz_X, Y = (fun k => if k < 121 then s.heap.size + k else z (k - 121), (dC, dI), cI, cZ, cA) := ⟨_, rfl⟩
  obtain ⟨X, hXe⟩ : ∃ X : iz_X, X = (fun k => if k < 121 then s.heap.size + nt_pi k else z (k - 121), (dC, dI), cI, cZ, cA) := ⟨_, rfl⟩
  have hYk : ∀ k, k < 121 → Y.1 k = s.heap.size + k := fun k hk => by rw [hYe]; exact if_pos hk
  have hXk : ∀ k, k < 121 → X.1 k = s.heap.size + nt_pi k := fun k hk => by rw [hXe]; exact if_pos hk
  have hXY : ∀ k, k < 121 → X.1 k = Y.1 (nt_pi k) := fun k hk => by rw [hXk k hk, hYk _ (nt_pi_lt k hk).1]
  have h2 : X.2 = Y.2 := by rw [hXe, hYe]
  have hVK : va_K Y.2.1 vwCl (iz_tys Y) s := by
    rw [hYe]
    refine ⟨hKn, fun k q hq => ?_⟩
    match k, hq with
    | 0, hq => cases hq; exact ⟨fun n z => ⟨fun k h => (by cases h), kI, gI, pI, eI⟩, fI⟩
    | 1, hq => cases hq; exact ⟨fun n z => ⟨fun k h => (by cases h), kZ, gZ, pZ, eZ⟩, fZ⟩
    | 2, hq => cases hq; exact ⟨fun n z => ⟨fun k h => (by cases h), kA, gA, pA, eA⟩, fA⟩
    | k + 3, hq => simp [iz_tys] at hq
  have hK : ct_K Y s := ⟨hTb, hVK, hI, hZ, hO⟩
  have hA : ct_A Y s.heap.size (fun q => s.heap.size ≤ q) := ⟨hYk, fun _ h => h⟩
  have hH : ct_H Y s.heap.size (fun q => s.heap.size ≤ q) (ct_rd 0 1) ct_S0 0 s.heap s.heap [] := ⟨va_S.rf, rfl, fun k q hq => by simp [ct_w] at hq⟩
  have hl := lv_entry [.ref b] (n := 4) (Nat.le_of_ble_eq_true rfl)
  rw [lg_entry_eq]
  generalize (lg_sl [.ref b] ++ List.replicate (4 - (lg_sl [.ref b]).length) Slot.unset).toArray = ls at hl ⊢
  have hl : lv_has ls 4 [(0, .ref b)] := hl
  refine ct_new (n := 0) (N := 11) (ci := 9) (own := RL) hx hown hK hA hH rfl cl_L_7 in_X9 ni_X9 (by decide) rfl (by decide +kernel) rfl rfl (Nat.le_of_ble_eq_true rfl) (Nat.le_of_ble_eq_true rfl) (iz_dq hdt (j := 0) rfl) (fun H hH => ?_)
  refine W.widen (k := 1) (n := 11) (Nat.le_of_ble_eq_true rfl) (Nat.le_of_ble_eq_true rfl) ?_
  refine lv_dup hx rfl (iz_dq hdt (j := 1) rfl) rfl ?_
  refine ct_callI (host := "IceHouse") (own := RL) (As := []) (rest := [.ref (Y.1 0)]) (t := 0) hx hown hml hl.1 hK hA hH (k_X9_init_0 hYk) (Or.inl ml_L_9) cw_X9_init im_X9_init rfl (Nat.le_of_ble_eq_true rfl) (Nat.le_of_ble_eq_true rfl) (Nat.le_of_ble_eq_true rfl) (Nat.le_of_ble_eq_true rfl) rfl (Nat.le_of_ble_eq_true rfl) (iz_dq hdt (j := 2) rfl) (fun H locs hH => ?_)
  refine W.widen (k := 83) (n := 2665) (Nat.le_of_ble_eq_true rfl) (Nat.le_of_ble_eq_true rfl) ?_
  refine lv_astore_n (lv' := [(1, .ref (Y.1 0)), (0, .ref b)]) hx rfl (iz_dq hdt (j := 3) rfl) rfl hl (by decide) rfl (fun ls hl => ?_)
  refine ct_new (n := 83) (N := 48) (ci := 10) (own := RL) hx hown hK hA hH rfl cl_L_10 in_X10 ni_X10 (by decide) rfl (by decide +kernel) rfl rfl (Nat.le_of_ble_eq_true rfl) (Nat.le_of_ble_eq_true rfl) (iz_dq hdt (j := 4) rfl) (fun H hH => ?_)
  refine W.widen (k := 84) (n := 2713) (Nat.le_of_ble_eq_true rfl) (Nat.le_of_ble_eq_true rfl) ?_
  refine lv_dup hx rfl (iz_dq hdt (j := 5) rfl) rfl ?_
  refine ct_callI (host := "IceHouse") (own := RL) (As := []) (rest := [.ref (Y.1 83)]) (t := 83) hx hown hml hl.1 hK hA hH (k_X10_init_83 hYk) (Or.inl ml_L_12) cw_X10_init im_X10_init rfl (Nat.le_of_ble_eq_true rfl) (Nat.le_of_ble_eq_true rfl) (Nat.le_of_ble_eq_true rfl) (Nat.le_of_ble_eq_true rfl) rfl (Nat.le_of_ble_eq_true rfl) (iz_dq hdt (j := 6) rfl) (fun H locs hH => ?_)
  refine W.widen (k := 600000) (n := 7302250) (Nat.le_of_ble_eq_true rfl) (Nat.le_of_ble_eq_true rfl) ?_
  refine lv_astore_n (lv' := [(2, .ref (Y.1 83)), (1, .ref (Y.1 0)), (0, .ref b)]) hx rfl (iz_dq hdt (j := 7) rfl) rfl hl (by decide) rfl (fun ls hl => ?_)
  refine lv_iconst (v := 0) hx rfl (iz_dq hdt (j := 8) rfl) (by decide) ?_
  refine lv_istore_n (lv' := [(3, .int 0), (2, .ref (Y.1 83)), (1, .ref (Y.1 0)), (0, .ref b)]) hx rfl (iz_dq hdt (j := 9) rfl) rfl hl (by decide) rfl (fun ls hl => ?_)
  have hWk : iz_Wk X (fun q => s.heap.size ≤ q) s s.heap := by
    refine ⟨hTb, ?_, fun i j hi hj h => ?_, fun k hk => ?_, fun j hj => ?_⟩
    · have e : iz_tys X = iz_tys Y := by unfold iz_tys; rw [h2]
      rw [e, h2]
      exact hVK
    · rw [hXk i hi, hXk j hj] at h
      have h9 : nt_pi i = nt_pi j := by omega
      rw [← (nt_pi_lt i hi).2, ← (nt_pi_lt j hj).2, h9]
    · show s.heap.size ≤ X.1 k
      rw [hXk k hk]; omega
    · have e : X.1 (iz_NP + j) = z j := by
        rw [hXe]
        show (if 121 + j < 121 then _ else z (121 + j - 121)) = _
        rw [if_neg (by omega)]
        congr 1
        omega
      rw [e]
      exact hz j hj
  have hl : lv_has ls 4 [(3, .int 0), (2, .ref (X.1 82)), (1, .ref (X.1 0)), (0, .ref b)] := by
    rw [hXY 82 (by decide), hXY 0 (by decide), show nt_pi 82 = 83 by decide +kernel, show nt_pi 0 = 0 by decide +kernel]
    exact hl
  exact c_Lw_law_18 (l := l) (b := b) (L := L) (xs := xs) iz_FU 0 ct_S1 (iz_KL_ok X b L xs) 1 hpure p e room_1 s m #[Value.ref b] below meth c 600000 7302250 _ _ ⟨rfl, C0, rfl, rfl, rfl, rfl, rfl, hWk, rfl⟩ H locs hH.1 (fun k q hq => by
    obtain ⟨hk, rfl⟩ := iz_ws_some hq
    rw [hXY k hk, ct_full h2 hXY (fun k hk => ct_n1 hk) (fun _ _ => rfl) hk, h2]
    exact hH.2.2 (nt_pi k) _ (ct_w_get Y (ct_rd 11 121) ct_N1 (nt_pi_lt k hk).1)) ls (lv_sub hl [3, 2, 1, 0] rfl)
