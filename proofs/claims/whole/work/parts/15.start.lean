/-! THE START OF THE LAW: the world behind the two constructors, and the law's end out of a pure statement -/
def ct_S1 : iz_S := ct_fl (ct_fl ct_S0 12 100 10) 94 100 10
theorem ct_full (X : iz_X) (S : iz_S) : ct_w X (ct_rd 11 120) S 120 = iz_ws X S := by
  unfold ct_w iz_ws
  apply List.map_congr_left
  intro k hk
  have hk : k < 120 := List.mem_range.mp hk
  refine congrArg (Prod.mk (X.1 k)) ?_
  have hset : ∀ k, k < 120 → ∀ i, i < 48 → k ≠ 0 ∨ i < 11 → ct_rd 11 120 k i = true := by decide +kernel
  have hn : ∀ k, k < 120 → 3 ≤ (iz_sh k).1 → (iz_sh k).2 ≤ 48 ∧ (k = 0 → (iz_sh k).2 ≤ 11) := by decide +kernel
  unfold ct_c iz_cE
  by_cases h0 : (iz_sh k).1 = 0
  · rw [if_pos h0, if_pos h0]
  rw [if_neg h0, if_neg h0]
  by_cases h2 : (iz_sh k).1 = 1
  · rw [if_pos h2, if_pos h2]
  rw [if_neg h2, if_neg h2]
  by_cases h3 : (iz_sh k).1 = 2
  · rw [if_pos h3, if_pos h3]
  rw [if_neg h3, if_neg h3]
  congr 2
  apply List.map_congr_left
  intro i hi
  have hi : i < (iz_sh k).2 := List.mem_range.mp hi
  have hnk := hn k hk (by omega)
  have hor : k ≠ 0 ∨ i < 11 := by
    by_cases q : k = 0
    · have := hnk.2 q
      right; omega
    · exact Or.inl q
  have hr : ct_rd 11 120 k i = true := hset k hk i (by omega) hor
  unfold ct_f iz_fE
  rw [hr, if_pos rfl]
theorem ws_len {args : Array Value} {s : State} {tm : Term} {N : Nat} (h : (Cond.eq (.length tm) (.int (Int32.ofNat N))).before args s = true) : (Term.length tm).eval args s none [] s = some (.int (Int32.ofNat N)) := va_eqt h
set_option maxRecDepth 20000 in
set_option maxHeartbeats 4000000 in
/-- what the Statement gives of the four static tables -/
theorem ws_stat {b : Nat} {s : State} (hts : ∀ w ∈ lw_tbl, w.before #[Value.ref b] s = true) (hgv : (Jvm.Cond.and given_1 narrow_1).before #[Value.ref b] s = true) (A : Nat → Prop) (hA : ∀ a : Nat, a < s.heap.size → ¬ A a) :
    ∃ z : Nat → Nat, ∀ j, j < 4 → va_Z (iz_zC j) (iz_zN j) "[I" (.ref (z j)) A s s.heap ∧ va_T .int (z j) (iz_zL j) (fun i => .int (iz_zV j i)) A s s.heap := by
  have hs := flat_of_before _ hgv
  have key : ∀ (C n : String) (N : Nat) (V : Nat → Int32), N < 2 ^ 31 → (Cond.laysStatic C n "[I").before #[Value.ref b] s = true → (Cond.initialized C).before #[Value.ref b] s = true → (Cond.arrayOf (.static C n "[I") .int).before #[Value.ref b] s = true → (Cond.eq (.length (.static C n "[I")) (.int (Int32.ofNat N))).before #[Value.ref b] s = true → (∀ j, j < N → (Cond.eq (.elem (.static C n "[I") (.int (Int32.ofNat j))) (.int (V j))).before #[Value.ref b] s = true) → ∃ t : Nat, va_Z C n "[I" (.ref t) A s s.heap ∧ va_T .int t N (fun i => .int (V i)) A s s.heap := by
    intro C n N V hN h1 h2 h3 h4 h5
    obtain ⟨t, ht, hT⟩ := va_Tof (f := fun i => .int (V i)) hN h3 (ws_len h4) (fun j hj => va_eqt (h5 j hj)) hA
    exact ⟨t, va_Zof h1 h2 ht hA, hT⟩
  obtain ⟨z0, a0, b0⟩ := key "IceHouse" "BEARING_THICK" 3 (iz_zV 0) (by decide) (hts _ (List.mem_of_getElem? (i := 456) (by decide +kernel))) (hts _ (List.mem_of_getElem? (i := 66) (by decide +kernel))) (hs _ (by decide +kernel)) (hs _ (by decide +kernel)) (fun j hj => by
    rcases (show j = 0 ∨ j = 1 ∨ j = 2 by omega) with rfl | rfl | rfl <;> exact hs _ (by decide +kernel))
  obtain ⟨z1, a1, b1⟩ := key "IceHouse" "KIND_ABOVE" 4 (iz_zV 1) (by decide) (hts _ (List.mem_of_getElem? (i := 713) (by decide +kernel))) (hts _ (List.mem_of_getElem? (i := 66) (by decide +kernel))) (hs _ (by decide +kernel)) (hs _ (by decide +kernel)) (fun j hj => by
    rcases (show j = 0 ∨ j = 1 ∨ j = 2 ∨ j = 3 by omega) with rfl | rfl | rfl | rfl <;> exact hs _ (by decide +kernel))
  obtain ⟨z2, a2, b2⟩ := key "IceHouse" "MELT_RATE" 4 (iz_zV 2) (by decide) (hts _ (List.mem_of_getElem? (i := 759) (by decide +kernel))) (hts _ (List.mem_of_getElem? (i := 66) (by decide +kernel))) (hs _ (by decide +kernel)) (hs _ (by decide +kernel)) (fun j hj => by
    rcases (show j = 0 ∨ j = 1 ∨ j = 2 ∨ j = 3 by omega) with rfl | rfl | rfl | rfl <;> exact hs _ (by decide +kernel))
  obtain ⟨z3, a3, b3⟩ := key "IceHouseModel" "BEARS" 3 (iz_zV 3) (by decide) (hts _ (List.mem_of_getElem? (i := 1215) (by decide +kernel))) (hts _ (List.mem_of_getElem? (i := 77) (by decide +kernel))) (hs _ (by decide +kernel)) (hs _ (by decide +kernel)) (fun j hj => by
    rcases (show j = 0 ∨ j = 1 ∨ j = 2 by omega) with rfl | rfl | rfl <;> exact hs _ (by decide +kernel))
  refine ⟨fun j => match j with | 0 => z0 | 1 => z1 | 2 => z2 | _ => z3, fun j hj => ?_⟩
  rcases (show j = 0 ∨ j = 1 ∨ j = 2 ∨ j = 3 by omega) with rfl | rfl | rfl | rfl
  · exact ⟨a0, b0⟩
  · exact ⟨a1, b1⟩
  · exact ⟨a2, b2⟩
  · exact ⟨a3, b3⟩
set_option maxRecDepth 20000 in
set_option maxHeartbeats 4000000 in
/-- the classes' numbers and slots -/
theorem ws_known {b : Nat} {s : State} (hts : ∀ w ∈ lw_tbl, w.before #[Value.ref b] s = true) : ∃ (dC : Nat → ClassId) (dI : Nat → Nat → Nat), ∀ (k : Nat) (q : vw_C), vwCl[k]? = some q → u_Kn s q.1 q.2.1 q.2.2 (dC k) (dI k) := by
  have key : ∀ k : Nat, ∃ (cc : ClassId) (iS : Nat → Nat), ∀ q : vw_C, vwCl[k]? = some q → u_Kn s q.1 q.2.1 q.2.2 cc iS := by
    intro k
    match k with
    | 0 =>
      obtain ⟨cc, iS, h⟩ := u_known (C := RX0) (T := TX0) (N := 7) (n := 7) hts iz_co0.1 (hts (.instantiable RX0 7) in_X0)
      exact ⟨cc, iS, fun q hq => by cases hq; exact h⟩
    | 1 =>
      obtain ⟨cc, iS, h⟩ := u_known (C := RX1) (T := TX1) (N := 13) (n := 13) hts iz_co1.1 (hts (.instantiable RX1 13) in_X1)
      exact ⟨cc, iS, fun q hq => by cases hq; exact h⟩
    | 2 =>
      obtain ⟨cc, iS, h⟩ := u_known (C := RX2) (T := TX2) (N := 3) (n := 3) hts iz_co2.1 (hts (.instantiable RX2 3) in_X2)
      exact ⟨cc, iS, fun q hq => by cases hq; exact h⟩
    | 3 =>
      obtain ⟨cc, iS, h⟩ := u_known (C := RX3) (T := TX3) (N := 10) (n := 10) hts iz_co3.1 (hts (.instantiable RX3 10) in_X3)
      exact ⟨cc, iS, fun q hq => by cases hq; exact h⟩
    | 4 =>
      obtain ⟨cc, iS, h⟩ := u_known (C := RX4) (T := TX4) (N := 6) (n := 6) hts iz_co4.1 (hts (.instantiable RX4 6) in_X4)
      exact ⟨cc, iS, fun q hq => by cases hq; exact h⟩
    | 5 =>
      obtain ⟨cc, iS, h⟩ := u_known (C := RX5) (T := TX5) (N := 15) (n := 15) hts iz_co5.1 (hts (.instantiable RX5 15) in_X5)
      exact ⟨cc, iS, fun q hq => by cases hq; exact h⟩
    | 6 =>
      obtain ⟨cc, iS, h⟩ := u_known (C := RX6) (T := TX6) (N := 7) (n := 7) hts iz_co6.1 (hts (.instantiable RX6 7) in_X6)
      exact ⟨cc, iS, fun q hq => by cases hq; exact h⟩
    | 7 =>
      obtain ⟨cc, iS, h⟩ := u_known (C := RX7) (T := TX7) (N := 3) (n := 3) hts iz_co7.1 (hts (.instantiable RX7 3) in_X7)
      exact ⟨cc, iS, fun q hq => by cases hq; exact h⟩
    | 8 =>
      obtain ⟨cc, iS, h⟩ := u_known (C := RX8) (T := TX8) (N := 2) (n := 2) hts iz_co8.1 (hts (.instantiable RX8 2) in_X8)
      exact ⟨cc, iS, fun q hq => by cases hq; exact h⟩
    | 9 =>
      obtain ⟨cc, iS, h⟩ := u_known (C := RX9) (T := TX9) (N := 11) (n := 11) hts iz_co9.1 (hts (.instantiable RX9 11) in_X9)
      exact ⟨cc, iS, fun q hq => by cases hq; exact h⟩
    | 10 =>
      obtain ⟨cc, iS, h⟩ := u_known (C := RX10) (T := TX10) (N := 48) (n := 48) hts iz_co10.1 (hts (.instantiable RX10 48) in_X10)
      exact ⟨cc, iS, fun q hq => by cases hq; exact h⟩
    | k + 11 => exact ⟨0, fun _ => 0, fun q hq => by simp [vwCl] at hq⟩
  exact ⟨fun k => (key k).choose, fun k => (key k).choose_spec.choose, fun k q hq => (key k).choose_spec.choose_spec q hq⟩
set_option maxRecDepth 20000 in
set_option maxHeartbeats 4000000 in
theorem ws_go {p : Program} {e : Env} {s : State} {m : MethodId} {below : List Frame} {meth : Method} {c : Code} (l : Launch) {b L : Nat} {xs : Nat → Int32} (C0 : lw_At p s m meth c b L xs) (hpure : Lw_law_18 L xs iz_FU 0 ct_S1 = some 1) : W p l e room_1 s m #[Value.ref b] below meth c s.heap [] 0 0 (lw_Z below #[Value.ref b] s) (entryFrame m ([Value.ref b] : List Value).toArray 4) := by
  obtain ⟨hx, hb, hr, hml, hown, hts, hX, hbl, hlocks, hgv⟩ := id C0
  have hdt : ∀ q ∈ tL_law, decode c.code q.1 = .ok q.2 := by rw [hb]; exact dL_law
  obtain ⟨dC, dI, hKn⟩ := ws_known hts
  have hTb : iz_Tb s := fun w hm hk => va_tabs (iz_ok_on hk) rfl (hts w hm)
  have hI : (Cond.arrayClass .int).before #[Value.ref b] s = true := hts _ (List.mem_of_getElem? (i := 108) (by decide +kernel))
  have hZ : (Cond.arrayClass .boolean).before #[Value.ref b] s = true := hts _ (List.mem_of_getElem? (i := 109) (by decide +kernel))
  have hO : (Cond.arrayOver (.array .int)).before #[Value.ref b] s = true := hts _ (List.mem_of_getElem? (i := 232) (by decide +kernel))
  obtain ⟨cI, kI, pI, fI, gI, eI⟩ := Cond.arrayClass_spec hI
  obtain ⟨cZ, kZ, pZ, fZ, gZ, eZ⟩ := Cond.arrayClass_spec hZ
  obtain ⟨pA, cA, kA, qA, gA, eA, fA⟩ := Cond.arrayOver_specA hO
  obtain ⟨z, hz⟩ := ws_stat hts hgv (fun q : Nat => s.heap.size ≤ q) (fun a h => Nat.not_le.mpr h)
  obtain ⟨X, hXe⟩ : ∃ X : iz_X, X = (fun k => if k < 120 then s.heap.size + k else z (k - 120), (dC, dI), cI, cZ, cA) := ⟨_, rfl⟩
  have hXk : ∀ k, k < 120 → X.1 k = s.heap.size + k := fun k hk => by rw [hXe]; exact if_pos hk
  have hVK : va_K X.2.1 vwCl (iz_tys X) s := by
    rw [hXe]
    refine ⟨hKn, fun k q hq => ?_⟩
    match k, hq with
    | 0, hq => cases hq; exact ⟨fun n z => ⟨fun k h => (by cases h), kI, gI, pI, eI⟩, fI⟩
    | 1, hq => cases hq; exact ⟨fun n z => ⟨fun k h => (by cases h), kZ, gZ, pZ, eZ⟩, fZ⟩
    | 2, hq => cases hq; exact ⟨fun n z => ⟨fun k h => (by cases h), kA, gA, pA, eA⟩, fA⟩
    | k + 3, hq => simp [iz_tys] at hq
  have hK : ct_K X s := ⟨hTb, hVK, hI, hZ, hO⟩
  have hA : ct_A X s.heap.size (fun q => s.heap.size ≤ q) := ⟨hXk, fun _ h => h⟩
  have hH : ct_H X s.heap.size (fun q => s.heap.size ≤ q) (ct_rd 0 1) ct_S0 0 s.heap s.heap [] := ⟨va_S.rf, rfl, fun k q hq => by simp [ct_w] at hq⟩
  have hl := lv_entry [.ref b] (n := 4) (Nat.le_of_ble_eq_true rfl)
  rw [lg_entry_eq]
  generalize (lg_sl [.ref b] ++ List.replicate (4 - (lg_sl [.ref b]).length) Slot.unset).toArray = ls at hl ⊢
  have hl : lv_has ls 4 [(0, .ref b)] := hl
  refine ct_new (n := 0) (N := 11) (ci := 9) (own := RL) hx hown hK hA hH rfl cl_L_7 in_X9 ni_X9 (by decide) rfl (by decide +kernel) rfl rfl (Nat.le_of_ble_eq_true rfl) (Nat.le_of_ble_eq_true rfl) (iz_dq hdt (j := 0) rfl) (fun H hH => ?_)
  refine W.widen (k := 1) (n := 11) (Nat.le_of_ble_eq_true rfl) (Nat.le_of_ble_eq_true rfl) ?_
  refine lv_dup hx rfl (iz_dq hdt (j := 1) rfl) rfl ?_
  refine ct_callI (host := "IceHouse") (own := RL) (As := []) (rest := [.ref (X.1 0)]) (t := 0) hx hown hml hl.1 hK hA hH (k_X9_init_0 hXk) (Or.inl ml_L_9) cw_X9_init im_X9_init rfl (Nat.le_of_ble_eq_true rfl) (Nat.le_of_ble_eq_true rfl) (Nat.le_of_ble_eq_true rfl) (Nat.le_of_ble_eq_true rfl) rfl (Nat.le_of_ble_eq_true rfl) (iz_dq hdt (j := 2) rfl) (fun H locs hH => ?_)
  refine W.widen (k := 82) (n := 2600) (Nat.le_of_ble_eq_true rfl) (Nat.le_of_ble_eq_true rfl) ?_
  refine lv_astore_n (lv' := [(1, .ref (X.1 0)), (0, .ref b)]) hx rfl (iz_dq hdt (j := 3) rfl) rfl hl (by decide) rfl (fun ls hl => ?_)
  refine ct_new (n := 82) (N := 48) (ci := 10) (own := RL) hx hown hK hA hH rfl cl_L_10 in_X10 ni_X10 (by decide) rfl (by decide +kernel) rfl rfl (Nat.le_of_ble_eq_true rfl) (Nat.le_of_ble_eq_true rfl) (iz_dq hdt (j := 4) rfl) (fun H hH => ?_)
  refine W.widen (k := 83) (n := 2648) (Nat.le_of_ble_eq_true rfl) (Nat.le_of_ble_eq_true rfl) ?_
  refine lv_dup hx rfl (iz_dq hdt (j := 5) rfl) rfl ?_
  refine ct_callI (host := "IceHouse") (own := RL) (As := []) (rest := [.ref (X.1 82)]) (t := 82) hx hown hml hl.1 hK hA hH (k_X10_init_82 hXk) (Or.inl ml_L_12) cw_X10_init im_X10_init rfl (Nat.le_of_ble_eq_true rfl) (Nat.le_of_ble_eq_true rfl) (Nat.le_of_ble_eq_true rfl) (Nat.le_of_ble_eq_true rfl) rfl (Nat.le_of_ble_eq_true rfl) (iz_dq hdt (j := 6) rfl) (fun H locs hH => ?_)
  refine W.widen (k := 600000) (n := 7302250) (Nat.le_of_ble_eq_true rfl) (Nat.le_of_ble_eq_true rfl) ?_
  refine lv_astore_n (lv' := [(2, .ref (X.1 82)), (1, .ref (X.1 0)), (0, .ref b)]) hx rfl (iz_dq hdt (j := 7) rfl) rfl hl (by decide) rfl (fun ls hl => ?_)
  refine lv_iconst (v := 0) hx rfl (iz_dq hdt (j := 8) rfl) (by decide) ?_
  refine lv_istore_n (lv' := [(3, .int 0), (2, .ref (X.1 82)), (1, .ref (X.1 0)), (0, .ref b)]) hx rfl (iz_dq hdt (j := 9) rfl) rfl hl (by decide) rfl (fun ls hl => ?_)
  have hWk : iz_Wk X (fun q => s.heap.size ≤ q) s s.heap := by
    refine ⟨hTb, hVK, fun i j hi hj h => ?_, fun k hk => ?_, fun j hj => ?_⟩
    · rw [hXk i hi, hXk j hj] at h
      omega
    · show s.heap.size ≤ X.1 k
      rw [hXk k hk]; omega
    · have e : X.1 (iz_NP + j) = z j := by
        rw [hXe]
        show (if 120 + j < 120 then _ else z (120 + j - 120)) = _
        rw [if_neg (by omega)]
        congr 1
        omega
      rw [e]
      exact hz j hj
  exact c_Lw_law_18 (l := l) (b := b) (L := L) (xs := xs) iz_FU 0 ct_S1 (iz_KL_ok X b L xs) 1 hpure p e room_1 s m #[Value.ref b] below meth c 600000 7302250 _ _ ⟨rfl, C0, rfl, rfl, rfl, rfl, rfl, hWk, rfl⟩ H locs hH.1 (by rw [← ct_full]; exact hH.2.2) ls (lv_sub hl [3, 2, 1, 0] rfl)
