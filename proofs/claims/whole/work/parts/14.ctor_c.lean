/-! THE CONSTRUCTORS, one by one (a place each) -/
def ct_rc (t n : Nat) : Nat → Nat → Bool := fun k _ => if k = 0 then false else decide (k < n)
def ct_rd (t n : Nat) : Nat → Nat → Bool := fun k i => if k = 0 then decide (i < t) else decide (k < n)
def ct_S0 : iz_S := (fun _ _ => 0, fun _ _ => 0)
def ct_fl (S : iz_S) (k N : Nat) (v : Int32) : iz_S := (fun q => if q = k then (fun i => if i < N then v else S.1 k i) else S.1 q, S.2)
theorem ct_fl_0 (S : iz_S) (k : Nat) (v : Int32) : ct_fl S k 0 v = S := by
  unfold ct_fl
  have : (fun q => if q = k then (fun i => if i < 0 then v else S.1 k i) else S.1 q) = S.1 := by
    funext q
    by_cases h : q = k
    · subst h; simp
    · simp [h]
  rw [this]
theorem ct_fl_s (S : iz_S) (k i : Nat) (v : Int32) : iz_up (ct_fl S k i v) k i v = ct_fl S k (i + 1) v := by
  unfold ct_fl iz_up
  congr 1
  funext q
  by_cases h : q = k
  · subst h
    simp only [if_pos]
    funext j
    unfold upd
    by_cases h1 : j = i
    · subst h1; simp
    · simp only [if_neg h1]
      by_cases h2 : j < i
      · rw [if_pos h2, if_pos (by omega)]
      · rw [if_neg h2, if_neg (by omega)]
  · simp [h]
theorem oi_inst : Cond.instanceMethod objectInit ∈ lw_tbl := List.mem_of_getElem? (i := 86) (by decide +kernel)
theorem oi_code : Cond.code objectInit ⟨#[0xb1]⟩ 1 none ∈ lw_tbl := List.mem_of_getElem? (i := 87) (by decide +kernel)
theorem oi_X9_1 : Cond.methodLink RX9 1 objectInit ∈ lw_tbl := List.mem_of_getElem? (i := 85) (by decide +kernel)
theorem oi_X2_3 : Cond.methodLink RX2 3 objectInit ∈ lw_tbl := List.mem_of_getElem? (i := 93) (by decide +kernel)
theorem oi_X6_3 : Cond.methodLink RX6 3 objectInit ∈ lw_tbl := List.mem_of_getElem? (i := 114) (by decide +kernel)
theorem oi_X7_3 : Cond.methodLink RX7 3 objectInit ∈ lw_tbl := List.mem_of_getElem? (i := 147) (by decide +kernel)
theorem oi_X1_3 : Cond.methodLink RX1 3 objectInit ∈ lw_tbl := List.mem_of_getElem? (i := 170) (by decide +kernel)
theorem oi_X0_3 : Cond.methodLink RX0 3 objectInit ∈ lw_tbl := List.mem_of_getElem? (i := 232) (by decide +kernel)
theorem oi_X3_3 : Cond.methodLink RX3 3 objectInit ∈ lw_tbl := List.mem_of_getElem? (i := 264) (by decide +kernel)
theorem oi_X5_3 : Cond.methodLink RX5 3 objectInit ∈ lw_tbl := List.mem_of_getElem? (i := 306) (by decide +kernel)
theorem oi_X4_3 : Cond.methodLink RX4 3 objectInit ∈ lw_tbl := List.mem_of_getElem? (i := 363) (by decide +kernel)
theorem oi_X8_3 : Cond.methodLink RX8 3 objectInit ∈ lw_tbl := List.mem_of_getElem? (i := 391) (by decide +kernel)
theorem oi_X10_1 : Cond.methodLink RX10 1 objectInit ∈ lw_tbl := List.mem_of_getElem? (i := 1049) (by decide +kernel)
theorem cl_L_7 : Cond.classLink RL 7 RX9 ∈ lw_tbl := List.mem_of_getElem? (i := 80) (by decide +kernel)
theorem cl_X9_7 : Cond.classLink RX9 7 RX2 ∈ lw_tbl := List.mem_of_getElem? (i := 88) (by decide +kernel)
theorem cl_X9_16 : Cond.classLink RX9 16 RX6 ∈ lw_tbl := List.mem_of_getElem? (i := 109) (by decide +kernel)
theorem cl_X9_23 : Cond.classLink RX9 23 RX7 ∈ lw_tbl := List.mem_of_getElem? (i := 142) (by decide +kernel)
theorem cl_X9_30 : Cond.classLink RX9 30 RX1 ∈ lw_tbl := List.mem_of_getElem? (i := 165) (by decide +kernel)
theorem cl_X9_42 : Cond.classLink RX9 42 RX0 ∈ lw_tbl := List.mem_of_getElem? (i := 227) (by decide +kernel)
theorem cl_X0_15 : Cond.classLink RX0 15 "[[I" ∈ lw_tbl := List.mem_of_getElem? (i := 233) (by decide +kernel)
theorem cl_X9_49 : Cond.classLink RX9 49 RX3 ∈ lw_tbl := List.mem_of_getElem? (i := 259) (by decide +kernel)
theorem cl_X9_58 : Cond.classLink RX9 58 RX5 ∈ lw_tbl := List.mem_of_getElem? (i := 301) (by decide +kernel)
theorem cl_X9_67 : Cond.classLink RX9 67 RX4 ∈ lw_tbl := List.mem_of_getElem? (i := 358) (by decide +kernel)
theorem cl_X4_21 : Cond.classLink RX4 21 "[[I" ∈ lw_tbl := List.mem_of_getElem? (i := 364) (by decide +kernel)
theorem cl_X9_74 : Cond.classLink RX9 74 RX8 ∈ lw_tbl := List.mem_of_getElem? (i := 386) (by decide +kernel)
theorem cl_L_10 : Cond.classLink RL 10 RX10 ∈ lw_tbl := List.mem_of_getElem? (i := 1044) (by decide +kernel)
theorem in_X9 : Cond.instantiable RX9 11 ∈ lw_tbl := List.mem_of_getElem? (i := 81) (by decide +kernel)
theorem in_X2 : Cond.instantiable RX2 3 ∈ lw_tbl := List.mem_of_getElem? (i := 89) (by decide +kernel)
theorem in_X6 : Cond.instantiable RX6 8 ∈ lw_tbl := List.mem_of_getElem? (i := 110) (by decide +kernel)
theorem in_X7 : Cond.instantiable RX7 3 ∈ lw_tbl := List.mem_of_getElem? (i := 143) (by decide +kernel)
theorem in_X1 : Cond.instantiable RX1 13 ∈ lw_tbl := List.mem_of_getElem? (i := 166) (by decide +kernel)
theorem in_X0 : Cond.instantiable RX0 7 ∈ lw_tbl := List.mem_of_getElem? (i := 228) (by decide +kernel)
theorem in_X3 : Cond.instantiable RX3 10 ∈ lw_tbl := List.mem_of_getElem? (i := 260) (by decide +kernel)
theorem in_X5 : Cond.instantiable RX5 15 ∈ lw_tbl := List.mem_of_getElem? (i := 302) (by decide +kernel)
theorem in_X4 : Cond.instantiable RX4 6 ∈ lw_tbl := List.mem_of_getElem? (i := 359) (by decide +kernel)
theorem in_X8 : Cond.instantiable RX8 2 ∈ lw_tbl := List.mem_of_getElem? (i := 387) (by decide +kernel)
theorem in_X10 : Cond.instantiable RX10 48 ∈ lw_tbl := List.mem_of_getElem? (i := 1045) (by decide +kernel)
theorem ni_L : Cond.initialized RL ∈ lw_tbl := List.mem_of_getElem? (i := 64) (by decide +kernel)
theorem ni_X9 : Cond.initialized RX9 ∈ lw_tbl := List.mem_of_getElem? (i := 65) (by decide +kernel)
theorem ni_X2 : Cond.initialized RX2 ∈ lw_tbl := List.mem_of_getElem? (i := 66) (by decide +kernel)
theorem ni_X6 : Cond.initialized RX6 ∈ lw_tbl := List.mem_of_getElem? (i := 67) (by decide +kernel)
theorem ni_X7 : Cond.initialized RX7 ∈ lw_tbl := List.mem_of_getElem? (i := 68) (by decide +kernel)
theorem ni_J7 : Cond.initialized RJ7 ∈ lw_tbl := List.mem_of_getElem? (i := 69) (by decide +kernel)
theorem ni_X1 : Cond.initialized RX1 ∈ lw_tbl := List.mem_of_getElem? (i := 70) (by decide +kernel)
theorem ni_X0 : Cond.initialized RX0 ∈ lw_tbl := List.mem_of_getElem? (i := 71) (by decide +kernel)
theorem ni_X3 : Cond.initialized RX3 ∈ lw_tbl := List.mem_of_getElem? (i := 72) (by decide +kernel)
theorem ni_X5 : Cond.initialized RX5 ∈ lw_tbl := List.mem_of_getElem? (i := 73) (by decide +kernel)
theorem ni_X4 : Cond.initialized RX4 ∈ lw_tbl := List.mem_of_getElem? (i := 74) (by decide +kernel)
theorem ni_X8 : Cond.initialized RX8 ∈ lw_tbl := List.mem_of_getElem? (i := 75) (by decide +kernel)
theorem ni_X10 : Cond.initialized RX10 ∈ lw_tbl := List.mem_of_getElem? (i := 76) (by decide +kernel)
theorem ni_J13 : Cond.initialized RJ13 ∈ lw_tbl := List.mem_of_getElem? (i := 77) (by decide +kernel)
theorem ni_J9 : Cond.initialized RJ9 ∈ lw_tbl := List.mem_of_getElem? (i := 78) (by decide +kernel)
theorem ni_J10 : Cond.initialized RJ10 ∈ lw_tbl := List.mem_of_getElem? (i := 79) (by decide +kernel)
theorem im_X0_init : Cond.instanceMethod yX0_init ∈ lw_tbl := List.mem_of_getElem? (i := 230) (by decide +kernel)
theorem im_X1_init : Cond.instanceMethod yX1_init ∈ lw_tbl := List.mem_of_getElem? (i := 168) (by decide +kernel)
theorem im_X2_init : Cond.instanceMethod yX2_init ∈ lw_tbl := List.mem_of_getElem? (i := 91) (by decide +kernel)
theorem im_X3_init : Cond.instanceMethod yX3_init ∈ lw_tbl := List.mem_of_getElem? (i := 262) (by decide +kernel)
theorem im_X4_init : Cond.instanceMethod yX4_init ∈ lw_tbl := List.mem_of_getElem? (i := 361) (by decide +kernel)
theorem im_X5_init : Cond.instanceMethod yX5_init ∈ lw_tbl := List.mem_of_getElem? (i := 304) (by decide +kernel)
theorem im_X6_init : Cond.instanceMethod yX6_init ∈ lw_tbl := List.mem_of_getElem? (i := 112) (by decide +kernel)
theorem im_X7_init : Cond.instanceMethod yX7_init ∈ lw_tbl := List.mem_of_getElem? (i := 145) (by decide +kernel)
theorem im_X8_init : Cond.instanceMethod yX8_init ∈ lw_tbl := List.mem_of_getElem? (i := 389) (by decide +kernel)
theorem im_X9_init : Cond.instanceMethod yX9_init ∈ lw_tbl := List.mem_of_getElem? (i := 83) (by decide +kernel)
theorem im_X10_init : Cond.instanceMethod yX10_init ∈ lw_tbl := List.mem_of_getElem? (i := 1047) (by decide +kernel)
set_option maxRecDepth 10000 in
theorem k_fill_loop {X : iz_X} {l : Launch} {b0 : Nat} {p : Program} {e : Env} {R : Room} {s : State} {m : MethodId} {args : Array Value} {below : List Frame} {meth : Method} {c : Code} {Q : State → Prop} {r : Nat → Nat → Bool} {S : iz_S} {n k N : Nat} {v : Int32} (hx : p.tables.exec = Jvm.exec) (hdt : ∀ q ∈ tJ7_fill_53178, decode c.code q.1 = .ok q.2) (hK : ct_K X s) (hA : ct_A X b0 (fun q => b0 ≤ q)) (hn : n ≤ 121) (hk : k < n) (hsh : nt_sh k = (0, N)) (hN : N ≤ 1000)
    (kk : ∀ H locs ls, ct_H X b0 (fun q => b0 ≤ q) r (ct_fl S k N v) n s.heap H locs → W p l e R s m args below meth c H locs 0 0 Q (F0 m 20 ls [])) : ∀ (j i : Nat) (H : Heap) (locs : List Loc) (ls : Array Slot), i + j = N → ct_H X b0 (fun q => b0 ≤ q) r (ct_fl S k i v) n s.heap H locs → lv_has ls 4 [(0, .ref (X.1 k)), (1, .int v), (2, .int (nI i)), (3, .int (nI N))] → W p l e R s m args below meth c H locs 0 0 Q (F0 m 5 ls []) := by
  intro j
  induction j with
  | zero =>
    intro i H locs ls hij hH hl
    have hi : i = N := by omega
    subst hi
    refine lv_iload_n hx rfl (iz_dq hdt (j := 5) rfl) rfl (lv_at hl 2 rfl) ?_
    refine lv_iload_n hx rfl (iz_dq hdt (j := 6) rfl) rfl (lv_at hl 3 rfl) ?_
    refine lv_icmp_ge (tgt := 20) hx rfl (iz_dq hdt (j := 7) rfl) (by decide) (fun _ => ?_) (fun h => ?_)
    · exact kk H locs ls hH
    · exact absurd (nI_le (Nat.le_refl i) (by omega)) h
  | succ j ih =>
    intro i H locs ls hij hH hl
    refine lv_iload_n hx rfl (iz_dq hdt (j := 5) rfl) rfl (lv_at hl 2 rfl) ?_
    refine lv_iload_n hx rfl (iz_dq hdt (j := 6) rfl) rfl (lv_at hl 3 rfl) ?_
    refine lv_icmp_ge (tgt := 20) hx rfl (iz_dq hdt (j := 7) rfl) (by decide) (fun h => ?_) (fun _ => ?_)
    · exact absurd h (nI_ge (by omega) (by omega))
    · refine lv_aload_n hx rfl (iz_dq hdt (j := 8) rfl) rfl (lv_at hl 0 rfl) ?_
      refine lv_iload_n hx rfl (iz_dq hdt (j := 9) rfl) rfl (lv_at hl 2 rfl) ?_
      refine lv_iload_n hx rfl (iz_dq hdt (j := 10) rfl) rfl (lv_at hl 1 rfl) ?_
      refine ct_iast hx hK hA hH hn hk hsh (vp_in_nI (by omega) (by omega)) (iz_dq hdt (j := 11) rfl) (fun H1 locs1 hH1 => ?_)
      rw [nI_clamp (by omega), ct_fl_s] at hH1
      refine lv_iinc (v := nI (i + 1)) (lv' := [(2, .int (nI (i + 1))), (0, .ref (X.1 k)), (1, .int v), (3, .int (nI N))]) hx rfl (iz_dq hdt (j := 12) rfl) hl (k := 2) rfl (by rw [← nI_1]; rfl) (by decide) rfl (fun ls hl => ?_)
      refine lv_goto (tgt := 5) hx rfl (iz_dq hdt (j := 13) rfl) (by decide) ?_
      exact ih (i + 1) H1 locs1 ls (by omega) hH1 (lv_sub hl [1, 2, 0, 3] rfl)
set_option maxRecDepth 10000 in
theorem k_fill {X : iz_X} {l : Launch} {b0 : Nat} (hXk : ∀ k, k < 121 → X.1 k = b0 + k) {r : Nat → Nat → Bool} {S : iz_S} {n k N : Nat} {v : Int32} (hn : n ≤ 121) (hk : k < n) (hsh : nt_sh k = (0, N)) (hN : N ≤ 1000) : ct_M X l b0 0 0 0 yJ7_fill_53178 cJ7_fill_53178 4 [.ref (X.1 k), .int v] r S n r (ct_fl S k N v) n := by
  refine Met.ofW (cc := cJ7_fill_53178) (maxL := 4) (ret := none) (by decide) rfl ?_
  intro p e s m args below meth c s1 B hml hv
  obtain ⟨rfl, hK, hsz, hP⟩ := hv
  have hx := B.exec
  have hdt : ∀ q ∈ tJ7_fill_53178, decode c.code q.1 = .ok q.2 := by rw [B.bytes]; exact dJ7_fill_53178
  have hA : ct_A X b0 (fun q => b0 ≤ q) := ⟨hXk, fun _ h => h⟩
  have hH : ct_H X b0 (fun q => b0 ≤ q) r S n s.heap s.heap [] := ⟨va_S.rf, hsz, hP⟩
  have hl := lv_entry [.ref (X.1 k), .int v] (n := 4) (Nat.le_of_ble_eq_true rfl)
  rw [lg_entry_eq]
  generalize (lg_sl [.ref (X.1 k), .int v] ++ List.replicate (4 - (lg_sl [.ref (X.1 k), .int v]).length) Slot.unset).toArray = ls at hl ⊢
  have hl : lv_has ls 4 [(0, .ref (X.1 k)), (1, .int v)] := hl
  refine lv_iconst (v := nI 0) hx rfl (iz_dq hdt (j := 0) rfl) (by decide +kernel) ?_
  refine lv_istore_n (lv' := [(2, .int (nI 0)), (0, .ref (X.1 k)), (1, .int v)]) hx rfl (iz_dq hdt (j := 1) rfl) rfl hl (by decide) rfl (fun ls hl => ?_)
  refine lv_aload_n hx rfl (iz_dq hdt (j := 2) rfl) rfl (lv_at hl 1 rfl) ?_
  refine ct_alen hx hK hH hk hsh (iz_dq hdt (j := 3) rfl) ?_
  refine lv_istore_n (lv' := [(3, .int (nI N)), (2, .int (nI 0)), (0, .ref (X.1 k)), (1, .int v)]) hx rfl (iz_dq hdt (j := 4) rfl) rfl hl (by decide) rfl (fun ls hl => ?_)
  refine k_fill_loop (v := v) (S := S) hx hdt hK hA hn hk hsh hN (fun H locs ls hH => ?_) N 0 s.heap [] ls (by omega) (by rw [ct_fl_0]; exact hH) (lv_sub hl [2, 3, 1, 0] rfl)
  exact W.vret hx rfl B.returns (fun t ht hWm => ⟨rfl, ⟨by rw [ht]; exact hH.2.1, by rw [ht]; exact hH.2.2⟩, hH.1.F ht⟩) hH.1.2.2 (iz_dq hdt (j := 14) rfl) (hlocks := B.notSynchronized)
set_option maxRecDepth 10000 in
set_option maxHeartbeats 4000000 in
theorem k_X2_init_1 {X : iz_X} {l : Launch} {b0 : Nat} (hXk : ∀ k, k < 121 → X.1 k = b0 + k) : ct_M X l b0 1 3 192 yX2_init cX2_init 1 [.ref (X.1 1)] (ct_rd 0 1) ct_S0 2 (ct_rd 0 5) ct_S0 5 := by
  refine Met.ofW (cc := cX2_init) (maxL := 1) (ret := none) (by decide) rfl ?_
  intro p e s m args below meth c s1 B hml hv
  obtain ⟨rfl, hK, hsz, hP⟩ := hv
  have hx := B.exec
  have hdt : ∀ q ∈ tX2_init, decode c.code q.1 = .ok q.2 := by rw [B.bytes]; exact dX2_init
  have hown : s.vm.findClass RX2 = some m.cls := findClass_of_methodNamed B.named
  have hin : meth.name = "<init>" := (name_of_methodNamed B.named B.method).1
  have hA : ct_A X b0 (fun q => b0 ≤ q) := ⟨hXk, fun _ h => h⟩
  have hH : ct_H X b0 (fun q => b0 ≤ q) (ct_rd 0 1) ct_S0 2 s.heap s.heap [] := ⟨va_S.rf, hsz, hP⟩
  have hl := lv_entry [.ref (X.1 1)] (n := 1) (Nat.le_of_ble_eq_true rfl)
  rw [lg_entry_eq]
  generalize (lg_sl [.ref (X.1 1)] ++ List.replicate (1 - (lg_sl [.ref (X.1 1)]).length) Slot.unset).toArray = ls at hl ⊢
  have hl : lv_has ls 1 [(0, .ref (X.1 1))] := hl
  refine lv_aload_n hx rfl (iz_dq hdt (j := 0) rfl) rfl (lv_at hl 0 rfl) ?_
  refine W.objInit hx rfl hown (hK.1.use oi_X2_3 rfl) (hK.1.use oi_inst rfl) (hK.1.use oi_code rfl) rfl (by rw [hml]; exact hl.1) rfl (iz_dq hdt (j := 1) rfl) (Nat.le_of_ble_eq_true rfl) (Nat.le_of_ble_eq_true rfl) ?_
  refine W.eq (g2 := F0 m 4 ls []) rfl ?_
  refine lv_aload_n hx rfl (iz_dq hdt (j := 2) rfl) rfl (lv_at hl 0 rfl) ?_
  refine lv_bipush (v := 64) hx rfl (iz_dq hdt (j := 3) rfl) (by decide) ?_
  refine ct_nwI (n := 2) (N := 64) hx hK hA hH (by decide) rfl rfl (by decide) (by decide) (by decide) (Nat.le_of_ble_eq_true rfl) (Nat.le_of_ble_eq_true rfl) (iz_dq hdt (j := 4) rfl) (fun H hH => ?_)
  refine W.widen (k := 1) (n := 64) (Nat.le_of_ble_eq_true rfl) (Nat.le_of_ble_eq_true rfl) ?_
  refine ct_put (k := 1) (i := 0) (t := 2) (N := 3) hx hown hin hK hA hH fl_X2_9 ⟨RX2, TX2, 3, rfl, rfl⟩ (by decide) (by decide) rfl (by decide) rfl rfl ⟨(.array .int), by decide +kernel, rfl⟩ (iz_dq hdt (j := 5) rfl) (fun H locs hH => ?_)
  refine lv_aload_n hx rfl (iz_dq hdt (j := 6) rfl) rfl (lv_at hl 0 rfl) ?_
  refine lv_bipush (v := 64) hx rfl (iz_dq hdt (j := 7) rfl) (by decide) ?_
  refine ct_nwI (n := 3) (N := 64) hx hK hA hH (by decide) rfl rfl (by decide) (by decide) (by decide) (Nat.le_of_ble_eq_true rfl) (Nat.le_of_ble_eq_true rfl) (iz_dq hdt (j := 8) rfl) (fun H hH => ?_)
  refine W.widen (k := 2) (n := 128) (Nat.le_of_ble_eq_true rfl) (Nat.le_of_ble_eq_true rfl) ?_
  refine ct_put (k := 1) (i := 1) (t := 3) (N := 3) hx hown hin hK hA hH fl_X2_15 ⟨RX2, TX2, 3, rfl, rfl⟩ (by decide) (by decide) rfl (by decide) rfl rfl ⟨(.array .int), by decide +kernel, rfl⟩ (iz_dq hdt (j := 9) rfl) (fun H locs hH => ?_)
  refine lv_aload_n hx rfl (iz_dq hdt (j := 10) rfl) rfl (lv_at hl 0 rfl) ?_
  refine lv_bipush (v := 64) hx rfl (iz_dq hdt (j := 11) rfl) (by decide) ?_
  refine ct_nwZ (n := 4) (N := 64) hx hK hA hH (by decide) rfl rfl (by decide) (by decide) (by decide) (Nat.le_of_ble_eq_true rfl) (Nat.le_of_ble_eq_true rfl) (iz_dq hdt (j := 12) rfl) (fun H hH => ?_)
  refine W.widen (k := 3) (n := 192) (Nat.le_of_ble_eq_true rfl) (Nat.le_of_ble_eq_true rfl) ?_
  refine ct_put (k := 1) (i := 2) (t := 4) (N := 3) hx hown hin hK hA hH fl_X2_18 ⟨RX2, TX2, 3, rfl, rfl⟩ (by decide) (by decide) rfl (by decide) rfl rfl ⟨(.array .boolean), by decide +kernel, rfl⟩ (iz_dq hdt (j := 13) rfl) (fun H locs hH => ?_)
  have hH := hH.same (r2 := (ct_rd 0 5)) (by decide +kernel)
  exact W.vret hx rfl B.returns (fun t ht hWm => ⟨rfl, ⟨by rw [ht]; exact hH.2.1, by rw [ht]; exact hH.2.2⟩, hH.1.F ht⟩) hH.1.2.2 (iz_dq hdt (j := 14) rfl) (hlocks := B.notSynchronized)
set_option maxRecDepth 10000 in
set_option maxHeartbeats 4000000 in
theorem k_X6_init_5 {X : iz_X} {l : Launch} {b0 : Nat} (hXk : ∀ k, k < 121 → X.1 k = b0 + k) : ct_M X l b0 1 4 140 yX6_init cX6_init 1 [.ref (X.1 5)] (ct_rd 1 5) ct_S0 6 (ct_rd 1 10) ct_S0 10 := by
  refine Met.ofW (cc := cX6_init) (maxL := 1) (ret := none) (by decide) rfl ?_
  intro p e s m args below meth c s1 B hml hv
  obtain ⟨rfl, hK, hsz, hP⟩ := hv
  have hx := B.exec
  have hdt : ∀ q ∈ tX6_init, decode c.code q.1 = .ok q.2 := by rw [B.bytes]; exact dX6_init
  have hown : s.vm.findClass RX6 = some m.cls := findClass_of_methodNamed B.named
  have hin : meth.name = "<init>" := (name_of_methodNamed B.named B.method).1
  have hA : ct_A X b0 (fun q => b0 ≤ q) := ⟨hXk, fun _ h => h⟩
  have hH : ct_H X b0 (fun q => b0 ≤ q) (ct_rd 1 5) ct_S0 6 s.heap s.heap [] := ⟨va_S.rf, hsz, hP⟩
  have hl := lv_entry [.ref (X.1 5)] (n := 1) (Nat.le_of_ble_eq_true rfl)
  rw [lg_entry_eq]
  generalize (lg_sl [.ref (X.1 5)] ++ List.replicate (1 - (lg_sl [.ref (X.1 5)]).length) Slot.unset).toArray = ls at hl ⊢
  have hl : lv_has ls 1 [(0, .ref (X.1 5))] := hl
  refine lv_aload_n hx rfl (iz_dq hdt (j := 0) rfl) rfl (lv_at hl 0 rfl) ?_
  refine W.objInit hx rfl hown (hK.1.use oi_X6_3 rfl) (hK.1.use oi_inst rfl) (hK.1.use oi_code rfl) rfl (by rw [hml]; exact hl.1) rfl (iz_dq hdt (j := 1) rfl) (Nat.le_of_ble_eq_true rfl) (Nat.le_of_ble_eq_true rfl) ?_
  refine W.eq (g2 := F0 m 4 ls []) rfl ?_
  refine lv_aload_n hx rfl (iz_dq hdt (j := 2) rfl) rfl (lv_at hl 0 rfl) ?_
  refine lv_bipush (v := 6) hx rfl (iz_dq hdt (j := 3) rfl) (by decide) ?_
  refine ct_nwI (n := 6) (N := 6) hx hK hA hH (by decide) rfl rfl (by decide) (by decide) (by decide) (Nat.le_of_ble_eq_true rfl) (Nat.le_of_ble_eq_true rfl) (iz_dq hdt (j := 4) rfl) (fun H hH => ?_)
  refine W.widen (k := 1) (n := 6) (Nat.le_of_ble_eq_true rfl) (Nat.le_of_ble_eq_true rfl) ?_
  refine ct_put (k := 5) (i := 0) (t := 6) (N := 8) hx hown hin hK hA hH fl_X6_9 ⟨RX6, TX6, 8, rfl, rfl⟩ (by decide) (by decide) rfl (by decide) rfl rfl ⟨(.array .int), by decide +kernel, rfl⟩ (iz_dq hdt (j := 5) rfl) (fun H locs hH => ?_)
  refine lv_aload_n hx rfl (iz_dq hdt (j := 6) rfl) rfl (lv_at hl 0 rfl) ?_
  refine lv_bipush (v := 6) hx rfl (iz_dq hdt (j := 7) rfl) (by decide) ?_
  refine ct_nwI (n := 7) (N := 6) hx hK hA hH (by decide) rfl rfl (by decide) (by decide) (by decide) (Nat.le_of_ble_eq_true rfl) (Nat.le_of_ble_eq_true rfl) (iz_dq hdt (j := 8) rfl) (fun H hH => ?_)
  refine W.widen (k := 2) (n := 12) (Nat.le_of_ble_eq_true rfl) (Nat.le_of_ble_eq_true rfl) ?_
  refine ct_put (k := 5) (i := 2) (t := 7) (N := 8) hx hown hin hK hA hH fl_X6_15 ⟨RX6, TX6, 8, rfl, rfl⟩ (by decide) (by decide) rfl (by decide) rfl rfl ⟨(.array .int), by decide +kernel, rfl⟩ (iz_dq hdt (j := 9) rfl) (fun H locs hH => ?_)
  refine lv_aload_n hx rfl (iz_dq hdt (j := 10) rfl) rfl (lv_at hl 0 rfl) ?_
  refine lv_bipush (v := 64) hx rfl (iz_dq hdt (j := 11) rfl) (by decide) ?_
  refine ct_nwI (n := 8) (N := 64) hx hK hA hH (by decide) rfl rfl (by decide) (by decide) (by decide) (Nat.le_of_ble_eq_true rfl) (Nat.le_of_ble_eq_true rfl) (iz_dq hdt (j := 12) rfl) (fun H hH => ?_)
  refine W.widen (k := 3) (n := 76) (Nat.le_of_ble_eq_true rfl) (Nat.le_of_ble_eq_true rfl) ?_
  refine ct_put (k := 5) (i := 4) (t := 8) (N := 8) hx hown hin hK hA hH fl_X6_18 ⟨RX6, TX6, 8, rfl, rfl⟩ (by decide) (by decide) rfl (by decide) rfl rfl ⟨(.array .int), by decide +kernel, rfl⟩ (iz_dq hdt (j := 13) rfl) (fun H locs hH => ?_)
  refine lv_aload_n hx rfl (iz_dq hdt (j := 14) rfl) rfl (lv_at hl 0 rfl) ?_
  refine lv_bipush (v := 64) hx rfl (iz_dq hdt (j := 15) rfl) (by decide) ?_
  refine ct_nwI (n := 9) (N := 64) hx hK hA hH (by decide) rfl rfl (by decide) (by decide) (by decide) (Nat.le_of_ble_eq_true rfl) (Nat.le_of_ble_eq_true rfl) (iz_dq hdt (j := 16) rfl) (fun H hH => ?_)
  refine W.widen (k := 4) (n := 140) (Nat.le_of_ble_eq_true rfl) (Nat.le_of_ble_eq_true rfl) ?_
  refine ct_put (k := 5) (i := 5) (t := 9) (N := 8) hx hown hin hK hA hH fl_X6_21 ⟨RX6, TX6, 8, rfl, rfl⟩ (by decide) (by decide) rfl (by decide) rfl rfl ⟨(.array .int), by decide +kernel, rfl⟩ (iz_dq hdt (j := 17) rfl) (fun H locs hH => ?_)
  have hH := hH.same (r2 := (ct_rd 1 10)) (by decide +kernel)
  exact W.vret hx rfl B.returns (fun t ht hWm => ⟨rfl, ⟨by rw [ht]; exact hH.2.1, by rw [ht]; exact hH.2.2⟩, hH.1.F ht⟩) hH.1.2.2 (iz_dq hdt (j := 18) rfl) (hlocks := B.notSynchronized)
set_option maxRecDepth 10000 in
set_option maxHeartbeats 4000000 in
theorem k_X7_init_10 {X : iz_X} {l : Launch} {b0 : Nat} (hXk : ∀ k, k < 121 → X.1 k = b0 + k) : ct_M X l b0 1 3 120 yX7_init cX7_init 1 [.ref (X.1 10)] (ct_rd 2 10) ct_S0 11 (ct_rd 2 14) (ct_fl ct_S0 13 100 10) 14 := by
  refine Met.ofW (cc := cX7_init) (maxL := 1) (ret := none) (by decide) rfl ?_
  intro p e s m args below meth c s1 B hml hv
  obtain ⟨rfl, hK, hsz, hP⟩ := hv
  have hx := B.exec
  have hdt : ∀ q ∈ tX7_init, decode c.code q.1 = .ok q.2 := by rw [B.bytes]; exact dX7_init
  have hown : s.vm.findClass RX7 = some m.cls := findClass_of_methodNamed B.named
  have hin : meth.name = "<init>" := (name_of_methodNamed B.named B.method).1
  have hA : ct_A X b0 (fun q => b0 ≤ q) := ⟨hXk, fun _ h => h⟩
  have hH : ct_H X b0 (fun q => b0 ≤ q) (ct_rd 2 10) ct_S0 11 s.heap s.heap [] := ⟨va_S.rf, hsz, hP⟩
  have hl := lv_entry [.ref (X.1 10)] (n := 1) (Nat.le_of_ble_eq_true rfl)
  rw [lg_entry_eq]
  generalize (lg_sl [.ref (X.1 10)] ++ List.replicate (1 - (lg_sl [.ref (X.1 10)]).length) Slot.unset).toArray = ls at hl ⊢
  have hl : lv_has ls 1 [(0, .ref (X.1 10))] := hl
  refine lv_aload_n hx rfl (iz_dq hdt (j := 0) rfl) rfl (lv_at hl 0 rfl) ?_
  refine W.objInit hx rfl hown (hK.1.use oi_X7_3 rfl) (hK.1.use oi_inst rfl) (hK.1.use oi_code rfl) rfl (by rw [hml]; exact hl.1) rfl (iz_dq hdt (j := 1) rfl) (Nat.le_of_ble_eq_true rfl) (Nat.le_of_ble_eq_true rfl) ?_
  refine W.eq (g2 := F0 m 4 ls []) rfl ?_
  refine lv_aload_n hx rfl (iz_dq hdt (j := 2) rfl) rfl (lv_at hl 0 rfl) ?_
  refine lv_iconst (v := 4) hx rfl (iz_dq hdt (j := 3) rfl) (by decide) ?_
  refine ct_nwI (n := 11) (N := 4) hx hK hA hH (by decide) rfl rfl (by decide) (by decide) (by decide) (Nat.le_of_ble_eq_true rfl) (Nat.le_of_ble_eq_true rfl) (iz_dq hdt (j := 4) rfl) (fun H hH => ?_)
  refine W.widen (k := 1) (n := 4) (Nat.le_of_ble_eq_true rfl) (Nat.le_of_ble_eq_true rfl) ?_
  refine ct_put (k := 10) (i := 0) (t := 11) (N := 3) hx hown hin hK hA hH fl_X7_9 ⟨RX7, TX7, 3, rfl, rfl⟩ (by decide) (by decide) rfl (by decide) rfl rfl ⟨(.array .int), by decide +kernel, rfl⟩ (iz_dq hdt (j := 5) rfl) (fun H locs hH => ?_)
  refine lv_aload_n hx rfl (iz_dq hdt (j := 6) rfl) rfl (lv_at hl 0 rfl) ?_
  refine lv_bipush (v := 16) hx rfl (iz_dq hdt (j := 7) rfl) (by decide) ?_
  refine ct_nwI (n := 12) (N := 16) hx hK hA hH (by decide) rfl rfl (by decide) (by decide) (by decide) (Nat.le_of_ble_eq_true rfl) (Nat.le_of_ble_eq_true rfl) (iz_dq hdt (j := 8) rfl) (fun H hH => ?_)
  refine W.widen (k := 2) (n := 20) (Nat.le_of_ble_eq_true rfl) (Nat.le_of_ble_eq_true rfl) ?_
  refine ct_put (k := 10) (i := 1) (t := 12) (N := 3) hx hown hin hK hA hH fl_X7_15 ⟨RX7, TX7, 3, rfl, rfl⟩ (by decide) (by decide) rfl (by decide) rfl rfl ⟨(.array .int), by decide +kernel, rfl⟩ (iz_dq hdt (j := 9) rfl) (fun H locs hH => ?_)
  refine lv_aload_n hx rfl (iz_dq hdt (j := 10) rfl) rfl (lv_at hl 0 rfl) ?_
  refine lv_bipush (v := 100) hx rfl (iz_dq hdt (j := 11) rfl) (by decide) ?_
  refine ct_nwI (n := 13) (N := 100) hx hK hA hH (by decide) rfl rfl (by decide) (by decide) (by decide) (Nat.le_of_ble_eq_true rfl) (Nat.le_of_ble_eq_true rfl) (iz_dq hdt (j := 12) rfl) (fun H hH => ?_)
  refine W.widen (k := 3) (n := 120) (Nat.le_of_ble_eq_true rfl) (Nat.le_of_ble_eq_true rfl) ?_
  refine ct_put (k := 10) (i := 2) (t := 13) (N := 3) hx hown hin hK hA hH fl_X7_18 ⟨RX7, TX7, 3, rfl, rfl⟩ (by decide) (by decide) rfl (by decide) rfl rfl ⟨(.array .int), by decide +kernel, rfl⟩ (iz_dq hdt (j := 13) rfl) (fun H locs hH => ?_)
  refine lv_aload_n hx rfl (iz_dq hdt (j := 14) rfl) rfl (lv_at hl 0 rfl) ?_
  refine ct_get (k := 10) (i := 2) (t := 13) (N := 3) hx hown hK hH fl_X7_18 (by decide) rfl (by decide) rfl (by decide +kernel) rfl (iz_dq hdt (j := 15) rfl) ?_
  refine lv_bipush (v := 10) hx rfl (iz_dq hdt (j := 16) rfl) (by decide) ?_
  refine ct_callS (As := [.ref (X.1 13), .int 10]) (rest := []) hx hown hml hl.1 hK hA hH (k_fill hXk (by decide) (by decide) rfl (by decide)) ml_X7_21 cw_J7_fill_53178 ci_J7_fill_53178 (Nat.le_of_ble_eq_true rfl) (Nat.le_of_ble_eq_true rfl) (Nat.le_of_ble_eq_true rfl) (Nat.le_of_ble_eq_true rfl) rfl (Nat.le_of_ble_eq_true rfl) (iz_dq hdt (j := 17) rfl) (fun H locs hH => ?_)
  refine W.widen (k := 3) (n := 120) (Nat.le_of_ble_eq_true rfl) (Nat.le_of_ble_eq_true rfl) ?_
  have hH := hH.same (r2 := (ct_rd 2 14)) (by decide +kernel)
  exact W.vret hx rfl B.returns (fun t ht hWm => ⟨rfl, ⟨by rw [ht]; exact hH.2.1, by rw [ht]; exact hH.2.2⟩, hH.1.F ht⟩) hH.1.2.2 (iz_dq hdt (j := 18) rfl) (hlocks := B.notSynchronized)
set_option maxRecDepth 10000 in
set_option maxHeartbeats 4000000 in
theorem k_X1_init_14 {X : iz_X} {l : Launch} {b0 : Nat} (hXk : ∀ k, k < 121 → X.1 k = b0 + k) : ct_M X l b0 1 5 292 yX1_init cX1_init 2 [.ref (X.1 14), .ref (X.1 10)] (ct_rd 3 14) (ct_fl ct_S0 13 100 10) 15 (ct_rd 3 20) (ct_fl ct_S0 13 100 10) 20 := by
  refine Met.ofW (cc := cX1_init) (maxL := 2) (ret := none) (by decide) rfl ?_
  intro p e s m args below meth c s1 B hml hv
  obtain ⟨rfl, hK, hsz, hP⟩ := hv
  have hx := B.exec
  have hdt : ∀ q ∈ tX1_init, decode c.code q.1 = .ok q.2 := by rw [B.bytes]; exact dX1_init
  have hown : s.vm.findClass RX1 = some m.cls := findClass_of_methodNamed B.named
  have hin : meth.name = "<init>" := (name_of_methodNamed B.named B.method).1
  have hA : ct_A X b0 (fun q => b0 ≤ q) := ⟨hXk, fun _ h => h⟩
  have hH : ct_H X b0 (fun q => b0 ≤ q) (ct_rd 3 14) (ct_fl ct_S0 13 100 10) 15 s.heap s.heap [] := ⟨va_S.rf, hsz, hP⟩
  have hl := lv_entry [.ref (X.1 14), .ref (X.1 10)] (n := 2) (Nat.le_of_ble_eq_true rfl)
  rw [lg_entry_eq]
  generalize (lg_sl [.ref (X.1 14), .ref (X.1 10)] ++ List.replicate (2 - (lg_sl [.ref (X.1 14), .ref (X.1 10)]).length) Slot.unset).toArray = ls at hl ⊢
  have hl : lv_has ls 2 [(0, .ref (X.1 14)), (1, .ref (X.1 10))] := hl
  refine lv_aload_n hx rfl (iz_dq hdt (j := 0) rfl) rfl (lv_at hl 0 rfl) ?_
  refine W.objInit hx rfl hown (hK.1.use oi_X1_3 rfl) (hK.1.use oi_inst rfl) (hK.1.use oi_code rfl) rfl (by rw [hml]; exact hl.1) rfl (iz_dq hdt (j := 1) rfl) (Nat.le_of_ble_eq_true rfl) (Nat.le_of_ble_eq_true rfl) ?_
  refine W.eq (g2 := F0 m 4 ls []) rfl ?_
  refine lv_aload_n hx rfl (iz_dq hdt (j := 2) rfl) rfl (lv_at hl 0 rfl) ?_
  refine lv_bipush (v := 60) hx rfl (iz_dq hdt (j := 3) rfl) (by decide) ?_
  refine ct_nwI (n := 15) (N := 60) hx hK hA hH (by decide) rfl rfl (by decide) (by decide) (by decide) (Nat.le_of_ble_eq_true rfl) (Nat.le_of_ble_eq_true rfl) (iz_dq hdt (j := 4) rfl) (fun H hH => ?_)
  refine W.widen (k := 1) (n := 60) (Nat.le_of_ble_eq_true rfl) (Nat.le_of_ble_eq_true rfl) ?_
  refine ct_put (k := 14) (i := 1) (t := 15) (N := 13) hx hown hin hK hA hH fl_X1_9 ⟨RX1, TX1, 13, rfl, rfl⟩ (by decide) (by decide) rfl (by decide) rfl rfl ⟨(.array .int), by decide +kernel, rfl⟩ (iz_dq hdt (j := 5) rfl) (fun H locs hH => ?_)
  refine lv_aload_n hx rfl (iz_dq hdt (j := 6) rfl) rfl (lv_at hl 0 rfl) ?_
  refine lv_bipush (v := 60) hx rfl (iz_dq hdt (j := 7) rfl) (by decide) ?_
  refine ct_nwI (n := 16) (N := 60) hx hK hA hH (by decide) rfl rfl (by decide) (by decide) (by decide) (Nat.le_of_ble_eq_true rfl) (Nat.le_of_ble_eq_true rfl) (iz_dq hdt (j := 8) rfl) (fun H hH => ?_)
  refine W.widen (k := 2) (n := 120) (Nat.le_of_ble_eq_true rfl) (Nat.le_of_ble_eq_true rfl) ?_
  refine ct_put (k := 14) (i := 2) (t := 16) (N := 13) hx hown hin hK hA hH fl_X1_15 ⟨RX1, TX1, 13, rfl, rfl⟩ (by decide) (by decide) rfl (by decide) rfl rfl ⟨(.array .int), by decide +kernel, rfl⟩ (iz_dq hdt (j := 9) rfl) (fun H locs hH => ?_)
  refine lv_aload_n hx rfl (iz_dq hdt (j := 10) rfl) rfl (lv_at hl 0 rfl) ?_
  refine lv_bipush (v := 60) hx rfl (iz_dq hdt (j := 11) rfl) (by decide) ?_
  refine ct_nwI (n := 17) (N := 60) hx hK hA hH (by decide) rfl rfl (by decide) (by decide) (by decide) (Nat.le_of_ble_eq_true rfl) (Nat.le_of_ble_eq_true rfl) (iz_dq hdt (j := 12) rfl) (fun H hH => ?_)
  refine W.widen (k := 3) (n := 180) (Nat.le_of_ble_eq_true rfl) (Nat.le_of_ble_eq_true rfl) ?_
  refine ct_put (k := 14) (i := 3) (t := 17) (N := 13) hx hown hin hK hA hH fl_X1_18 ⟨RX1, TX1, 13, rfl, rfl⟩ (by decide) (by decide) rfl (by decide) rfl rfl ⟨(.array .int), by decide +kernel, rfl⟩ (iz_dq hdt (j := 13) rfl) (fun H locs hH => ?_)
  refine lv_aload_n hx rfl (iz_dq hdt (j := 14) rfl) rfl (lv_at hl 0 rfl) ?_
  refine lv_bipush (v := 16) hx rfl (iz_dq hdt (j := 15) rfl) (by decide) ?_
  refine ct_nwI (n := 18) (N := 16) hx hK hA hH (by decide) rfl rfl (by decide) (by decide) (by decide) (Nat.le_of_ble_eq_true rfl) (Nat.le_of_ble_eq_true rfl) (iz_dq hdt (j := 16) rfl) (fun H hH => ?_)
  refine W.widen (k := 4) (n := 196) (Nat.le_of_ble_eq_true rfl) (Nat.le_of_ble_eq_true rfl) ?_
  refine ct_put (k := 14) (i := 4) (t := 18) (N := 13) hx hown hin hK hA hH fl_X1_21 ⟨RX1, TX1, 13, rfl, rfl⟩ (by decide) (by decide) rfl (by decide) rfl rfl ⟨(.array .int), by decide +kernel, rfl⟩ (iz_dq hdt (j := 17) rfl) (fun H locs hH => ?_)
  refine lv_aload_n hx rfl (iz_dq hdt (j := 18) rfl) rfl (lv_at hl 0 rfl) ?_
  refine lv_bipush (v := 96) hx rfl (iz_dq hdt (j := 19) rfl) (by decide) ?_
  refine ct_nwI (n := 19) (N := 96) hx hK hA hH (by decide) rfl rfl (by decide) (by decide) (by decide) (Nat.le_of_ble_eq_true rfl) (Nat.le_of_ble_eq_true rfl) (iz_dq hdt (j := 20) rfl) (fun H hH => ?_)
  refine W.widen (k := 5) (n := 292) (Nat.le_of_ble_eq_true rfl) (Nat.le_of_ble_eq_true rfl) ?_
  refine ct_put (k := 14) (i := 12) (t := 19) (N := 13) hx hown hin hK hA hH fl_X1_24 ⟨RX1, TX1, 13, rfl, rfl⟩ (by decide) (by decide) rfl (by decide) rfl rfl ⟨(.array .int), by decide +kernel, rfl⟩ (iz_dq hdt (j := 21) rfl) (fun H locs hH => ?_)
  refine lv_aload_n hx rfl (iz_dq hdt (j := 22) rfl) rfl (lv_at hl 0 rfl) ?_
  refine lv_aload_n hx rfl (iz_dq hdt (j := 23) rfl) rfl (lv_at hl 1 rfl) ?_
  refine ct_put (k := 14) (i := 11) (t := 10) (N := 13) hx hown hin hK hA hH fl_X1_27 ⟨RX1, TX1, 13, rfl, rfl⟩ (by decide) (by decide) rfl (by decide) rfl rfl ⟨(.object "IceHouse$Shelter"), by decide +kernel, rfl⟩ (iz_dq hdt (j := 24) rfl) (fun H locs hH => ?_)
  have hH := hH.same (r2 := (ct_rd 3 20)) (by decide +kernel)
  exact W.vret hx rfl B.returns (fun t ht hWm => ⟨rfl, ⟨by rw [ht]; exact hH.2.1, by rw [ht]; exact hH.2.2⟩, hH.1.F ht⟩) hH.1.2.2 (iz_dq hdt (j := 25) rfl) (hlocks := B.notSynchronized)
set_option maxRecDepth 10000 in
set_option maxHeartbeats 4000000 in
theorem k_X1_init_20 {X : iz_X} {l : Launch} {b0 : Nat} (hXk : ∀ k, k < 121 → X.1 k = b0 + k) : ct_M X l b0 1 5 292 yX1_init cX1_init 2 [.ref (X.1 20), .ref (X.1 10)] (ct_rd 4 20) (ct_fl ct_S0 13 100 10) 21 (ct_rd 4 26) (ct_fl ct_S0 13 100 10) 26 := by
  refine Met.ofW (cc := cX1_init) (maxL := 2) (ret := none) (by decide) rfl ?_
  intro p e s m args below meth c s1 B hml hv
  obtain ⟨rfl, hK, hsz, hP⟩ := hv
  have hx := B.exec
  have hdt : ∀ q ∈ tX1_init, decode c.code q.1 = .ok q.2 := by rw [B.bytes]; exact dX1_init
  have hown : s.vm.findClass RX1 = some m.cls := findClass_of_methodNamed B.named
  have hin : meth.name = "<init>" := (name_of_methodNamed B.named B.method).1
  have hA : ct_A X b0 (fun q => b0 ≤ q) := ⟨hXk, fun _ h => h⟩
  have hH : ct_H X b0 (fun q => b0 ≤ q) (ct_rd 4 20) (ct_fl ct_S0 13 100 10) 21 s.heap s.heap [] := ⟨va_S.rf, hsz, hP⟩
  have hl := lv_entry [.ref (X.1 20), .ref (X.1 10)] (n := 2) (Nat.le_of_ble_eq_true rfl)
  rw [lg_entry_eq]
  generalize (lg_sl [.ref (X.1 20), .ref (X.1 10)] ++ List.replicate (2 - (lg_sl [.ref (X.1 20), .ref (X.1 10)]).length) Slot.unset).toArray = ls at hl ⊢
  have hl : lv_has ls 2 [(0, .ref (X.1 20)), (1, .ref (X.1 10))] := hl
  refine lv_aload_n hx rfl (iz_dq hdt (j := 0) rfl) rfl (lv_at hl 0 rfl) ?_
  refine W.objInit hx rfl hown (hK.1.use oi_X1_3 rfl) (hK.1.use oi_inst rfl) (hK.1.use oi_code rfl) rfl (by rw [hml]; exact hl.1) rfl (iz_dq hdt (j := 1) rfl) (Nat.le_of_ble_eq_true rfl) (Nat.le_of_ble_eq_true rfl) ?_
  refine W.eq (g2 := F0 m 4 ls []) rfl ?_
  refine lv_aload_n hx rfl (iz_dq hdt (j := 2) rfl) rfl (lv_at hl 0 rfl) ?_
  refine lv_bipush (v := 60) hx rfl (iz_dq hdt (j := 3) rfl) (by decide) ?_
  refine ct_nwI (n := 21) (N := 60) hx hK hA hH (by decide) rfl rfl (by decide) (by decide) (by decide) (Nat.le_of_ble_eq_true rfl) (Nat.le_of_ble_eq_true rfl) (iz_dq hdt (j := 4) rfl) (fun H hH => ?_)
  refine W.widen (k := 1) (n := 60) (Nat.le_of_ble_eq_true rfl) (Nat.le_of_ble_eq_true rfl) ?_
  refine ct_put (k := 20) (i := 1) (t := 21) (N := 13) hx hown hin hK hA hH fl_X1_9 ⟨RX1, TX1, 13, rfl, rfl⟩ (by decide) (by decide) rfl (by decide) rfl rfl ⟨(.array .int), by decide +kernel, rfl⟩ (iz_dq hdt (j := 5) rfl) (fun H locs hH => ?_)
  refine lv_aload_n hx rfl (iz_dq hdt (j := 6) rfl) rfl (lv_at hl 0 rfl) ?_
  refine lv_bipush (v := 60) hx rfl (iz_dq hdt (j := 7) rfl) (by decide) ?_
  refine ct_nwI (n := 22) (N := 60) hx hK hA hH (by decide) rfl rfl (by decide) (by decide) (by decide) (Nat.le_of_ble_eq_true rfl) (Nat.le_of_ble_eq_true rfl) (iz_dq hdt (j := 8) rfl) (fun H hH => ?_)
  refine W.widen (k := 2) (n := 120) (Nat.le_of_ble_eq_true rfl) (Nat.le_of_ble_eq_true rfl) ?_
  refine ct_put (k := 20) (i := 2) (t := 22) (N := 13) hx hown hin hK hA hH fl_X1_15 ⟨RX1, TX1, 13, rfl, rfl⟩ (by decide) (by decide) rfl (by decide) rfl rfl ⟨(.array .int), by decide +kernel, rfl⟩ (iz_dq hdt (j := 9) rfl) (fun H locs hH => ?_)
  refine lv_aload_n hx rfl (iz_dq hdt (j := 10) rfl) rfl (lv_at hl 0 rfl) ?_
  refine lv_bipush (v := 60) hx rfl (iz_dq hdt (j := 11) rfl) (by decide) ?_
  refine ct_nwI (n := 23) (N := 60) hx hK hA hH (by decide) rfl rfl (by decide) (by decide) (by decide) (Nat.le_of_ble_eq_true rfl) (Nat.le_of_ble_eq_true rfl) (iz_dq hdt (j := 12) rfl) (fun H hH => ?_)
  refine W.widen (k := 3) (n := 180) (Nat.le_of_ble_eq_true rfl) (Nat.le_of_ble_eq_true rfl) ?_
  refine ct_put (k := 20) (i := 3) (t := 23) (N := 13) hx hown hin hK hA hH fl_X1_18 ⟨RX1, TX1, 13, rfl, rfl⟩ (by decide) (by decide) rfl (by decide) rfl rfl ⟨(.array .int), by decide +kernel, rfl⟩ (iz_dq hdt (j := 13) rfl) (fun H locs hH => ?_)
  refine lv_aload_n hx rfl (iz_dq hdt (j := 14) rfl) rfl (lv_at hl 0 rfl) ?_
  refine lv_bipush (v := 16) hx rfl (iz_dq hdt (j := 15) rfl) (by decide) ?_
  refine ct_nwI (n := 24) (N := 16) hx hK hA hH (by decide) rfl rfl (by decide) (by decide) (by decide) (Nat.le_of_ble_eq_true rfl) (Nat.le_of_ble_eq_true rfl) (iz_dq hdt (j := 16) rfl) (fun H hH => ?_)
  refine W.widen (k := 4) (n := 196) (Nat.le_of_ble_eq_true rfl) (Nat.le_of_ble_eq_true rfl) ?_
  refine ct_put (k := 20) (i := 4) (t := 24) (N := 13) hx hown hin hK hA hH fl_X1_21 ⟨RX1, TX1, 13, rfl, rfl⟩ (by decide) (by decide) rfl (by decide) rfl rfl ⟨(.array .int), by decide +kernel, rfl⟩ (iz_dq hdt (j := 17) rfl) (fun H locs hH => ?_)
  refine lv_aload_n hx rfl (iz_dq hdt (j := 18) rfl) rfl (lv_at hl 0 rfl) ?_
  refine lv_bipush (v := 96) hx rfl (iz_dq hdt (j := 19) rfl) (by decide) ?_
  refine ct_nwI (n := 25) (N := 96) hx hK hA hH (by decide) rfl rfl (by decide) (by decide) (by decide) (Nat.le_of_ble_eq_true rfl) (Nat.le_of_ble_eq_true rfl) (iz_dq hdt (j := 20) rfl) (fun H hH => ?_)
  refine W.widen (k := 5) (n := 292) (Nat.le_of_ble_eq_true rfl) (Nat.le_of_ble_eq_true rfl) ?_
  refine ct_put (k := 20) (i := 12) (t := 25) (N := 13) hx hown hin hK hA hH fl_X1_24 ⟨RX1, TX1, 13, rfl, rfl⟩ (by decide) (by decide) rfl (by decide) rfl rfl ⟨(.array .int), by decide +kernel, rfl⟩ (iz_dq hdt (j := 21) rfl) (fun H locs hH => ?_)
  refine lv_aload_n hx rfl (iz_dq hdt (j := 22) rfl) rfl (lv_at hl 0 rfl) ?_
  refine lv_aload_n hx rfl (iz_dq hdt (j := 23) rfl) rfl (lv_at hl 1 rfl) ?_
  refine ct_put (k := 20) (i := 11) (t := 10) (N := 13) hx hown hin hK hA hH fl_X1_27 ⟨RX1, TX1, 13, rfl, rfl⟩ (by decide) (by decide) rfl (by decide) rfl rfl ⟨(.object "IceHouse$Shelter"), by decide +kernel, rfl⟩ (iz_dq hdt (j := 24) rfl) (fun H locs hH => ?_)
  have hH := hH.same (r2 := (ct_rd 4 26)) (by decide +kernel)
  exact W.vret hx rfl B.returns (fun t ht hWm => ⟨rfl, ⟨by rw [ht]; exact hH.2.1, by rw [ht]; exact hH.2.2⟩, hH.1.F ht⟩) hH.1.2.2 (iz_dq hdt (j := 25) rfl) (hlocks := B.notSynchronized)
set_option maxRecDepth 10000 in
set_option maxHeartbeats 4000000 in
theorem k_X0_init_26 {X : iz_X} {l : Launch} {b0 : Nat} (hXk : ∀ k, k < 121 → X.1 k = b0 + k) : ct_M X l b0 1 12 151 yX0_init cX0_init 1 [.ref (X.1 26)] (ct_rd 5 26) (ct_fl ct_S0 13 100 10) 27 (ct_rd 5 39) (ct_fl ct_S0 13 100 10) 39 := by
  refine Met.ofW (cc := cX0_init) (maxL := 1) (ret := none) (by decide) rfl ?_
  intro p e s m args below meth c s1 B hml hv
  obtain ⟨rfl, hK, hsz, hP⟩ := hv
  have hx := B.exec
  have hdt : ∀ q ∈ tX0_init, decode c.code q.1 = .ok q.2 := by rw [B.bytes]; exact dX0_init
  have hown : s.vm.findClass RX0 = some m.cls := findClass_of_methodNamed B.named
  have hin : meth.name = "<init>" := (name_of_methodNamed B.named B.method).1
  have hA : ct_A X b0 (fun q => b0 ≤ q) := ⟨hXk, fun _ h => h⟩
  have hH : ct_H X b0 (fun q => b0 ≤ q) (ct_rd 5 26) (ct_fl ct_S0 13 100 10) 27 s.heap s.heap [] := ⟨va_S.rf, hsz, hP⟩
  have hl := lv_entry [.ref (X.1 26)] (n := 1) (Nat.le_of_ble_eq_true rfl)
  rw [lg_entry_eq]
  generalize (lg_sl [.ref (X.1 26)] ++ List.replicate (1 - (lg_sl [.ref (X.1 26)]).length) Slot.unset).toArray = ls at hl ⊢
  have hl : lv_has ls 1 [(0, .ref (X.1 26))] := hl
  refine lv_aload_n hx rfl (iz_dq hdt (j := 0) rfl) rfl (lv_at hl 0 rfl) ?_
  refine W.objInit hx rfl hown (hK.1.use oi_X0_3 rfl) (hK.1.use oi_inst rfl) (hK.1.use oi_code rfl) rfl (by rw [hml]; exact hl.1) rfl (iz_dq hdt (j := 1) rfl) (Nat.le_of_ble_eq_true rfl) (Nat.le_of_ble_eq_true rfl) ?_
  refine W.eq (g2 := F0 m 4 ls []) rfl ?_
  refine lv_aload_n hx rfl (iz_dq hdt (j := 2) rfl) rfl (lv_at hl 0 rfl) ?_
  refine lv_iconst (v := 4) hx rfl (iz_dq hdt (j := 3) rfl) (by decide) ?_
  refine ct_nwI (n := 27) (N := 4) hx hK hA hH (by decide) rfl rfl (by decide) (by decide) (by decide) (Nat.le_of_ble_eq_true rfl) (Nat.le_of_ble_eq_true rfl) (iz_dq hdt (j := 4) rfl) (fun H hH => ?_)
  refine W.widen (k := 1) (n := 4) (Nat.le_of_ble_eq_true rfl) (Nat.le_of_ble_eq_true rfl) ?_
  refine ct_put (k := 26) (i := 1) (t := 27) (N := 7) hx hown hin hK hA hH fl_X0_9 ⟨RX0, TX0, 7, rfl, rfl⟩ (by decide) (by decide) rfl (by decide) rfl rfl ⟨(.array .int), by decide +kernel, rfl⟩ (iz_dq hdt (j := 5) rfl) (fun H locs hH => ?_)
  refine lv_aload_n hx rfl (iz_dq hdt (j := 6) rfl) rfl (lv_at hl 0 rfl) ?_
  refine lv_iconst (v := 4) hx rfl (iz_dq hdt (j := 7) rfl) (by decide) ?_
  refine lv_bipush (v := 11) hx rfl (iz_dq hdt (j := 8) rfl) (by decide) ?_
  refine ct_mna (n := 28) (N := 4) (M := 11) hx hown hK hA hH cl_X0_15 (by decide) rfl (by decide +kernel) (by intro j9 hj9; first | rfl | exact if_neg (by omega)) (by decide) (by decide) (by decide) (by decide) (by decide) (by decide) (Nat.le_of_ble_eq_true rfl) (Nat.le_of_ble_eq_true rfl) (iz_dq hdt (j := 9) rfl) (fun H hH => ?_)
  refine W.widen (k := 6) (n := 52) (Nat.le_of_ble_eq_true rfl) (Nat.le_of_ble_eq_true rfl) ?_
  refine ct_put (k := 26) (i := 4) (t := 28) (N := 7) hx hown hin hK hA hH fl_X0_17 ⟨RX0, TX0, 7, rfl, rfl⟩ (by decide) (by decide) rfl (by decide) rfl rfl ⟨(.array (.array .int)), by decide +kernel, rfl⟩ (iz_dq hdt (j := 10) rfl) (fun H locs hH => ?_)
  refine lv_aload_n hx rfl (iz_dq hdt (j := 11) rfl) rfl (lv_at hl 0 rfl) ?_
  refine lv_iconst (v := 4) hx rfl (iz_dq hdt (j := 12) rfl) (by decide) ?_
  refine lv_bipush (v := 21) hx rfl (iz_dq hdt (j := 13) rfl) (by decide) ?_
  refine ct_mna (n := 33) (N := 4) (M := 21) hx hown hK hA hH cl_X0_15 (by decide) rfl (by decide +kernel) (by intro j9 hj9; first | rfl | exact if_neg (by omega)) (by decide) (by decide) (by decide) (by decide) (by decide) (by decide) (Nat.le_of_ble_eq_true rfl) (Nat.le_of_ble_eq_true rfl) (iz_dq hdt (j := 14) rfl) (fun H hH => ?_)
  refine W.widen (k := 11) (n := 140) (Nat.le_of_ble_eq_true rfl) (Nat.le_of_ble_eq_true rfl) ?_
  refine ct_put (k := 26) (i := 5) (t := 33) (N := 7) hx hown hin hK hA hH fl_X0_20 ⟨RX0, TX0, 7, rfl, rfl⟩ (by decide) (by decide) rfl (by decide) rfl rfl ⟨(.array (.array .int)), by decide +kernel, rfl⟩ (iz_dq hdt (j := 15) rfl) (fun H locs hH => ?_)
  refine lv_aload_n hx rfl (iz_dq hdt (j := 16) rfl) rfl (lv_at hl 0 rfl) ?_
  refine lv_bipush (v := 11) hx rfl (iz_dq hdt (j := 17) rfl) (by decide) ?_
  refine ct_nwI (n := 38) (N := 11) hx hK hA hH (by decide) rfl rfl (by decide) (by decide) (by decide) (Nat.le_of_ble_eq_true rfl) (Nat.le_of_ble_eq_true rfl) (iz_dq hdt (j := 18) rfl) (fun H hH => ?_)
  refine W.widen (k := 12) (n := 151) (Nat.le_of_ble_eq_true rfl) (Nat.le_of_ble_eq_true rfl) ?_
  refine ct_put (k := 26) (i := 6) (t := 38) (N := 7) hx hown hin hK hA hH fl_X0_23 ⟨RX0, TX0, 7, rfl, rfl⟩ (by decide) (by decide) rfl (by decide) rfl rfl ⟨(.array .int), by decide +kernel, rfl⟩ (iz_dq hdt (j := 19) rfl) (fun H locs hH => ?_)
  have hH := hH.same (r2 := (ct_rd 5 39)) (by decide +kernel)
  exact W.vret hx rfl B.returns (fun t ht hWm => ⟨rfl, ⟨by rw [ht]; exact hH.2.1, by rw [ht]; exact hH.2.2⟩, hH.1.F ht⟩) hH.1.2.2 (iz_dq hdt (j := 20) rfl) (hlocks := B.notSynchronized)
set_option maxRecDepth 10000 in
set_option maxHeartbeats 4000000 in
theorem k_X3_init_39 {X : iz_X} {l : Launch} {b0 : Nat} (hXk : ∀ k, k < 121 → X.1 k = b0 + k) : ct_M X l b0 1 6 60 yX3_init cX3_init 2 [.ref (X.1 39), .ref (X.1 14)] (ct_rd 6 39) (ct_fl ct_S0 13 100 10) 40 (ct_rd 6 46) (ct_fl ct_S0 13 100 10) 46 := by
  refine Met.ofW (cc := cX3_init) (maxL := 2) (ret := none) (by decide) rfl ?_
  intro p e s m args below meth c s1 B hml hv
  obtain ⟨rfl, hK, hsz, hP⟩ := hv
  have hx := B.exec
  have hdt : ∀ q ∈ tX3_init, decode c.code q.1 = .ok q.2 := by rw [B.bytes]; exact dX3_init
  have hown : s.vm.findClass RX3 = some m.cls := findClass_of_methodNamed B.named
  have hin : meth.name = "<init>" := (name_of_methodNamed B.named B.method).1
  have hA : ct_A X b0 (fun q => b0 ≤ q) := ⟨hXk, fun _ h => h⟩
  have hH : ct_H X b0 (fun q => b0 ≤ q) (ct_rd 6 39) (ct_fl ct_S0 13 100 10) 40 s.heap s.heap [] := ⟨va_S.rf, hsz, hP⟩
  have hl := lv_entry [.ref (X.1 39), .ref (X.1 14)] (n := 2) (Nat.le_of_ble_eq_true rfl)
  rw [lg_entry_eq]
  generalize (lg_sl [.ref (X.1 39), .ref (X.1 14)] ++ List.replicate (2 - (lg_sl [.ref (X.1 39), .ref (X.1 14)]).length) Slot.unset).toArray = ls at hl ⊢
  have hl : lv_has ls 2 [(0, .ref (X.1 39)), (1, .ref (X.1 14))] := hl
  refine lv_aload_n hx rfl (iz_dq hdt (j := 0) rfl) rfl (lv_at hl 0 rfl) ?_
  refine W.objInit hx rfl hown (hK.1.use oi_X3_3 rfl) (hK.1.use oi_inst rfl) (hK.1.use oi_code rfl) rfl (by rw [hml]; exact hl.1) rfl (iz_dq hdt (j := 1) rfl) (Nat.le_of_ble_eq_true rfl) (Nat.le_of_ble_eq_true rfl) ?_
  refine W.eq (g2 := F0 m 4 ls []) rfl ?_
  refine lv_aload_n hx rfl (iz_dq hdt (j := 2) rfl) rfl (lv_at hl 0 rfl) ?_
  refine lv_bipush (v := 10) hx rfl (iz_dq hdt (j := 3) rfl) (by decide) ?_
  refine ct_nwI (n := 40) (N := 10) hx hK hA hH (by decide) rfl rfl (by decide) (by decide) (by decide) (Nat.le_of_ble_eq_true rfl) (Nat.le_of_ble_eq_true rfl) (iz_dq hdt (j := 4) rfl) (fun H hH => ?_)
  refine W.widen (k := 1) (n := 10) (Nat.le_of_ble_eq_true rfl) (Nat.le_of_ble_eq_true rfl) ?_
  refine ct_put (k := 39) (i := 3) (t := 40) (N := 10) hx hown hin hK hA hH fl_X3_9 ⟨RX3, TX3, 10, rfl, rfl⟩ (by decide) (by decide) rfl (by decide) rfl rfl ⟨(.array .int), by decide +kernel, rfl⟩ (iz_dq hdt (j := 5) rfl) (fun H locs hH => ?_)
  refine lv_aload_n hx rfl (iz_dq hdt (j := 6) rfl) rfl (lv_at hl 0 rfl) ?_
  refine lv_bipush (v := 10) hx rfl (iz_dq hdt (j := 7) rfl) (by decide) ?_
  refine ct_nwI (n := 41) (N := 10) hx hK hA hH (by decide) rfl rfl (by decide) (by decide) (by decide) (Nat.le_of_ble_eq_true rfl) (Nat.le_of_ble_eq_true rfl) (iz_dq hdt (j := 8) rfl) (fun H hH => ?_)
  refine W.widen (k := 2) (n := 20) (Nat.le_of_ble_eq_true rfl) (Nat.le_of_ble_eq_true rfl) ?_
  refine ct_put (k := 39) (i := 5) (t := 41) (N := 10) hx hown hin hK hA hH fl_X3_15 ⟨RX3, TX3, 10, rfl, rfl⟩ (by decide) (by decide) rfl (by decide) rfl rfl ⟨(.array .int), by decide +kernel, rfl⟩ (iz_dq hdt (j := 9) rfl) (fun H locs hH => ?_)
  refine lv_aload_n hx rfl (iz_dq hdt (j := 10) rfl) rfl (lv_at hl 0 rfl) ?_
  refine lv_bipush (v := 10) hx rfl (iz_dq hdt (j := 11) rfl) (by decide) ?_
  refine ct_nwI (n := 42) (N := 10) hx hK hA hH (by decide) rfl rfl (by decide) (by decide) (by decide) (Nat.le_of_ble_eq_true rfl) (Nat.le_of_ble_eq_true rfl) (iz_dq hdt (j := 12) rfl) (fun H hH => ?_)
  refine W.widen (k := 3) (n := 30) (Nat.le_of_ble_eq_true rfl) (Nat.le_of_ble_eq_true rfl) ?_
  refine ct_put (k := 39) (i := 6) (t := 42) (N := 10) hx hown hin hK hA hH fl_X3_18 ⟨RX3, TX3, 10, rfl, rfl⟩ (by decide) (by decide) rfl (by decide) rfl rfl ⟨(.array .int), by decide +kernel, rfl⟩ (iz_dq hdt (j := 13) rfl) (fun H locs hH => ?_)
  refine lv_aload_n hx rfl (iz_dq hdt (j := 14) rfl) rfl (lv_at hl 0 rfl) ?_
  refine lv_bipush (v := 10) hx rfl (iz_dq hdt (j := 15) rfl) (by decide) ?_
  refine ct_nwI (n := 43) (N := 10) hx hK hA hH (by decide) rfl rfl (by decide) (by decide) (by decide) (Nat.le_of_ble_eq_true rfl) (Nat.le_of_ble_eq_true rfl) (iz_dq hdt (j := 16) rfl) (fun H hH => ?_)
  refine W.widen (k := 4) (n := 40) (Nat.le_of_ble_eq_true rfl) (Nat.le_of_ble_eq_true rfl) ?_
  refine ct_put (k := 39) (i := 7) (t := 43) (N := 10) hx hown hin hK hA hH fl_X3_21 ⟨RX3, TX3, 10, rfl, rfl⟩ (by decide) (by decide) rfl (by decide) rfl rfl ⟨(.array .int), by decide +kernel, rfl⟩ (iz_dq hdt (j := 17) rfl) (fun H locs hH => ?_)
  refine lv_aload_n hx rfl (iz_dq hdt (j := 18) rfl) rfl (lv_at hl 0 rfl) ?_
  refine lv_bipush (v := 10) hx rfl (iz_dq hdt (j := 19) rfl) (by decide) ?_
  refine ct_nwI (n := 44) (N := 10) hx hK hA hH (by decide) rfl rfl (by decide) (by decide) (by decide) (Nat.le_of_ble_eq_true rfl) (Nat.le_of_ble_eq_true rfl) (iz_dq hdt (j := 20) rfl) (fun H hH => ?_)
  refine W.widen (k := 5) (n := 50) (Nat.le_of_ble_eq_true rfl) (Nat.le_of_ble_eq_true rfl) ?_
  refine ct_put (k := 39) (i := 8) (t := 44) (N := 10) hx hown hin hK hA hH fl_X3_24 ⟨RX3, TX3, 10, rfl, rfl⟩ (by decide) (by decide) rfl (by decide) rfl rfl ⟨(.array .int), by decide +kernel, rfl⟩ (iz_dq hdt (j := 21) rfl) (fun H locs hH => ?_)
  refine lv_aload_n hx rfl (iz_dq hdt (j := 22) rfl) rfl (lv_at hl 0 rfl) ?_
  refine lv_bipush (v := 10) hx rfl (iz_dq hdt (j := 23) rfl) (by decide) ?_
  refine ct_nwZ (n := 45) (N := 10) hx hK hA hH (by decide) rfl rfl (by decide) (by decide) (by decide) (Nat.le_of_ble_eq_true rfl) (Nat.le_of_ble_eq_true rfl) (iz_dq hdt (j := 24) rfl) (fun H hH => ?_)
  refine W.widen (k := 6) (n := 60) (Nat.le_of_ble_eq_true rfl) (Nat.le_of_ble_eq_true rfl) ?_
  refine ct_put (k := 39) (i := 9) (t := 45) (N := 10) hx hown hin hK hA hH fl_X3_27 ⟨RX3, TX3, 10, rfl, rfl⟩ (by decide) (by decide) rfl (by decide) rfl rfl ⟨(.array .boolean), by decide +kernel, rfl⟩ (iz_dq hdt (j := 25) rfl) (fun H locs hH => ?_)
  refine lv_aload_n hx rfl (iz_dq hdt (j := 26) rfl) rfl (lv_at hl 0 rfl) ?_
  refine lv_aload_n hx rfl (iz_dq hdt (j := 27) rfl) rfl (lv_at hl 1 rfl) ?_
  refine ct_put (k := 39) (i := 4) (t := 14) (N := 10) hx hown hin hK hA hH fl_X3_31 ⟨RX3, TX3, 10, rfl, rfl⟩ (by decide) (by decide) rfl (by decide) rfl rfl ⟨(.object "IceHouse$House"), by decide +kernel, rfl⟩ (iz_dq hdt (j := 28) rfl) (fun H locs hH => ?_)
  have hH := hH.same (r2 := (ct_rd 6 46)) (by decide +kernel)
  exact W.vret hx rfl B.returns (fun t ht hWm => ⟨rfl, ⟨by rw [ht]; exact hH.2.1, by rw [ht]; exact hH.2.2⟩, hH.1.F ht⟩) hH.1.2.2 (iz_dq hdt (j := 29) rfl) (hlocks := B.notSynchronized)
set_option maxRecDepth 10000 in
set_option maxHeartbeats 4000000 in
theorem k_X5_init_46 {X : iz_X} {l : Launch} {b0 : Nat} (hXk : ∀ k, k < 121 → X.1 k = b0 + k) : ct_M X l b0 1 9 162 yX5_init cX5_init 3 [.ref (X.1 46), .ref (X.1 14), .ref (X.1 39)] (ct_rd 7 46) (ct_fl ct_S0 13 100 10) 47 (ct_rd 7 56) (ct_fl ct_S0 13 100 10) 56 := by
  refine Met.ofW (cc := cX5_init) (maxL := 3) (ret := none) (by decide) rfl ?_
  intro p e s m args below meth c s1 B hml hv
  obtain ⟨rfl, hK, hsz, hP⟩ := hv
  have hx := B.exec
  have hdt : ∀ q ∈ tX5_init, decode c.code q.1 = .ok q.2 := by rw [B.bytes]; exact dX5_init
  have hown : s.vm.findClass RX5 = some m.cls := findClass_of_methodNamed B.named
  have hin : meth.name = "<init>" := (name_of_methodNamed B.named B.method).1
  have hA : ct_A X b0 (fun q => b0 ≤ q) := ⟨hXk, fun _ h => h⟩
  have hH : ct_H X b0 (fun q => b0 ≤ q) (ct_rd 7 46) (ct_fl ct_S0 13 100 10) 47 s.heap s.heap [] := ⟨va_S.rf, hsz, hP⟩
  have hl := lv_entry [.ref (X.1 46), .ref (X.1 14), .ref (X.1 39)] (n := 3) (Nat.le_of_ble_eq_true rfl)
  rw [lg_entry_eq]
  generalize (lg_sl [.ref (X.1 46), .ref (X.1 14), .ref (X.1 39)] ++ List.replicate (3 - (lg_sl [.ref (X.1 46), .ref (X.1 14), .ref (X.1 39)]).length) Slot.unset).toArray = ls at hl ⊢
  have hl : lv_has ls 3 [(0, .ref (X.1 46)), (1, .ref (X.1 14)), (2, .ref (X.1 39))] := hl
  refine lv_aload_n hx rfl (iz_dq hdt (j := 0) rfl) rfl (lv_at hl 0 rfl) ?_
  refine W.objInit hx rfl hown (hK.1.use oi_X5_3 rfl) (hK.1.use oi_inst rfl) (hK.1.use oi_code rfl) rfl (by rw [hml]; exact hl.1) rfl (iz_dq hdt (j := 1) rfl) (Nat.le_of_ble_eq_true rfl) (Nat.le_of_ble_eq_true rfl) ?_
  refine W.eq (g2 := F0 m 4 ls []) rfl ?_
  refine lv_aload_n hx rfl (iz_dq hdt (j := 2) rfl) rfl (lv_at hl 0 rfl) ?_
  refine lv_iconst (v := 3) hx rfl (iz_dq hdt (j := 3) rfl) (by decide) ?_
  refine ct_nwI (n := 47) (N := 3) hx hK hA hH (by decide) rfl rfl (by decide) (by decide) (by decide) (Nat.le_of_ble_eq_true rfl) (Nat.le_of_ble_eq_true rfl) (iz_dq hdt (j := 4) rfl) (fun H hH => ?_)
  refine W.widen (k := 1) (n := 3) (Nat.le_of_ble_eq_true rfl) (Nat.le_of_ble_eq_true rfl) ?_
  refine ct_put (k := 46) (i := 0) (t := 47) (N := 15) hx hown hin hK hA hH fl_X5_9 ⟨RX5, TX5, 15, rfl, rfl⟩ (by decide) (by decide) rfl (by decide) rfl rfl ⟨(.array .int), by decide +kernel, rfl⟩ (iz_dq hdt (j := 5) rfl) (fun H locs hH => ?_)
  refine lv_aload_n hx rfl (iz_dq hdt (j := 6) rfl) rfl (lv_at hl 0 rfl) ?_
  refine lv_iconst (v := 4) hx rfl (iz_dq hdt (j := 7) rfl) (by decide) ?_
  refine ct_nwI (n := 48) (N := 4) hx hK hA hH (by decide) rfl rfl (by decide) (by decide) (by decide) (Nat.le_of_ble_eq_true rfl) (Nat.le_of_ble_eq_true rfl) (iz_dq hdt (j := 8) rfl) (fun H hH => ?_)
  refine W.widen (k := 2) (n := 7) (Nat.le_of_ble_eq_true rfl) (Nat.le_of_ble_eq_true rfl) ?_
  refine ct_put (k := 46) (i := 3) (t := 48) (N := 15) hx hown hin hK hA hH fl_X5_15 ⟨RX5, TX5, 15, rfl, rfl⟩ (by decide) (by decide) rfl (by decide) rfl rfl ⟨(.array .int), by decide +kernel, rfl⟩ (iz_dq hdt (j := 9) rfl) (fun H locs hH => ?_)
  refine lv_aload_n hx rfl (iz_dq hdt (j := 10) rfl) rfl (lv_at hl 0 rfl) ?_
  refine lv_iconst (v := 4) hx rfl (iz_dq hdt (j := 11) rfl) (by decide) ?_
  refine ct_nwI (n := 49) (N := 4) hx hK hA hH (by decide) rfl rfl (by decide) (by decide) (by decide) (Nat.le_of_ble_eq_true rfl) (Nat.le_of_ble_eq_true rfl) (iz_dq hdt (j := 12) rfl) (fun H hH => ?_)
  refine W.widen (k := 3) (n := 11) (Nat.le_of_ble_eq_true rfl) (Nat.le_of_ble_eq_true rfl) ?_
  refine ct_put (k := 46) (i := 4) (t := 49) (N := 15) hx hown hin hK hA hH fl_X5_18 ⟨RX5, TX5, 15, rfl, rfl⟩ (by decide) (by decide) rfl (by decide) rfl rfl ⟨(.array .int), by decide +kernel, rfl⟩ (iz_dq hdt (j := 13) rfl) (fun H locs hH => ?_)
  refine lv_aload_n hx rfl (iz_dq hdt (j := 14) rfl) rfl (lv_at hl 0 rfl) ?_
  refine lv_bipush (v := 120) hx rfl (iz_dq hdt (j := 15) rfl) (by decide) ?_
  refine ct_nwZ (n := 50) (N := 120) hx hK hA hH (by decide) rfl rfl (by decide) (by decide) (by decide) (Nat.le_of_ble_eq_true rfl) (Nat.le_of_ble_eq_true rfl) (iz_dq hdt (j := 16) rfl) (fun H hH => ?_)
  refine W.widen (k := 4) (n := 131) (Nat.le_of_ble_eq_true rfl) (Nat.le_of_ble_eq_true rfl) ?_
  refine ct_put (k := 46) (i := 8) (t := 50) (N := 15) hx hown hin hK hA hH fl_X5_21 ⟨RX5, TX5, 15, rfl, rfl⟩ (by decide) (by decide) rfl (by decide) rfl rfl ⟨(.array .boolean), by decide +kernel, rfl⟩ (iz_dq hdt (j := 17) rfl) (fun H locs hH => ?_)
  refine lv_aload_n hx rfl (iz_dq hdt (j := 18) rfl) rfl (lv_at hl 0 rfl) ?_
  refine lv_bipush (v := 10) hx rfl (iz_dq hdt (j := 19) rfl) (by decide) ?_
  refine ct_nwI (n := 51) (N := 10) hx hK hA hH (by decide) rfl rfl (by decide) (by decide) (by decide) (Nat.le_of_ble_eq_true rfl) (Nat.le_of_ble_eq_true rfl) (iz_dq hdt (j := 20) rfl) (fun H hH => ?_)
  refine W.widen (k := 5) (n := 141) (Nat.le_of_ble_eq_true rfl) (Nat.le_of_ble_eq_true rfl) ?_
  refine ct_put (k := 46) (i := 9) (t := 51) (N := 15) hx hown hin hK hA hH fl_X5_25 ⟨RX5, TX5, 15, rfl, rfl⟩ (by decide) (by decide) rfl (by decide) rfl rfl ⟨(.array .int), by decide +kernel, rfl⟩ (iz_dq hdt (j := 21) rfl) (fun H locs hH => ?_)
  refine lv_aload_n hx rfl (iz_dq hdt (j := 22) rfl) rfl (lv_at hl 0 rfl) ?_
  refine lv_bipush (v := 10) hx rfl (iz_dq hdt (j := 23) rfl) (by decide) ?_
  refine ct_nwZ (n := 52) (N := 10) hx hK hA hH (by decide) rfl rfl (by decide) (by decide) (by decide) (Nat.le_of_ble_eq_true rfl) (Nat.le_of_ble_eq_true rfl) (iz_dq hdt (j := 24) rfl) (fun H hH => ?_)
  refine W.widen (k := 6) (n := 151) (Nat.le_of_ble_eq_true rfl) (Nat.le_of_ble_eq_true rfl) ?_
  refine ct_put (k := 46) (i := 11) (t := 52) (N := 15) hx hown hin hK hA hH fl_X5_28 ⟨RX5, TX5, 15, rfl, rfl⟩ (by decide) (by decide) rfl (by decide) rfl rfl ⟨(.array .boolean), by decide +kernel, rfl⟩ (iz_dq hdt (j := 25) rfl) (fun H locs hH => ?_)
  refine lv_aload_n hx rfl (iz_dq hdt (j := 26) rfl) rfl (lv_at hl 0 rfl) ?_
  refine lv_iconst (v := 3) hx rfl (iz_dq hdt (j := 27) rfl) (by decide) ?_
  refine ct_nwI (n := 53) (N := 3) hx hK hA hH (by decide) rfl rfl (by decide) (by decide) (by decide) (Nat.le_of_ble_eq_true rfl) (Nat.le_of_ble_eq_true rfl) (iz_dq hdt (j := 28) rfl) (fun H hH => ?_)
  refine W.widen (k := 7) (n := 154) (Nat.le_of_ble_eq_true rfl) (Nat.le_of_ble_eq_true rfl) ?_
  refine ct_put (k := 46) (i := 12) (t := 53) (N := 15) hx hown hin hK hA hH fl_X5_31 ⟨RX5, TX5, 15, rfl, rfl⟩ (by decide) (by decide) rfl (by decide) rfl rfl ⟨(.array .int), by decide +kernel, rfl⟩ (iz_dq hdt (j := 29) rfl) (fun H locs hH => ?_)
  refine lv_aload_n hx rfl (iz_dq hdt (j := 30) rfl) rfl (lv_at hl 0 rfl) ?_
  refine lv_iconst (v := 4) hx rfl (iz_dq hdt (j := 31) rfl) (by decide) ?_
  refine ct_nwI (n := 54) (N := 4) hx hK hA hH (by decide) rfl rfl (by decide) (by decide) (by decide) (Nat.le_of_ble_eq_true rfl) (Nat.le_of_ble_eq_true rfl) (iz_dq hdt (j := 32) rfl) (fun H hH => ?_)
  refine W.widen (k := 8) (n := 158) (Nat.le_of_ble_eq_true rfl) (Nat.le_of_ble_eq_true rfl) ?_
  refine ct_put (k := 46) (i := 13) (t := 54) (N := 15) hx hown hin hK hA hH fl_X5_34 ⟨RX5, TX5, 15, rfl, rfl⟩ (by decide) (by decide) rfl (by decide) rfl rfl ⟨(.array .int), by decide +kernel, rfl⟩ (iz_dq hdt (j := 33) rfl) (fun H locs hH => ?_)
  refine lv_aload_n hx rfl (iz_dq hdt (j := 34) rfl) rfl (lv_at hl 0 rfl) ?_
  refine lv_iconst (v := 4) hx rfl (iz_dq hdt (j := 35) rfl) (by decide) ?_
  refine ct_nwI (n := 55) (N := 4) hx hK hA hH (by decide) rfl rfl (by decide) (by decide) (by decide) (Nat.le_of_ble_eq_true rfl) (Nat.le_of_ble_eq_true rfl) (iz_dq hdt (j := 36) rfl) (fun H hH => ?_)
  refine W.widen (k := 9) (n := 162) (Nat.le_of_ble_eq_true rfl) (Nat.le_of_ble_eq_true rfl) ?_
  refine ct_put (k := 46) (i := 14) (t := 55) (N := 15) hx hown hin hK hA hH fl_X5_37 ⟨RX5, TX5, 15, rfl, rfl⟩ (by decide) (by decide) rfl (by decide) rfl rfl ⟨(.array .int), by decide +kernel, rfl⟩ (iz_dq hdt (j := 37) rfl) (fun H locs hH => ?_)
  refine lv_aload_n hx rfl (iz_dq hdt (j := 38) rfl) rfl (lv_at hl 0 rfl) ?_
  refine lv_aload_n hx rfl (iz_dq hdt (j := 39) rfl) rfl (lv_at hl 1 rfl) ?_
  refine ct_put (k := 46) (i := 5) (t := 14) (N := 15) hx hown hin hK hA hH fl_X5_40 ⟨RX5, TX5, 15, rfl, rfl⟩ (by decide) (by decide) rfl (by decide) rfl rfl ⟨(.object "IceHouse$House"), by decide +kernel, rfl⟩ (iz_dq hdt (j := 40) rfl) (fun H locs hH => ?_)
  refine lv_aload_n hx rfl (iz_dq hdt (j := 41) rfl) rfl (lv_at hl 0 rfl) ?_
  refine lv_aload_n hx rfl (iz_dq hdt (j := 42) rfl) rfl (lv_at hl 2 rfl) ?_
  refine ct_put (k := 46) (i := 6) (t := 39) (N := 15) hx hown hin hK hA hH fl_X5_44 ⟨RX5, TX5, 15, rfl, rfl⟩ (by decide) (by decide) rfl (by decide) rfl rfl ⟨(.object "IceHouse$Orders"), by decide +kernel, rfl⟩ (iz_dq hdt (j := 43) rfl) (fun H locs hH => ?_)
  have hH := hH.same (r2 := (ct_rd 7 56)) (by decide +kernel)
  exact W.vret hx rfl B.returns (fun t ht hWm => ⟨rfl, ⟨by rw [ht]; exact hH.2.1, by rw [ht]; exact hH.2.2⟩, hH.1.F ht⟩) hH.1.2.2 (iz_dq hdt (j := 44) rfl) (hlocks := B.notSynchronized)
set_option maxRecDepth 10000 in
set_option maxHeartbeats 4000000 in
theorem k_X4_init_56 {X : iz_X} {l : Launch} {b0 : Nat} (hXk : ∀ k, k < 121 → X.1 k = b0 + k) : ct_M X l b0 1 23 1143 yX4_init cX4_init 1 [.ref (X.1 56)] (ct_rd 8 56) (ct_fl ct_S0 13 100 10) 57 (ct_rd 8 80) (ct_fl ct_S0 13 100 10) 80 := by
  refine Met.ofW (cc := cX4_init) (maxL := 1) (ret := none) (by decide) rfl ?_
  intro p e s m args below meth c s1 B hml hv
  obtain ⟨rfl, hK, hsz, hP⟩ := hv
  have hx := B.exec
  have hdt : ∀ q ∈ tX4_init, decode c.code q.1 = .ok q.2 := by rw [B.bytes]; exact dX4_init
  have hown : s.vm.findClass RX4 = some m.cls := findClass_of_methodNamed B.named
  have hin : meth.name = "<init>" := (name_of_methodNamed B.named B.method).1
  have hA : ct_A X b0 (fun q => b0 ≤ q) := ⟨hXk, fun _ h => h⟩
  have hH : ct_H X b0 (fun q => b0 ≤ q) (ct_rd 8 56) (ct_fl ct_S0 13 100 10) 57 s.heap s.heap [] := ⟨va_S.rf, hsz, hP⟩
  have hl := lv_entry [.ref (X.1 56)] (n := 1) (Nat.le_of_ble_eq_true rfl)
  rw [lg_entry_eq]
  generalize (lg_sl [.ref (X.1 56)] ++ List.replicate (1 - (lg_sl [.ref (X.1 56)]).length) Slot.unset).toArray = ls at hl ⊢
  have hl : lv_has ls 1 [(0, .ref (X.1 56))] := hl
  refine lv_aload_n hx rfl (iz_dq hdt (j := 0) rfl) rfl (lv_at hl 0 rfl) ?_
  refine W.objInit hx rfl hown (hK.1.use oi_X4_3 rfl) (hK.1.use oi_inst rfl) (hK.1.use oi_code rfl) rfl (by rw [hml]; exact hl.1) rfl (iz_dq hdt (j := 1) rfl) (Nat.le_of_ble_eq_true rfl) (Nat.le_of_ble_eq_true rfl) ?_
  refine W.eq (g2 := F0 m 4 ls []) rfl ?_
  refine lv_aload_n hx rfl (iz_dq hdt (j := 2) rfl) rfl (lv_at hl 0 rfl) ?_
  refine lv_bipush (v := 9) hx rfl (iz_dq hdt (j := 3) rfl) (by decide) ?_
  refine ct_nwI (n := 57) (N := 9) hx hK hA hH (by decide) rfl rfl (by decide) (by decide) (by decide) (Nat.le_of_ble_eq_true rfl) (Nat.le_of_ble_eq_true rfl) (iz_dq hdt (j := 4) rfl) (fun H hH => ?_)
  refine W.widen (k := 1) (n := 9) (Nat.le_of_ble_eq_true rfl) (Nat.le_of_ble_eq_true rfl) ?_
  refine ct_put (k := 56) (i := 1) (t := 57) (N := 6) hx hown hin hK hA hH fl_X4_9 ⟨RX4, TX4, 6, rfl, rfl⟩ (by decide) (by decide) rfl (by decide) rfl rfl ⟨(.array .int), by decide +kernel, rfl⟩ (iz_dq hdt (j := 5) rfl) (fun H locs hH => ?_)
  refine lv_aload_n hx rfl (iz_dq hdt (j := 6) rfl) rfl (lv_at hl 0 rfl) ?_
  refine lv_bipush (v := 9) hx rfl (iz_dq hdt (j := 7) rfl) (by decide) ?_
  refine ct_nwI (n := 58) (N := 9) hx hK hA hH (by decide) rfl rfl (by decide) (by decide) (by decide) (Nat.le_of_ble_eq_true rfl) (Nat.le_of_ble_eq_true rfl) (iz_dq hdt (j := 8) rfl) (fun H hH => ?_)
  refine W.widen (k := 2) (n := 18) (Nat.le_of_ble_eq_true rfl) (Nat.le_of_ble_eq_true rfl) ?_
  refine ct_put (k := 56) (i := 2) (t := 58) (N := 6) hx hown hin hK hA hH fl_X4_15 ⟨RX4, TX4, 6, rfl, rfl⟩ (by decide) (by decide) rfl (by decide) rfl rfl ⟨(.array .int), by decide +kernel, rfl⟩ (iz_dq hdt (j := 9) rfl) (fun H locs hH => ?_)
  refine lv_aload_n hx rfl (iz_dq hdt (j := 10) rfl) rfl (lv_at hl 0 rfl) ?_
  refine lv_bipush (v := 9) hx rfl (iz_dq hdt (j := 11) rfl) (by decide) ?_
  refine ct_nwI (n := 59) (N := 9) hx hK hA hH (by decide) rfl rfl (by decide) (by decide) (by decide) (Nat.le_of_ble_eq_true rfl) (Nat.le_of_ble_eq_true rfl) (iz_dq hdt (j := 12) rfl) (fun H hH => ?_)
  refine W.widen (k := 3) (n := 27) (Nat.le_of_ble_eq_true rfl) (Nat.le_of_ble_eq_true rfl) ?_
  refine ct_put (k := 56) (i := 3) (t := 59) (N := 6) hx hown hin hK hA hH fl_X4_18 ⟨RX4, TX4, 6, rfl, rfl⟩ (by decide) (by decide) rfl (by decide) rfl rfl ⟨(.array .int), by decide +kernel, rfl⟩ (iz_dq hdt (j := 13) rfl) (fun H locs hH => ?_)
  refine lv_aload_n hx rfl (iz_dq hdt (j := 14) rfl) rfl (lv_at hl 0 rfl) ?_
  refine lv_bipush (v := 9) hx rfl (iz_dq hdt (j := 15) rfl) (by decide) ?_
  refine lv_bipush (v := 61) hx rfl (iz_dq hdt (j := 16) rfl) (by decide) ?_
  refine ct_mna (n := 60) (N := 9) (M := 61) hx hown hK hA hH cl_X4_21 (by decide) rfl (by decide +kernel) (by intro j9 hj9; first | rfl | exact if_neg (by omega)) (by decide) (by decide) (by decide) (by decide) (by decide) (by decide) (Nat.le_of_ble_eq_true rfl) (Nat.le_of_ble_eq_true rfl) (iz_dq hdt (j := 17) rfl) (fun H hH => ?_)
  refine W.widen (k := 13) (n := 585) (Nat.le_of_ble_eq_true rfl) (Nat.le_of_ble_eq_true rfl) ?_
  refine ct_put (k := 56) (i := 4) (t := 60) (N := 6) hx hown hin hK hA hH fl_X4_23 ⟨RX4, TX4, 6, rfl, rfl⟩ (by decide) (by decide) rfl (by decide) rfl rfl ⟨(.array (.array .int)), by decide +kernel, rfl⟩ (iz_dq hdt (j := 18) rfl) (fun H locs hH => ?_)
  refine lv_aload_n hx rfl (iz_dq hdt (j := 19) rfl) rfl (lv_at hl 0 rfl) ?_
  refine lv_bipush (v := 9) hx rfl (iz_dq hdt (j := 20) rfl) (by decide) ?_
  refine lv_bipush (v := 61) hx rfl (iz_dq hdt (j := 21) rfl) (by decide) ?_
  refine ct_mna (n := 70) (N := 9) (M := 61) hx hown hK hA hH cl_X4_21 (by decide) rfl (by decide +kernel) (by intro j9 hj9; first | rfl | exact if_neg (by omega)) (by decide) (by decide) (by decide) (by decide) (by decide) (by decide) (Nat.le_of_ble_eq_true rfl) (Nat.le_of_ble_eq_true rfl) (iz_dq hdt (j := 22) rfl) (fun H hH => ?_)
  refine W.widen (k := 23) (n := 1143) (Nat.le_of_ble_eq_true rfl) (Nat.le_of_ble_eq_true rfl) ?_
  refine ct_put (k := 56) (i := 5) (t := 70) (N := 6) hx hown hin hK hA hH fl_X4_26 ⟨RX4, TX4, 6, rfl, rfl⟩ (by decide) (by decide) rfl (by decide) rfl rfl ⟨(.array (.array .int)), by decide +kernel, rfl⟩ (iz_dq hdt (j := 23) rfl) (fun H locs hH => ?_)
  have hH := hH.same (r2 := (ct_rd 8 80)) (by decide +kernel)
  exact W.vret hx rfl B.returns (fun t ht hWm => ⟨rfl, ⟨by rw [ht]; exact hH.2.1, by rw [ht]; exact hH.2.2⟩, hH.1.F ht⟩) hH.1.2.2 (iz_dq hdt (j := 24) rfl) (hlocks := B.notSynchronized)
set_option maxRecDepth 10000 in
set_option maxHeartbeats 4000000 in
theorem k_X8_init_80 {X : iz_X} {l : Launch} {b0 : Nat} (hXk : ∀ k, k < 121 → X.1 k = b0 + k) : ct_M X l b0 1 1 16 yX8_init cX8_init 1 [.ref (X.1 80)] (ct_rd 9 80) (ct_fl ct_S0 13 100 10) 81 (ct_rd 9 82) (ct_fl ct_S0 13 100 10) 82 := by
  refine Met.ofW (cc := cX8_init) (maxL := 1) (ret := none) (by decide) rfl ?_
  intro p e s m args below meth c s1 B hml hv
  obtain ⟨rfl, hK, hsz, hP⟩ := hv
  have hx := B.exec
  have hdt : ∀ q ∈ tX8_init, decode c.code q.1 = .ok q.2 := by rw [B.bytes]; exact dX8_init
  have hown : s.vm.findClass RX8 = some m.cls := findClass_of_methodNamed B.named
  have hin : meth.name = "<init>" := (name_of_methodNamed B.named B.method).1
  have hA : ct_A X b0 (fun q => b0 ≤ q) := ⟨hXk, fun _ h => h⟩
  have hH : ct_H X b0 (fun q => b0 ≤ q) (ct_rd 9 80) (ct_fl ct_S0 13 100 10) 81 s.heap s.heap [] := ⟨va_S.rf, hsz, hP⟩
  have hl := lv_entry [.ref (X.1 80)] (n := 1) (Nat.le_of_ble_eq_true rfl)
  rw [lg_entry_eq]
  generalize (lg_sl [.ref (X.1 80)] ++ List.replicate (1 - (lg_sl [.ref (X.1 80)]).length) Slot.unset).toArray = ls at hl ⊢
  have hl : lv_has ls 1 [(0, .ref (X.1 80))] := hl
  refine lv_aload_n hx rfl (iz_dq hdt (j := 0) rfl) rfl (lv_at hl 0 rfl) ?_
  refine W.objInit hx rfl hown (hK.1.use oi_X8_3 rfl) (hK.1.use oi_inst rfl) (hK.1.use oi_code rfl) rfl (by rw [hml]; exact hl.1) rfl (iz_dq hdt (j := 1) rfl) (Nat.le_of_ble_eq_true rfl) (Nat.le_of_ble_eq_true rfl) ?_
  refine W.eq (g2 := F0 m 4 ls []) rfl ?_
  refine lv_aload_n hx rfl (iz_dq hdt (j := 2) rfl) rfl (lv_at hl 0 rfl) ?_
  refine lv_bipush (v := 16) hx rfl (iz_dq hdt (j := 3) rfl) (by decide) ?_
  refine ct_nwI (n := 81) (N := 16) hx hK hA hH (by decide) rfl rfl (by decide) (by decide) (by decide) (Nat.le_of_ble_eq_true rfl) (Nat.le_of_ble_eq_true rfl) (iz_dq hdt (j := 4) rfl) (fun H hH => ?_)
  refine W.widen (k := 1) (n := 16) (Nat.le_of_ble_eq_true rfl) (Nat.le_of_ble_eq_true rfl) ?_
  refine ct_put (k := 80) (i := 1) (t := 81) (N := 2) hx hown hin hK hA hH fl_X8_9 ⟨RX8, TX8, 2, rfl, rfl⟩ (by decide) (by decide) rfl (by decide) rfl rfl ⟨(.array .int), by decide +kernel, rfl⟩ (iz_dq hdt (j := 5) rfl) (fun H locs hH => ?_)
  have hH := hH.same (r2 := (ct_rd 9 82)) (by decide +kernel)
  exact W.vret hx rfl B.returns (fun t ht hWm => ⟨rfl, ⟨by rw [ht]; exact hH.2.1, by rw [ht]; exact hH.2.2⟩, hH.1.F ht⟩) hH.1.2.2 (iz_dq hdt (j := 6) rfl) (hlocks := B.notSynchronized)
set_option maxRecDepth 10000 in
set_option maxHeartbeats 4000000 in
theorem k_X9_init_0 {X : iz_X} {l : Launch} {b0 : Nat} (hXk : ∀ k, k < 121 → X.1 k = b0 + k) : ct_M X l b0 2 82 2654 yX9_init cX9_init 1 [.ref (X.1 0)] (ct_rd 0 1) ct_S0 1 (ct_rd 11 83) (ct_fl ct_S0 13 100 10) 83 := by
  refine Met.ofW (cc := cX9_init) (maxL := 1) (ret := none) (by decide) rfl ?_
  intro p e s m args below meth c s1 B hml hv
  obtain ⟨rfl, hK, hsz, hP⟩ := hv
  have hx := B.exec
  have hdt : ∀ q ∈ tX9_init, decode c.code q.1 = .ok q.2 := by rw [B.bytes]; exact dX9_init
  have hown : s.vm.findClass RX9 = some m.cls := findClass_of_methodNamed B.named
  have hin : meth.name = "<init>" := (name_of_methodNamed B.named B.method).1
  have hA : ct_A X b0 (fun q => b0 ≤ q) := ⟨hXk, fun _ h => h⟩
  have hH : ct_H X b0 (fun q => b0 ≤ q) (ct_rd 0 1) ct_S0 1 s.heap s.heap [] := ⟨va_S.rf, hsz, hP⟩
  have hl := lv_entry [.ref (X.1 0)] (n := 1) (Nat.le_of_ble_eq_true rfl)
  rw [lg_entry_eq]
  generalize (lg_sl [.ref (X.1 0)] ++ List.replicate (1 - (lg_sl [.ref (X.1 0)]).length) Slot.unset).toArray = ls at hl ⊢
  have hl : lv_has ls 1 [(0, .ref (X.1 0))] := hl
  refine lv_aload_n hx rfl (iz_dq hdt (j := 0) rfl) rfl (lv_at hl 0 rfl) ?_
  refine W.objInit hx rfl hown (hK.1.use oi_X9_1 rfl) (hK.1.use oi_inst rfl) (hK.1.use oi_code rfl) rfl (by rw [hml]; exact hl.1) rfl (iz_dq hdt (j := 1) rfl) (Nat.le_of_ble_eq_true rfl) (Nat.le_of_ble_eq_true rfl) ?_
  refine W.eq (g2 := F0 m 4 ls []) rfl ?_
  refine lv_aload_n hx rfl (iz_dq hdt (j := 2) rfl) rfl (lv_at hl 0 rfl) ?_
  have hH := hH.same (r2 := (ct_rd 0 1)) (by decide +kernel)
  refine ct_new (n := 1) (N := 3) (ci := 2) hx hown hK hA hH rfl cl_X9_7 in_X2 ni_X2 (by decide) rfl (by decide +kernel) rfl rfl (Nat.le_of_ble_eq_true rfl) (Nat.le_of_ble_eq_true rfl) (iz_dq hdt (j := 3) rfl) (fun H hH => ?_)
  refine W.widen (k := 1) (n := 3) (Nat.le_of_ble_eq_true rfl) (Nat.le_of_ble_eq_true rfl) ?_
  refine lv_dup hx rfl (iz_dq hdt (j := 4) rfl) rfl ?_
  have hH := hH.same (r2 := (ct_rd 0 1)) (by decide +kernel)
  refine ct_callI (host := "IceHouse") (As := []) (rest := [.ref (X.1 1), .ref (X.1 0)]) (t := 1) hx hown hml hl.1 hK hA hH (k_X2_init_1 hXk) (Or.inr ml_X9_9) cw_X2_init im_X2_init rfl (Nat.le_of_ble_eq_true rfl) (Nat.le_of_ble_eq_true rfl) (Nat.le_of_ble_eq_true rfl) (Nat.le_of_ble_eq_true rfl) rfl (Nat.le_of_ble_eq_true rfl) (iz_dq hdt (j := 5) rfl) (fun H locs hH => ?_)
  refine W.widen (k := 4) (n := 195) (Nat.le_of_ble_eq_true rfl) (Nat.le_of_ble_eq_true rfl) ?_
  refine ct_put (k := 0) (i := 0) (t := 1) (N := 11) hx hown hin hK hA hH fl_X9_10 ⟨RX9, TX9, 11, rfl, rfl⟩ (by decide) (by decide) rfl (by decide) rfl rfl ⟨(.object "IceHouse$Lake"), by decide +kernel, rfl⟩ (iz_dq hdt (j := 6) rfl) (fun H locs hH => ?_)
  have hH := hH.same (r2 := (ct_rd 1 5)) (by decide +kernel)
  refine lv_aload_n hx rfl (iz_dq hdt (j := 7) rfl) rfl (lv_at hl 0 rfl) ?_
  have hH := hH.same (r2 := (ct_rd 1 5)) (by decide +kernel)
  refine ct_new (n := 5) (N := 8) (ci := 6) hx hown hK hA hH rfl cl_X9_16 in_X6 ni_X6 (by decide) rfl (by decide +kernel) rfl rfl (Nat.le_of_ble_eq_true rfl) (Nat.le_of_ble_eq_true rfl) (iz_dq hdt (j := 8) rfl) (fun H hH => ?_)
  refine W.widen (k := 5) (n := 203) (Nat.le_of_ble_eq_true rfl) (Nat.le_of_ble_eq_true rfl) ?_
  refine lv_dup hx rfl (iz_dq hdt (j := 9) rfl) rfl ?_
  have hH := hH.same (r2 := (ct_rd 1 5)) (by decide +kernel)
  refine ct_callI (host := "IceHouse") (As := []) (rest := [.ref (X.1 5), .ref (X.1 0)]) (t := 5) hx hown hml hl.1 hK hA hH (k_X6_init_5 hXk) (Or.inr ml_X9_18) cw_X6_init im_X6_init rfl (Nat.le_of_ble_eq_true rfl) (Nat.le_of_ble_eq_true rfl) (Nat.le_of_ble_eq_true rfl) (Nat.le_of_ble_eq_true rfl) rfl (Nat.le_of_ble_eq_true rfl) (iz_dq hdt (j := 10) rfl) (fun H locs hH => ?_)
  refine W.widen (k := 9) (n := 343) (Nat.le_of_ble_eq_true rfl) (Nat.le_of_ble_eq_true rfl) ?_
  refine ct_put (k := 0) (i := 1) (t := 5) (N := 11) hx hown hin hK hA hH fl_X9_19 ⟨RX9, TX9, 11, rfl, rfl⟩ (by decide) (by decide) rfl (by decide) rfl rfl ⟨(.object "IceHouse$Season"), by decide +kernel, rfl⟩ (iz_dq hdt (j := 11) rfl) (fun H locs hH => ?_)
  have hH := hH.same (r2 := (ct_rd 2 10)) (by decide +kernel)
  refine lv_aload_n hx rfl (iz_dq hdt (j := 12) rfl) rfl (lv_at hl 0 rfl) ?_
  have hH := hH.same (r2 := (ct_rd 2 10)) (by decide +kernel)
  refine ct_new (n := 10) (N := 3) (ci := 7) hx hown hK hA hH rfl cl_X9_23 in_X7 ni_X7 (by decide) rfl (by decide +kernel) rfl rfl (Nat.le_of_ble_eq_true rfl) (Nat.le_of_ble_eq_true rfl) (iz_dq hdt (j := 13) rfl) (fun H hH => ?_)
  refine W.widen (k := 10) (n := 346) (Nat.le_of_ble_eq_true rfl) (Nat.le_of_ble_eq_true rfl) ?_
  refine lv_dup hx rfl (iz_dq hdt (j := 14) rfl) rfl ?_
  have hH := hH.same (r2 := (ct_rd 2 10)) (by decide +kernel)
  refine ct_callI (host := "IceHouse") (As := []) (rest := [.ref (X.1 10), .ref (X.1 0)]) (t := 10) hx hown hml hl.1 hK hA hH (k_X7_init_10 hXk) (Or.inl ml_X9_25) cw_X7_init im_X7_init rfl (Nat.le_of_ble_eq_true rfl) (Nat.le_of_ble_eq_true rfl) (Nat.le_of_ble_eq_true rfl) (Nat.le_of_ble_eq_true rfl) rfl (Nat.le_of_ble_eq_true rfl) (iz_dq hdt (j := 15) rfl) (fun H locs hH => ?_)
  refine W.widen (k := 13) (n := 466) (Nat.le_of_ble_eq_true rfl) (Nat.le_of_ble_eq_true rfl) ?_
  refine ct_put (k := 0) (i := 2) (t := 10) (N := 11) hx hown hin hK hA hH fl_X9_26 ⟨RX9, TX9, 11, rfl, rfl⟩ (by decide) (by decide) rfl (by decide) rfl rfl ⟨(.object "IceHouse$Shelter"), by decide +kernel, rfl⟩ (iz_dq hdt (j := 16) rfl) (fun H locs hH => ?_)
  have hH := hH.same (r2 := (ct_rd 3 14)) (by decide +kernel)
  refine lv_aload_n hx rfl (iz_dq hdt (j := 17) rfl) rfl (lv_at hl 0 rfl) ?_
  have hH := hH.same (r2 := (ct_rd 3 14)) (by decide +kernel)
  refine ct_new (n := 14) (N := 13) (ci := 1) hx hown hK hA hH rfl cl_X9_30 in_X1 ni_X1 (by decide) rfl (by decide +kernel) rfl rfl (Nat.le_of_ble_eq_true rfl) (Nat.le_of_ble_eq_true rfl) (iz_dq hdt (j := 18) rfl) (fun H hH => ?_)
  refine W.widen (k := 14) (n := 479) (Nat.le_of_ble_eq_true rfl) (Nat.le_of_ble_eq_true rfl) ?_
  refine lv_dup hx rfl (iz_dq hdt (j := 19) rfl) rfl ?_
  refine lv_aload_n hx rfl (iz_dq hdt (j := 20) rfl) rfl (lv_at hl 0 rfl) ?_
  refine ct_get (k := 0) (i := 2) (t := 10) (N := 11) hx hown hK hH fl_X9_26 (by decide) rfl (by decide) rfl (by decide +kernel) rfl (iz_dq hdt (j := 21) rfl) ?_
  have hH := hH.same (r2 := (ct_rd 3 14)) (by decide +kernel)
  refine ct_callI (host := "IceHouse") (As := [.ref (X.1 10)]) (rest := [.ref (X.1 14), .ref (X.1 0)]) (t := 14) hx hown hml hl.1 hK hA hH (k_X1_init_14 hXk) (Or.inl ml_X9_32) cw_X1_init im_X1_init rfl (Nat.le_of_ble_eq_true rfl) (Nat.le_of_ble_eq_true rfl) (Nat.le_of_ble_eq_true rfl) (Nat.le_of_ble_eq_true rfl) rfl (Nat.le_of_ble_eq_true rfl) (iz_dq hdt (j := 22) rfl) (fun H locs hH => ?_)
  refine W.widen (k := 19) (n := 771) (Nat.le_of_ble_eq_true rfl) (Nat.le_of_ble_eq_true rfl) ?_
  refine ct_put (k := 0) (i := 3) (t := 14) (N := 11) hx hown hin hK hA hH fl_X9_35 ⟨RX9, TX9, 11, rfl, rfl⟩ (by decide) (by decide) rfl (by decide) rfl rfl ⟨(.object "IceHouse$House"), by decide +kernel, rfl⟩ (iz_dq hdt (j := 23) rfl) (fun H locs hH => ?_)
  have hH := hH.same (r2 := (ct_rd 4 20)) (by decide +kernel)
  refine lv_aload_n hx rfl (iz_dq hdt (j := 24) rfl) rfl (lv_at hl 0 rfl) ?_
  have hH := hH.same (r2 := (ct_rd 4 20)) (by decide +kernel)
  refine ct_new (n := 20) (N := 13) (ci := 1) hx hown hK hA hH rfl cl_X9_30 in_X1 ni_X1 (by decide) rfl (by decide +kernel) rfl rfl (Nat.le_of_ble_eq_true rfl) (Nat.le_of_ble_eq_true rfl) (iz_dq hdt (j := 25) rfl) (fun H hH => ?_)
  refine W.widen (k := 20) (n := 784) (Nat.le_of_ble_eq_true rfl) (Nat.le_of_ble_eq_true rfl) ?_
  refine lv_dup hx rfl (iz_dq hdt (j := 26) rfl) rfl ?_
  refine lv_aload_n hx rfl (iz_dq hdt (j := 27) rfl) rfl (lv_at hl 0 rfl) ?_
  refine ct_get (k := 0) (i := 2) (t := 10) (N := 11) hx hown hK hH fl_X9_26 (by decide) rfl (by decide) rfl (by decide +kernel) rfl (iz_dq hdt (j := 28) rfl) ?_
  have hH := hH.same (r2 := (ct_rd 4 20)) (by decide +kernel)
  refine ct_callI (host := "IceHouse") (As := [.ref (X.1 10)]) (rest := [.ref (X.1 20), .ref (X.1 0)]) (t := 20) hx hown hml hl.1 hK hA hH (k_X1_init_20 hXk) (Or.inl ml_X9_32) cw_X1_init im_X1_init rfl (Nat.le_of_ble_eq_true rfl) (Nat.le_of_ble_eq_true rfl) (Nat.le_of_ble_eq_true rfl) (Nat.le_of_ble_eq_true rfl) rfl (Nat.le_of_ble_eq_true rfl) (iz_dq hdt (j := 29) rfl) (fun H locs hH => ?_)
  refine W.widen (k := 25) (n := 1076) (Nat.le_of_ble_eq_true rfl) (Nat.le_of_ble_eq_true rfl) ?_
  refine ct_put (k := 0) (i := 4) (t := 20) (N := 11) hx hown hin hK hA hH fl_X9_39 ⟨RX9, TX9, 11, rfl, rfl⟩ (by decide) (by decide) rfl (by decide) rfl rfl ⟨(.object "IceHouse$House"), by decide +kernel, rfl⟩ (iz_dq hdt (j := 30) rfl) (fun H locs hH => ?_)
  have hH := hH.same (r2 := (ct_rd 5 26)) (by decide +kernel)
  refine lv_aload_n hx rfl (iz_dq hdt (j := 31) rfl) rfl (lv_at hl 0 rfl) ?_
  have hH := hH.same (r2 := (ct_rd 5 26)) (by decide +kernel)
  refine ct_new (n := 26) (N := 7) (ci := 0) hx hown hK hA hH rfl cl_X9_42 in_X0 ni_X0 (by decide) rfl (by decide +kernel) rfl rfl (Nat.le_of_ble_eq_true rfl) (Nat.le_of_ble_eq_true rfl) (iz_dq hdt (j := 32) rfl) (fun H hH => ?_)
  refine W.widen (k := 26) (n := 1083) (Nat.le_of_ble_eq_true rfl) (Nat.le_of_ble_eq_true rfl) ?_
  refine lv_dup hx rfl (iz_dq hdt (j := 33) rfl) rfl ?_
  have hH := hH.same (r2 := (ct_rd 5 26)) (by decide +kernel)
  refine ct_callI (host := "IceHouse") (As := []) (rest := [.ref (X.1 26), .ref (X.1 0)]) (t := 26) hx hown hml hl.1 hK hA hH (k_X0_init_26 hXk) (Or.inr ml_X9_44) cw_X0_init im_X0_init rfl (Nat.le_of_ble_eq_true rfl) (Nat.le_of_ble_eq_true rfl) (Nat.le_of_ble_eq_true rfl) (Nat.le_of_ble_eq_true rfl) rfl (Nat.le_of_ble_eq_true rfl) (iz_dq hdt (j := 34) rfl) (fun H locs hH => ?_)
  refine W.widen (k := 38) (n := 1234) (Nat.le_of_ble_eq_true rfl) (Nat.le_of_ble_eq_true rfl) ?_
  refine ct_put (k := 0) (i := 5) (t := 26) (N := 11) hx hown hin hK hA hH fl_X9_45 ⟨RX9, TX9, 11, rfl, rfl⟩ (by decide) (by decide) rfl (by decide) rfl rfl ⟨(.object "IceHouse$DustPlan"), by decide +kernel, rfl⟩ (iz_dq hdt (j := 35) rfl) (fun H locs hH => ?_)
  have hH := hH.same (r2 := (ct_rd 6 39)) (by decide +kernel)
  refine lv_aload_n hx rfl (iz_dq hdt (j := 36) rfl) rfl (lv_at hl 0 rfl) ?_
  have hH := hH.same (r2 := (ct_rd 6 39)) (by decide +kernel)
  refine ct_new (n := 39) (N := 10) (ci := 3) hx hown hK hA hH rfl cl_X9_49 in_X3 ni_X3 (by decide) rfl (by decide +kernel) rfl rfl (Nat.le_of_ble_eq_true rfl) (Nat.le_of_ble_eq_true rfl) (iz_dq hdt (j := 37) rfl) (fun H hH => ?_)
  refine W.widen (k := 39) (n := 1244) (Nat.le_of_ble_eq_true rfl) (Nat.le_of_ble_eq_true rfl) ?_
  refine lv_dup hx rfl (iz_dq hdt (j := 38) rfl) rfl ?_
  refine lv_aload_n hx rfl (iz_dq hdt (j := 39) rfl) rfl (lv_at hl 0 rfl) ?_
  refine ct_get (k := 0) (i := 3) (t := 14) (N := 11) hx hown hK hH fl_X9_35 (by decide) rfl (by decide) rfl (by decide +kernel) rfl (iz_dq hdt (j := 40) rfl) ?_
  have hH := hH.same (r2 := (ct_rd 6 39)) (by decide +kernel)
  refine ct_callI (host := "IceHouse") (As := [.ref (X.1 14)]) (rest := [.ref (X.1 39), .ref (X.1 0)]) (t := 39) hx hown hml hl.1 hK hA hH (k_X3_init_39 hXk) (Or.inl ml_X9_51) cw_X3_init im_X3_init rfl (Nat.le_of_ble_eq_true rfl) (Nat.le_of_ble_eq_true rfl) (Nat.le_of_ble_eq_true rfl) (Nat.le_of_ble_eq_true rfl) rfl (Nat.le_of_ble_eq_true rfl) (iz_dq hdt (j := 41) rfl) (fun H locs hH => ?_)
  refine W.widen (k := 45) (n := 1304) (Nat.le_of_ble_eq_true rfl) (Nat.le_of_ble_eq_true rfl) ?_
  refine ct_put (k := 0) (i := 6) (t := 39) (N := 11) hx hown hin hK hA hH fl_X9_54 ⟨RX9, TX9, 11, rfl, rfl⟩ (by decide) (by decide) rfl (by decide) rfl rfl ⟨(.object "IceHouse$Orders"), by decide +kernel, rfl⟩ (iz_dq hdt (j := 42) rfl) (fun H locs hH => ?_)
  have hH := hH.same (r2 := (ct_rd 7 46)) (by decide +kernel)
  refine lv_aload_n hx rfl (iz_dq hdt (j := 43) rfl) rfl (lv_at hl 0 rfl) ?_
  have hH := hH.same (r2 := (ct_rd 7 46)) (by decide +kernel)
  refine ct_new (n := 46) (N := 15) (ci := 5) hx hown hK hA hH rfl cl_X9_58 in_X5 ni_X5 (by decide) rfl (by decide +kernel) rfl rfl (Nat.le_of_ble_eq_true rfl) (Nat.le_of_ble_eq_true rfl) (iz_dq hdt (j := 44) rfl) (fun H hH => ?_)
  refine W.widen (k := 46) (n := 1319) (Nat.le_of_ble_eq_true rfl) (Nat.le_of_ble_eq_true rfl) ?_
  refine lv_dup hx rfl (iz_dq hdt (j := 45) rfl) rfl ?_
  refine lv_aload_n hx rfl (iz_dq hdt (j := 46) rfl) rfl (lv_at hl 0 rfl) ?_
  refine ct_get (k := 0) (i := 3) (t := 14) (N := 11) hx hown hK hH fl_X9_35 (by decide) rfl (by decide) rfl (by decide +kernel) rfl (iz_dq hdt (j := 47) rfl) ?_
  refine lv_aload_n hx rfl (iz_dq hdt (j := 48) rfl) rfl (lv_at hl 0 rfl) ?_
  refine ct_get (k := 0) (i := 6) (t := 39) (N := 11) hx hown hK hH fl_X9_54 (by decide) rfl (by decide) rfl (by decide +kernel) rfl (iz_dq hdt (j := 49) rfl) ?_
  have hH := hH.same (r2 := (ct_rd 7 46)) (by decide +kernel)
  refine ct_callI (host := "IceHouse") (As := [.ref (X.1 14), .ref (X.1 39)]) (rest := [.ref (X.1 46), .ref (X.1 0)]) (t := 46) hx hown hml hl.1 hK hA hH (k_X5_init_46 hXk) (Or.inl ml_X9_60) cw_X5_init im_X5_init rfl (Nat.le_of_ble_eq_true rfl) (Nat.le_of_ble_eq_true rfl) (Nat.le_of_ble_eq_true rfl) (Nat.le_of_ble_eq_true rfl) rfl (Nat.le_of_ble_eq_true rfl) (iz_dq hdt (j := 50) rfl) (fun H locs hH => ?_)
  refine W.widen (k := 55) (n := 1481) (Nat.le_of_ble_eq_true rfl) (Nat.le_of_ble_eq_true rfl) ?_
  refine ct_put (k := 0) (i := 7) (t := 46) (N := 11) hx hown hin hK hA hH fl_X9_63 ⟨RX9, TX9, 11, rfl, rfl⟩ (by decide) (by decide) rfl (by decide) rfl rfl ⟨(.object "IceHouse$SalesPlan"), by decide +kernel, rfl⟩ (iz_dq hdt (j := 51) rfl) (fun H locs hH => ?_)
  have hH := hH.same (r2 := (ct_rd 8 56)) (by decide +kernel)
  refine lv_aload_n hx rfl (iz_dq hdt (j := 52) rfl) rfl (lv_at hl 0 rfl) ?_
  have hH := hH.same (r2 := (ct_rd 8 56)) (by decide +kernel)
  refine ct_new (n := 56) (N := 6) (ci := 4) hx hown hK hA hH rfl cl_X9_67 in_X4 ni_X4 (by decide) rfl (by decide +kernel) rfl rfl (Nat.le_of_ble_eq_true rfl) (Nat.le_of_ble_eq_true rfl) (iz_dq hdt (j := 53) rfl) (fun H hH => ?_)
  refine W.widen (k := 56) (n := 1487) (Nat.le_of_ble_eq_true rfl) (Nat.le_of_ble_eq_true rfl) ?_
  refine lv_dup hx rfl (iz_dq hdt (j := 54) rfl) rfl ?_
  have hH := hH.same (r2 := (ct_rd 8 56)) (by decide +kernel)
  refine ct_callI (host := "IceHouse") (As := []) (rest := [.ref (X.1 56), .ref (X.1 0)]) (t := 56) hx hown hml hl.1 hK hA hH (k_X4_init_56 hXk) (Or.inr ml_X9_69) cw_X4_init im_X4_init rfl (Nat.le_of_ble_eq_true rfl) (Nat.le_of_ble_eq_true rfl) (Nat.le_of_ble_eq_true rfl) (Nat.le_of_ble_eq_true rfl) rfl (Nat.le_of_ble_eq_true rfl) (iz_dq hdt (j := 55) rfl) (fun H locs hH => ?_)
  refine W.widen (k := 79) (n := 2630) (Nat.le_of_ble_eq_true rfl) (Nat.le_of_ble_eq_true rfl) ?_
  refine ct_put (k := 0) (i := 8) (t := 56) (N := 11) hx hown hin hK hA hH fl_X9_70 ⟨RX9, TX9, 11, rfl, rfl⟩ (by decide) (by decide) rfl (by decide) rfl rfl ⟨(.object "IceHouse$Railway"), by decide +kernel, rfl⟩ (iz_dq hdt (j := 56) rfl) (fun H locs hH => ?_)
  have hH := hH.same (r2 := (ct_rd 9 80)) (by decide +kernel)
  refine lv_aload_n hx rfl (iz_dq hdt (j := 57) rfl) rfl (lv_at hl 0 rfl) ?_
  have hH := hH.same (r2 := (ct_rd 9 80)) (by decide +kernel)
  refine ct_new (n := 80) (N := 2) (ci := 8) hx hown hK hA hH rfl cl_X9_74 in_X8 ni_X8 (by decide) rfl (by decide +kernel) rfl rfl (Nat.le_of_ble_eq_true rfl) (Nat.le_of_ble_eq_true rfl) (iz_dq hdt (j := 58) rfl) (fun H hH => ?_)
  refine W.widen (k := 80) (n := 2632) (Nat.le_of_ble_eq_true rfl) (Nat.le_of_ble_eq_true rfl) ?_
  refine lv_dup hx rfl (iz_dq hdt (j := 59) rfl) rfl ?_
  have hH := hH.same (r2 := (ct_rd 9 80)) (by decide +kernel)
  refine ct_callI (host := "IceHouse") (As := []) (rest := [.ref (X.1 80), .ref (X.1 0)]) (t := 80) hx hown hml hl.1 hK hA hH (k_X8_init_80 hXk) (Or.inr ml_X9_76) cw_X8_init im_X8_init rfl (Nat.le_of_ble_eq_true rfl) (Nat.le_of_ble_eq_true rfl) (Nat.le_of_ble_eq_true rfl) (Nat.le_of_ble_eq_true rfl) rfl (Nat.le_of_ble_eq_true rfl) (iz_dq hdt (j := 60) rfl) (fun H locs hH => ?_)
  refine W.widen (k := 81) (n := 2648) (Nat.le_of_ble_eq_true rfl) (Nat.le_of_ble_eq_true rfl) ?_
  refine ct_put (k := 0) (i := 9) (t := 80) (N := 11) hx hown hin hK hA hH fl_X9_77 ⟨RX9, TX9, 11, rfl, rfl⟩ (by decide) (by decide) rfl (by decide) rfl rfl ⟨(.object "IceHouse$Waiting"), by decide +kernel, rfl⟩ (iz_dq hdt (j := 61) rfl) (fun H locs hH => ?_)
  have hH := hH.same (r2 := (ct_rd 10 82)) (by decide +kernel)
  refine lv_aload_n hx rfl (iz_dq hdt (j := 62) rfl) rfl (lv_at hl 0 rfl) ?_
  refine lv_bipush (v := 6) hx rfl (iz_dq hdt (j := 63) rfl) (by decide) ?_
  refine ct_nwI (n := 82) (N := 6) hx hK hA hH (by decide) rfl rfl (by decide) (by decide) (by decide) (Nat.le_of_ble_eq_true rfl) (Nat.le_of_ble_eq_true rfl) (iz_dq hdt (j := 64) rfl) (fun H hH => ?_)
  refine W.widen (k := 82) (n := 2654) (Nat.le_of_ble_eq_true rfl) (Nat.le_of_ble_eq_true rfl) ?_
  refine ct_put (k := 0) (i := 10) (t := 82) (N := 11) hx hown hin hK hA hH fl_X9_81 ⟨RX9, TX9, 11, rfl, rfl⟩ (by decide) (by decide) rfl (by decide) rfl rfl ⟨(.array .int), by decide +kernel, rfl⟩ (iz_dq hdt (j := 65) rfl) (fun H locs hH => ?_)
  have hH := hH.same (r2 := (ct_rd 11 83)) (by decide +kernel)
  have hH := hH.same (r2 := (ct_rd 11 83)) (by decide +kernel)
  exact W.vret hx rfl B.returns (fun t ht hWm => ⟨rfl, ⟨by rw [ht]; exact hH.2.1, by rw [ht]; exact hH.2.2⟩, hH.1.F ht⟩) hH.1.2.2 (iz_dq hdt (j := 66) rfl) (hlocks := B.notSynchronized)
set_option maxRecDepth 10000 in
theorem k_weeks {X : iz_X} {l : Launch} {b0 : Nat} {p : Program} {e : Env} {R : Room} {s : State} {m : MethodId} {args : Array Value} {below : List Frame} {meth : Method} {c : Code} {Q : State → Prop} {S : iz_S} {cells slots : Nat} (hx : p.tables.exec = Jvm.exec) (hdt : ∀ q ∈ tX10_init, decode c.code q.1 = .ok q.2) (hown : s.vm.findClass RX10 = some m.cls) (hK : ct_K X s) (hA : ct_A X b0 (fun q => b0 ≤ q))
    (kk : ∀ H locs ls, ct_H X b0 (fun q => b0 ≤ q) (ct_rd 11 121) (ct_fl S 95 100 10) 121 s.heap H locs → W p l e R s m args below meth c H locs cells slots Q (F0 m 322 ls [])) : ∀ (j i : Nat) (H : Heap) (locs : List Loc) (ls : Array Slot), i + j = 100 → ct_H X b0 (fun q => b0 ≤ q) (ct_rd 11 121) (ct_fl S 95 i 10) 121 s.heap H locs → lv_has ls 2 [(0, .ref (X.1 83)), (1, .int (nI i))] → W p l e R s m args below meth c H locs cells slots Q (F0 m 302 ls []) := by
  intro j
  induction j with
  | zero =>
    intro i H locs ls hij hH hl
    have hi : i = 100 := by omega
    subst hi
    refine lv_iload_n hx rfl (iz_dq hdt (j := 152) rfl) rfl (lv_at hl 1 rfl) ?_
    refine lv_bipush (v := nI 100) hx rfl (iz_dq hdt (j := 153) rfl) (by decide +kernel) ?_
    refine lv_icmp_ge (tgt := 322) hx rfl (iz_dq hdt (j := 154) rfl) (by decide) (fun _ => ?_) (fun h => ?_)
    · exact kk H locs ls hH
    · exact absurd (nI_le (Nat.le_refl 100) (by omega)) h
  | succ j ih =>
    intro i H locs ls hij hH hl
    refine lv_iload_n hx rfl (iz_dq hdt (j := 152) rfl) rfl (lv_at hl 1 rfl) ?_
    refine lv_bipush (v := nI 100) hx rfl (iz_dq hdt (j := 153) rfl) (by decide +kernel) ?_
    refine lv_icmp_ge (tgt := 322) hx rfl (iz_dq hdt (j := 154) rfl) (by decide) (fun h => ?_) (fun _ => ?_)
    · exact absurd h (nI_ge (by omega) (by omega))
    · refine lv_aload_n hx rfl (iz_dq hdt (j := 155) rfl) rfl (lv_at hl 0 rfl) ?_
      refine ct_get (k := 83) (i := 12) (t := 95) (N := 48) hx hown hK hH fl_X10_44 (by decide) rfl (by decide) rfl (by decide +kernel) rfl (iz_dq hdt (j := 156) rfl) ?_
      refine lv_iload_n hx rfl (iz_dq hdt (j := 157) rfl) rfl (lv_at hl 1 rfl) ?_
      refine lv_bipush (v := 10) hx rfl (iz_dq hdt (j := 158) rfl) (by decide) ?_
      refine ct_iast hx hK hA hH (by decide) (by decide) rfl (vp_in_nI (by omega) (by omega)) (iz_dq hdt (j := 159) rfl) (fun H1 locs1 hH1 => ?_)
      rw [nI_clamp (by omega), ct_fl_s] at hH1
      refine lv_iinc (v := nI (i + 1)) (lv' := [(1, .int (nI (i + 1))), (0, .ref (X.1 83))]) hx rfl (iz_dq hdt (j := 160) rfl) hl (k := 1) rfl (by rw [← nI_1]; rfl) (by decide) rfl (fun ls hl => ?_)
      refine lv_goto (tgt := 302) hx rfl (iz_dq hdt (j := 161) rfl) (by decide) ?_
      exact ih (i + 1) H1 locs1 ls (by omega) hH1 (lv_sub hl [1, 0] rfl)
set_option maxRecDepth 10000 in
set_option maxHeartbeats 4000000 in
theorem k_X10_init_83 {X : iz_X} {l : Launch} {b0 : Nat} (hXk : ∀ k, k < 121 → X.1 k = b0 + k) : ct_M X l b0 1 37 2170 yX10_init cX10_init 2 [.ref (X.1 83)] (ct_rd 11 83) (ct_fl ct_S0 13 100 10) 84 (ct_rd 11 121) (ct_fl (ct_fl ct_S0 13 100 10) 95 100 10) 121 := by
  refine Met.ofW (cc := cX10_init) (maxL := 2) (ret := none) (by decide) rfl ?_
  intro p e s m args below meth c s1 B hml hv
  obtain ⟨rfl, hK, hsz, hP⟩ := hv
  have hx := B.exec
  have hdt : ∀ q ∈ tX10_init, decode c.code q.1 = .ok q.2 := by rw [B.bytes]; exact dX10_init
  have hown : s.vm.findClass RX10 = some m.cls := findClass_of_methodNamed B.named
  have hin : meth.name = "<init>" := (name_of_methodNamed B.named B.method).1
  have hA : ct_A X b0 (fun q => b0 ≤ q) := ⟨hXk, fun _ h => h⟩
  have hH : ct_H X b0 (fun q => b0 ≤ q) (ct_rd 11 83) (ct_fl ct_S0 13 100 10) 84 s.heap s.heap [] := ⟨va_S.rf, hsz, hP⟩
  have hl := lv_entry [.ref (X.1 83)] (n := 2) (Nat.le_of_ble_eq_true rfl)
  rw [lg_entry_eq]
  generalize (lg_sl [.ref (X.1 83)] ++ List.replicate (2 - (lg_sl [.ref (X.1 83)]).length) Slot.unset).toArray = ls at hl ⊢
  have hl : lv_has ls 2 [(0, .ref (X.1 83))] := hl
  refine lv_aload_n hx rfl (iz_dq hdt (j := 0) rfl) rfl (lv_at hl 0 rfl) ?_
  refine W.objInit hx rfl hown (hK.1.use oi_X10_1 rfl) (hK.1.use oi_inst rfl) (hK.1.use oi_code rfl) rfl (by rw [hml]; exact hl.1) rfl (iz_dq hdt (j := 1) rfl) (Nat.le_of_ble_eq_true rfl) (Nat.le_of_ble_eq_true rfl) ?_
  refine W.eq (g2 := F0 m 4 ls []) rfl ?_
  refine lv_aload_n hx rfl (iz_dq hdt (j := 2) rfl) rfl (lv_at hl 0 rfl) ?_
  refine lv_bipush (v := 64) hx rfl (iz_dq hdt (j := 3) rfl) (by decide) ?_
  refine ct_nwI (n := 84) (N := 64) hx hK hA hH (by decide) rfl rfl (by decide) (by decide) (by decide) (Nat.le_of_ble_eq_true rfl) (Nat.le_of_ble_eq_true rfl) (iz_dq hdt (j := 4) rfl) (fun H hH => ?_)
  refine W.widen (k := 1) (n := 64) (Nat.le_of_ble_eq_true rfl) (Nat.le_of_ble_eq_true rfl) ?_
  refine ct_put (k := 83) (i := 0) (t := 84) (N := 48) hx hown hin hK hA hH fl_X10_7 ⟨RX10, TX10, 48, rfl, rfl⟩ (by decide) (by decide) rfl (by decide) rfl rfl ⟨(.array .int), by decide +kernel, rfl⟩ (iz_dq hdt (j := 5) rfl) (fun H locs hH => ?_)
  refine lv_aload_n hx rfl (iz_dq hdt (j := 6) rfl) rfl (lv_at hl 0 rfl) ?_
  refine lv_bipush (v := 64) hx rfl (iz_dq hdt (j := 7) rfl) (by decide) ?_
  refine ct_nwI (n := 85) (N := 64) hx hK hA hH (by decide) rfl rfl (by decide) (by decide) (by decide) (Nat.le_of_ble_eq_true rfl) (Nat.le_of_ble_eq_true rfl) (iz_dq hdt (j := 8) rfl) (fun H hH => ?_)
  refine W.widen (k := 2) (n := 128) (Nat.le_of_ble_eq_true rfl) (Nat.le_of_ble_eq_true rfl) ?_
  refine ct_put (k := 83) (i := 1) (t := 85) (N := 48) hx hown hin hK hA hH fl_X10_13 ⟨RX10, TX10, 48, rfl, rfl⟩ (by decide) (by decide) rfl (by decide) rfl rfl ⟨(.array .int), by decide +kernel, rfl⟩ (iz_dq hdt (j := 9) rfl) (fun H locs hH => ?_)
  refine lv_aload_n hx rfl (iz_dq hdt (j := 10) rfl) rfl (lv_at hl 0 rfl) ?_
  refine lv_bipush (v := 64) hx rfl (iz_dq hdt (j := 11) rfl) (by decide) ?_
  refine ct_nwZ (n := 86) (N := 64) hx hK hA hH (by decide) rfl rfl (by decide) (by decide) (by decide) (Nat.le_of_ble_eq_true rfl) (Nat.le_of_ble_eq_true rfl) (iz_dq hdt (j := 12) rfl) (fun H hH => ?_)
  refine W.widen (k := 3) (n := 192) (Nat.le_of_ble_eq_true rfl) (Nat.le_of_ble_eq_true rfl) ?_
  refine ct_put (k := 83) (i := 2) (t := 86) (N := 48) hx hown hin hK hA hH fl_X10_16 ⟨RX10, TX10, 48, rfl, rfl⟩ (by decide) (by decide) rfl (by decide) rfl rfl ⟨(.array .boolean), by decide +kernel, rfl⟩ (iz_dq hdt (j := 13) rfl) (fun H locs hH => ?_)
  refine lv_aload_n hx rfl (iz_dq hdt (j := 14) rfl) rfl (lv_at hl 0 rfl) ?_
  refine lv_bipush (v := 60) hx rfl (iz_dq hdt (j := 15) rfl) (by decide) ?_
  refine ct_nwI (n := 87) (N := 60) hx hK hA hH (by decide) rfl rfl (by decide) (by decide) (by decide) (Nat.le_of_ble_eq_true rfl) (Nat.le_of_ble_eq_true rfl) (iz_dq hdt (j := 16) rfl) (fun H hH => ?_)
  refine W.widen (k := 4) (n := 252) (Nat.le_of_ble_eq_true rfl) (Nat.le_of_ble_eq_true rfl) ?_
  refine ct_put (k := 83) (i := 4) (t := 87) (N := 48) hx hown hin hK hA hH fl_X10_20 ⟨RX10, TX10, 48, rfl, rfl⟩ (by decide) (by decide) rfl (by decide) rfl rfl ⟨(.array .int), by decide +kernel, rfl⟩ (iz_dq hdt (j := 17) rfl) (fun H locs hH => ?_)
  refine lv_aload_n hx rfl (iz_dq hdt (j := 18) rfl) rfl (lv_at hl 0 rfl) ?_
  refine lv_bipush (v := 60) hx rfl (iz_dq hdt (j := 19) rfl) (by decide) ?_
  refine ct_nwI (n := 88) (N := 60) hx hK hA hH (by decide) rfl rfl (by decide) (by decide) (by decide) (Nat.le_of_ble_eq_true rfl) (Nat.le_of_ble_eq_true rfl) (iz_dq hdt (j := 20) rfl) (fun H hH => ?_)
  refine W.widen (k := 5) (n := 312) (Nat.le_of_ble_eq_true rfl) (Nat.le_of_ble_eq_true rfl) ?_
  refine ct_put (k := 83) (i := 5) (t := 88) (N := 48) hx hown hin hK hA hH fl_X10_23 ⟨RX10, TX10, 48, rfl, rfl⟩ (by decide) (by decide) rfl (by decide) rfl rfl ⟨(.array .int), by decide +kernel, rfl⟩ (iz_dq hdt (j := 21) rfl) (fun H locs hH => ?_)
  refine lv_aload_n hx rfl (iz_dq hdt (j := 22) rfl) rfl (lv_at hl 0 rfl) ?_
  refine lv_bipush (v := 60) hx rfl (iz_dq hdt (j := 23) rfl) (by decide) ?_
  refine ct_nwI (n := 89) (N := 60) hx hK hA hH (by decide) rfl rfl (by decide) (by decide) (by decide) (Nat.le_of_ble_eq_true rfl) (Nat.le_of_ble_eq_true rfl) (iz_dq hdt (j := 24) rfl) (fun H hH => ?_)
  refine W.widen (k := 6) (n := 372) (Nat.le_of_ble_eq_true rfl) (Nat.le_of_ble_eq_true rfl) ?_
  refine ct_put (k := 83) (i := 6) (t := 89) (N := 48) hx hown hin hK hA hH fl_X10_26 ⟨RX10, TX10, 48, rfl, rfl⟩ (by decide) (by decide) rfl (by decide) rfl rfl ⟨(.array .int), by decide +kernel, rfl⟩ (iz_dq hdt (j := 25) rfl) (fun H locs hH => ?_)
  refine lv_aload_n hx rfl (iz_dq hdt (j := 26) rfl) rfl (lv_at hl 0 rfl) ?_
  refine lv_bipush (v := 60) hx rfl (iz_dq hdt (j := 27) rfl) (by decide) ?_
  refine ct_nwI (n := 90) (N := 60) hx hK hA hH (by decide) rfl rfl (by decide) (by decide) (by decide) (Nat.le_of_ble_eq_true rfl) (Nat.le_of_ble_eq_true rfl) (iz_dq hdt (j := 28) rfl) (fun H hH => ?_)
  refine W.widen (k := 7) (n := 432) (Nat.le_of_ble_eq_true rfl) (Nat.le_of_ble_eq_true rfl) ?_
  refine ct_put (k := 83) (i := 7) (t := 90) (N := 48) hx hown hin hK hA hH fl_X10_29 ⟨RX10, TX10, 48, rfl, rfl⟩ (by decide) (by decide) rfl (by decide) rfl rfl ⟨(.array .int), by decide +kernel, rfl⟩ (iz_dq hdt (j := 29) rfl) (fun H locs hH => ?_)
  refine lv_aload_n hx rfl (iz_dq hdt (j := 30) rfl) rfl (lv_at hl 0 rfl) ?_
  refine lv_bipush (v := 96) hx rfl (iz_dq hdt (j := 31) rfl) (by decide) ?_
  refine ct_nwI (n := 91) (N := 96) hx hK hA hH (by decide) rfl rfl (by decide) (by decide) (by decide) (Nat.le_of_ble_eq_true rfl) (Nat.le_of_ble_eq_true rfl) (iz_dq hdt (j := 32) rfl) (fun H hH => ?_)
  refine W.widen (k := 8) (n := 528) (Nat.le_of_ble_eq_true rfl) (Nat.le_of_ble_eq_true rfl) ?_
  refine ct_put (k := 83) (i := 8) (t := 91) (N := 48) hx hown hin hK hA hH fl_X10_32 ⟨RX10, TX10, 48, rfl, rfl⟩ (by decide) (by decide) rfl (by decide) rfl rfl ⟨(.array .int), by decide +kernel, rfl⟩ (iz_dq hdt (j := 33) rfl) (fun H locs hH => ?_)
  refine lv_aload_n hx rfl (iz_dq hdt (j := 34) rfl) rfl (lv_at hl 0 rfl) ?_
  refine lv_bipush (v := 16) hx rfl (iz_dq hdt (j := 35) rfl) (by decide) ?_
  refine ct_nwI (n := 92) (N := 16) hx hK hA hH (by decide) rfl rfl (by decide) (by decide) (by decide) (Nat.le_of_ble_eq_true rfl) (Nat.le_of_ble_eq_true rfl) (iz_dq hdt (j := 36) rfl) (fun H hH => ?_)
  refine W.widen (k := 9) (n := 544) (Nat.le_of_ble_eq_true rfl) (Nat.le_of_ble_eq_true rfl) ?_
  refine ct_put (k := 83) (i := 9) (t := 92) (N := 48) hx hown hin hK hA hH fl_X10_35 ⟨RX10, TX10, 48, rfl, rfl⟩ (by decide) (by decide) rfl (by decide) rfl rfl ⟨(.array .int), by decide +kernel, rfl⟩ (iz_dq hdt (j := 37) rfl) (fun H locs hH => ?_)
  refine lv_aload_n hx rfl (iz_dq hdt (j := 38) rfl) rfl (lv_at hl 0 rfl) ?_
  refine lv_iconst (v := 4) hx rfl (iz_dq hdt (j := 39) rfl) (by decide) ?_
  refine ct_nwI (n := 93) (N := 4) hx hK hA hH (by decide) rfl rfl (by decide) (by decide) (by decide) (Nat.le_of_ble_eq_true rfl) (Nat.le_of_ble_eq_true rfl) (iz_dq hdt (j := 40) rfl) (fun H hH => ?_)
  refine W.widen (k := 10) (n := 548) (Nat.le_of_ble_eq_true rfl) (Nat.le_of_ble_eq_true rfl) ?_
  refine ct_put (k := 83) (i := 10) (t := 93) (N := 48) hx hown hin hK hA hH fl_X10_38 ⟨RX10, TX10, 48, rfl, rfl⟩ (by decide) (by decide) rfl (by decide) rfl rfl ⟨(.array .int), by decide +kernel, rfl⟩ (iz_dq hdt (j := 41) rfl) (fun H locs hH => ?_)
  refine lv_aload_n hx rfl (iz_dq hdt (j := 42) rfl) rfl (lv_at hl 0 rfl) ?_
  refine lv_bipush (v := 16) hx rfl (iz_dq hdt (j := 43) rfl) (by decide) ?_
  refine ct_nwI (n := 94) (N := 16) hx hK hA hH (by decide) rfl rfl (by decide) (by decide) (by decide) (Nat.le_of_ble_eq_true rfl) (Nat.le_of_ble_eq_true rfl) (iz_dq hdt (j := 44) rfl) (fun H hH => ?_)
  refine W.widen (k := 11) (n := 564) (Nat.le_of_ble_eq_true rfl) (Nat.le_of_ble_eq_true rfl) ?_
  refine ct_put (k := 83) (i := 11) (t := 94) (N := 48) hx hown hin hK hA hH fl_X10_41 ⟨RX10, TX10, 48, rfl, rfl⟩ (by decide) (by decide) rfl (by decide) rfl rfl ⟨(.array .int), by decide +kernel, rfl⟩ (iz_dq hdt (j := 45) rfl) (fun H locs hH => ?_)
  refine lv_aload_n hx rfl (iz_dq hdt (j := 46) rfl) rfl (lv_at hl 0 rfl) ?_
  refine lv_bipush (v := 100) hx rfl (iz_dq hdt (j := 47) rfl) (by decide) ?_
  refine ct_nwI (n := 95) (N := 100) hx hK hA hH (by decide) rfl rfl (by decide) (by decide) (by decide) (Nat.le_of_ble_eq_true rfl) (Nat.le_of_ble_eq_true rfl) (iz_dq hdt (j := 48) rfl) (fun H hH => ?_)
  refine W.widen (k := 12) (n := 664) (Nat.le_of_ble_eq_true rfl) (Nat.le_of_ble_eq_true rfl) ?_
  refine ct_put (k := 83) (i := 12) (t := 95) (N := 48) hx hown hin hK hA hH fl_X10_44 ⟨RX10, TX10, 48, rfl, rfl⟩ (by decide) (by decide) rfl (by decide) rfl rfl ⟨(.array .int), by decide +kernel, rfl⟩ (iz_dq hdt (j := 49) rfl) (fun H locs hH => ?_)
  refine lv_aload_n hx rfl (iz_dq hdt (j := 50) rfl) rfl (lv_at hl 0 rfl) ?_
  refine lv_bipush (v := 10) hx rfl (iz_dq hdt (j := 51) rfl) (by decide) ?_
  refine ct_nwI (n := 96) (N := 10) hx hK hA hH (by decide) rfl rfl (by decide) (by decide) (by decide) (Nat.le_of_ble_eq_true rfl) (Nat.le_of_ble_eq_true rfl) (iz_dq hdt (j := 52) rfl) (fun H hH => ?_)
  refine W.widen (k := 13) (n := 674) (Nat.le_of_ble_eq_true rfl) (Nat.le_of_ble_eq_true rfl) ?_
  refine ct_put (k := 83) (i := 15) (t := 96) (N := 48) hx hown hin hK hA hH fl_X10_47 ⟨RX10, TX10, 48, rfl, rfl⟩ (by decide) (by decide) rfl (by decide) rfl rfl ⟨(.array .int), by decide +kernel, rfl⟩ (iz_dq hdt (j := 53) rfl) (fun H locs hH => ?_)
  refine lv_aload_n hx rfl (iz_dq hdt (j := 54) rfl) rfl (lv_at hl 0 rfl) ?_
  refine lv_bipush (v := 10) hx rfl (iz_dq hdt (j := 55) rfl) (by decide) ?_
  refine ct_nwI (n := 97) (N := 10) hx hK hA hH (by decide) rfl rfl (by decide) (by decide) (by decide) (Nat.le_of_ble_eq_true rfl) (Nat.le_of_ble_eq_true rfl) (iz_dq hdt (j := 56) rfl) (fun H hH => ?_)
  refine W.widen (k := 14) (n := 684) (Nat.le_of_ble_eq_true rfl) (Nat.le_of_ble_eq_true rfl) ?_
  refine ct_put (k := 83) (i := 16) (t := 97) (N := 48) hx hown hin hK hA hH fl_X10_50 ⟨RX10, TX10, 48, rfl, rfl⟩ (by decide) (by decide) rfl (by decide) rfl rfl ⟨(.array .int), by decide +kernel, rfl⟩ (iz_dq hdt (j := 57) rfl) (fun H locs hH => ?_)
  refine lv_aload_n hx rfl (iz_dq hdt (j := 58) rfl) rfl (lv_at hl 0 rfl) ?_
  refine lv_bipush (v := 10) hx rfl (iz_dq hdt (j := 59) rfl) (by decide) ?_
  refine ct_nwI (n := 98) (N := 10) hx hK hA hH (by decide) rfl rfl (by decide) (by decide) (by decide) (Nat.le_of_ble_eq_true rfl) (Nat.le_of_ble_eq_true rfl) (iz_dq hdt (j := 60) rfl) (fun H hH => ?_)
  refine W.widen (k := 15) (n := 694) (Nat.le_of_ble_eq_true rfl) (Nat.le_of_ble_eq_true rfl) ?_
  refine ct_put (k := 83) (i := 17) (t := 98) (N := 48) hx hown hin hK hA hH fl_X10_53 ⟨RX10, TX10, 48, rfl, rfl⟩ (by decide) (by decide) rfl (by decide) rfl rfl ⟨(.array .int), by decide +kernel, rfl⟩ (iz_dq hdt (j := 61) rfl) (fun H locs hH => ?_)
  refine lv_aload_n hx rfl (iz_dq hdt (j := 62) rfl) rfl (lv_at hl 0 rfl) ?_
  refine lv_bipush (v := 10) hx rfl (iz_dq hdt (j := 63) rfl) (by decide) ?_
  refine ct_nwI (n := 99) (N := 10) hx hK hA hH (by decide) rfl rfl (by decide) (by decide) (by decide) (Nat.le_of_ble_eq_true rfl) (Nat.le_of_ble_eq_true rfl) (iz_dq hdt (j := 64) rfl) (fun H hH => ?_)
  refine W.widen (k := 16) (n := 704) (Nat.le_of_ble_eq_true rfl) (Nat.le_of_ble_eq_true rfl) ?_
  refine ct_put (k := 83) (i := 18) (t := 99) (N := 48) hx hown hin hK hA hH fl_X10_56 ⟨RX10, TX10, 48, rfl, rfl⟩ (by decide) (by decide) rfl (by decide) rfl rfl ⟨(.array .int), by decide +kernel, rfl⟩ (iz_dq hdt (j := 65) rfl) (fun H locs hH => ?_)
  refine lv_aload_n hx rfl (iz_dq hdt (j := 66) rfl) rfl (lv_at hl 0 rfl) ?_
  refine lv_bipush (v := 10) hx rfl (iz_dq hdt (j := 67) rfl) (by decide) ?_
  refine ct_nwI (n := 100) (N := 10) hx hK hA hH (by decide) rfl rfl (by decide) (by decide) (by decide) (Nat.le_of_ble_eq_true rfl) (Nat.le_of_ble_eq_true rfl) (iz_dq hdt (j := 68) rfl) (fun H hH => ?_)
  refine W.widen (k := 17) (n := 714) (Nat.le_of_ble_eq_true rfl) (Nat.le_of_ble_eq_true rfl) ?_
  refine ct_put (k := 83) (i := 19) (t := 100) (N := 48) hx hown hin hK hA hH fl_X10_59 ⟨RX10, TX10, 48, rfl, rfl⟩ (by decide) (by decide) rfl (by decide) rfl rfl ⟨(.array .int), by decide +kernel, rfl⟩ (iz_dq hdt (j := 69) rfl) (fun H locs hH => ?_)
  refine lv_aload_n hx rfl (iz_dq hdt (j := 70) rfl) rfl (lv_at hl 0 rfl) ?_
  refine lv_bipush (v := 10) hx rfl (iz_dq hdt (j := 71) rfl) (by decide) ?_
  refine ct_nwZ (n := 101) (N := 10) hx hK hA hH (by decide) rfl rfl (by decide) (by decide) (by decide) (Nat.le_of_ble_eq_true rfl) (Nat.le_of_ble_eq_true rfl) (iz_dq hdt (j := 72) rfl) (fun H hH => ?_)
  refine W.widen (k := 18) (n := 724) (Nat.le_of_ble_eq_true rfl) (Nat.le_of_ble_eq_true rfl) ?_
  refine ct_put (k := 83) (i := 20) (t := 101) (N := 48) hx hown hin hK hA hH fl_X10_62 ⟨RX10, TX10, 48, rfl, rfl⟩ (by decide) (by decide) rfl (by decide) rfl rfl ⟨(.array .boolean), by decide +kernel, rfl⟩ (iz_dq hdt (j := 73) rfl) (fun H locs hH => ?_)
  refine lv_aload_n hx rfl (iz_dq hdt (j := 74) rfl) rfl (lv_at hl 0 rfl) ?_
  refine lv_bipush (v := 9) hx rfl (iz_dq hdt (j := 75) rfl) (by decide) ?_
  refine ct_nwI (n := 102) (N := 9) hx hK hA hH (by decide) rfl rfl (by decide) (by decide) (by decide) (Nat.le_of_ble_eq_true rfl) (Nat.le_of_ble_eq_true rfl) (iz_dq hdt (j := 76) rfl) (fun H hH => ?_)
  refine W.widen (k := 19) (n := 733) (Nat.le_of_ble_eq_true rfl) (Nat.le_of_ble_eq_true rfl) ?_
  refine ct_put (k := 83) (i := 22) (t := 102) (N := 48) hx hown hin hK hA hH fl_X10_65 ⟨RX10, TX10, 48, rfl, rfl⟩ (by decide) (by decide) rfl (by decide) rfl rfl ⟨(.array .int), by decide +kernel, rfl⟩ (iz_dq hdt (j := 77) rfl) (fun H locs hH => ?_)
  refine lv_aload_n hx rfl (iz_dq hdt (j := 78) rfl) rfl (lv_at hl 0 rfl) ?_
  refine lv_bipush (v := 9) hx rfl (iz_dq hdt (j := 79) rfl) (by decide) ?_
  refine ct_nwI (n := 103) (N := 9) hx hK hA hH (by decide) rfl rfl (by decide) (by decide) (by decide) (Nat.le_of_ble_eq_true rfl) (Nat.le_of_ble_eq_true rfl) (iz_dq hdt (j := 80) rfl) (fun H hH => ?_)
  refine W.widen (k := 20) (n := 742) (Nat.le_of_ble_eq_true rfl) (Nat.le_of_ble_eq_true rfl) ?_
  refine ct_put (k := 83) (i := 23) (t := 103) (N := 48) hx hown hin hK hA hH fl_X10_68 ⟨RX10, TX10, 48, rfl, rfl⟩ (by decide) (by decide) rfl (by decide) rfl rfl ⟨(.array .int), by decide +kernel, rfl⟩ (iz_dq hdt (j := 81) rfl) (fun H locs hH => ?_)
  refine lv_aload_n hx rfl (iz_dq hdt (j := 82) rfl) rfl (lv_at hl 0 rfl) ?_
  refine lv_bipush (v := 9) hx rfl (iz_dq hdt (j := 83) rfl) (by decide) ?_
  refine ct_nwI (n := 104) (N := 9) hx hK hA hH (by decide) rfl rfl (by decide) (by decide) (by decide) (Nat.le_of_ble_eq_true rfl) (Nat.le_of_ble_eq_true rfl) (iz_dq hdt (j := 84) rfl) (fun H hH => ?_)
  refine W.widen (k := 21) (n := 751) (Nat.le_of_ble_eq_true rfl) (Nat.le_of_ble_eq_true rfl) ?_
  refine ct_put (k := 83) (i := 24) (t := 104) (N := 48) hx hown hin hK hA hH fl_X10_71 ⟨RX10, TX10, 48, rfl, rfl⟩ (by decide) (by decide) rfl (by decide) rfl rfl ⟨(.array .int), by decide +kernel, rfl⟩ (iz_dq hdt (j := 85) rfl) (fun H locs hH => ?_)
  refine lv_aload_n hx rfl (iz_dq hdt (j := 86) rfl) rfl (lv_at hl 0 rfl) ?_
  refine lv_bipush (v := 6) hx rfl (iz_dq hdt (j := 87) rfl) (by decide) ?_
  refine ct_nwI (n := 105) (N := 6) hx hK hA hH (by decide) rfl rfl (by decide) (by decide) (by decide) (Nat.le_of_ble_eq_true rfl) (Nat.le_of_ble_eq_true rfl) (iz_dq hdt (j := 88) rfl) (fun H hH => ?_)
  refine W.widen (k := 22) (n := 757) (Nat.le_of_ble_eq_true rfl) (Nat.le_of_ble_eq_true rfl) ?_
  refine ct_put (k := 83) (i := 25) (t := 105) (N := 48) hx hown hin hK hA hH fl_X10_74 ⟨RX10, TX10, 48, rfl, rfl⟩ (by decide) (by decide) rfl (by decide) rfl rfl ⟨(.array .int), by decide +kernel, rfl⟩ (iz_dq hdt (j := 89) rfl) (fun H locs hH => ?_)
  refine lv_aload_n hx rfl (iz_dq hdt (j := 90) rfl) rfl (lv_at hl 0 rfl) ?_
  refine lv_bipush (v := 16) hx rfl (iz_dq hdt (j := 91) rfl) (by decide) ?_
  refine ct_nwI (n := 106) (N := 16) hx hK hA hH (by decide) rfl rfl (by decide) (by decide) (by decide) (Nat.le_of_ble_eq_true rfl) (Nat.le_of_ble_eq_true rfl) (iz_dq hdt (j := 92) rfl) (fun H hH => ?_)
  refine W.widen (k := 23) (n := 773) (Nat.le_of_ble_eq_true rfl) (Nat.le_of_ble_eq_true rfl) ?_
  refine ct_put (k := 83) (i := 27) (t := 106) (N := 48) hx hown hin hK hA hH fl_X10_77 ⟨RX10, TX10, 48, rfl, rfl⟩ (by decide) (by decide) rfl (by decide) rfl rfl ⟨(.array .int), by decide +kernel, rfl⟩ (iz_dq hdt (j := 93) rfl) (fun H locs hH => ?_)
  refine lv_aload_n hx rfl (iz_dq hdt (j := 94) rfl) rfl (lv_at hl 0 rfl) ?_
  refine lv_bipush (v := 6) hx rfl (iz_dq hdt (j := 95) rfl) (by decide) ?_
  refine ct_nwI (n := 107) (N := 6) hx hK hA hH (by decide) rfl rfl (by decide) (by decide) (by decide) (Nat.le_of_ble_eq_true rfl) (Nat.le_of_ble_eq_true rfl) (iz_dq hdt (j := 96) rfl) (fun H hH => ?_)
  refine W.widen (k := 24) (n := 779) (Nat.le_of_ble_eq_true rfl) (Nat.le_of_ble_eq_true rfl) ?_
  refine ct_put (k := 83) (i := 28) (t := 107) (N := 48) hx hown hin hK hA hH fl_X10_80 ⟨RX10, TX10, 48, rfl, rfl⟩ (by decide) (by decide) rfl (by decide) rfl rfl ⟨(.array .int), by decide +kernel, rfl⟩ (iz_dq hdt (j := 97) rfl) (fun H locs hH => ?_)
  refine lv_aload_n hx rfl (iz_dq hdt (j := 98) rfl) rfl (lv_at hl 0 rfl) ?_
  refine lv_bipush (v := 64) hx rfl (iz_dq hdt (j := 99) rfl) (by decide) ?_
  refine ct_nwZ (n := 108) (N := 64) hx hK hA hH (by decide) rfl rfl (by decide) (by decide) (by decide) (Nat.le_of_ble_eq_true rfl) (Nat.le_of_ble_eq_true rfl) (iz_dq hdt (j := 100) rfl) (fun H hH => ?_)
  refine W.widen (k := 25) (n := 843) (Nat.le_of_ble_eq_true rfl) (Nat.le_of_ble_eq_true rfl) ?_
  refine ct_put (k := 83) (i := 29) (t := 108) (N := 48) hx hown hin hK hA hH fl_X10_83 ⟨RX10, TX10, 48, rfl, rfl⟩ (by decide) (by decide) rfl (by decide) rfl rfl ⟨(.array .boolean), by decide +kernel, rfl⟩ (iz_dq hdt (j := 101) rfl) (fun H locs hH => ?_)
  refine lv_aload_n hx rfl (iz_dq hdt (j := 102) rfl) rfl (lv_at hl 0 rfl) ?_
  refine lv_bipush (v := 64) hx rfl (iz_dq hdt (j := 103) rfl) (by decide) ?_
  refine ct_nwI (n := 109) (N := 64) hx hK hA hH (by decide) rfl rfl (by decide) (by decide) (by decide) (Nat.le_of_ble_eq_true rfl) (Nat.le_of_ble_eq_true rfl) (iz_dq hdt (j := 104) rfl) (fun H hH => ?_)
  refine W.widen (k := 26) (n := 907) (Nat.le_of_ble_eq_true rfl) (Nat.le_of_ble_eq_true rfl) ?_
  refine ct_put (k := 83) (i := 30) (t := 109) (N := 48) hx hown hin hK hA hH fl_X10_86 ⟨RX10, TX10, 48, rfl, rfl⟩ (by decide) (by decide) rfl (by decide) rfl rfl ⟨(.array .int), by decide +kernel, rfl⟩ (iz_dq hdt (j := 105) rfl) (fun H locs hH => ?_)
  refine lv_aload_n hx rfl (iz_dq hdt (j := 106) rfl) rfl (lv_at hl 0 rfl) ?_
  refine lv_bipush (v := 6) hx rfl (iz_dq hdt (j := 107) rfl) (by decide) ?_
  refine ct_nwI (n := 110) (N := 6) hx hK hA hH (by decide) rfl rfl (by decide) (by decide) (by decide) (Nat.le_of_ble_eq_true rfl) (Nat.le_of_ble_eq_true rfl) (iz_dq hdt (j := 108) rfl) (fun H hH => ?_)
  refine W.widen (k := 27) (n := 913) (Nat.le_of_ble_eq_true rfl) (Nat.le_of_ble_eq_true rfl) ?_
  refine ct_put (k := 83) (i := 31) (t := 110) (N := 48) hx hown hin hK hA hH fl_X10_89 ⟨RX10, TX10, 48, rfl, rfl⟩ (by decide) (by decide) rfl (by decide) rfl rfl ⟨(.array .int), by decide +kernel, rfl⟩ (iz_dq hdt (j := 109) rfl) (fun H locs hH => ?_)
  refine lv_aload_n hx rfl (iz_dq hdt (j := 110) rfl) rfl (lv_at hl 0 rfl) ?_
  refine lv_bipush (v := 6) hx rfl (iz_dq hdt (j := 111) rfl) (by decide) ?_
  refine ct_nwI (n := 111) (N := 6) hx hK hA hH (by decide) rfl rfl (by decide) (by decide) (by decide) (Nat.le_of_ble_eq_true rfl) (Nat.le_of_ble_eq_true rfl) (iz_dq hdt (j := 112) rfl) (fun H hH => ?_)
  refine W.widen (k := 28) (n := 919) (Nat.le_of_ble_eq_true rfl) (Nat.le_of_ble_eq_true rfl) ?_
  refine ct_put (k := 83) (i := 33) (t := 111) (N := 48) hx hown hin hK hA hH fl_X10_92 ⟨RX10, TX10, 48, rfl, rfl⟩ (by decide) (by decide) rfl (by decide) rfl rfl ⟨(.array .int), by decide +kernel, rfl⟩ (iz_dq hdt (j := 113) rfl) (fun H locs hH => ?_)
  refine lv_aload_n hx rfl (iz_dq hdt (j := 114) rfl) rfl (lv_at hl 0 rfl) ?_
  refine lv_bipush (v := 6) hx rfl (iz_dq hdt (j := 115) rfl) (by decide) ?_
  refine ct_nwI (n := 112) (N := 6) hx hK hA hH (by decide) rfl rfl (by decide) (by decide) (by decide) (Nat.le_of_ble_eq_true rfl) (Nat.le_of_ble_eq_true rfl) (iz_dq hdt (j := 116) rfl) (fun H hH => ?_)
  refine W.widen (k := 29) (n := 925) (Nat.le_of_ble_eq_true rfl) (Nat.le_of_ble_eq_true rfl) ?_
  refine ct_put (k := 83) (i := 34) (t := 112) (N := 48) hx hown hin hK hA hH fl_X10_95 ⟨RX10, TX10, 48, rfl, rfl⟩ (by decide) (by decide) rfl (by decide) rfl rfl ⟨(.array .int), by decide +kernel, rfl⟩ (iz_dq hdt (j := 117) rfl) (fun H locs hH => ?_)
  refine lv_aload_n hx rfl (iz_dq hdt (j := 118) rfl) rfl (lv_at hl 0 rfl) ?_
  refine lv_sipush (v := 256) hx rfl (iz_dq hdt (j := 119) rfl) (by decide) ?_
  refine ct_nwI (n := 113) (N := 256) hx hK hA hH (by decide) rfl rfl (by decide) (by decide) (by decide) (Nat.le_of_ble_eq_true rfl) (Nat.le_of_ble_eq_true rfl) (iz_dq hdt (j := 120) rfl) (fun H hH => ?_)
  refine W.widen (k := 30) (n := 1181) (Nat.le_of_ble_eq_true rfl) (Nat.le_of_ble_eq_true rfl) ?_
  refine ct_put (k := 83) (i := 36) (t := 113) (N := 48) hx hown hin hK hA hH fl_X10_98 ⟨RX10, TX10, 48, rfl, rfl⟩ (by decide) (by decide) rfl (by decide) rfl rfl ⟨(.array .int), by decide +kernel, rfl⟩ (iz_dq hdt (j := 121) rfl) (fun H locs hH => ?_)
  refine lv_aload_n hx rfl (iz_dq hdt (j := 122) rfl) rfl (lv_at hl 0 rfl) ?_
  refine lv_bipush (v := 96) hx rfl (iz_dq hdt (j := 123) rfl) (by decide) ?_
  refine ct_nwI (n := 114) (N := 96) hx hK hA hH (by decide) rfl rfl (by decide) (by decide) (by decide) (Nat.le_of_ble_eq_true rfl) (Nat.le_of_ble_eq_true rfl) (iz_dq hdt (j := 124) rfl) (fun H hH => ?_)
  refine W.widen (k := 31) (n := 1277) (Nat.le_of_ble_eq_true rfl) (Nat.le_of_ble_eq_true rfl) ?_
  refine ct_put (k := 83) (i := 37) (t := 114) (N := 48) hx hown hin hK hA hH fl_X10_101 ⟨RX10, TX10, 48, rfl, rfl⟩ (by decide) (by decide) rfl (by decide) rfl rfl ⟨(.array .int), by decide +kernel, rfl⟩ (iz_dq hdt (j := 125) rfl) (fun H locs hH => ?_)
  refine lv_aload_n hx rfl (iz_dq hdt (j := 126) rfl) rfl (lv_at hl 0 rfl) ?_
  refine lv_sipush (v := 320) hx rfl (iz_dq hdt (j := 127) rfl) (by decide) ?_
  refine ct_nwI (n := 115) (N := 320) hx hK hA hH (by decide) rfl rfl (by decide) (by decide) (by decide) (Nat.le_of_ble_eq_true rfl) (Nat.le_of_ble_eq_true rfl) (iz_dq hdt (j := 128) rfl) (fun H hH => ?_)
  refine W.widen (k := 32) (n := 1597) (Nat.le_of_ble_eq_true rfl) (Nat.le_of_ble_eq_true rfl) ?_
  refine ct_put (k := 83) (i := 38) (t := 115) (N := 48) hx hown hin hK hA hH fl_X10_104 ⟨RX10, TX10, 48, rfl, rfl⟩ (by decide) (by decide) rfl (by decide) rfl rfl ⟨(.array .int), by decide +kernel, rfl⟩ (iz_dq hdt (j := 129) rfl) (fun H locs hH => ?_)
  refine lv_aload_n hx rfl (iz_dq hdt (j := 130) rfl) rfl (lv_at hl 0 rfl) ?_
  refine lv_iconst (v := 4) hx rfl (iz_dq hdt (j := 131) rfl) (by decide) ?_
  refine ct_nwI (n := 116) (N := 4) hx hK hA hH (by decide) rfl rfl (by decide) (by decide) (by decide) (Nat.le_of_ble_eq_true rfl) (Nat.le_of_ble_eq_true rfl) (iz_dq hdt (j := 132) rfl) (fun H hH => ?_)
  refine W.widen (k := 33) (n := 1601) (Nat.le_of_ble_eq_true rfl) (Nat.le_of_ble_eq_true rfl) ?_
  refine ct_put (k := 83) (i := 41) (t := 116) (N := 48) hx hown hin hK hA hH fl_X10_107 ⟨RX10, TX10, 48, rfl, rfl⟩ (by decide) (by decide) rfl (by decide) rfl rfl ⟨(.array .int), by decide +kernel, rfl⟩ (iz_dq hdt (j := 133) rfl) (fun H locs hH => ?_)
  refine lv_aload_n hx rfl (iz_dq hdt (j := 134) rfl) rfl (lv_at hl 0 rfl) ?_
  refine lv_iconst (v := 4) hx rfl (iz_dq hdt (j := 135) rfl) (by decide) ?_
  refine ct_nwI (n := 117) (N := 4) hx hK hA hH (by decide) rfl rfl (by decide) (by decide) (by decide) (Nat.le_of_ble_eq_true rfl) (Nat.le_of_ble_eq_true rfl) (iz_dq hdt (j := 136) rfl) (fun H hH => ?_)
  refine W.widen (k := 34) (n := 1605) (Nat.le_of_ble_eq_true rfl) (Nat.le_of_ble_eq_true rfl) ?_
  refine ct_put (k := 83) (i := 42) (t := 117) (N := 48) hx hown hin hK hA hH fl_X10_110 ⟨RX10, TX10, 48, rfl, rfl⟩ (by decide) (by decide) rfl (by decide) rfl rfl ⟨(.array .int), by decide +kernel, rfl⟩ (iz_dq hdt (j := 137) rfl) (fun H locs hH => ?_)
  refine lv_aload_n hx rfl (iz_dq hdt (j := 138) rfl) rfl (lv_at hl 0 rfl) ?_
  refine lv_bipush (v := 8) hx rfl (iz_dq hdt (j := 139) rfl) (by decide) ?_
  refine ct_nwI (n := 118) (N := 8) hx hK hA hH (by decide) rfl rfl (by decide) (by decide) (by decide) (Nat.le_of_ble_eq_true rfl) (Nat.le_of_ble_eq_true rfl) (iz_dq hdt (j := 140) rfl) (fun H hH => ?_)
  refine W.widen (k := 35) (n := 1613) (Nat.le_of_ble_eq_true rfl) (Nat.le_of_ble_eq_true rfl) ?_
  refine ct_put (k := 83) (i := 43) (t := 118) (N := 48) hx hown hin hK hA hH fl_X10_113 ⟨RX10, TX10, 48, rfl, rfl⟩ (by decide) (by decide) rfl (by decide) rfl rfl ⟨(.array .int), by decide +kernel, rfl⟩ (iz_dq hdt (j := 141) rfl) (fun H locs hH => ?_)
  refine lv_aload_n hx rfl (iz_dq hdt (j := 142) rfl) rfl (lv_at hl 0 rfl) ?_
  refine lv_bipush (v := 8) hx rfl (iz_dq hdt (j := 143) rfl) (by decide) ?_
  refine ct_nwI (n := 119) (N := 8) hx hK hA hH (by decide) rfl rfl (by decide) (by decide) (by decide) (Nat.le_of_ble_eq_true rfl) (Nat.le_of_ble_eq_true rfl) (iz_dq hdt (j := 144) rfl) (fun H hH => ?_)
  refine W.widen (k := 36) (n := 1621) (Nat.le_of_ble_eq_true rfl) (Nat.le_of_ble_eq_true rfl) ?_
  refine ct_put (k := 83) (i := 44) (t := 119) (N := 48) hx hown hin hK hA hH fl_X10_116 ⟨RX10, TX10, 48, rfl, rfl⟩ (by decide) (by decide) rfl (by decide) rfl rfl ⟨(.array .int), by decide +kernel, rfl⟩ (iz_dq hdt (j := 145) rfl) (fun H locs hH => ?_)
  refine lv_aload_n hx rfl (iz_dq hdt (j := 146) rfl) rfl (lv_at hl 0 rfl) ?_
  refine lv_sipush (v := 549) hx rfl (iz_dq hdt (j := 147) rfl) (by decide) ?_
  refine ct_nwI (n := 120) (N := 549) hx hK hA hH (by decide) rfl rfl (by decide) (by decide) (by decide) (Nat.le_of_ble_eq_true rfl) (Nat.le_of_ble_eq_true rfl) (iz_dq hdt (j := 148) rfl) (fun H hH => ?_)
  refine W.widen (k := 37) (n := 2170) (Nat.le_of_ble_eq_true rfl) (Nat.le_of_ble_eq_true rfl) ?_
  refine ct_put (k := 83) (i := 47) (t := 120) (N := 48) hx hown hin hK hA hH fl_X10_119 ⟨RX10, TX10, 48, rfl, rfl⟩ (by decide) (by decide) rfl (by decide) rfl rfl ⟨(.array .int), by decide +kernel, rfl⟩ (iz_dq hdt (j := 149) rfl) (fun H locs hH => ?_)
  refine lv_iconst (v := 0) hx rfl (iz_dq hdt (j := 150) rfl) (by decide) ?_
  have hH := hH.same (r2 := (ct_rd 11 121)) (by decide +kernel)
  refine lv_istore_n (lv' := [(1, .int 0), (0, .ref (X.1 83))]) hx rfl (iz_dq hdt (j := 151) rfl) rfl hl (by decide) rfl (fun ls hl => ?_)
  refine k_weeks (S := (ct_fl ct_S0 13 100 10)) hx hdt hown hK hA (fun H locs ls hH => ?_) 100 0 H locs ls (by omega) (by rw [ct_fl_0]; exact hH) (lv_sub hl [1, 0] rfl)
  exact W.vret hx rfl B.returns (fun t ht hWm => ⟨rfl, ⟨by rw [ht]; exact hH.2.1, by rw [ht]; exact hH.2.2⟩, hH.1.F ht⟩) hH.1.2.2 (iz_dq hdt (j := 162) rfl) (hlocks := B.notSynchronized)
