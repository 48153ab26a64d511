theorem iz_shI {a n : Nat} (h : iz_sh a = (0, n)) : iz_sh a = (0, (iz_sh a).2) := by rw [h]
def iz_MW (own : String) (idx : Nat) (y : MethodName) (cc : ByteArray) : Prop := Cond.methodLink own idx y ∈ lw_tbl ∧ Cond.static y ∈ lw_tbl ∧ Cond.initialized "java/lang/Math" ∈ lw_tbl ∧ Cond.code y cc 2 (some .int) ∈ lw_tbl
section iz_math
variable {α : Type} {X : iz_X} {l : Launch} {own : String} {dt : List (Nat × Instr × Nat)} {nL d : Nat} {K : iz_KP α} {pc : Nat} {ls : List (Nat × Value)} {st : List Value} {S : iz_S} {o : Option α}
theorem iz_mmax (j : Nat) {idx : Nat} {x y : Int32} (hm : iz_MW own idx Lib.Math.max.name Lib.Math.max.code) (hd1 : 1 ≤ d) (hr8 : (st.map fun v => v.category).sum ≤ 8) (hd : dt[j]? = some (pc, .invokestatic idx, 3)) (kk : iz_Y X l own dt nL d K (pc + 3) ls (.int (if x < y then y else x) :: st) S o) : iz_Y X l own dt nL d K pc ls (.int y :: .int x :: st) S o := by
  intro hK z hz p e R s m args below meth c0 cells slots Q A k H locs hS hP lsM hls
  obtain ⟨hx, hdt, hml, hown, hW, hfr, hlo, hce, hsl⟩ := hK z p e R s m args below meth c0 cells slots Q A k
  exact va_mmax hx rfl (hml.trans hls.1.symm) hown (hW.1.use hm.1 rfl) (hW.1.use hm.2.1 rfl) (hW.1.use hm.2.2.1 rfl) (hW.1.use hm.2.2.2 rfl) (by omega) (by omega) hce hsl (iz_dq hdt hd) (kk hK z hz p e R s m args below meth c0 cells slots Q A k H locs hS hP lsM hls)
theorem iz_mmin (j : Nat) {idx : Nat} {x y : Int32} (hm : iz_MW own idx Lib.Math.min.name Lib.Math.min.code) (hd1 : 1 ≤ d) (hr8 : (st.map fun v => v.category).sum ≤ 8) (hd : dt[j]? = some (pc, .invokestatic idx, 3)) (kk : iz_Y X l own dt nL d K (pc + 3) ls (.int (if y < x then y else x) :: st) S o) : iz_Y X l own dt nL d K pc ls (.int y :: .int x :: st) S o := by
  intro hK z hz p e R s m args below meth c0 cells slots Q A k H locs hS hP lsM hls
  obtain ⟨hx, hdt, hml, hown, hW, hfr, hlo, hce, hsl⟩ := hK z p e R s m args below meth c0 cells slots Q A k
  exact va_mmin hx rfl (hml.trans hls.1.symm) hown (hW.1.use hm.1 rfl) (hW.1.use hm.2.1 rfl) (hW.1.use hm.2.2.1 rfl) (hW.1.use hm.2.2.2 rfl) (by omega) (by omega) hce hsl (iz_dq hdt hd) (kk hK z hz p e R s m args below meth c0 cells slots Q A k H locs hS hP lsM hls)
end iz_math
theorem mm_X2_26 : iz_MW RX2 26 Lib.Math.max.name Lib.Math.max.code := ⟨List.mem_of_getElem? (i := 477) (by decide +kernel), List.mem_of_getElem? (i := 478) (by decide +kernel), List.mem_of_getElem? (i := 78) (by decide +kernel), List.mem_of_getElem? (i := 479) (by decide +kernel)⟩
theorem mm_X2_31 : iz_MW RX2 31 Lib.Math.min.name Lib.Math.min.code := ⟨List.mem_of_getElem? (i := 493) (by decide +kernel), List.mem_of_getElem? (i := 494) (by decide +kernel), List.mem_of_getElem? (i := 78) (by decide +kernel), List.mem_of_getElem? (i := 495) (by decide +kernel)⟩
theorem mm_X1_116 : iz_MW RX1 116 Lib.Math.min.name Lib.Math.min.code := ⟨List.mem_of_getElem? (i := 757) (by decide +kernel), List.mem_of_getElem? (i := 494) (by decide +kernel), List.mem_of_getElem? (i := 78) (by decide +kernel), List.mem_of_getElem? (i := 495) (by decide +kernel)⟩
theorem mm_X0_71 : iz_MW RX0 71 Lib.Math.max.name Lib.Math.max.code := ⟨List.mem_of_getElem? (i := 848) (by decide +kernel), List.mem_of_getElem? (i := 478) (by decide +kernel), List.mem_of_getElem? (i := 78) (by decide +kernel), List.mem_of_getElem? (i := 479) (by decide +kernel)⟩
theorem mm_X0_80 : iz_MW RX0 80 Lib.Math.min.name Lib.Math.min.code := ⟨List.mem_of_getElem? (i := 861) (by decide +kernel), List.mem_of_getElem? (i := 494) (by decide +kernel), List.mem_of_getElem? (i := 78) (by decide +kernel), List.mem_of_getElem? (i := 495) (by decide +kernel)⟩
theorem mm_X3_75 : iz_MW RX3 75 Lib.Math.max.name Lib.Math.max.code := ⟨List.mem_of_getElem? (i := 897) (by decide +kernel), List.mem_of_getElem? (i := 478) (by decide +kernel), List.mem_of_getElem? (i := 78) (by decide +kernel), List.mem_of_getElem? (i := 479) (by decide +kernel)⟩
theorem mm_X4_47 : iz_MW RX4 47 Lib.Math.min.name Lib.Math.min.code := ⟨List.mem_of_getElem? (i := 1000) (by decide +kernel), List.mem_of_getElem? (i := 494) (by decide +kernel), List.mem_of_getElem? (i := 78) (by decide +kernel), List.mem_of_getElem? (i := 495) (by decide +kernel)⟩
theorem mm_X4_53 : iz_MW RX4 53 Lib.Math.max.name Lib.Math.max.code := ⟨List.mem_of_getElem? (i := 1001) (by decide +kernel), List.mem_of_getElem? (i := 478) (by decide +kernel), List.mem_of_getElem? (i := 78) (by decide +kernel), List.mem_of_getElem? (i := 479) (by decide +kernel)⟩

def Ja_fill_5b (a0 : Nat) (k5 : Int32 → Int32 → Int32 → iz_S → Option iz_S) (x1 : Int32) (x2 : Int32) (x3 : Int32) (S : iz_S) : Option iz_S :=
  (if x2 < x3 then
    iz_ck (iz_in x2 (iz_sh a0).2) (iz_lt (iz_s S a0 x2 x1) (fun S2 =>
    (k5 x1 (x2 + 1) x3 S2)))
  else
    some S)
def Ja_fill_5 (a0 : Nat) : Nat → Int32 → Int32 → Int32 → iz_S → Option iz_S
  | 0 => fun _ _ _ _ => none
  | n9 + 1 => Ja_fill_5b a0 (Ja_fill_5 a0 n9)
def Ja_fill (a0 : Nat) (x1 : Int32) (S : iz_S) : Option iz_S :=
  iz_lt (Int32.ofNat (iz_sh a0).2) (fun v1 =>
  (Ja_fill_5 a0 iz_FU x1 0 v1 S))
set_option maxRecDepth 10000 in
theorem c_Ja_fill_5b {X : iz_X} {l : Launch} {a0 : Nat} (h0 : iz_sh a0 = (0, (iz_sh a0).2)) {k5 : Int32 → Int32 → Int32 → iz_S → Option iz_S} (hk5 : ∀ (x1 : Int32) (x2 : Int32) (x3 : Int32) (S : iz_S), iz_Y X l RJ7 tJ7_fill_53178 4 0 (iz_Kc X l yJ7_fill_53178 cJ7_fill_53178 4 none 0 iz_eV) 5 [(0, .ref (X.1 a0)), (1, .int x1), (2, .int x2), (3, .int x3)] [] S (k5 x1 x2 x3 S)) (x1 : Int32) (x2 : Int32) (x3 : Int32) (S : iz_S) : iz_Y X l RJ7 tJ7_fill_53178 4 0 (iz_Kc X l yJ7_fill_53178 cJ7_fill_53178 4 none 0 iz_eV) 5 [(0, .ref (X.1 a0)), (1, .int x1), (2, .int x2), (3, .int x3)] [] S (Ja_fill_5b a0 k5 x1 x2 x3 S) := by
  unfold Ja_fill_5b
  refine iz_iload_n (n := 2) 5 2 rfl rfl ?_
  refine iz_iload_n (n := 3) 6 3 rfl rfl ?_
  refine iz_cmp_ge (tgt := 20) 7 rfl (by decide) ?_ ?_
  · exact iz_vret 14 rfl
  · refine iz_aload_n (n := 0) 8 0 rfl rfl ?_
    refine iz_iload_n (n := 2) 9 2 rfl rfl ?_
    refine iz_iload_n (n := 1) 10 1 rfl rfl ?_
    refine iz_iast 11 h0 rfl (fun S2 => ?_)
    refine iz_iinc (v := (x2 + 1)) (ls2 := [(0, .ref (X.1 a0)), (1, .int x1), (2, .int (x2 + 1)), (3, .int x3)]) 12 2 [1, 2, 0, 3] rfl rfl rfl (by decide) rfl ?_
    refine iz_goto (tgt := 5) 13 (by decide) rfl ?_
    exact hk5 x1 (x2 + 1) x3 S2
theorem c_Ja_fill_5 {X : iz_X} {l : Launch} {a0 : Nat} (h0 : iz_sh a0 = (0, (iz_sh a0).2)) : ∀ (n9 : Nat) (x1 : Int32) (x2 : Int32) (x3 : Int32) (S : iz_S), iz_Y X l RJ7 tJ7_fill_53178 4 0 (iz_Kc X l yJ7_fill_53178 cJ7_fill_53178 4 none 0 iz_eV) 5 [(0, .ref (X.1 a0)), (1, .int x1), (2, .int x2), (3, .int x3)] [] S (Ja_fill_5 a0 n9 x1 x2 x3 S)
  | 0 => by
    intros
    exact iz_none
  | n9 + 1 => c_Ja_fill_5b h0 (c_Ja_fill_5 h0 n9)
set_option maxRecDepth 10000 in
theorem c_Ja_fill {X : iz_X} {l : Launch} {a0 : Nat} (h0 : iz_sh a0 = (0, (iz_sh a0).2)) (x1 : Int32) (S : iz_S) : iz_Y X l RJ7 tJ7_fill_53178 4 0 (iz_Kc X l yJ7_fill_53178 cJ7_fill_53178 4 none 0 iz_eV) 0 [(0, .ref (X.1 a0)), (1, .int x1)] [] S (Ja_fill a0 x1 S) := by
  unfold Ja_fill
  refine iz_iconst (v := 0) 0 (by decide) rfl ?_
  refine iz_istore_n (n := 2) (ls2 := [(0, .ref (X.1 a0)), (1, .int x1), (2, .int 0)]) 1 [1, 2, 0] rfl (by decide) rfl ?_
  refine iz_aload_n (n := 0) 2 0 rfl rfl ?_
  refine iz_alen 3 h0 rfl ?_
  refine iz_let (fun v1 => ?_)
  refine iz_istore_n (n := 3) (ls2 := [(0, .ref (X.1 a0)), (1, .int x1), (2, .int 0), (3, .int v1)]) 4 [1, 2, 3, 0] rfl (by decide) rfl ?_
  exact c_Ja_fill_5 h0 iz_FU x1 0 v1 S
theorem m_Ja_fill {X : iz_X} {l : Launch} {a0 : Nat} (h0 : iz_sh a0 = (0, (iz_sh a0).2)) {x1 : Int32} {S : iz_S} {r9 : iz_S} (hr : Ja_fill a0 x1 S = some r9) : iz_Mt X l 0 yJ7_fill_53178 cJ7_fill_53178 4 none [.ref (X.1 a0), .int x1] S (iz_eV r9) :=
  iz_Mt_of (dt := tJ7_fill_53178) dJ7_fill_53178 (by decide) hr (Nat.le_of_ble_eq_true rfl) (c_Ja_fill h0 x1 S)
def Ic_within_15 (s0 : Int32) (S : iz_S) : Option (Int32 × iz_S) :=
  iz_ck (decide (iz_nb s0 = s0)) (some (s0, S))
def Ic_within_14 (S : iz_S) : Option (Int32 × iz_S) :=
  (Ic_within_15 0 S)
def Ic_within (x0 : Int32) (x1 : Int32) (x2 : Int32) (S : iz_S) : Option (Int32 × iz_S) :=
  (if x0 < x1 then
    (Ic_within_14 S)
  else
    (if x0 ≤ x2 then
      (Ic_within_15 1 S)
    else
      (Ic_within_14 S)))
set_option maxRecDepth 10000 in
theorem c_Ic_within_15 {X : iz_X} {l : Launch} (s0 : Int32) (S : iz_S) : iz_Y X l RX9 tX9_within 3 0 (iz_Kc X l yX9_within cX9_within 3 (some .boolean) 0 iz_eI) 15 [] [.int s0] S (Ic_within_15 s0 S) := by
  unfold Ic_within_15
  exact iz_zret 9 rfl
set_option maxRecDepth 10000 in
theorem c_Ic_within_14 {X : iz_X} {l : Launch} (S : iz_S) : iz_Y X l RX9 tX9_within 3 0 (iz_Kc X l yX9_within cX9_within 3 (some .boolean) 0 iz_eI) 14 [] [] S (Ic_within_14 S) := by
  unfold Ic_within_14
  refine iz_iconst (v := 0) 8 (by decide) rfl ?_
  exact c_Ic_within_15 0 S
set_option maxRecDepth 10000 in
theorem c_Ic_within {X : iz_X} {l : Launch} (x0 : Int32) (x1 : Int32) (x2 : Int32) (S : iz_S) : iz_Y X l RX9 tX9_within 3 0 (iz_Kc X l yX9_within cX9_within 3 (some .boolean) 0 iz_eI) 0 [(0, .int x0), (1, .int x1), (2, .int x2)] [] S (Ic_within x0 x1 x2 S) := by
  unfold Ic_within
  refine iz_iload_n (n := 0) 0 0 rfl rfl ?_
  refine iz_iload_n (n := 1) 1 1 rfl rfl ?_
  refine iz_cmp_lt (tgt := 14) 2 rfl (by decide) ?_ ?_
  · exact iz_sub [] rfl (c_Ic_within_14 S)
  · refine iz_iload_n (n := 0) 3 0 rfl rfl ?_
    refine iz_iload_n (n := 2) 4 2 rfl rfl ?_
    refine iz_cmp_gt (tgt := 14) 5 rfl (by decide) ?_ ?_
    · exact iz_sub [] rfl (c_Ic_within_14 S)
    · refine iz_iconst (v := 1) 6 (by decide) rfl ?_
      refine iz_goto (tgt := 15) 7 (by decide) rfl ?_
      exact iz_sub [] rfl (c_Ic_within_15 1 S)
theorem m_Ic_within {X : iz_X} {l : Launch} {x0 : Int32} {x1 : Int32} {x2 : Int32} {S : iz_S} {r9 : Int32 × iz_S} (hr : Ic_within x0 x1 x2 S = some r9) : iz_Mt X l 0 yX9_within cX9_within 3 (some .boolean) [.int x0, .int x1, .int x2] S (iz_eI r9) :=
  iz_Mt_of (dt := tX9_within) dX9_within (by decide) hr (Nat.le_of_ble_eq_true rfl) (c_Ic_within x0 x1 x2 S)
def La_rootUpFrom_25 (x2 : Int32) (S : iz_S) : Option (Int32 × iz_S) :=
  some (x2, S)
def La_rootUpFrom_2b (k2 : Int32 → Int32 → iz_S → Option (Int32 × iz_S)) (x1 : Int32) (x2 : Int32) (S : iz_S) : Option (Int32 × iz_S) :=
  (if x2 < 60 then
    (if ((x2 + 1) * (x2 + 1)) ≤ x1 then
      (k2 x1 (x2 + 1) S)
    else
      (La_rootUpFrom_25 x2 S))
  else
    (La_rootUpFrom_25 x2 S))
def La_rootUpFrom_2 : Nat → Int32 → Int32 → iz_S → Option (Int32 × iz_S)
  | 0 => fun _ _ _ => none
  | n9 + 1 => La_rootUpFrom_2b (La_rootUpFrom_2 n9)
def La_rootUpFrom (x0 : Int32) (x1 : Int32) (S : iz_S) : Option (Int32 × iz_S) :=
  (La_rootUpFrom_2 iz_FU x1 x0 S)
set_option maxRecDepth 10000 in
theorem c_La_rootUpFrom_25 {X : iz_X} {l : Launch} (x2 : Int32) (S : iz_S) : iz_Y X l RX2 tX2_rootUpFrom 3 0 (iz_Kc X l yX2_rootUpFrom cX2_rootUpFrom 3 (some .int) 0 iz_eI) 25 [(2, .int x2)] [] S (La_rootUpFrom_25 x2 S) := by
  unfold La_rootUpFrom_25
  refine iz_iload_n (n := 2) 16 0 rfl rfl ?_
  exact iz_iret 17 rfl
set_option maxRecDepth 10000 in
theorem c_La_rootUpFrom_2b {X : iz_X} {l : Launch} {k2 : Int32 → Int32 → iz_S → Option (Int32 × iz_S)} (hk2 : ∀ (x1 : Int32) (x2 : Int32) (S : iz_S), iz_Y X l RX2 tX2_rootUpFrom 3 0 (iz_Kc X l yX2_rootUpFrom cX2_rootUpFrom 3 (some .int) 0 iz_eI) 2 [(1, .int x1), (2, .int x2)] [] S (k2 x1 x2 S)) (x1 : Int32) (x2 : Int32) (S : iz_S) : iz_Y X l RX2 tX2_rootUpFrom 3 0 (iz_Kc X l yX2_rootUpFrom cX2_rootUpFrom 3 (some .int) 0 iz_eI) 2 [(1, .int x1), (2, .int x2)] [] S (La_rootUpFrom_2b k2 x1 x2 S) := by
  unfold La_rootUpFrom_2b
  refine iz_iload_n (n := 2) 2 1 rfl rfl ?_
  refine iz_bipush (v := 60) 3 (by decide) rfl ?_
  refine iz_cmp_ge (tgt := 25) 4 rfl (by decide) ?_ ?_
  · exact iz_sub [1] rfl (c_La_rootUpFrom_25 x2 S)
  · refine iz_iload_n (n := 2) 5 1 rfl rfl ?_
    refine iz_iconst (v := 1) 6 (by decide) rfl ?_
    refine iz_iadd 7 rfl ?_
    refine iz_iload_n (n := 2) 8 1 rfl rfl ?_
    refine iz_iconst (v := 1) 9 (by decide) rfl ?_
    refine iz_iadd 10 rfl ?_
    refine iz_imul 11 rfl ?_
    refine iz_iload_n (n := 1) 12 0 rfl rfl ?_
    refine iz_cmp_gt (tgt := 25) 13 rfl (by decide) ?_ ?_
    · exact iz_sub [1] rfl (c_La_rootUpFrom_25 x2 S)
    · refine iz_iinc (v := (x2 + 1)) (ls2 := [(1, .int x1), (2, .int (x2 + 1))]) 14 1 [1, 0] rfl rfl rfl (by decide) rfl ?_
      refine iz_goto (tgt := 2) 15 (by decide) rfl ?_
      exact hk2 x1 (x2 + 1) S
theorem c_La_rootUpFrom_2 {X : iz_X} {l : Launch} : ∀ (n9 : Nat) (x1 : Int32) (x2 : Int32) (S : iz_S), iz_Y X l RX2 tX2_rootUpFrom 3 0 (iz_Kc X l yX2_rootUpFrom cX2_rootUpFrom 3 (some .int) 0 iz_eI) 2 [(1, .int x1), (2, .int x2)] [] S (La_rootUpFrom_2 n9 x1 x2 S)
  | 0 => by
    intros
    exact iz_none
  | n9 + 1 => c_La_rootUpFrom_2b (c_La_rootUpFrom_2 n9)
set_option maxRecDepth 10000 in
theorem c_La_rootUpFrom {X : iz_X} {l : Launch} (x0 : Int32) (x1 : Int32) (S : iz_S) : iz_Y X l RX2 tX2_rootUpFrom 3 0 (iz_Kc X l yX2_rootUpFrom cX2_rootUpFrom 3 (some .int) 0 iz_eI) 0 [(0, .int x0), (1, .int x1)] [] S (La_rootUpFrom x0 x1 S) := by
  unfold La_rootUpFrom
  refine iz_iload_n (n := 0) 0 0 rfl rfl ?_
  refine iz_istore_n (n := 2) (ls2 := [(1, .int x1), (2, .int x0)]) 1 [2, 0] rfl (by decide) rfl ?_
  exact c_La_rootUpFrom_2 iz_FU x1 x0 S
theorem m_La_rootUpFrom {X : iz_X} {l : Launch} {x0 : Int32} {x1 : Int32} {S : iz_S} {r9 : Int32 × iz_S} (hr : La_rootUpFrom x0 x1 S = some r9) : iz_Mt X l 0 yX2_rootUpFrom cX2_rootUpFrom 3 (some .int) [.int x0, .int x1] S (iz_eI r9) :=
  iz_Mt_of (dt := tX2_rootUpFrom) dX2_rootUpFrom (by decide) hr (Nat.le_of_ble_eq_true rfl) (c_La_rootUpFrom x0 x1 S)
def La_freeze_68 (a0 : Nat) (k2 : Int32 → Int32 → iz_S → Option iz_S) (x1 : Int32) (x2 : Int32) (S : iz_S) : Option iz_S :=
  (k2 x1 (x2 + 1) S)
def La_freeze_2b (a0 : Nat) (k2 : Int32 → Int32 → iz_S → Option iz_S) (x1 : Int32) (x2 : Int32) (S : iz_S) : Option iz_S :=
  (if x2 < 64 then
    (iz_ck (iz_in x2 64) (
    iz_ck (iz_in x2 64) (
    iz_ck (iz_in x2 64) (
    iz_ck (decide (¬ ((2 : Int32) + (iz_g S (iz_rf a0 1) x2)) = 0)) (
    iz_lt (((iz_g S (iz_rf a0 0) x2) * (iz_g S (iz_rf a0 0) x2)) + ((x1 * 40) / ((2 : Int32) + (iz_g S (iz_rf a0 1) x2)))) (fun v2 =>
    iz_ck (iz_in x2 64) (
    iz_bI (La_rootUpFrom (iz_g S (iz_rf a0 0) x2) v2 S) (fun r4 S3 =>
    iz_ck (iz_in x2 64) (iz_lt (iz_s S3 (iz_rf a0 0) x2 r4) (fun S5 =>
    iz_ck (iz_in x2 64) (
    if (iz_g S5 (iz_rf a0 1) x2) ≤ 0 then
      (La_freeze_68 a0 k2 x1 x2 S5)
    else
      iz_ck (iz_in x2 64) (iz_lt (iz_s S5 (iz_rf a0 2) x2 (iz_nb 1)) (fun S6 =>
      (La_freeze_68 a0 k2 x1 x2 S6))))))))))))))
  else
    some S)
def La_freeze_2 (a0 : Nat) : Nat → Int32 → Int32 → iz_S → Option iz_S
  | 0 => fun _ _ _ => none
  | n9 + 1 => La_freeze_2b a0 (La_freeze_2 a0 n9)
def La_freeze (a0 : Nat) (x1 : Int32) (S : iz_S) : Option iz_S :=
  (La_freeze_2 a0 iz_FU x1 0 S)
set_option maxRecDepth 10000 in
theorem c_La_freeze_68 {X : iz_X} {l : Launch} {a0 : Nat} (h0 : iz_sh a0 = (2 + 3, 3)) {k2 : Int32 → Int32 → iz_S → Option iz_S} (hk2 : ∀ (x1 : Int32) (x2 : Int32) (S : iz_S), iz_Y X l RX2 tX2_freeze 4 1 (iz_Kc X l yX2_freeze cX2_freeze 4 none 1 iz_eV) 2 [(0, .ref (X.1 a0)), (1, .int x1), (2, .int x2)] [] S (k2 x1 x2 S)) (x1 : Int32) (x2 : Int32) (S : iz_S) : iz_Y X l RX2 tX2_freeze 4 1 (iz_Kc X l yX2_freeze cX2_freeze 4 none 1 iz_eV) 68 [(0, .ref (X.1 a0)), (1, .int x1), (2, .int x2)] [] S (La_freeze_68 a0 k2 x1 x2 S) := by
  unfold La_freeze_68
  refine iz_iinc (v := (x2 + 1)) (ls2 := [(0, .ref (X.1 a0)), (1, .int x1), (2, .int (x2 + 1))]) 46 2 [1, 2, 0] rfl rfl rfl (by decide) rfl ?_
  refine iz_goto (tgt := 2) 47 (by decide) rfl ?_
  exact hk2 x1 (x2 + 1) S
set_option maxRecDepth 10000 in
theorem c_La_freeze_2b {X : iz_X} {l : Launch} {a0 : Nat} (h0 : iz_sh a0 = (2 + 3, 3)) {k2 : Int32 → Int32 → iz_S → Option iz_S} (hk2 : ∀ (x1 : Int32) (x2 : Int32) (S : iz_S), iz_Y X l RX2 tX2_freeze 4 1 (iz_Kc X l yX2_freeze cX2_freeze 4 none 1 iz_eV) 2 [(0, .ref (X.1 a0)), (1, .int x1), (2, .int x2)] [] S (k2 x1 x2 S)) (x1 : Int32) (x2 : Int32) (S : iz_S) : iz_Y X l RX2 tX2_freeze 4 1 (iz_Kc X l yX2_freeze cX2_freeze 4 none 1 iz_eV) 2 [(0, .ref (X.1 a0)), (1, .int x1), (2, .int x2)] [] S (La_freeze_2b a0 k2 x1 x2 S) := by
  unfold La_freeze_2b
  refine iz_iload_n (n := 2) 2 2 rfl rfl ?_
  refine iz_bipush (v := 64) 3 (by decide) rfl ?_
  refine iz_cmp_ge (tgt := 74) 4 rfl (by decide) ?_ ?_
  · exact iz_vret 48 rfl
  · refine iz_aload_n (n := 0) 5 0 rfl rfl ?_
    refine iz_getR 6 0 h0 fl_X2_9 rfl (by decide) (by decide) rfl ?_
    refine iz_iload_n (n := 2) 7 2 rfl rfl ?_
    refine iz_iald 8 (sf_2_0 h0) rfl ?_
    refine iz_aload_n (n := 0) 9 0 rfl rfl ?_
    refine iz_getR 10 0 h0 fl_X2_9 rfl (by decide) (by decide) rfl ?_
    refine iz_iload_n (n := 2) 11 2 rfl rfl ?_
    refine iz_iald 12 (sf_2_0 h0) rfl ?_
    refine iz_imul 13 rfl ?_
    refine iz_iload_n (n := 1) 14 1 rfl rfl ?_
    refine iz_bipush (v := 40) 15 (by decide) rfl ?_
    refine iz_imul 16 rfl ?_
    refine iz_iconst (v := 2) 17 (by decide) rfl ?_
    refine iz_aload_n (n := 0) 18 0 rfl rfl ?_
    refine iz_getR 19 1 h0 fl_X2_15 rfl (by decide) (by decide) rfl ?_
    refine iz_iload_n (n := 2) 20 2 rfl rfl ?_
    refine iz_iald 21 (sf_2_1 h0) rfl ?_
    refine iz_iadd 22 rfl ?_
    refine iz_ckr (fun hc1 => ?_)
    refine iz_idiv 23 (of_decide_eq_true hc1) rfl ?_
    refine iz_iadd 24 rfl ?_
    refine iz_let (fun v2 => ?_)
    refine iz_istore_n (n := 3) (ls2 := [(0, .ref (X.1 a0)), (1, .int x1), (2, .int x2), (3, .int v2)]) 25 [1, 2, 3, 0] rfl (by decide) rfl ?_
    refine iz_aload_n (n := 0) 26 0 rfl rfl ?_
    refine iz_getR 27 0 h0 fl_X2_9 rfl (by decide) (by decide) rfl ?_
    refine iz_iload_n (n := 2) 28 2 rfl rfl ?_
    refine iz_aload_n (n := 0) 29 0 rfl rfl ?_
    refine iz_getR 30 0 h0 fl_X2_9 rfl (by decide) (by decide) rfl ?_
    refine iz_iload_n (n := 2) 31 2 rfl rfl ?_
    refine iz_iald 32 (sf_2_0 h0) rfl ?_
    refine iz_iload_n (n := 3) 33 3 rfl rfl ?_
    refine iz_callSI (As := [.int (iz_g S (iz_rf a0 0) x2), .int v2]) (rest := [.int x2, .ref (X.1 (iz_rf a0 0))]) 34 ml_X2_22 cw_X2_rootUpFrom ci_X2_rootUpFrom (fun r9 hr9 => m_La_rootUpFrom  hr9) rfl (by decide) rfl rfl (Nat.le_of_ble_eq_true rfl) (fun r4 S3 => ?_)
    refine iz_iast 35 (sf_2_0 h0) rfl (fun S5 => ?_)
    refine iz_aload_n (n := 0) 36 0 rfl rfl ?_
    refine iz_getR 37 1 h0 fl_X2_15 rfl (by decide) (by decide) rfl ?_
    refine iz_iload_n (n := 2) 38 2 rfl rfl ?_
    refine iz_iald 39 (sf_2_1 h0) rfl ?_
    refine iz_if_le (tgt := 68) 40 rfl (by decide) ?_ ?_
    · exact iz_sub [0, 1, 2] rfl (c_La_freeze_68 h0 hk2 x1 x2 S5)
    · refine iz_aload_n (n := 0) 41 0 rfl rfl ?_
      refine iz_getR 42 2 h0 fl_X2_18 rfl (by decide) (by decide) rfl ?_
      refine iz_iload_n (n := 2) 43 2 rfl rfl ?_
      refine iz_iconst (v := 1) 44 (by decide) rfl ?_
      refine iz_bast 45 (sf_2_2 h0) rfl (fun S6 => ?_)
      exact iz_sub [0, 1, 2] rfl (c_La_freeze_68 h0 hk2 x1 x2 S6)
theorem c_La_freeze_2 {X : iz_X} {l : Launch} {a0 : Nat} (h0 : iz_sh a0 = (2 + 3, 3)) : ∀ (n9 : Nat) (x1 : Int32) (x2 : Int32) (S : iz_S), iz_Y X l RX2 tX2_freeze 4 1 (iz_Kc X l yX2_freeze cX2_freeze 4 none 1 iz_eV) 2 [(0, .ref (X.1 a0)), (1, .int x1), (2, .int x2)] [] S (La_freeze_2 a0 n9 x1 x2 S)
  | 0 => by
    intros
    exact iz_none
  | n9 + 1 => c_La_freeze_2b h0 (c_La_freeze_2 h0 n9)
set_option maxRecDepth 10000 in
theorem c_La_freeze {X : iz_X} {l : Launch} {a0 : Nat} (h0 : iz_sh a0 = (2 + 3, 3)) (x1 : Int32) (S : iz_S) : iz_Y X l RX2 tX2_freeze 4 1 (iz_Kc X l yX2_freeze cX2_freeze 4 none 1 iz_eV) 0 [(0, .ref (X.1 a0)), (1, .int x1)] [] S (La_freeze a0 x1 S) := by
  unfold La_freeze
  refine iz_iconst (v := 0) 0 (by decide) rfl ?_
  refine iz_istore_n (n := 2) (ls2 := [(0, .ref (X.1 a0)), (1, .int x1), (2, .int 0)]) 1 [1, 2, 0] rfl (by decide) rfl ?_
  exact c_La_freeze_2 h0 iz_FU x1 0 S
theorem m_La_freeze {X : iz_X} {l : Launch} {a0 : Nat} (h0 : iz_sh a0 = (2 + 3, 3)) {x1 : Int32} {S : iz_S} {r9 : iz_S} (hr : La_freeze a0 x1 S = some r9) : iz_Mt X l 1 yX2_freeze cX2_freeze 4 none [.ref (X.1 a0), .int x1] S (iz_eV r9) :=
  iz_Mt_of (dt := tX2_freeze) dX2_freeze (by decide) hr (Nat.le_of_ble_eq_true rfl) (c_La_freeze h0 x1 S)
def La_soften_61 (a0 : Nat) (k2 : Int32 → Int32 → iz_S → Option iz_S) (x1 : Int32) (x2 : Int32) (s1 : Int32) (s2 : Int32) (S : iz_S) : Option iz_S :=
  iz_ck (iz_in s1 64) (iz_lt (iz_s S (iz_rf a0 2) s1 (iz_nb s2)) (fun S3 =>
  (k2 x1 (x2 + 1) S3)))
def La_soften_60 (a0 : Nat) (k2 : Int32 → Int32 → iz_S → Option iz_S) (x1 : Int32) (x2 : Int32) (s1 : Int32) (S : iz_S) : Option iz_S :=
  (La_soften_61 a0 k2 x1 x2 s1 0 S)
def La_soften_2b (a0 : Nat) (k2 : Int32 → Int32 → iz_S → Option iz_S) (x1 : Int32) (x2 : Int32) (S : iz_S) : Option iz_S :=
  (if x2 < 64 then
    (iz_ck (iz_in x2 64) (
    iz_ck (iz_in x2 64) (iz_lt (iz_s S (iz_rf a0 0) x2 (if 0 < ((iz_g S (iz_rf a0 0) x2) - x1) then ((iz_g S (iz_rf a0 0) x2) - x1) else 0)) (fun S1 =>
    iz_ck (iz_in x2 64) (iz_lt (iz_s S1 (iz_rf a0 1) x2 0) (fun S2 =>
    iz_ck (iz_in x2 64) (
    if (iz_g S2 (iz_rf a0 2) x2) = 0 then
      (La_soften_60 a0 k2 x1 x2 x2 S2)
    else
      (iz_ck (iz_in x2 64) (
      if (iz_g S2 (iz_rf a0 0) x2) ≤ 0 then
        (La_soften_60 a0 k2 x1 x2 x2 S2)
      else
        (La_soften_61 a0 k2 x1 x2 x2 1 S2))))))))))
  else
    some S)
def La_soften_2 (a0 : Nat) : Nat → Int32 → Int32 → iz_S → Option iz_S
  | 0 => fun _ _ _ => none
  | n9 + 1 => La_soften_2b a0 (La_soften_2 a0 n9)
def La_soften (a0 : Nat) (x1 : Int32) (S : iz_S) : Option iz_S :=
  (La_soften_2 a0 iz_FU x1 0 S)
set_option maxRecDepth 10000 in
theorem c_La_soften_61 {X : iz_X} {l : Launch} {a0 : Nat} (h0 : iz_sh a0 = (2 + 3, 3)) {k2 : Int32 → Int32 → iz_S → Option iz_S} (hk2 : ∀ (x1 : Int32) (x2 : Int32) (S : iz_S), iz_Y X l RX2 tX2_soften 3 1 (iz_Kc X l yX2_soften cX2_soften 3 none 1 iz_eV) 2 [(0, .ref (X.1 a0)), (1, .int x1), (2, .int x2)] [] S (k2 x1 x2 S)) (x1 : Int32) (x2 : Int32) (s1 : Int32) (s2 : Int32) (S : iz_S) : iz_Y X l RX2 tX2_soften 3 1 (iz_Kc X l yX2_soften cX2_soften 3 none 1 iz_eV) 61 [(0, .ref (X.1 a0)), (1, .int x1), (2, .int x2)] [.int s2, .int s1, .ref (X.1 (iz_rf a0 2))] S (La_soften_61 a0 k2 x1 x2 s1 s2 S) := by
  unfold La_soften_61
  refine iz_bast 38 (sf_2_2 h0) rfl (fun S3 => ?_)
  refine iz_iinc (v := (x2 + 1)) (ls2 := [(0, .ref (X.1 a0)), (1, .int x1), (2, .int (x2 + 1))]) 39 2 [1, 2, 0] rfl rfl rfl (by decide) rfl ?_
  refine iz_goto (tgt := 2) 40 (by decide) rfl ?_
  exact hk2 x1 (x2 + 1) S3
set_option maxRecDepth 10000 in
theorem c_La_soften_60 {X : iz_X} {l : Launch} {a0 : Nat} (h0 : iz_sh a0 = (2 + 3, 3)) {k2 : Int32 → Int32 → iz_S → Option iz_S} (hk2 : ∀ (x1 : Int32) (x2 : Int32) (S : iz_S), iz_Y X l RX2 tX2_soften 3 1 (iz_Kc X l yX2_soften cX2_soften 3 none 1 iz_eV) 2 [(0, .ref (X.1 a0)), (1, .int x1), (2, .int x2)] [] S (k2 x1 x2 S)) (x1 : Int32) (x2 : Int32) (s1 : Int32) (S : iz_S) : iz_Y X l RX2 tX2_soften 3 1 (iz_Kc X l yX2_soften cX2_soften 3 none 1 iz_eV) 60 [(0, .ref (X.1 a0)), (1, .int x1), (2, .int x2)] [.int s1, .ref (X.1 (iz_rf a0 2))] S (La_soften_60 a0 k2 x1 x2 s1 S) := by
  unfold La_soften_60
  refine iz_iconst (v := 0) 37 (by decide) rfl ?_
  exact c_La_soften_61 h0 hk2 x1 x2 s1 0 S
set_option maxRecDepth 10000 in
theorem c_La_soften_2b {X : iz_X} {l : Launch} {a0 : Nat} (h0 : iz_sh a0 = (2 + 3, 3)) {k2 : Int32 → Int32 → iz_S → Option iz_S} (hk2 : ∀ (x1 : Int32) (x2 : Int32) (S : iz_S), iz_Y X l RX2 tX2_soften 3 1 (iz_Kc X l yX2_soften cX2_soften 3 none 1 iz_eV) 2 [(0, .ref (X.1 a0)), (1, .int x1), (2, .int x2)] [] S (k2 x1 x2 S)) (x1 : Int32) (x2 : Int32) (S : iz_S) : iz_Y X l RX2 tX2_soften 3 1 (iz_Kc X l yX2_soften cX2_soften 3 none 1 iz_eV) 2 [(0, .ref (X.1 a0)), (1, .int x1), (2, .int x2)] [] S (La_soften_2b a0 k2 x1 x2 S) := by
  unfold La_soften_2b
  refine iz_iload_n (n := 2) 2 2 rfl rfl ?_
  refine iz_bipush (v := 64) 3 (by decide) rfl ?_
  refine iz_cmp_ge (tgt := 68) 4 rfl (by decide) ?_ ?_
  · exact iz_vret 41 rfl
  · refine iz_aload_n (n := 0) 5 0 rfl rfl ?_
    refine iz_getR 6 0 h0 fl_X2_9 rfl (by decide) (by decide) rfl ?_
    refine iz_iload_n (n := 2) 7 2 rfl rfl ?_
    refine iz_iconst (v := 0) 8 (by decide) rfl ?_
    refine iz_aload_n (n := 0) 9 0 rfl rfl ?_
    refine iz_getR 10 0 h0 fl_X2_9 rfl (by decide) (by decide) rfl ?_
    refine iz_iload_n (n := 2) 11 2 rfl rfl ?_
    refine iz_iald 12 (sf_2_0 h0) rfl ?_
    refine iz_iload_n (n := 1) 13 1 rfl rfl ?_
    refine iz_isub 14 rfl ?_
    refine iz_mmax 15 mm_X2_26 (by decide) (Nat.le_of_ble_eq_true rfl) rfl ?_
    refine iz_iast 16 (sf_2_0 h0) rfl (fun S1 => ?_)
    refine iz_aload_n (n := 0) 17 0 rfl rfl ?_
    refine iz_getR 18 1 h0 fl_X2_15 rfl (by decide) (by decide) rfl ?_
    refine iz_iload_n (n := 2) 19 2 rfl rfl ?_
    refine iz_iconst (v := 0) 20 (by decide) rfl ?_
    refine iz_iast 21 (sf_2_1 h0) rfl (fun S2 => ?_)
    refine iz_aload_n (n := 0) 22 0 rfl rfl ?_
    refine iz_getR 23 2 h0 fl_X2_18 rfl (by decide) (by decide) rfl ?_
    refine iz_iload_n (n := 2) 24 2 rfl rfl ?_
    refine iz_aload_n (n := 0) 25 0 rfl rfl ?_
    refine iz_getR 26 2 h0 fl_X2_18 rfl (by decide) (by decide) rfl ?_
    refine iz_iload_n (n := 2) 27 2 rfl rfl ?_
    refine iz_bald 28 (sf_2_2 h0) rfl ?_
    refine iz_if_eq (tgt := 60) 29 rfl (by decide) ?_ ?_
    · exact c_La_soften_60 h0 hk2 x1 x2 x2 S2
    · refine iz_aload_n (n := 0) 30 0 rfl rfl ?_
      refine iz_getR 31 0 h0 fl_X2_9 rfl (by decide) (by decide) rfl ?_
      refine iz_iload_n (n := 2) 32 2 rfl rfl ?_
      refine iz_iald 33 (sf_2_0 h0) rfl ?_
      refine iz_if_le (tgt := 60) 34 rfl (by decide) ?_ ?_
      · exact c_La_soften_60 h0 hk2 x1 x2 x2 S2
      · refine iz_iconst (v := 1) 35 (by decide) rfl ?_
        refine iz_goto (tgt := 61) 36 (by decide) rfl ?_
        exact c_La_soften_61 h0 hk2 x1 x2 x2 1 S2
theorem c_La_soften_2 {X : iz_X} {l : Launch} {a0 : Nat} (h0 : iz_sh a0 = (2 + 3, 3)) : ∀ (n9 : Nat) (x1 : Int32) (x2 : Int32) (S : iz_S), iz_Y X l RX2 tX2_soften 3 1 (iz_Kc X l yX2_soften cX2_soften 3 none 1 iz_eV) 2 [(0, .ref (X.1 a0)), (1, .int x1), (2, .int x2)] [] S (La_soften_2 a0 n9 x1 x2 S)
  | 0 => by
    intros
    exact iz_none
  | n9 + 1 => c_La_soften_2b h0 (c_La_soften_2 h0 n9)
set_option maxRecDepth 10000 in
theorem c_La_soften {X : iz_X} {l : Launch} {a0 : Nat} (h0 : iz_sh a0 = (2 + 3, 3)) (x1 : Int32) (S : iz_S) : iz_Y X l RX2 tX2_soften 3 1 (iz_Kc X l yX2_soften cX2_soften 3 none 1 iz_eV) 0 [(0, .ref (X.1 a0)), (1, .int x1)] [] S (La_soften a0 x1 S) := by
  unfold La_soften
  refine iz_iconst (v := 0) 0 (by decide) rfl ?_
  refine iz_istore_n (n := 2) (ls2 := [(0, .ref (X.1 a0)), (1, .int x1), (2, .int 0)]) 1 [1, 2, 0] rfl (by decide) rfl ?_
  exact c_La_soften_2 h0 iz_FU x1 0 S
theorem m_La_soften {X : iz_X} {l : Launch} {a0 : Nat} (h0 : iz_sh a0 = (2 + 3, 3)) {x1 : Int32} {S : iz_S} {r9 : iz_S} (hr : La_soften a0 x1 S = some r9) : iz_Mt X l 1 yX2_soften cX2_soften 3 none [.ref (X.1 a0), .int x1] S (iz_eV r9) :=
  iz_Mt_of (dt := tX2_soften) dX2_soften (by decide) hr (Nat.le_of_ble_eq_true rfl) (c_La_soften h0 x1 S)
def La_snowOver_38 (a0 : Nat) (k4 : Int32 → Int32 → Int32 → iz_S → Option (Int32 × iz_S)) (x1 : Int32) (x2 : Int32) (x3 : Int32) (S : iz_S) : Option (Int32 × iz_S) :=
  iz_ck (iz_in x3 64) (
  iz_lt (x2 + (iz_g S (iz_rf a0 1) x3)) (fun v2 =>
  (k4 x1 v2 (x3 + 1) S)))
def La_snowOver_4b (a0 : Nat) (k4 : Int32 → Int32 → Int32 → iz_S → Option (Int32 × iz_S)) (x1 : Int32) (x2 : Int32) (x3 : Int32) (S : iz_S) : Option (Int32 × iz_S) :=
  (if x3 < 64 then
    (iz_ck (iz_in x3 64) (
    if (iz_g S (iz_rf a0 0) x3) ≤ 0 then
      (La_snowOver_38 a0 k4 x1 x2 x3 S)
    else
      iz_ck (iz_in x3 64) (
      iz_ck (iz_in x3 64) (iz_lt (iz_s S (iz_rf a0 1) x3 (if ((iz_g S (iz_rf a0 1) x3) + x1) < 30 then ((iz_g S (iz_rf a0 1) x3) + x1) else 30)) (fun S1 =>
      (La_snowOver_38 a0 k4 x1 x2 x3 S1))))))
  else
    some (x2, S))
def La_snowOver_4 (a0 : Nat) : Nat → Int32 → Int32 → Int32 → iz_S → Option (Int32 × iz_S)
  | 0 => fun _ _ _ _ => none
  | n9 + 1 => La_snowOver_4b a0 (La_snowOver_4 a0 n9)
def La_snowOver (a0 : Nat) (x1 : Int32) (S : iz_S) : Option (Int32 × iz_S) :=
  (La_snowOver_4 a0 iz_FU x1 0 0 S)
set_option maxRecDepth 10000 in
theorem c_La_snowOver_38 {X : iz_X} {l : Launch} {a0 : Nat} (h0 : iz_sh a0 = (2 + 3, 3)) {k4 : Int32 → Int32 → Int32 → iz_S → Option (Int32 × iz_S)} (hk4 : ∀ (x1 : Int32) (x2 : Int32) (x3 : Int32) (S : iz_S), iz_Y X l RX2 tX2_snowOver 4 1 (iz_Kc X l yX2_snowOver cX2_snowOver 4 (some .int) 1 iz_eI) 4 [(0, .ref (X.1 a0)), (1, .int x1), (2, .int x2), (3, .int x3)] [] S (k4 x1 x2 x3 S)) (x1 : Int32) (x2 : Int32) (x3 : Int32) (S : iz_S) : iz_Y X l RX2 tX2_snowOver 4 1 (iz_Kc X l yX2_snowOver cX2_snowOver 4 (some .int) 1 iz_eI) 38 [(0, .ref (X.1 a0)), (1, .int x1), (2, .int x2), (3, .int x3)] [] S (La_snowOver_38 a0 k4 x1 x2 x3 S) := by
  unfold La_snowOver_38
  refine iz_iload_n (n := 2) 24 2 rfl rfl ?_
  refine iz_aload_n (n := 0) 25 0 rfl rfl ?_
  refine iz_getR 26 1 h0 fl_X2_15 rfl (by decide) (by decide) rfl ?_
  refine iz_iload_n (n := 3) 27 3 rfl rfl ?_
  refine iz_iald 28 (sf_2_1 h0) rfl ?_
  refine iz_iadd 29 rfl ?_
  refine iz_let (fun v2 => ?_)
  refine iz_istore_n (n := 2) (ls2 := [(0, .ref (X.1 a0)), (1, .int x1), (2, .int v2), (3, .int x3)]) 30 [1, 2, 0, 3] rfl (by decide) rfl ?_
  refine iz_iinc (v := (x3 + 1)) (ls2 := [(0, .ref (X.1 a0)), (1, .int x1), (2, .int v2), (3, .int (x3 + 1))]) 31 3 [1, 2, 3, 0] rfl rfl rfl (by decide) rfl ?_
  refine iz_goto (tgt := 4) 32 (by decide) rfl ?_
  exact hk4 x1 v2 (x3 + 1) S
set_option maxRecDepth 10000 in
theorem c_La_snowOver_4b {X : iz_X} {l : Launch} {a0 : Nat} (h0 : iz_sh a0 = (2 + 3, 3)) {k4 : Int32 → Int32 → Int32 → iz_S → Option (Int32 × iz_S)} (hk4 : ∀ (x1 : Int32) (x2 : Int32) (x3 : Int32) (S : iz_S), iz_Y X l RX2 tX2_snowOver 4 1 (iz_Kc X l yX2_snowOver cX2_snowOver 4 (some .int) 1 iz_eI) 4 [(0, .ref (X.1 a0)), (1, .int x1), (2, .int x2), (3, .int x3)] [] S (k4 x1 x2 x3 S)) (x1 : Int32) (x2 : Int32) (x3 : Int32) (S : iz_S) : iz_Y X l RX2 tX2_snowOver 4 1 (iz_Kc X l yX2_snowOver cX2_snowOver 4 (some .int) 1 iz_eI) 4 [(0, .ref (X.1 a0)), (1, .int x1), (2, .int x2), (3, .int x3)] [] S (La_snowOver_4b a0 k4 x1 x2 x3 S) := by
  unfold La_snowOver_4b
  refine iz_iload_n (n := 3) 4 3 rfl rfl ?_
  refine iz_bipush (v := 64) 5 (by decide) rfl ?_
  refine iz_cmp_ge (tgt := 53) 6 rfl (by decide) ?_ ?_
  · refine iz_iload_n (n := 2) 33 2 rfl rfl ?_
    exact iz_iret 34 rfl
  · refine iz_aload_n (n := 0) 7 0 rfl rfl ?_
    refine iz_getR 8 0 h0 fl_X2_9 rfl (by decide) (by decide) rfl ?_
    refine iz_iload_n (n := 3) 9 3 rfl rfl ?_
    refine iz_iald 10 (sf_2_0 h0) rfl ?_
    refine iz_if_le (tgt := 38) 11 rfl (by decide) ?_ ?_
    · exact c_La_snowOver_38 h0 hk4 x1 x2 x3 S
    · refine iz_aload_n (n := 0) 12 0 rfl rfl ?_
      refine iz_getR 13 1 h0 fl_X2_15 rfl (by decide) (by decide) rfl ?_
      refine iz_iload_n (n := 3) 14 3 rfl rfl ?_
      refine iz_bipush (v := 30) 15 (by decide) rfl ?_
      refine iz_aload_n (n := 0) 16 0 rfl rfl ?_
      refine iz_getR 17 1 h0 fl_X2_15 rfl (by decide) (by decide) rfl ?_
      refine iz_iload_n (n := 3) 18 3 rfl rfl ?_
      refine iz_iald 19 (sf_2_1 h0) rfl ?_
      refine iz_iload_n (n := 1) 20 1 rfl rfl ?_
      refine iz_iadd 21 rfl ?_
      refine iz_mmin 22 mm_X2_31 (by decide) (Nat.le_of_ble_eq_true rfl) rfl ?_
      refine iz_iast 23 (sf_2_1 h0) rfl (fun S1 => ?_)
      exact c_La_snowOver_38 h0 hk4 x1 x2 x3 S1
theorem c_La_snowOver_4 {X : iz_X} {l : Launch} {a0 : Nat} (h0 : iz_sh a0 = (2 + 3, 3)) : ∀ (n9 : Nat) (x1 : Int32) (x2 : Int32) (x3 : Int32) (S : iz_S), iz_Y X l RX2 tX2_snowOver 4 1 (iz_Kc X l yX2_snowOver cX2_snowOver 4 (some .int) 1 iz_eI) 4 [(0, .ref (X.1 a0)), (1, .int x1), (2, .int x2), (3, .int x3)] [] S (La_snowOver_4 a0 n9 x1 x2 x3 S)
  | 0 => by
    intros
    exact iz_none
  | n9 + 1 => c_La_snowOver_4b h0 (c_La_snowOver_4 h0 n9)
set_option maxRecDepth 10000 in
theorem c_La_snowOver {X : iz_X} {l : Launch} {a0 : Nat} (h0 : iz_sh a0 = (2 + 3, 3)) (x1 : Int32) (S : iz_S) : iz_Y X l RX2 tX2_snowOver 4 1 (iz_Kc X l yX2_snowOver cX2_snowOver 4 (some .int) 1 iz_eI) 0 [(0, .ref (X.1 a0)), (1, .int x1)] [] S (La_snowOver a0 x1 S) := by
  unfold La_snowOver
  refine iz_iconst (v := 0) 0 (by decide) rfl ?_
  refine iz_istore_n (n := 2) (ls2 := [(0, .ref (X.1 a0)), (1, .int x1), (2, .int 0)]) 1 [1, 2, 0] rfl (by decide) rfl ?_
  refine iz_iconst (v := 0) 2 (by decide) rfl ?_
  refine iz_istore_n (n := 3) (ls2 := [(0, .ref (X.1 a0)), (1, .int x1), (2, .int 0), (3, .int 0)]) 3 [1, 2, 3, 0] rfl (by decide) rfl ?_
  exact c_La_snowOver_4 h0 iz_FU x1 0 0 S
theorem m_La_snowOver {X : iz_X} {l : Launch} {a0 : Nat} (h0 : iz_sh a0 = (2 + 3, 3)) {x1 : Int32} {S : iz_S} {r9 : Int32 × iz_S} (hr : La_snowOver a0 x1 S = some r9) : iz_Mt X l 1 yX2_snowOver cX2_snowOver 4 (some .int) [.ref (X.1 a0), .int x1] S (iz_eI r9) :=
  iz_Mt_of (dt := tX2_snowOver) dX2_snowOver (by decide) hr (Nat.le_of_ble_eq_true rfl) (c_La_snowOver h0 x1 S)
def Ic_exchange (a0 : Nat) (x1 : Int32) (x2 : Int32) (S : iz_S) : Option (Int32 × iz_S) :=
  iz_ck (iz_in x1 (iz_sh a0).2) (
  iz_lt (iz_g S a0 x1) (fun v1 =>
  iz_ck (iz_in x1 (iz_sh a0).2) (iz_lt (iz_s S a0 x1 x2) (fun S2 =>
  some (v1, S2)))))
set_option maxRecDepth 10000 in
theorem c_Ic_exchange {X : iz_X} {l : Launch} {a0 : Nat} (h0 : iz_sh a0 = (0, (iz_sh a0).2)) (x1 : Int32) (x2 : Int32) (S : iz_S) : iz_Y X l RX9 tX9_exchange 4 0 (iz_Kc X l yX9_exchange cX9_exchange 4 (some .int) 0 iz_eI) 0 [(0, .ref (X.1 a0)), (1, .int x1), (2, .int x2)] [] S (Ic_exchange a0 x1 x2 S) := by
  unfold Ic_exchange
  refine iz_aload_n (n := 0) 0 0 rfl rfl ?_
  refine iz_iload_n (n := 1) 1 1 rfl rfl ?_
  refine iz_iald 2 h0 rfl ?_
  refine iz_let (fun v1 => ?_)
  refine iz_istore_n (n := 3) (ls2 := [(0, .ref (X.1 a0)), (1, .int x1), (2, .int x2), (3, .int v1)]) 3 [1, 2, 3, 0] rfl (by decide) rfl ?_
  refine iz_aload_n (n := 0) 4 0 rfl rfl ?_
  refine iz_iload_n (n := 1) 5 1 rfl rfl ?_
  refine iz_iload_n (n := 2) 6 2 rfl rfl ?_
  refine iz_iast 7 h0 rfl (fun S2 => ?_)
  refine iz_iload_n (n := 3) 8 3 rfl rfl ?_
  exact iz_iret 9 rfl
theorem m_Ic_exchange {X : iz_X} {l : Launch} {a0 : Nat} (h0 : iz_sh a0 = (0, (iz_sh a0).2)) {x1 : Int32} {x2 : Int32} {S : iz_S} {r9 : Int32 × iz_S} (hr : Ic_exchange a0 x1 x2 S = some r9) : iz_Mt X l 0 yX9_exchange cX9_exchange 4 (some .int) [.ref (X.1 a0), .int x1, .int x2] S (iz_eI r9) :=
  iz_Mt_of (dt := tX9_exchange) dX9_exchange (by decide) hr (Nat.le_of_ble_eq_true rfl) (c_Ic_exchange h0 x1 x2 S)
def La_clearRow_7b (a0 : Nat) (k7 : Int32 → Int32 → Int32 → iz_S → Option (Int32 × iz_S)) (x1 : Int32) (x2 : Int32) (x3 : Int32) (S : iz_S) : Option (Int32 × iz_S) :=
  (if x3 < ((x1 * 8) + 8) then
    iz_bI (Ic_exchange (iz_rf a0 1) x3 0 S) (fun r3 S2 =>
    iz_lt (x2 + r3) (fun v4 =>
    (k7 x1 v4 (x3 + 1) S2)))
  else
    some (x2, S))
def La_clearRow_7 (a0 : Nat) : Nat → Int32 → Int32 → Int32 → iz_S → Option (Int32 × iz_S)
  | 0 => fun _ _ _ _ => none
  | n9 + 1 => La_clearRow_7b a0 (La_clearRow_7 a0 n9)
def La_clearRow (a0 : Nat) (x1 : Int32) (S : iz_S) : Option (Int32 × iz_S) :=
  iz_lt (x1 * 8) (fun v1 =>
  (La_clearRow_7 a0 iz_FU x1 0 v1 S))
set_option maxRecDepth 10000 in
theorem c_La_clearRow_7b {X : iz_X} {l : Launch} {a0 : Nat} (h0 : iz_sh a0 = (2 + 3, 3)) {k7 : Int32 → Int32 → Int32 → iz_S → Option (Int32 × iz_S)} (hk7 : ∀ (x1 : Int32) (x2 : Int32) (x3 : Int32) (S : iz_S), iz_Y X l RX2 tX2_clearRow 4 1 (iz_Kc X l yX2_clearRow cX2_clearRow 4 (some .int) 1 iz_eI) 7 [(0, .ref (X.1 a0)), (1, .int x1), (2, .int x2), (3, .int x3)] [] S (k7 x1 x2 x3 S)) (x1 : Int32) (x2 : Int32) (x3 : Int32) (S : iz_S) : iz_Y X l RX2 tX2_clearRow 4 1 (iz_Kc X l yX2_clearRow cX2_clearRow 4 (some .int) 1 iz_eI) 7 [(0, .ref (X.1 a0)), (1, .int x1), (2, .int x2), (3, .int x3)] [] S (La_clearRow_7b a0 k7 x1 x2 x3 S) := by
  unfold La_clearRow_7b
  refine iz_iload_n (n := 3) 6 3 rfl rfl ?_
  refine iz_iload_n (n := 1) 7 1 rfl rfl ?_
  refine iz_bipush (v := 8) 8 (by decide) rfl ?_
  refine iz_imul 9 rfl ?_
  refine iz_bipush (v := 8) 10 (by decide) rfl ?_
  refine iz_iadd 11 rfl ?_
  refine iz_cmp_ge (tgt := 36) 12 rfl (by decide) ?_ ?_
  · refine iz_iload_n (n := 2) 23 2 rfl rfl ?_
    exact iz_iret 24 rfl
  · refine iz_iload_n (n := 2) 13 2 rfl rfl ?_
    refine iz_aload_n (n := 0) 14 0 rfl rfl ?_
    refine iz_getR 15 1 h0 fl_X2_15 rfl (by decide) (by decide) rfl ?_
    refine iz_iload_n (n := 3) 16 3 rfl rfl ?_
    refine iz_iconst (v := 0) 17 (by decide) rfl ?_
    refine iz_callSNI (As := [.ref (X.1 (iz_rf a0 1)), .int x3, .int 0]) (rest := [.int x2]) 18 ml_X2_34 cw_X9_exchange ci_X9_exchange (fun r9 hr9 => m_Ic_exchange (iz_shI (sf_2_1 h0)) hr9) rfl (by decide) rfl rfl (Nat.le_of_ble_eq_true rfl) (fun r3 S2 => ?_)
    refine iz_iadd 19 rfl ?_
    refine iz_let (fun v4 => ?_)
    refine iz_istore_n (n := 2) (ls2 := [(0, .ref (X.1 a0)), (1, .int x1), (2, .int v4), (3, .int x3)]) 20 [1, 2, 0, 3] rfl (by decide) rfl ?_
    refine iz_iinc (v := (x3 + 1)) (ls2 := [(0, .ref (X.1 a0)), (1, .int x1), (2, .int v4), (3, .int (x3 + 1))]) 21 3 [1, 2, 3, 0] rfl rfl rfl (by decide) rfl ?_
    refine iz_goto (tgt := 7) 22 (by decide) rfl ?_
    exact hk7 x1 v4 (x3 + 1) S2
theorem c_La_clearRow_7 {X : iz_X} {l : Launch} {a0 : Nat} (h0 : iz_sh a0 = (2 + 3, 3)) : ∀ (n9 : Nat) (x1 : Int32) (x2 : Int32) (x3 : Int32) (S : iz_S), iz_Y X l RX2 tX2_clearRow 4 1 (iz_Kc X l yX2_clearRow cX2_clearRow 4 (some .int) 1 iz_eI) 7 [(0, .ref (X.1 a0)), (1, .int x1), (2, .int x2), (3, .int x3)] [] S (La_clearRow_7 a0 n9 x1 x2 x3 S)
  | 0 => by
    intros
    exact iz_none
  | n9 + 1 => c_La_clearRow_7b h0 (c_La_clearRow_7 h0 n9)
set_option maxRecDepth 10000 in
theorem c_La_clearRow {X : iz_X} {l : Launch} {a0 : Nat} (h0 : iz_sh a0 = (2 + 3, 3)) (x1 : Int32) (S : iz_S) : iz_Y X l RX2 tX2_clearRow 4 1 (iz_Kc X l yX2_clearRow cX2_clearRow 4 (some .int) 1 iz_eI) 0 [(0, .ref (X.1 a0)), (1, .int x1)] [] S (La_clearRow a0 x1 S) := by
  unfold La_clearRow
  refine iz_iconst (v := 0) 0 (by decide) rfl ?_
  refine iz_istore_n (n := 2) (ls2 := [(0, .ref (X.1 a0)), (1, .int x1), (2, .int 0)]) 1 [1, 2, 0] rfl (by decide) rfl ?_
  refine iz_iload_n (n := 1) 2 1 rfl rfl ?_
  refine iz_bipush (v := 8) 3 (by decide) rfl ?_
  refine iz_imul 4 rfl ?_
  refine iz_let (fun v1 => ?_)
  refine iz_istore_n (n := 3) (ls2 := [(0, .ref (X.1 a0)), (1, .int x1), (2, .int 0), (3, .int v1)]) 5 [1, 2, 3, 0] rfl (by decide) rfl ?_
  exact c_La_clearRow_7 h0 iz_FU x1 0 v1 S
theorem m_La_clearRow {X : iz_X} {l : Launch} {a0 : Nat} (h0 : iz_sh a0 = (2 + 3, 3)) {x1 : Int32} {S : iz_S} {r9 : Int32 × iz_S} (hr : La_clearRow a0 x1 S = some r9) : iz_Mt X l 1 yX2_clearRow cX2_clearRow 4 (some .int) [.ref (X.1 a0), .int x1] S (iz_eI r9) :=
  iz_Mt_of (dt := tX2_clearRow) dX2_clearRow (by decide) hr (Nat.le_of_ble_eq_true rfl) (c_La_clearRow h0 x1 S)
def La_cellsOf_30 (a0 : Nat) (k5 : Int32 → Int64 → Int32 → iz_S → Option (Int64 × iz_S)) (x1 : Int32) (x2 : Int64) (x4 : Int32) (S : iz_S) : Option (Int64 × iz_S) :=
  (k5 x1 x2 (x4 + 1) S)
def La_cellsOf_5b (a0 : Nat) (k5 : Int32 → Int64 → Int32 → iz_S → Option (Int64 × iz_S)) (x1 : Int32) (x2 : Int64) (x4 : Int32) (S : iz_S) : Option (Int64 × iz_S) :=
  (if x4 < 64 then
    (iz_ck (iz_in x4 64) (
    if (iz_g S (iz_rf a0 0) x4) < x1 then
      (La_cellsOf_30 a0 k5 x1 x2 x4 S)
    else
      iz_lt (x2 ||| ((1 : Int64) <<< (Int32.toInt64 x4 &&& 63))) (fun v1 =>
      (La_cellsOf_30 a0 k5 x1 v1 x4 S))))
  else
    some (x2, S))
def La_cellsOf_5 (a0 : Nat) : Nat → Int32 → Int64 → Int32 → iz_S → Option (Int64 × iz_S)
  | 0 => fun _ _ _ _ => none
  | n9 + 1 => La_cellsOf_5b a0 (La_cellsOf_5 a0 n9)
def La_cellsOf (a0 : Nat) (x1 : Int32) (S : iz_S) : Option (Int64 × iz_S) :=
  (La_cellsOf_5 a0 iz_FU x1 0 0 S)
set_option maxRecDepth 10000 in
theorem c_La_cellsOf_30 {X : iz_X} {l : Launch} {a0 : Nat} (h0 : iz_sh a0 = (2 + 3, 3)) {k5 : Int32 → Int64 → Int32 → iz_S → Option (Int64 × iz_S)} (hk5 : ∀ (x1 : Int32) (x2 : Int64) (x4 : Int32) (S : iz_S), iz_Y X l RX2 tX2_cellsOf 5 0 (iz_Kc X l yX2_cellsOf cX2_cellsOf 5 (some .long) 0 iz_eL) 5 [(0, .ref (X.1 a0)), (1, .int x1), (2, .long x2), (4, .int x4)] [] S (k5 x1 x2 x4 S)) (x1 : Int32) (x2 : Int64) (x4 : Int32) (S : iz_S) : iz_Y X l RX2 tX2_cellsOf 5 0 (iz_Kc X l yX2_cellsOf cX2_cellsOf 5 (some .long) 0 iz_eL) 30 [(0, .ref (X.1 a0)), (1, .int x1), (2, .long x2), (4, .int x4)] [] S (La_cellsOf_30 a0 k5 x1 x2 x4 S) := by
  unfold La_cellsOf_30
  refine iz_iinc (v := (x4 + 1)) (ls2 := [(0, .ref (X.1 a0)), (1, .int x1), (2, .long x2), (4, .int (x4 + 1))]) 19 3 [1, 2, 3, 0] rfl rfl rfl (by decide) rfl ?_
  refine iz_goto (tgt := 5) 20 (by decide) rfl ?_
  exact hk5 x1 x2 (x4 + 1) S
set_option maxRecDepth 10000 in
theorem c_La_cellsOf_5b {X : iz_X} {l : Launch} {a0 : Nat} (h0 : iz_sh a0 = (2 + 3, 3)) {k5 : Int32 → Int64 → Int32 → iz_S → Option (Int64 × iz_S)} (hk5 : ∀ (x1 : Int32) (x2 : Int64) (x4 : Int32) (S : iz_S), iz_Y X l RX2 tX2_cellsOf 5 0 (iz_Kc X l yX2_cellsOf cX2_cellsOf 5 (some .long) 0 iz_eL) 5 [(0, .ref (X.1 a0)), (1, .int x1), (2, .long x2), (4, .int x4)] [] S (k5 x1 x2 x4 S)) (x1 : Int32) (x2 : Int64) (x4 : Int32) (S : iz_S) : iz_Y X l RX2 tX2_cellsOf 5 0 (iz_Kc X l yX2_cellsOf cX2_cellsOf 5 (some .long) 0 iz_eL) 5 [(0, .ref (X.1 a0)), (1, .int x1), (2, .long x2), (4, .int x4)] [] S (La_cellsOf_5b a0 k5 x1 x2 x4 S) := by
  unfold La_cellsOf_5b
  refine iz_iload (n := 4) 4 3 rfl rfl ?_
  refine iz_bipush (v := 64) 5 (by decide) rfl ?_
  refine iz_cmp_ge (tgt := 36) 6 rfl (by decide) ?_ ?_
  · refine iz_lload_n (n := 2) 21 2 rfl rfl ?_
    exact iz_lret 22 rfl
  · refine iz_aload_n (n := 0) 7 0 rfl rfl ?_
    refine iz_getR 8 0 h0 fl_X2_9 rfl (by decide) (by decide) rfl ?_
    refine iz_iload (n := 4) 9 3 rfl rfl ?_
    refine iz_iald 10 (sf_2_0 h0) rfl ?_
    refine iz_iload_n (n := 1) 11 1 rfl rfl ?_
    refine iz_cmp_lt (tgt := 30) 12 rfl (by decide) ?_ ?_
    · exact c_La_cellsOf_30 h0 hk5 x1 x2 x4 S
    · refine iz_lload_n (n := 2) 13 2 rfl rfl ?_
      refine iz_lconst (v := 1) 14 (by decide) rfl ?_
      refine iz_iload (n := 4) 15 3 rfl rfl ?_
      refine iz_lshl 16 rfl ?_
      refine iz_lor 17 rfl ?_
      refine iz_letL (fun v1 => ?_)
      refine iz_lstore_n (n := 2) (ls2 := [(0, .ref (X.1 a0)), (1, .int x1), (2, .long v1), (4, .int x4)]) 18 [1, 2, 0, 3] rfl (by decide) rfl ?_
      exact c_La_cellsOf_30 h0 hk5 x1 v1 x4 S
theorem c_La_cellsOf_5 {X : iz_X} {l : Launch} {a0 : Nat} (h0 : iz_sh a0 = (2 + 3, 3)) : ∀ (n9 : Nat) (x1 : Int32) (x2 : Int64) (x4 : Int32) (S : iz_S), iz_Y X l RX2 tX2_cellsOf 5 0 (iz_Kc X l yX2_cellsOf cX2_cellsOf 5 (some .long) 0 iz_eL) 5 [(0, .ref (X.1 a0)), (1, .int x1), (2, .long x2), (4, .int x4)] [] S (La_cellsOf_5 a0 n9 x1 x2 x4 S)
  | 0 => by
    intros
    exact iz_none
  | n9 + 1 => c_La_cellsOf_5b h0 (c_La_cellsOf_5 h0 n9)
set_option maxRecDepth 10000 in
theorem c_La_cellsOf {X : iz_X} {l : Launch} {a0 : Nat} (h0 : iz_sh a0 = (2 + 3, 3)) (x1 : Int32) (S : iz_S) : iz_Y X l RX2 tX2_cellsOf 5 0 (iz_Kc X l yX2_cellsOf cX2_cellsOf 5 (some .long) 0 iz_eL) 0 [(0, .ref (X.1 a0)), (1, .int x1)] [] S (La_cellsOf a0 x1 S) := by
  unfold La_cellsOf
  refine iz_lconst (v := 0) 0 (by decide) rfl ?_
  refine iz_lstore_n (n := 2) (ls2 := [(0, .ref (X.1 a0)), (1, .int x1), (2, .long 0)]) 1 [1, 2, 0] rfl (by decide) rfl ?_
  refine iz_iconst (v := 0) 2 (by decide) rfl ?_
  refine iz_istore (n := 4) (ls2 := [(0, .ref (X.1 a0)), (1, .int x1), (2, .long 0), (4, .int 0)]) 3 [1, 2, 3, 0] rfl (by decide) rfl ?_
  exact c_La_cellsOf_5 h0 iz_FU x1 0 0 S
theorem m_La_cellsOf {X : iz_X} {l : Launch} {a0 : Nat} (h0 : iz_sh a0 = (2 + 3, 3)) {x1 : Int32} {S : iz_S} {r9 : Int64 × iz_S} (hr : La_cellsOf a0 x1 S = some r9) : iz_Mt X l 0 yX2_cellsOf cX2_cellsOf 5 (some .long) [.ref (X.1 a0), .int x1] S (iz_eL r9) :=
  iz_Mt_of (dt := tX2_cellsOf) dX2_cellsOf (by decide) hr (Nat.le_of_ble_eq_true rfl) (c_La_cellsOf h0 x1 S)
def Jl_bitCount (x0 : Int64) (S : iz_S) : Option (Int32 × iz_S) :=
  iz_lt (x0 - (((Int64.toUInt64 x0 >>> ((Int32.toInt64 1).toUInt64 &&& Int64.toUInt64 63)).toInt64) &&& 6148914691236517205)) (fun v1 =>
  iz_lt ((v1 &&& 3689348814741910323) + (((Int64.toUInt64 v1 >>> ((Int32.toInt64 2).toUInt64 &&& Int64.toUInt64 63)).toInt64) &&& 3689348814741910323)) (fun v2 =>
  iz_lt ((v2 + ((Int64.toUInt64 v2 >>> ((Int32.toInt64 4).toUInt64 &&& Int64.toUInt64 63)).toInt64)) &&& 1085102592571150095) (fun v3 =>
  iz_lt (v3 + ((Int64.toUInt64 v3 >>> ((Int32.toInt64 8).toUInt64 &&& Int64.toUInt64 63)).toInt64)) (fun v4 =>
  iz_lt (v4 + ((Int64.toUInt64 v4 >>> ((Int32.toInt64 16).toUInt64 &&& Int64.toUInt64 63)).toInt64)) (fun v5 =>
  iz_lt (v5 + ((Int64.toUInt64 v5 >>> ((Int32.toInt64 32).toUInt64 &&& Int64.toUInt64 63)).toInt64)) (fun v6 =>
  some (((Int64.toInt32 v6) &&& 127), S)))))))
set_option maxRecDepth 10000 in
theorem c_Jl_bitCount {X : iz_X} {l : Launch} (x0 : Int64) (S : iz_S) : iz_Y X l RJ13 tJ13_bitCount_95d88 2 0 (iz_Kc X l yJ13_bitCount_95d88 cJ13_bitCount_95d88 2 (some .int) 0 iz_eI) 0 [(0, .long x0)] [] S (Jl_bitCount x0 S) := by
  unfold Jl_bitCount
  refine iz_lload_n (n := 0) 0 0 rfl rfl ?_
  refine iz_lload_n (n := 0) 1 0 rfl rfl ?_
  refine iz_iconst (v := 1) 2 (by decide) rfl ?_
  refine iz_lushr 3 rfl ?_
  refine iz_ldc2 4 kc_J13_314 rfl ?_
  refine iz_land 5 rfl ?_
  refine iz_lsub 6 rfl ?_
  refine iz_letL (fun v1 => ?_)
  refine iz_lstore_n (n := 0) (ls2 := [(0, .long v1)]) 7 [0] rfl (by decide) rfl ?_
  refine iz_lload_n (n := 0) 8 0 rfl rfl ?_
  refine iz_ldc2 9 kc_J13_316 rfl ?_
  refine iz_land 10 rfl ?_
  refine iz_lload_n (n := 0) 11 0 rfl rfl ?_
  refine iz_iconst (v := 2) 12 (by decide) rfl ?_
  refine iz_lushr 13 rfl ?_
  refine iz_ldc2 14 kc_J13_316 rfl ?_
  refine iz_land 15 rfl ?_
  refine iz_ladd 16 rfl ?_
  refine iz_letL (fun v2 => ?_)
  refine iz_lstore_n (n := 0) (ls2 := [(0, .long v2)]) 17 [0] rfl (by decide) rfl ?_
  refine iz_lload_n (n := 0) 18 0 rfl rfl ?_
  refine iz_lload_n (n := 0) 19 0 rfl rfl ?_
  refine iz_iconst (v := 4) 20 (by decide) rfl ?_
  refine iz_lushr 21 rfl ?_
  refine iz_ladd 22 rfl ?_
  refine iz_ldc2 23 kc_J13_318 rfl ?_
  refine iz_land 24 rfl ?_
  refine iz_letL (fun v3 => ?_)
  refine iz_lstore_n (n := 0) (ls2 := [(0, .long v3)]) 25 [0] rfl (by decide) rfl ?_
  refine iz_lload_n (n := 0) 26 0 rfl rfl ?_
  refine iz_lload_n (n := 0) 27 0 rfl rfl ?_
  refine iz_bipush (v := 8) 28 (by decide) rfl ?_
  refine iz_lushr 29 rfl ?_
  refine iz_ladd 30 rfl ?_
  refine iz_letL (fun v4 => ?_)
  refine iz_lstore_n (n := 0) (ls2 := [(0, .long v4)]) 31 [0] rfl (by decide) rfl ?_
  refine iz_lload_n (n := 0) 32 0 rfl rfl ?_
  refine iz_lload_n (n := 0) 33 0 rfl rfl ?_
  refine iz_bipush (v := 16) 34 (by decide) rfl ?_
  refine iz_lushr 35 rfl ?_
  refine iz_ladd 36 rfl ?_
  refine iz_letL (fun v5 => ?_)
  refine iz_lstore_n (n := 0) (ls2 := [(0, .long v5)]) 37 [0] rfl (by decide) rfl ?_
  refine iz_lload_n (n := 0) 38 0 rfl rfl ?_
  refine iz_lload_n (n := 0) 39 0 rfl rfl ?_
  refine iz_bipush (v := 32) 40 (by decide) rfl ?_
  refine iz_lushr 41 rfl ?_
  refine iz_ladd 42 rfl ?_
  refine iz_letL (fun v6 => ?_)
  refine iz_lstore_n (n := 0) (ls2 := [(0, .long v6)]) 43 [0] rfl (by decide) rfl ?_
  refine iz_lload_n (n := 0) 44 0 rfl rfl ?_
  refine iz_l2i 45 rfl ?_
  refine iz_bipush (v := 127) 46 (by decide) rfl ?_
  refine iz_iand 47 rfl ?_
  exact iz_iret 48 rfl
theorem m_Jl_bitCount {X : iz_X} {l : Launch} {x0 : Int64} {S : iz_S} {r9 : Int32 × iz_S} (hr : Jl_bitCount x0 S = some r9) : iz_Mt X l 0 yJ13_bitCount_95d88 cJ13_bitCount_95d88 2 (some .int) [.long x0] S (iz_eI r9) :=
  iz_Mt_of (dt := tJ13_bitCount_95d88) dJ13_bitCount_95d88 (by decide) hr (Nat.le_of_ble_eq_true rfl) (c_Jl_bitCount x0 S)
def La_frozenCells (a0 : Nat) (S : iz_S) : Option (Int32 × iz_S) :=
  iz_bL (La_cellsOf a0 1 S) (fun r2 S1 =>
  iz_bI (Jl_bitCount r2 S1) (fun r4 S3 =>
  some (r4, S3)))
set_option maxRecDepth 10000 in
theorem c_La_frozenCells {X : iz_X} {l : Launch} {a0 : Nat} (h0 : iz_sh a0 = (2 + 3, 3)) (S : iz_S) : iz_Y X l RX2 tX2_frozenCells 1 1 (iz_Kc X l yX2_frozenCells cX2_frozenCells 1 (some .int) 1 iz_eI) 0 [(0, .ref (X.1 a0))] [] S (La_frozenCells a0 S) := by
  unfold La_frozenCells
  refine iz_aload_n (n := 0) 0 0 rfl rfl ?_
  refine iz_iconst (v := 1) 1 (by decide) rfl ?_
  refine iz_callVL (As := [.int 1]) (rest := []) 2 ml_X2_38 cw_X2_cellsOf ci_X2_cellsOf h0 (fun r9 hr9 => m_La_cellsOf h0 hr9) rfl (by decide) (by decide) rfl rfl (Nat.le_of_ble_eq_true rfl) (fun r2 S1 => ?_)
  refine iz_callSI (As := [.long r2]) (rest := []) 3 ml_X2_42 cw_J13_bitCount_95d88 ci_J13_bitCount_95d88 (fun r9 hr9 => m_Jl_bitCount  hr9) rfl (by decide) rfl rfl (Nat.le_of_ble_eq_true rfl) (fun r4 S3 => ?_)
  exact iz_iret 4 rfl
theorem m_La_frozenCells {X : iz_X} {l : Launch} {a0 : Nat} (h0 : iz_sh a0 = (2 + 3, 3)) {S : iz_S} {r9 : Int32 × iz_S} (hr : La_frozenCells a0 S = some r9) : iz_Mt X l 1 yX2_frozenCells cX2_frozenCells 1 (some .int) [.ref (X.1 a0)] S (iz_eI r9) :=
  iz_Mt_of (dt := tX2_frozenCells) dX2_frozenCells (by decide) hr (Nat.le_of_ble_eq_true rfl) (c_La_frozenCells h0 S)
def La_bearing (a0 : Nat) (x1 : Int32) (S : iz_S) : Option (Int64 × iz_S) :=
  iz_ck (iz_in x1 3) (
  iz_bL (La_cellsOf a0 (iz_zV 0 (Int32.toNatClampNeg x1)) S) (fun r2 S1 =>
  some (r2, S1)))
set_option maxRecDepth 10000 in
theorem c_La_bearing {X : iz_X} {l : Launch} {a0 : Nat} (h0 : iz_sh a0 = (2 + 3, 3)) (x1 : Int32) (S : iz_S) : iz_Y X l RX2 tX2_bearing 2 1 (iz_Kc X l yX2_bearing cX2_bearing 2 (some .long) 1 iz_eL) 0 [(0, .ref (X.1 a0)), (1, .int x1)] [] S (La_bearing a0 x1 S) := by
  unfold La_bearing
  refine iz_aload_n (n := 0) 0 0 rfl rfl ?_
  refine iz_getsN 1 0 (by decide) sl_X2_48 rfl ?_
  refine iz_iload_n (n := 1) 2 1 rfl rfl ?_
  refine iz_tald 3 0 (by decide) rfl ?_
  refine iz_callVL (As := [.int (iz_zV 0 (Int32.toNatClampNeg x1))]) (rest := []) 4 ml_X2_38 cw_X2_cellsOf ci_X2_cellsOf h0 (fun r9 hr9 => m_La_cellsOf h0 hr9) rfl (by decide) (by decide) rfl rfl (Nat.le_of_ble_eq_true rfl) (fun r2 S1 => ?_)
  exact iz_lret 5 rfl
theorem m_La_bearing {X : iz_X} {l : Launch} {a0 : Nat} (h0 : iz_sh a0 = (2 + 3, 3)) {x1 : Int32} {S : iz_S} {r9 : Int64 × iz_S} (hr : La_bearing a0 x1 S = some r9) : iz_Mt X l 1 yX2_bearing cX2_bearing 2 (some .long) [.ref (X.1 a0), .int x1] S (iz_eL r9) :=
  iz_Mt_of (dt := tX2_bearing) dX2_bearing (by decide) hr (Nat.le_of_ble_eq_true rfl) (c_La_bearing h0 x1 S)
def La_beside (x0 : Int64) (S : iz_S) : Option (Int64 × iz_S) :=
  some ((((((x0 : Int64) <<< (Int32.toInt64 8 &&& 63)) ||| ((Int64.toUInt64 x0 >>> ((Int32.toInt64 8).toUInt64 &&& Int64.toUInt64 63)).toInt64)) ||| (((x0 : Int64) <<< (Int32.toInt64 1 &&& 63)) &&& (-72340172838076674))) ||| (((Int64.toUInt64 x0 >>> ((Int32.toInt64 1).toUInt64 &&& Int64.toUInt64 63)).toInt64) &&& 9187201950435737471)), S)
set_option maxRecDepth 10000 in
theorem c_La_beside {X : iz_X} {l : Launch} (x0 : Int64) (S : iz_S) : iz_Y X l RX2 tX2_beside 2 0 (iz_Kc X l yX2_beside cX2_beside 2 (some .long) 0 iz_eL) 0 [(0, .long x0)] [] S (La_beside x0 S) := by
  unfold La_beside
  refine iz_lload_n (n := 0) 0 0 rfl rfl ?_
  refine iz_bipush (v := 8) 1 (by decide) rfl ?_
  refine iz_lshl 2 rfl ?_
  refine iz_lload_n (n := 0) 3 0 rfl rfl ?_
  refine iz_bipush (v := 8) 4 (by decide) rfl ?_
  refine iz_lushr 5 rfl ?_
  refine iz_lor 6 rfl ?_
  refine iz_lload_n (n := 0) 7 0 rfl rfl ?_
  refine iz_iconst (v := 1) 8 (by decide) rfl ?_
  refine iz_lshl 9 rfl ?_
  refine iz_ldc2 10 kc_X2_57 rfl ?_
  refine iz_land 11 rfl ?_
  refine iz_lor 12 rfl ?_
  refine iz_lload_n (n := 0) 13 0 rfl rfl ?_
  refine iz_iconst (v := 1) 14 (by decide) rfl ?_
  refine iz_lushr 15 rfl ?_
  refine iz_ldc2 16 kc_X2_59 rfl ?_
  refine iz_land 17 rfl ?_
  refine iz_lor 18 rfl ?_
  exact iz_lret 19 rfl
theorem m_La_beside {X : iz_X} {l : Launch} {x0 : Int64} {S : iz_S} {r9 : Int64 × iz_S} (hr : La_beside x0 S = some r9) : iz_Mt X l 0 yX2_beside cX2_beside 2 (some .long) [.long x0] S (iz_eL r9) :=
  iz_Mt_of (dt := tX2_beside) dX2_beside (by decide) hr (Nat.le_of_ble_eq_true rfl) (c_La_beside x0 S)
def La_reachedOver_45 (x2 : Int64) (S : iz_S) : Option (Int64 × iz_S) :=
  some (x2, S)
def La_reachedOver_9b (k9 : Int64 → Int64 → Int32 → iz_S → Option (Int64 × iz_S)) (x0 : Int64) (x2 : Int64) (x4 : Int32) (S : iz_S) : Option (Int64 × iz_S) :=
  (if x4 < 64 then
    (iz_bL (La_beside x2 S) (fun r3 S2 =>
    iz_lt ((x2 ||| r3) &&& x0) (fun v4 =>
    if (lg_cmp v4 x2) = 0 then
      (La_reachedOver_45 x2 S2)
    else
      (k9 x0 v4 (x4 + 1) S2))))
  else
    (La_reachedOver_45 x2 S))
def La_reachedOver_9 : Nat → Int64 → Int64 → Int32 → iz_S → Option (Int64 × iz_S)
  | 0 => fun _ _ _ _ => none
  | n9 + 1 => La_reachedOver_9b (La_reachedOver_9 n9)
def La_reachedOver (x0 : Int64) (S : iz_S) : Option (Int64 × iz_S) :=
  iz_lt (x0 &&& 255) (fun v1 =>
  (La_reachedOver_9 iz_FU x0 v1 0 S))
set_option maxRecDepth 10000 in
theorem c_La_reachedOver_45 {X : iz_X} {l : Launch} (x2 : Int64) (S : iz_S) : iz_Y X l RX2 tX2_reachedOver 7 1 (iz_Kc X l yX2_reachedOver cX2_reachedOver 7 (some .long) 1 iz_eL) 45 [(2, .long x2)] [] S (La_reachedOver_45 x2 S) := by
  unfold La_reachedOver_45
  refine iz_lload_n (n := 2) 25 0 rfl rfl ?_
  exact iz_lret 26 rfl
set_option maxRecDepth 10000 in
theorem c_La_reachedOver_9b {X : iz_X} {l : Launch} {k9 : Int64 → Int64 → Int32 → iz_S → Option (Int64 × iz_S)} (hk9 : ∀ (x0 : Int64) (x2 : Int64) (x4 : Int32) (S : iz_S), iz_Y X l RX2 tX2_reachedOver 7 1 (iz_Kc X l yX2_reachedOver cX2_reachedOver 7 (some .long) 1 iz_eL) 9 [(0, .long x0), (2, .long x2), (4, .int x4)] [] S (k9 x0 x2 x4 S)) (x0 : Int64) (x2 : Int64) (x4 : Int32) (S : iz_S) : iz_Y X l RX2 tX2_reachedOver 7 1 (iz_Kc X l yX2_reachedOver cX2_reachedOver 7 (some .long) 1 iz_eL) 9 [(0, .long x0), (2, .long x2), (4, .int x4)] [] S (La_reachedOver_9b k9 x0 x2 x4 S) := by
  unfold La_reachedOver_9b
  refine iz_iload (n := 4) 6 2 rfl rfl ?_
  refine iz_bipush (v := 64) 7 (by decide) rfl ?_
  refine iz_cmp_ge (tgt := 45) 8 rfl (by decide) ?_ ?_
  · exact iz_sub [1] rfl (c_La_reachedOver_45 x2 S)
  · refine iz_lload_n (n := 2) 9 1 rfl rfl ?_
    refine iz_lload_n (n := 2) 10 1 rfl rfl ?_
    refine iz_callSL (As := [.long x2]) (rest := [.long x2]) 11 ml_X2_53 cw_X2_beside ci_X2_beside (fun r9 hr9 => m_La_beside  hr9) rfl (by decide) rfl rfl (Nat.le_of_ble_eq_true rfl) (fun r3 S2 => ?_)
    refine iz_lor 12 rfl ?_
    refine iz_lload_n (n := 0) 13 0 rfl rfl ?_
    refine iz_land 14 rfl ?_
    refine iz_letL (fun v4 => ?_)
    refine iz_lstore (n := 5) (ls2 := [(0, .long x0), (2, .long x2), (4, .int x4), (5, .long v4)]) 15 [1, 2, 3, 0] rfl (by decide) rfl ?_
    refine iz_lload (n := 5) 16 3 rfl rfl ?_
    refine iz_lload_n (n := 2) 17 1 rfl rfl ?_
    refine iz_lcmp 18 rfl ?_
    refine iz_if_ne (tgt := 36) 19 rfl (by decide) ?_ ?_
    · refine iz_lload (n := 5) 21 3 rfl rfl ?_
      refine iz_lstore_n (n := 2) (ls2 := [(0, .long x0), (2, .long v4), (4, .int x4)]) 22 [1, 0, 2] rfl (by decide) rfl ?_
      refine iz_iinc (v := (x4 + 1)) (ls2 := [(0, .long x0), (2, .long v4), (4, .int (x4 + 1))]) 23 2 [1, 2, 0] rfl rfl rfl (by decide) rfl ?_
      refine iz_goto (tgt := 9) 24 (by decide) rfl ?_
      exact hk9 x0 v4 (x4 + 1) S2
    · refine iz_goto (tgt := 45) 20 (by decide) rfl ?_
      exact iz_sub [1] rfl (c_La_reachedOver_45 x2 S2)
theorem c_La_reachedOver_9 {X : iz_X} {l : Launch} : ∀ (n9 : Nat) (x0 : Int64) (x2 : Int64) (x4 : Int32) (S : iz_S), iz_Y X l RX2 tX2_reachedOver 7 1 (iz_Kc X l yX2_reachedOver cX2_reachedOver 7 (some .long) 1 iz_eL) 9 [(0, .long x0), (2, .long x2), (4, .int x4)] [] S (La_reachedOver_9 n9 x0 x2 x4 S)
  | 0 => by
    intros
    exact iz_none
  | n9 + 1 => c_La_reachedOver_9b (c_La_reachedOver_9 n9)
set_option maxRecDepth 10000 in
theorem c_La_reachedOver {X : iz_X} {l : Launch} (x0 : Int64) (S : iz_S) : iz_Y X l RX2 tX2_reachedOver 7 1 (iz_Kc X l yX2_reachedOver cX2_reachedOver 7 (some .long) 1 iz_eL) 0 [(0, .long x0)] [] S (La_reachedOver x0 S) := by
  unfold La_reachedOver
  refine iz_lload_n (n := 0) 0 0 rfl rfl ?_
  refine iz_ldc2 1 kc_X2_51 rfl ?_
  refine iz_land 2 rfl ?_
  refine iz_letL (fun v1 => ?_)
  refine iz_lstore_n (n := 2) (ls2 := [(0, .long x0), (2, .long v1)]) 3 [1, 0] rfl (by decide) rfl ?_
  refine iz_iconst (v := 0) 4 (by decide) rfl ?_
  refine iz_istore (n := 4) (ls2 := [(0, .long x0), (2, .long v1), (4, .int 0)]) 5 [1, 2, 0] rfl (by decide) rfl ?_
  exact c_La_reachedOver_9 iz_FU x0 v1 0 S
theorem m_La_reachedOver {X : iz_X} {l : Launch} {x0 : Int64} {S : iz_S} {r9 : Int64 × iz_S} (hr : La_reachedOver x0 S = some r9) : iz_Mt X l 1 yX2_reachedOver cX2_reachedOver 7 (some .long) [.long x0] S (iz_eL r9) :=
  iz_Mt_of (dt := tX2_reachedOver) dX2_reachedOver (by decide) hr (Nat.le_of_ble_eq_true rfl) (c_La_reachedOver x0 S)
def La_isSquare_24 (s0 : Int32) (S : iz_S) : Option (Int32 × iz_S) :=
  iz_ck (decide (iz_nb s0 = s0)) (some (s0, S))
def La_isSquare_23 (S : iz_S) : Option (Int32 × iz_S) :=
  (La_isSquare_24 0 S)
def La_isSquare (x0 : Int32) (S : iz_S) : Option (Int32 × iz_S) :=
  (iz_bI (Ic_within x0 0 54 S) (fun r2 S1 =>
  if r2 = 0 then
    (La_isSquare_23 S1)
  else
    (if (x0 - x0 / 8 * 8) < 7 then
      (La_isSquare_24 1 S1)
    else
      (La_isSquare_23 S1))))
set_option maxRecDepth 10000 in
theorem c_La_isSquare_24 {X : iz_X} {l : Launch} (s0 : Int32) (S : iz_S) : iz_Y X l RX2 tX2_isSquare 1 1 (iz_Kc X l yX2_isSquare cX2_isSquare 1 (some .boolean) 1 iz_eI) 24 [] [.int s0] S (La_isSquare_24 s0 S) := by
  unfold La_isSquare_24
  exact iz_zret 13 rfl
set_option maxRecDepth 10000 in
theorem c_La_isSquare_23 {X : iz_X} {l : Launch} (S : iz_S) : iz_Y X l RX2 tX2_isSquare 1 1 (iz_Kc X l yX2_isSquare cX2_isSquare 1 (some .boolean) 1 iz_eI) 23 [] [] S (La_isSquare_23 S) := by
  unfold La_isSquare_23
  refine iz_iconst (v := 0) 12 (by decide) rfl ?_
  exact c_La_isSquare_24 0 S
set_option maxRecDepth 10000 in
theorem c_La_isSquare {X : iz_X} {l : Launch} (x0 : Int32) (S : iz_S) : iz_Y X l RX2 tX2_isSquare 1 1 (iz_Kc X l yX2_isSquare cX2_isSquare 1 (some .boolean) 1 iz_eI) 0 [(0, .int x0)] [] S (La_isSquare x0 S) := by
  unfold La_isSquare
  refine iz_iload_n (n := 0) 0 0 rfl rfl ?_
  refine iz_iconst (v := 0) 1 (by decide) rfl ?_
  refine iz_bipush (v := 54) 2 (by decide) rfl ?_
  refine iz_callSNI (As := [.int x0, .int 0, .int 54]) (rest := []) 3 ml_X2_61 cw_X9_within ci_X9_within (fun r9 hr9 => m_Ic_within  hr9) rfl (by decide) rfl rfl (Nat.le_of_ble_eq_true rfl) (fun r2 S1 => ?_)
  refine iz_if_eq (tgt := 23) 4 rfl (by decide) ?_ ?_
  · exact iz_sub [] rfl (c_La_isSquare_23 S1)
  · refine iz_iload_n (n := 0) 5 0 rfl rfl ?_
    refine iz_bipush (v := 8) 6 (by decide) rfl ?_
    refine iz_irem 7 (by decide) rfl ?_
    refine iz_bipush (v := 7) 8 (by decide) rfl ?_
    refine iz_cmp_ge (tgt := 23) 9 rfl (by decide) ?_ ?_
    · exact iz_sub [] rfl (c_La_isSquare_23 S1)
    · refine iz_iconst (v := 1) 10 (by decide) rfl ?_
      refine iz_goto (tgt := 24) 11 (by decide) rfl ?_
      exact iz_sub [] rfl (c_La_isSquare_24 1 S1)
theorem m_La_isSquare {X : iz_X} {l : Launch} {x0 : Int32} {S : iz_S} {r9 : Int32 × iz_S} (hr : La_isSquare x0 S = some r9) : iz_Mt X l 1 yX2_isSquare cX2_isSquare 1 (some .boolean) [.int x0] S (iz_eI r9) :=
  iz_Mt_of (dt := tX2_isSquare) dX2_isSquare (by decide) hr (Nat.le_of_ble_eq_true rfl) (c_La_isSquare x0 S)
def La_cellsOfSquare (x0 : Int32) (S : iz_S) : Option (Int64 × iz_S) :=
  some (((771 : Int64) <<< (Int32.toInt64 x0 &&& 63)), S)
set_option maxRecDepth 10000 in
theorem c_La_cellsOfSquare {X : iz_X} {l : Launch} (x0 : Int32) (S : iz_S) : iz_Y X l RX2 tX2_cellsOfSquare 1 0 (iz_Kc X l yX2_cellsOfSquare cX2_cellsOfSquare 1 (some .long) 0 iz_eL) 0 [(0, .int x0)] [] S (La_cellsOfSquare x0 S) := by
  unfold La_cellsOfSquare
  refine iz_ldc2 0 kc_X2_65 rfl ?_
  refine iz_iload_n (n := 0) 1 0 rfl rfl ?_
  refine iz_lshl 2 rfl ?_
  exact iz_lret 3 rfl
theorem m_La_cellsOfSquare {X : iz_X} {l : Launch} {x0 : Int32} {S : iz_S} {r9 : Int64 × iz_S} (hr : La_cellsOfSquare x0 S = some r9) : iz_Mt X l 0 yX2_cellsOfSquare cX2_cellsOfSquare 1 (some .long) [.int x0] S (iz_eL r9) :=
  iz_Mt_of (dt := tX2_cellsOfSquare) dX2_cellsOfSquare (by decide) hr (Nat.le_of_ble_eq_true rfl) (c_La_cellsOfSquare x0 S)
def La_barAmong_50 (s0 : Int32) (S : iz_S) : Option (Int32 × iz_S) :=
  some (s0, S)
def La_barAmong (x0 : Int64) (x2 : Int64) (x4 : Int64) (S : iz_S) : Option (Int32 × iz_S) :=
  (if (lg_cmp (x0 &&& (x2 ^^^ (-1))) 0) = 0 then
    (iz_bL (La_beside x0 S) (fun r2 S1 =>
    iz_lt (r2 &&& (x0 ^^^ (-1))) (fun v3 =>
    iz_bL (La_reachedOver (x4 &&& (x0 ^^^ (-1))) S1) (fun r5 S4 =>
    if (lg_cmp (v3 &&& r5) 0) = 0 then
      (La_barAmong_50 2 S4)
    else
      (La_barAmong_50 0 S4)))))
  else
    some (1, S))
set_option maxRecDepth 10000 in
theorem c_La_barAmong_50 {X : iz_X} {l : Launch} (s0 : Int32) (S : iz_S) : iz_Y X l RX2 tX2_barAmong 8 2 (iz_Kc X l yX2_barAmong cX2_barAmong 8 (some .int) 2 iz_eI) 50 [] [.int s0] S (La_barAmong_50 s0 S) := by
  unfold La_barAmong_50
  exact iz_iret 31 rfl
set_option maxRecDepth 10000 in
theorem c_La_barAmong {X : iz_X} {l : Launch} (x0 : Int64) (x2 : Int64) (x4 : Int64) (S : iz_S) : iz_Y X l RX2 tX2_barAmong 8 2 (iz_Kc X l yX2_barAmong cX2_barAmong 8 (some .int) 2 iz_eI) 0 [(0, .long x0), (2, .long x2), (4, .long x4)] [] S (La_barAmong x0 x2 x4 S) := by
  unfold La_barAmong
  refine iz_lload_n (n := 0) 0 0 rfl rfl ?_
  refine iz_lload_n (n := 2) 1 1 rfl rfl ?_
  refine iz_ldc2 2 kc_X2_77 rfl ?_
  refine iz_lxor 3 rfl ?_
  refine iz_land 4 rfl ?_
  refine iz_lconst (v := 0) 5 (by decide) rfl ?_
  refine iz_lcmp 6 rfl ?_
  refine iz_if_eq (tgt := 14) 7 rfl (by decide) ?_ ?_
  · refine iz_lload_n (n := 0) 10 0 rfl rfl ?_
    refine iz_callSL (As := [.long x0]) (rest := []) 11 ml_X2_53 cw_X2_beside ci_X2_beside (fun r9 hr9 => m_La_beside  hr9) rfl (by decide) rfl rfl (Nat.le_of_ble_eq_true rfl) (fun r2 S1 => ?_)
    refine iz_lload_n (n := 0) 12 0 rfl rfl ?_
    refine iz_ldc2 13 kc_X2_77 rfl ?_
    refine iz_lxor 14 rfl ?_
    refine iz_land 15 rfl ?_
    refine iz_letL (fun v3 => ?_)
    refine iz_lstore (n := 6) (ls2 := [(0, .long x0), (4, .long x4), (6, .long v3)]) 16 [1, 3, 0] rfl (by decide) rfl ?_
    refine iz_lload (n := 6) 17 2 rfl rfl ?_
    refine iz_lload (n := 4) 18 1 rfl rfl ?_
    refine iz_lload_n (n := 0) 19 0 rfl rfl ?_
    refine iz_ldc2 20 kc_X2_77 rfl ?_
    refine iz_lxor 21 rfl ?_
    refine iz_land 22 rfl ?_
    refine iz_callSL (As := [.long (x4 &&& (x0 ^^^ (-1)))]) (rest := [.long v3]) 23 ml_X2_79 cw_X2_reachedOver ci_X2_reachedOver (fun r9 hr9 => m_La_reachedOver  hr9) rfl (by decide) rfl rfl (Nat.le_of_ble_eq_true rfl) (fun r5 S4 => ?_)
    refine iz_land 24 rfl ?_
    refine iz_lconst (v := 0) 25 (by decide) rfl ?_
    refine iz_lcmp 26 rfl ?_
    refine iz_if_eq (tgt := 49) 27 rfl (by decide) ?_ ?_
    · refine iz_iconst (v := 2) 30 (by decide) rfl ?_
      exact iz_sub [] rfl (c_La_barAmong_50 2 S4)
    · refine iz_iconst (v := 0) 28 (by decide) rfl ?_
      refine iz_goto (tgt := 50) 29 (by decide) rfl ?_
      exact iz_sub [] rfl (c_La_barAmong_50 0 S4)
  · refine iz_iconst (v := 1) 8 (by decide) rfl ?_
    exact iz_iret 9 rfl
theorem m_La_barAmong {X : iz_X} {l : Launch} {x0 : Int64} {x2 : Int64} {x4 : Int64} {S : iz_S} {r9 : Int32 × iz_S} (hr : La_barAmong x0 x2 x4 S = some r9) : iz_Mt X l 2 yX2_barAmong cX2_barAmong 8 (some .int) [.long x0, .long x2, .long x4] S (iz_eI r9) :=
  iz_Mt_of (dt := tX2_barAmong) dX2_barAmong (by decide) hr (Nat.le_of_ble_eq_true rfl) (c_La_barAmong x0 x2 x4 S)
def La_barTo (a0 : Nat) (x1 : Int32) (S : iz_S) : Option (Int32 × iz_S) :=
  iz_bL (La_cellsOfSquare x1 S) (fun r2 S1 =>
  iz_bL (La_cellsOf a0 8 S1) (fun r4 S3 =>
  iz_bL (La_bearing a0 1 S3) (fun r6 S5 =>
  iz_bI (La_barAmong r2 r4 r6 S5) (fun r8 S7 =>
  some (r8, S7)))))
set_option maxRecDepth 10000 in
theorem c_La_barTo {X : iz_X} {l : Launch} {a0 : Nat} (h0 : iz_sh a0 = (2 + 3, 3)) (x1 : Int32) (S : iz_S) : iz_Y X l RX2 tX2_barTo 2 3 (iz_Kc X l yX2_barTo cX2_barTo 2 (some .int) 3 iz_eI) 0 [(0, .ref (X.1 a0)), (1, .int x1)] [] S (La_barTo a0 x1 S) := by
  unfold La_barTo
  refine iz_iload_n (n := 1) 0 1 rfl rfl ?_
  refine iz_callSL (As := [.int x1]) (rest := []) 1 ml_X2_67 cw_X2_cellsOfSquare ci_X2_cellsOfSquare (fun r9 hr9 => m_La_cellsOfSquare  hr9) rfl (by decide) rfl rfl (Nat.le_of_ble_eq_true rfl) (fun r2 S1 => ?_)
  refine iz_aload_n (n := 0) 2 0 rfl rfl ?_
  refine iz_bipush (v := 8) 3 (by decide) rfl ?_
  refine iz_callVL (As := [.int 8]) (rest := [.long r2]) 4 ml_X2_38 cw_X2_cellsOf ci_X2_cellsOf h0 (fun r9 hr9 => m_La_cellsOf h0 hr9) rfl (by decide) (by decide) rfl rfl (Nat.le_of_ble_eq_true rfl) (fun r4 S3 => ?_)
  refine iz_aload_n (n := 0) 5 0 rfl rfl ?_
  refine iz_iconst (v := 1) 6 (by decide) rfl ?_
  refine iz_callVL (As := [.int 1]) (rest := [.long r4, .long r2]) 7 ml_X2_70 cw_X2_bearing ci_X2_bearing h0 (fun r9 hr9 => m_La_bearing h0 hr9) rfl (by decide) (by decide) rfl rfl (Nat.le_of_ble_eq_true rfl) (fun r6 S5 => ?_)
  refine iz_callSI (As := [.long r2, .long r4, .long r6]) (rest := []) 8 ml_X2_73 cw_X2_barAmong ci_X2_barAmong (fun r9 hr9 => m_La_barAmong  hr9) rfl (by decide) rfl rfl (Nat.le_of_ble_eq_true rfl) (fun r8 S7 => ?_)
  exact iz_iret 9 rfl
theorem m_La_barTo {X : iz_X} {l : Launch} {a0 : Nat} (h0 : iz_sh a0 = (2 + 3, 3)) {x1 : Int32} {S : iz_S} {r9 : Int32 × iz_S} (hr : La_barTo a0 x1 S = some r9) : iz_Mt X l 3 yX2_barTo cX2_barTo 2 (some .int) [.ref (X.1 a0), .int x1] S (iz_eI r9) :=
  iz_Mt_of (dt := tX2_barTo) dX2_barTo (by decide) hr (Nat.le_of_ble_eq_true rfl) (c_La_barTo h0 x1 S)
def La_thicksOf (a0 : Nat) (x1 : Int32) (S : iz_S) : Option (Int32 × iz_S) :=
  iz_ck (iz_in x1 64) (
  iz_ck (iz_in (x1 + 1) 64) (
  iz_ck (iz_in (x1 + 8) 64) (
  iz_ck (iz_in ((x1 + 8) + 1) 64) (
  some (((((iz_g S (iz_rf a0 0) x1) + (iz_g S (iz_rf a0 0) (x1 + 1))) + (iz_g S (iz_rf a0 0) (x1 + 8))) + (iz_g S (iz_rf a0 0) ((x1 + 8) + 1))), S)))))
set_option maxRecDepth 10000 in
theorem c_La_thicksOf {X : iz_X} {l : Launch} {a0 : Nat} (h0 : iz_sh a0 = (2 + 3, 3)) (x1 : Int32) (S : iz_S) : iz_Y X l RX2 tX2_thicksOf 2 0 (iz_Kc X l yX2_thicksOf cX2_thicksOf 2 (some .int) 0 iz_eI) 0 [(0, .ref (X.1 a0)), (1, .int x1)] [] S (La_thicksOf a0 x1 S) := by
  unfold La_thicksOf
  refine iz_aload_n (n := 0) 0 0 rfl rfl ?_
  refine iz_getR 1 0 h0 fl_X2_9 rfl (by decide) (by decide) rfl ?_
  refine iz_iload_n (n := 1) 2 1 rfl rfl ?_
  refine iz_iald 3 (sf_2_0 h0) rfl ?_
  refine iz_aload_n (n := 0) 4 0 rfl rfl ?_
  refine iz_getR 5 0 h0 fl_X2_9 rfl (by decide) (by decide) rfl ?_
  refine iz_iload_n (n := 1) 6 1 rfl rfl ?_
  refine iz_iconst (v := 1) 7 (by decide) rfl ?_
  refine iz_iadd 8 rfl ?_
  refine iz_iald 9 (sf_2_0 h0) rfl ?_
  refine iz_iadd 10 rfl ?_
  refine iz_aload_n (n := 0) 11 0 rfl rfl ?_
  refine iz_getR 12 0 h0 fl_X2_9 rfl (by decide) (by decide) rfl ?_
  refine iz_iload_n (n := 1) 13 1 rfl rfl ?_
  refine iz_bipush (v := 8) 14 (by decide) rfl ?_
  refine iz_iadd 15 rfl ?_
  refine iz_iald 16 (sf_2_0 h0) rfl ?_
  refine iz_iadd 17 rfl ?_
  refine iz_aload_n (n := 0) 18 0 rfl rfl ?_
  refine iz_getR 19 0 h0 fl_X2_9 rfl (by decide) (by decide) rfl ?_
  refine iz_iload_n (n := 1) 20 1 rfl rfl ?_
  refine iz_bipush (v := 8) 21 (by decide) rfl ?_
  refine iz_iadd 22 rfl ?_
  refine iz_iconst (v := 1) 23 (by decide) rfl ?_
  refine iz_iadd 24 rfl ?_
  refine iz_iald 25 (sf_2_0 h0) rfl ?_
  refine iz_iadd 26 rfl ?_
  exact iz_iret 27 rfl
theorem m_La_thicksOf {X : iz_X} {l : Launch} {a0 : Nat} (h0 : iz_sh a0 = (2 + 3, 3)) {x1 : Int32} {S : iz_S} {r9 : Int32 × iz_S} (hr : La_thicksOf a0 x1 S = some r9) : iz_Mt X l 0 yX2_thicksOf cX2_thicksOf 2 (some .int) [.ref (X.1 a0), .int x1] S (iz_eI r9) :=
  iz_Mt_of (dt := tX2_thicksOf) dX2_thicksOf (by decide) hr (Nat.le_of_ble_eq_true rfl) (c_La_thicksOf h0 x1 S)
def La_milk_14 (a0 : Nat) (s0 : Int32) (S : iz_S) : Option (Int32 × iz_S) :=
  some (s0, S)
def La_milk (a0 : Nat) (x1 : Int32) (S : iz_S) : Option (Int32 × iz_S) :=
  (iz_ck (iz_in x1 64) (
  if (iz_g S (iz_rf a0 2) x1) = 0 then
    (La_milk_14 a0 0 S)
  else
    (La_milk_14 a0 1 S)))
set_option maxRecDepth 10000 in
theorem c_La_milk_14 {X : iz_X} {l : Launch} {a0 : Nat} (h0 : iz_sh a0 = (2 + 3, 3)) (s0 : Int32) (S : iz_S) : iz_Y X l RX2 tX2_milk 2 0 (iz_Kc X l yX2_milk cX2_milk 2 (some .int) 0 iz_eI) 14 [] [.int s0] S (La_milk_14 a0 s0 S) := by
  unfold La_milk_14
  exact iz_iret 8 rfl
set_option maxRecDepth 10000 in
theorem c_La_milk {X : iz_X} {l : Launch} {a0 : Nat} (h0 : iz_sh a0 = (2 + 3, 3)) (x1 : Int32) (S : iz_S) : iz_Y X l RX2 tX2_milk 2 0 (iz_Kc X l yX2_milk cX2_milk 2 (some .int) 0 iz_eI) 0 [(0, .ref (X.1 a0)), (1, .int x1)] [] S (La_milk a0 x1 S) := by
  unfold La_milk
  refine iz_aload_n (n := 0) 0 0 rfl rfl ?_
  refine iz_getR 1 2 h0 fl_X2_18 rfl (by decide) (by decide) rfl ?_
  refine iz_iload_n (n := 1) 2 1 rfl rfl ?_
  refine iz_bald 3 (sf_2_2 h0) rfl ?_
  refine iz_if_eq (tgt := 13) 4 rfl (by decide) ?_ ?_
  · refine iz_iconst (v := 0) 7 (by decide) rfl ?_
    exact iz_sub [] rfl (c_La_milk_14 h0 0 S)
  · refine iz_iconst (v := 1) 5 (by decide) rfl ?_
    refine iz_goto (tgt := 14) 6 (by decide) rfl ?_
    exact iz_sub [] rfl (c_La_milk_14 h0 1 S)
theorem m_La_milk {X : iz_X} {l : Launch} {a0 : Nat} (h0 : iz_sh a0 = (2 + 3, 3)) {x1 : Int32} {S : iz_S} {r9 : Int32 × iz_S} (hr : La_milk a0 x1 S = some r9) : iz_Mt X l 0 yX2_milk cX2_milk 2 (some .int) [.ref (X.1 a0), .int x1] S (iz_eI r9) :=
  iz_Mt_of (dt := tX2_milk) dX2_milk (by decide) hr (Nat.le_of_ble_eq_true rfl) (c_La_milk h0 x1 S)
def La_kindOf_63 (a0 : Nat) (s0 : Int32) (S : iz_S) : Option (Int32 × iz_S) :=
  some (s0, S)
def La_kindOf (a0 : Nat) (x1 : Int32) (S : iz_S) : Option (Int32 × iz_S) :=
  (iz_bI (La_milk a0 x1 S) (fun r2 S1 =>
  iz_bI (La_milk a0 (x1 + 1) S1) (fun r4 S3 =>
  iz_bI (La_milk a0 (x1 + 8) S3) (fun r6 S5 =>
  iz_bI (La_milk a0 ((x1 + 8) + 1) S5) (fun r8 S7 =>
  iz_lt (((r2 + r4) + r6) + r8) (fun v9 =>
  if v9 < 2 then
    (if v9 = 1 then
      some (0, S7)
    else
      (iz_bI (La_thicksOf a0 x1 S7) (fun r11 S10 =>
      if r11 < 48 then
        (La_kindOf_63 a0 3 S10)
      else
        (La_kindOf_63 a0 1 S10))))
  else
    some (2, S7)))))))
set_option maxRecDepth 10000 in
theorem c_La_kindOf_63 {X : iz_X} {l : Launch} {a0 : Nat} (h0 : iz_sh a0 = (2 + 3, 3)) (s0 : Int32) (S : iz_S) : iz_Y X l RX2 tX2_kindOf 3 1 (iz_Kc X l yX2_kindOf cX2_kindOf 3 (some .int) 1 iz_eI) 63 [] [.int s0] S (La_kindOf_63 a0 s0 S) := by
  unfold La_kindOf_63
  exact iz_iret 42 rfl
set_option maxRecDepth 10000 in
theorem c_La_kindOf {X : iz_X} {l : Launch} {a0 : Nat} (h0 : iz_sh a0 = (2 + 3, 3)) (x1 : Int32) (S : iz_S) : iz_Y X l RX2 tX2_kindOf 3 1 (iz_Kc X l yX2_kindOf cX2_kindOf 3 (some .int) 1 iz_eI) 0 [(0, .ref (X.1 a0)), (1, .int x1)] [] S (La_kindOf a0 x1 S) := by
  unfold La_kindOf
  refine iz_aload_n (n := 0) 0 0 rfl rfl ?_
  refine iz_iload_n (n := 1) 1 1 rfl rfl ?_
  refine iz_callVI (As := [.int x1]) (rest := []) 2 ml_X2_82 cw_X2_milk ci_X2_milk h0 (fun r9 hr9 => m_La_milk h0 hr9) rfl (by decide) (by decide) rfl rfl (Nat.le_of_ble_eq_true rfl) (fun r2 S1 => ?_)
  refine iz_aload_n (n := 0) 3 0 rfl rfl ?_
  refine iz_iload_n (n := 1) 4 1 rfl rfl ?_
  refine iz_iconst (v := 1) 5 (by decide) rfl ?_
  refine iz_iadd 6 rfl ?_
  refine iz_callVI (As := [.int (x1 + 1)]) (rest := [.int r2]) 7 ml_X2_82 cw_X2_milk ci_X2_milk h0 (fun r9 hr9 => m_La_milk h0 hr9) rfl (by decide) (by decide) rfl rfl (Nat.le_of_ble_eq_true rfl) (fun r4 S3 => ?_)
  refine iz_iadd 8 rfl ?_
  refine iz_aload_n (n := 0) 9 0 rfl rfl ?_
  refine iz_iload_n (n := 1) 10 1 rfl rfl ?_
  refine iz_bipush (v := 8) 11 (by decide) rfl ?_
  refine iz_iadd 12 rfl ?_
  refine iz_callVI (As := [.int (x1 + 8)]) (rest := [.int (r2 + r4)]) 13 ml_X2_82 cw_X2_milk ci_X2_milk h0 (fun r9 hr9 => m_La_milk h0 hr9) rfl (by decide) (by decide) rfl rfl (Nat.le_of_ble_eq_true rfl) (fun r6 S5 => ?_)
  refine iz_iadd 14 rfl ?_
  refine iz_aload_n (n := 0) 15 0 rfl rfl ?_
  refine iz_iload_n (n := 1) 16 1 rfl rfl ?_
  refine iz_bipush (v := 8) 17 (by decide) rfl ?_
  refine iz_iadd 18 rfl ?_
  refine iz_iconst (v := 1) 19 (by decide) rfl ?_
  refine iz_iadd 20 rfl ?_
  refine iz_callVI (As := [.int ((x1 + 8) + 1)]) (rest := [.int ((r2 + r4) + r6)]) 21 ml_X2_82 cw_X2_milk ci_X2_milk h0 (fun r9 hr9 => m_La_milk h0 hr9) rfl (by decide) (by decide) rfl rfl (Nat.le_of_ble_eq_true rfl) (fun r8 S7 => ?_)
  refine iz_iadd 22 rfl ?_
  refine iz_let (fun v9 => ?_)
  refine iz_istore_n (n := 2) (ls2 := [(0, .ref (X.1 a0)), (1, .int x1), (2, .int v9)]) 23 [1, 2, 0] rfl (by decide) rfl ?_
  refine iz_iload_n (n := 2) 24 2 rfl rfl ?_
  refine iz_iconst (v := 2) 25 (by decide) rfl ?_
  refine iz_cmp_lt (tgt := 41) 26 rfl (by decide) ?_ ?_
  · refine iz_iload_n (n := 2) 29 2 rfl rfl ?_
    refine iz_iconst (v := 1) 30 (by decide) rfl ?_
    refine iz_cmp_ne (tgt := 48) 31 rfl (by decide) ?_ ?_
    · refine iz_aload_n (n := 0) 34 0 rfl rfl ?_
      refine iz_iload_n (n := 1) 35 1 rfl rfl ?_
      refine iz_callVI (As := [.int x1]) (rest := []) 36 ml_X2_86 cw_X2_thicksOf ci_X2_thicksOf h0 (fun r9 hr9 => m_La_thicksOf h0 hr9) rfl (by decide) (by decide) rfl rfl (Nat.le_of_ble_eq_true rfl) (fun r11 S10 => ?_)
      refine iz_bipush (v := 48) 37 (by decide) rfl ?_
      refine iz_cmp_ge (tgt := 62) 38 rfl (by decide) ?_ ?_
      · refine iz_iconst (v := 1) 41 (by decide) rfl ?_
        exact iz_sub [] rfl (c_La_kindOf_63 h0 1 S10)
      · refine iz_iconst (v := 3) 39 (by decide) rfl ?_
        refine iz_goto (tgt := 63) 40 (by decide) rfl ?_
        exact iz_sub [] rfl (c_La_kindOf_63 h0 3 S10)
    · refine iz_iconst (v := 0) 32 (by decide) rfl ?_
      exact iz_iret 33 rfl
  · refine iz_iconst (v := 2) 27 (by decide) rfl ?_
    exact iz_iret 28 rfl
theorem m_La_kindOf {X : iz_X} {l : Launch} {a0 : Nat} (h0 : iz_sh a0 = (2 + 3, 3)) {x1 : Int32} {S : iz_S} {r9 : Int32 × iz_S} (hr : La_kindOf a0 x1 S = some r9) : iz_Mt X l 1 yX2_kindOf cX2_kindOf 3 (some .int) [.ref (X.1 a0), .int x1] S (iz_eI r9) :=
  iz_Mt_of (dt := tX2_kindOf) dX2_kindOf (by decide) hr (Nat.le_of_ble_eq_true rfl) (c_La_kindOf h0 x1 S)
def La_openCell (a0 : Nat) (x1 : Int32) (S : iz_S) : Option iz_S :=
  iz_ck (iz_in x1 64) (iz_lt (iz_s S (iz_rf a0 0) x1 0) (fun S1 =>
  iz_ck (iz_in x1 64) (iz_lt (iz_s S1 (iz_rf a0 1) x1 0) (fun S2 =>
  iz_ck (iz_in x1 64) (iz_lt (iz_s S2 (iz_rf a0 2) x1 (iz_nb 0)) (fun S3 =>
  some S3))))))
set_option maxRecDepth 10000 in
theorem c_La_openCell {X : iz_X} {l : Launch} {a0 : Nat} (h0 : iz_sh a0 = (2 + 3, 3)) (x1 : Int32) (S : iz_S) : iz_Y X l RX2 tX2_openCell 2 0 (iz_Kc X l yX2_openCell cX2_openCell 2 none 0 iz_eV) 0 [(0, .ref (X.1 a0)), (1, .int x1)] [] S (La_openCell a0 x1 S) := by
  unfold La_openCell
  refine iz_aload_n (n := 0) 0 0 rfl rfl ?_
  refine iz_getR 1 0 h0 fl_X2_9 rfl (by decide) (by decide) rfl ?_
  refine iz_iload_n (n := 1) 2 1 rfl rfl ?_
  refine iz_iconst (v := 0) 3 (by decide) rfl ?_
  refine iz_iast 4 (sf_2_0 h0) rfl (fun S1 => ?_)
  refine iz_aload_n (n := 0) 5 0 rfl rfl ?_
  refine iz_getR 6 1 h0 fl_X2_15 rfl (by decide) (by decide) rfl ?_
  refine iz_iload_n (n := 1) 7 1 rfl rfl ?_
  refine iz_iconst (v := 0) 8 (by decide) rfl ?_
  refine iz_iast 9 (sf_2_1 h0) rfl (fun S2 => ?_)
  refine iz_aload_n (n := 0) 10 0 rfl rfl ?_
  refine iz_getR 11 2 h0 fl_X2_18 rfl (by decide) (by decide) rfl ?_
  refine iz_iload_n (n := 1) 12 1 rfl rfl ?_
  refine iz_iconst (v := 0) 13 (by decide) rfl ?_
  refine iz_bast 14 (sf_2_2 h0) rfl (fun S3 => ?_)
  exact iz_vret 15 rfl
theorem m_La_openCell {X : iz_X} {l : Launch} {a0 : Nat} (h0 : iz_sh a0 = (2 + 3, 3)) {x1 : Int32} {S : iz_S} {r9 : iz_S} (hr : La_openCell a0 x1 S = some r9) : iz_Mt X l 0 yX2_openCell cX2_openCell 2 none [.ref (X.1 a0), .int x1] S (iz_eV r9) :=
  iz_Mt_of (dt := tX2_openCell) dX2_openCell (by decide) hr (Nat.le_of_ble_eq_true rfl) (c_La_openCell h0 x1 S)
def La_open (a0 : Nat) (x1 : Int32) (S : iz_S) : Option iz_S :=
  iz_bV (La_openCell a0 x1 S) (fun S1 =>
  iz_bV (La_openCell a0 (x1 + 1) S1) (fun S2 =>
  iz_bV (La_openCell a0 (x1 + 8) S2) (fun S3 =>
  iz_bV (La_openCell a0 ((x1 + 8) + 1) S3) (fun S4 =>
  some S4))))
set_option maxRecDepth 10000 in
theorem c_La_open {X : iz_X} {l : Launch} {a0 : Nat} (h0 : iz_sh a0 = (2 + 3, 3)) (x1 : Int32) (S : iz_S) : iz_Y X l RX2 tX2_open 2 1 (iz_Kc X l yX2_open cX2_open 2 none 1 iz_eV) 0 [(0, .ref (X.1 a0)), (1, .int x1)] [] S (La_open a0 x1 S) := by
  unfold La_open
  refine iz_aload_n (n := 0) 0 0 rfl rfl ?_
  refine iz_iload_n (n := 1) 1 1 rfl rfl ?_
  refine iz_callVV (As := [.int x1]) (rest := []) 2 ml_X2_89 cw_X2_openCell ci_X2_openCell h0 (fun r9 hr9 => m_La_openCell h0 hr9) rfl (by decide) (by decide) rfl rfl (Nat.le_of_ble_eq_true rfl) (fun S1 => ?_)
  refine iz_aload_n (n := 0) 3 0 rfl rfl ?_
  refine iz_iload_n (n := 1) 4 1 rfl rfl ?_
  refine iz_iconst (v := 1) 5 (by decide) rfl ?_
  refine iz_iadd 6 rfl ?_
  refine iz_callVV (As := [.int (x1 + 1)]) (rest := []) 7 ml_X2_89 cw_X2_openCell ci_X2_openCell h0 (fun r9 hr9 => m_La_openCell h0 hr9) rfl (by decide) (by decide) rfl rfl (Nat.le_of_ble_eq_true rfl) (fun S2 => ?_)
  refine iz_aload_n (n := 0) 8 0 rfl rfl ?_
  refine iz_iload_n (n := 1) 9 1 rfl rfl ?_
  refine iz_bipush (v := 8) 10 (by decide) rfl ?_
  refine iz_iadd 11 rfl ?_
  refine iz_callVV (As := [.int (x1 + 8)]) (rest := []) 12 ml_X2_89 cw_X2_openCell ci_X2_openCell h0 (fun r9 hr9 => m_La_openCell h0 hr9) rfl (by decide) (by decide) rfl rfl (Nat.le_of_ble_eq_true rfl) (fun S3 => ?_)
  refine iz_aload_n (n := 0) 13 0 rfl rfl ?_
  refine iz_iload_n (n := 1) 14 1 rfl rfl ?_
  refine iz_bipush (v := 8) 15 (by decide) rfl ?_
  refine iz_iadd 16 rfl ?_
  refine iz_iconst (v := 1) 17 (by decide) rfl ?_
  refine iz_iadd 18 rfl ?_
  refine iz_callVV (As := [.int ((x1 + 8) + 1)]) (rest := []) 19 ml_X2_89 cw_X2_openCell ci_X2_openCell h0 (fun r9 hr9 => m_La_openCell h0 hr9) rfl (by decide) (by decide) rfl rfl (Nat.le_of_ble_eq_true rfl) (fun S4 => ?_)
  exact iz_vret 20 rfl
theorem m_La_open {X : iz_X} {l : Launch} {a0 : Nat} (h0 : iz_sh a0 = (2 + 3, 3)) {x1 : Int32} {S : iz_S} {r9 : iz_S} (hr : La_open a0 x1 S = some r9) : iz_Mt X l 1 yX2_open cX2_open 2 none [.ref (X.1 a0), .int x1] S (iz_eV r9) :=
  iz_Mt_of (dt := tX2_open) dX2_open (by decide) hr (Nat.le_of_ble_eq_true rfl) (c_La_open h0 x1 S)
def Ic_isUnder_37 (S : iz_S) : Option (Int32 × iz_S) :=
  iz_ck (decide (iz_nb 0 = 0)) (some (0, S))
def Ic_isUnder_4b (k4 : Int32 → Int32 → Int32 → iz_S → Option (Int32 × iz_S)) (x1 : Int32) (x2 : Int32) (x3 : Int32) (S : iz_S) : Option (Int32 × iz_S) :=
  (if x3 < 4 then
    (iz_bI (Ic_within x2 0 3 S) (fun r2 S1 =>
    if r2 = 0 then
      (Ic_isUnder_37 S1)
    else
      (if x2 = x1 then
        iz_ck (decide (iz_nb 1 = 1)) (some (1, S1))
      else
        iz_ck (iz_in x2 4) (
        iz_lt (iz_zV 1 (Int32.toNatClampNeg x2)) (fun v3 =>
        (k4 x1 v3 (x3 + 1) S1))))))
  else
    (Ic_isUnder_37 S))
def Ic_isUnder_4 : Nat → Int32 → Int32 → Int32 → iz_S → Option (Int32 × iz_S)
  | 0 => fun _ _ _ _ => none
  | n9 + 1 => Ic_isUnder_4b (Ic_isUnder_4 n9)
def Ic_isUnder (x0 : Int32) (x1 : Int32) (S : iz_S) : Option (Int32 × iz_S) :=
  (Ic_isUnder_4 iz_FU x1 x0 0 S)
set_option maxRecDepth 10000 in
theorem c_Ic_isUnder_37 {X : iz_X} {l : Launch} (S : iz_S) : iz_Y X l RX9 tX9_isUnder 4 1 (iz_Kc X l yX9_isUnder cX9_isUnder 4 (some .boolean) 1 iz_eI) 37 [] [] S (Ic_isUnder_37 S) := by
  unfold Ic_isUnder_37
  refine iz_iconst (v := 0) 23 (by decide) rfl ?_
  exact iz_zret 24 rfl
set_option maxRecDepth 10000 in
theorem c_Ic_isUnder_4b {X : iz_X} {l : Launch} {k4 : Int32 → Int32 → Int32 → iz_S → Option (Int32 × iz_S)} (hk4 : ∀ (x1 : Int32) (x2 : Int32) (x3 : Int32) (S : iz_S), iz_Y X l RX9 tX9_isUnder 4 1 (iz_Kc X l yX9_isUnder cX9_isUnder 4 (some .boolean) 1 iz_eI) 4 [(1, .int x1), (2, .int x2), (3, .int x3)] [] S (k4 x1 x2 x3 S)) (x1 : Int32) (x2 : Int32) (x3 : Int32) (S : iz_S) : iz_Y X l RX9 tX9_isUnder 4 1 (iz_Kc X l yX9_isUnder cX9_isUnder 4 (some .boolean) 1 iz_eI) 4 [(1, .int x1), (2, .int x2), (3, .int x3)] [] S (Ic_isUnder_4b k4 x1 x2 x3 S) := by
  unfold Ic_isUnder_4b
  refine iz_iload_n (n := 3) 4 2 rfl rfl ?_
  refine iz_iconst (v := 4) 5 (by decide) rfl ?_
  refine iz_cmp_ge (tgt := 37) 6 rfl (by decide) ?_ ?_
  · exact iz_sub [] rfl (c_Ic_isUnder_37 S)
  · refine iz_iload_n (n := 2) 7 1 rfl rfl ?_
    refine iz_iconst (v := 0) 8 (by decide) rfl ?_
    refine iz_iconst (v := 3) 9 (by decide) rfl ?_
    refine iz_callSI (As := [.int x2, .int 0, .int 3]) (rest := []) 10 ml_X9_85 cw_X9_within ci_X9_within (fun r9 hr9 => m_Ic_within  hr9) rfl (by decide) rfl rfl (Nat.le_of_ble_eq_true rfl) (fun r2 S1 => ?_)
    refine iz_if_eq (tgt := 37) 11 rfl (by decide) ?_ ?_
    · exact iz_sub [] rfl (c_Ic_isUnder_37 S1)
    · refine iz_iload_n (n := 2) 12 1 rfl rfl ?_
      refine iz_iload_n (n := 1) 13 0 rfl rfl ?_
      refine iz_cmp_ne (tgt := 25) 14 rfl (by decide) ?_ ?_
      · refine iz_gets 17 1 (by decide) sl_X9_356 rfl ?_
        refine iz_iload_n (n := 2) 18 1 rfl rfl ?_
        refine iz_tald 19 1 (by decide) rfl ?_
        refine iz_let (fun v3 => ?_)
        refine iz_istore_n (n := 2) (ls2 := [(1, .int x1), (2, .int v3), (3, .int x3)]) 20 [1, 0, 2] rfl (by decide) rfl ?_
        refine iz_iinc (v := (x3 + 1)) (ls2 := [(1, .int x1), (2, .int v3), (3, .int (x3 + 1))]) 21 2 [1, 2, 0] rfl rfl rfl (by decide) rfl ?_
        refine iz_goto (tgt := 4) 22 (by decide) rfl ?_
        exact hk4 x1 v3 (x3 + 1) S1
      · refine iz_iconst (v := 1) 15 (by decide) rfl ?_
        exact iz_zret 16 rfl
theorem c_Ic_isUnder_4 {X : iz_X} {l : Launch} : ∀ (n9 : Nat) (x1 : Int32) (x2 : Int32) (x3 : Int32) (S : iz_S), iz_Y X l RX9 tX9_isUnder 4 1 (iz_Kc X l yX9_isUnder cX9_isUnder 4 (some .boolean) 1 iz_eI) 4 [(1, .int x1), (2, .int x2), (3, .int x3)] [] S (Ic_isUnder_4 n9 x1 x2 x3 S)
  | 0 => by
    intros
    exact iz_none
  | n9 + 1 => c_Ic_isUnder_4b (c_Ic_isUnder_4 n9)
set_option maxRecDepth 10000 in
theorem c_Ic_isUnder {X : iz_X} {l : Launch} (x0 : Int32) (x1 : Int32) (S : iz_S) : iz_Y X l RX9 tX9_isUnder 4 1 (iz_Kc X l yX9_isUnder cX9_isUnder 4 (some .boolean) 1 iz_eI) 0 [(0, .int x0), (1, .int x1)] [] S (Ic_isUnder x0 x1 S) := by
  unfold Ic_isUnder
  refine iz_iload_n (n := 0) 0 0 rfl rfl ?_
  refine iz_istore_n (n := 2) (ls2 := [(1, .int x1), (2, .int x0)]) 1 [2, 0] rfl (by decide) rfl ?_
  refine iz_iconst (v := 0) 2 (by decide) rfl ?_
  refine iz_istore_n (n := 3) (ls2 := [(1, .int x1), (2, .int x0), (3, .int 0)]) 3 [1, 2, 0] rfl (by decide) rfl ?_
  exact c_Ic_isUnder_4 iz_FU x1 x0 0 S
theorem m_Ic_isUnder {X : iz_X} {l : Launch} {x0 : Int32} {x1 : Int32} {S : iz_S} {r9 : Int32 × iz_S} (hr : Ic_isUnder x0 x1 S = some r9) : iz_Mt X l 1 yX9_isUnder cX9_isUnder 4 (some .boolean) [.int x0, .int x1] S (iz_eI r9) :=
  iz_Mt_of (dt := tX9_isUnder) dX9_isUnder (by decide) hr (Nat.le_of_ble_eq_true rfl) (c_Ic_isUnder x0 x1 S)
def Wa_hasTwins_14b (a0 : Nat) (k2 : Int32 → iz_S → Option (Int32 × iz_S)) (k14 : Int32 → Int32 → iz_S → Option (Int32 × iz_S)) (x1 : Int32) (x2 : Int32) (S : iz_S) : Option (Int32 × iz_S) :=
  (if x2 < (S.1 a0 0) then
    (iz_ck (iz_in x1 16) (
    iz_ck (iz_in x2 16) (
    if (iz_g S (iz_rf a0 1) x1) = (iz_g S (iz_rf a0 1) x2) then
      iz_ck (decide (iz_nb 1 = 1)) (some (1, S))
    else
      (k14 x1 (x2 + 1) S))))
  else
    (k2 (x1 + 1) S))
def Wa_hasTwins_14 (a0 : Nat) (k2 : Int32 → iz_S → Option (Int32 × iz_S)) : Nat → Int32 → Int32 → iz_S → Option (Int32 × iz_S)
  | 0 => fun _ _ _ => none
  | n9 + 1 => Wa_hasTwins_14b a0 k2 (Wa_hasTwins_14 a0 k2 n9)
def Wa_hasTwins_2b (a0 : Nat) (k2 : Int32 → iz_S → Option (Int32 × iz_S)) (x1 : Int32) (S : iz_S) : Option (Int32 × iz_S) :=
  (if x1 < (S.1 a0 0) then
    iz_lt (x1 + 1) (fun v1 =>
    (Wa_hasTwins_14 a0 k2 iz_FU x1 v1 S))
  else
    iz_ck (decide (iz_nb 0 = 0)) (some (0, S)))
def Wa_hasTwins_2 (a0 : Nat) : Nat → Int32 → iz_S → Option (Int32 × iz_S)
  | 0 => fun _ _ => none
  | n9 + 1 => Wa_hasTwins_2b a0 (Wa_hasTwins_2 a0 n9)
def Wa_hasTwins (a0 : Nat) (S : iz_S) : Option (Int32 × iz_S) :=
  (Wa_hasTwins_2 a0 iz_FU 0 S)
set_option maxRecDepth 10000 in
theorem c_Wa_hasTwins_14b {X : iz_X} {l : Launch} {a0 : Nat} (h0 : iz_sh a0 = (8 + 3, 2)) {k2 : Int32 → iz_S → Option (Int32 × iz_S)} {k14 : Int32 → Int32 → iz_S → Option (Int32 × iz_S)} (hk2 : ∀ (x1 : Int32) (S : iz_S), iz_Y X l RX8 tX8_hasTwins 3 0 (iz_Kc X l yX8_hasTwins cX8_hasTwins 3 (some .boolean) 0 iz_eI) 2 [(0, .ref (X.1 a0)), (1, .int x1)] [] S (k2 x1 S)) (hk14 : ∀ (x1 : Int32) (x2 : Int32) (S : iz_S), iz_Y X l RX8 tX8_hasTwins 3 0 (iz_Kc X l yX8_hasTwins cX8_hasTwins 3 (some .boolean) 0 iz_eI) 14 [(0, .ref (X.1 a0)), (1, .int x1), (2, .int x2)] [] S (k14 x1 x2 S)) (x1 : Int32) (x2 : Int32) (S : iz_S) : iz_Y X l RX8 tX8_hasTwins 3 0 (iz_Kc X l yX8_hasTwins cX8_hasTwins 3 (some .boolean) 0 iz_eI) 14 [(0, .ref (X.1 a0)), (1, .int x1), (2, .int x2)] [] S (Wa_hasTwins_14b a0 k2 k14 x1 x2 S) := by
  unfold Wa_hasTwins_14b
  refine iz_iload_n (n := 2) 10 2 rfl rfl ?_
  refine iz_aload_n (n := 0) 11 0 rfl rfl ?_
  refine iz_getI 12 0 h0 fl_X8_15 rfl (by decide) (by decide) rfl ?_
  refine iz_cmp_ge (tgt := 45) 13 rfl (by decide) ?_ ?_
  · refine iz_iinc (v := (x1 + 1)) (ls2 := [(0, .ref (X.1 a0)), (1, .int (x1 + 1))]) 27 1 [1, 0] rfl rfl rfl (by decide) rfl ?_
    refine iz_goto (tgt := 2) 28 (by decide) rfl ?_
    exact hk2 (x1 + 1) S
  · refine iz_aload_n (n := 0) 14 0 rfl rfl ?_
    refine iz_getR 15 1 h0 fl_X8_9 rfl (by decide) (by decide) rfl ?_
    refine iz_iload_n (n := 1) 16 1 rfl rfl ?_
    refine iz_iald 17 (sf_8_1 h0) rfl ?_
    refine iz_aload_n (n := 0) 18 0 rfl rfl ?_
    refine iz_getR 19 1 h0 fl_X8_9 rfl (by decide) (by decide) rfl ?_
    refine iz_iload_n (n := 2) 20 2 rfl rfl ?_
    refine iz_iald 21 (sf_8_1 h0) rfl ?_
    refine iz_cmp_ne (tgt := 39) 22 rfl (by decide) ?_ ?_
    · refine iz_iinc (v := (x2 + 1)) (ls2 := [(0, .ref (X.1 a0)), (1, .int x1), (2, .int (x2 + 1))]) 25 2 [1, 2, 0] rfl rfl rfl (by decide) rfl ?_
      refine iz_goto (tgt := 14) 26 (by decide) rfl ?_
      exact hk14 x1 (x2 + 1) S
    · refine iz_iconst (v := 1) 23 (by decide) rfl ?_
      exact iz_zret 24 rfl
theorem c_Wa_hasTwins_14 {X : iz_X} {l : Launch} {a0 : Nat} (h0 : iz_sh a0 = (8 + 3, 2)) {k2 : Int32 → iz_S → Option (Int32 × iz_S)} (hk2 : ∀ (x1 : Int32) (S : iz_S), iz_Y X l RX8 tX8_hasTwins 3 0 (iz_Kc X l yX8_hasTwins cX8_hasTwins 3 (some .boolean) 0 iz_eI) 2 [(0, .ref (X.1 a0)), (1, .int x1)] [] S (k2 x1 S)) : ∀ (n9 : Nat) (x1 : Int32) (x2 : Int32) (S : iz_S), iz_Y X l RX8 tX8_hasTwins 3 0 (iz_Kc X l yX8_hasTwins cX8_hasTwins 3 (some .boolean) 0 iz_eI) 14 [(0, .ref (X.1 a0)), (1, .int x1), (2, .int x2)] [] S (Wa_hasTwins_14 a0 k2 n9 x1 x2 S)
  | 0 => by
    intros
    exact iz_none
  | n9 + 1 => c_Wa_hasTwins_14b h0 hk2 (c_Wa_hasTwins_14 h0 hk2 n9)
set_option maxRecDepth 10000 in
theorem c_Wa_hasTwins_2b {X : iz_X} {l : Launch} {a0 : Nat} (h0 : iz_sh a0 = (8 + 3, 2)) {k2 : Int32 → iz_S → Option (Int32 × iz_S)} (hk2 : ∀ (x1 : Int32) (S : iz_S), iz_Y X l RX8 tX8_hasTwins 3 0 (iz_Kc X l yX8_hasTwins cX8_hasTwins 3 (some .boolean) 0 iz_eI) 2 [(0, .ref (X.1 a0)), (1, .int x1)] [] S (k2 x1 S)) (x1 : Int32) (S : iz_S) : iz_Y X l RX8 tX8_hasTwins 3 0 (iz_Kc X l yX8_hasTwins cX8_hasTwins 3 (some .boolean) 0 iz_eI) 2 [(0, .ref (X.1 a0)), (1, .int x1)] [] S (Wa_hasTwins_2b a0 k2 x1 S) := by
  unfold Wa_hasTwins_2b
  refine iz_iload_n (n := 1) 2 1 rfl rfl ?_
  refine iz_aload_n (n := 0) 3 0 rfl rfl ?_
  refine iz_getI 4 0 h0 fl_X8_15 rfl (by decide) (by decide) rfl ?_
  refine iz_cmp_ge (tgt := 51) 5 rfl (by decide) ?_ ?_
  · refine iz_iconst (v := 0) 29 (by decide) rfl ?_
    exact iz_zret 30 rfl
  · refine iz_iload_n (n := 1) 6 1 rfl rfl ?_
    refine iz_iconst (v := 1) 7 (by decide) rfl ?_
    refine iz_iadd 8 rfl ?_
    refine iz_let (fun v1 => ?_)
    refine iz_istore_n (n := 2) (ls2 := [(0, .ref (X.1 a0)), (1, .int x1), (2, .int v1)]) 9 [1, 2, 0] rfl (by decide) rfl ?_
    exact c_Wa_hasTwins_14 h0 hk2 iz_FU x1 v1 S
theorem c_Wa_hasTwins_2 {X : iz_X} {l : Launch} {a0 : Nat} (h0 : iz_sh a0 = (8 + 3, 2)) : ∀ (n9 : Nat) (x1 : Int32) (S : iz_S), iz_Y X l RX8 tX8_hasTwins 3 0 (iz_Kc X l yX8_hasTwins cX8_hasTwins 3 (some .boolean) 0 iz_eI) 2 [(0, .ref (X.1 a0)), (1, .int x1)] [] S (Wa_hasTwins_2 a0 n9 x1 S)
  | 0 => by
    intros
    exact iz_none
  | n9 + 1 => c_Wa_hasTwins_2b h0 (c_Wa_hasTwins_2 h0 n9)
set_option maxRecDepth 10000 in
theorem c_Wa_hasTwins {X : iz_X} {l : Launch} {a0 : Nat} (h0 : iz_sh a0 = (8 + 3, 2)) (S : iz_S) : iz_Y X l RX8 tX8_hasTwins 3 0 (iz_Kc X l yX8_hasTwins cX8_hasTwins 3 (some .boolean) 0 iz_eI) 0 [(0, .ref (X.1 a0))] [] S (Wa_hasTwins a0 S) := by
  unfold Wa_hasTwins
  refine iz_iconst (v := 0) 0 (by decide) rfl ?_
  refine iz_istore_n (n := 1) (ls2 := [(0, .ref (X.1 a0)), (1, .int 0)]) 1 [1, 0] rfl (by decide) rfl ?_
  exact c_Wa_hasTwins_2 h0 iz_FU 0 S
theorem m_Wa_hasTwins {X : iz_X} {l : Launch} {a0 : Nat} (h0 : iz_sh a0 = (8 + 3, 2)) {S : iz_S} {r9 : Int32 × iz_S} (hr : Wa_hasTwins a0 S = some r9) : iz_Mt X l 0 yX8_hasTwins cX8_hasTwins 3 (some .boolean) [.ref (X.1 a0)] S (iz_eI r9) :=
  iz_Mt_of (dt := tX8_hasTwins) dX8_hasTwins (by decide) hr (Nat.le_of_ble_eq_true rfl) (c_Wa_hasTwins h0 S)
def Wa_clear (a0 : Nat) (S : iz_S) : Option iz_S :=
  iz_lt (iz_up S a0 0 0) (fun S1 =>
  some S1)
set_option maxRecDepth 10000 in
theorem c_Wa_clear {X : iz_X} {l : Launch} {a0 : Nat} (h0 : iz_sh a0 = (8 + 3, 2)) (S : iz_S) : iz_Y X l RX8 tX8_clear 1 0 (iz_Kc X l yX8_clear cX8_clear 1 none 0 iz_eV) 0 [(0, .ref (X.1 a0))] [] S (Wa_clear a0 S) := by
  unfold Wa_clear
  refine iz_aload_n (n := 0) 0 0 rfl rfl ?_
  refine iz_iconst (v := 0) 1 (by decide) rfl ?_
  refine iz_putI 2 0 h0 fl_X8_15 rfl (by decide) (by decide) rfl (fun S1 => ?_)
  exact iz_vret 3 rfl
theorem m_Wa_clear {X : iz_X} {l : Launch} {a0 : Nat} (h0 : iz_sh a0 = (8 + 3, 2)) {S : iz_S} {r9 : iz_S} (hr : Wa_clear a0 S = some r9) : iz_Mt X l 0 yX8_clear cX8_clear 1 none [.ref (X.1 a0)] S (iz_eV r9) :=
  iz_Mt_of (dt := tX8_clear) dX8_clear (by decide) hr (Nat.le_of_ble_eq_true rfl) (c_Wa_clear h0 S)
def Wa_handOver_24 (a0 : Nat) (a1 : Nat) (s0 : Int32) (S : iz_S) : Option (Int32 × iz_S) :=
  iz_ck (iz_cpk 0 0 s0 16 (iz_sh a1).2) (iz_lt (iz_cpy S (iz_rf a0 1) (Int32.toNatClampNeg 0) a1 (Int32.toNatClampNeg 0) (Int32.toNatClampNeg s0)) (fun S3 =>
  iz_bV (Wa_clear a0 S3) (fun S4 =>
  some (s0, S4))))
def Wa_handOver_23 (a0 : Nat) (a1 : Nat) (S : iz_S) : Option (Int32 × iz_S) :=
  (Wa_handOver_24 a0 a1 0 S)
def Wa_handOver (a0 : Nat) (a1 : Nat) (S : iz_S) : Option (Int32 × iz_S) :=
  (if (S.1 a0 0) ≤ (Int32.ofNat (iz_sh a1).2) then
    (iz_bI (Wa_hasTwins a0 S) (fun r2 S1 =>
    if r2 = 0 then
      (Wa_handOver_24 a0 a1 (S1.1 a0 0) S1)
    else
      (Wa_handOver_23 a0 a1 S1)))
  else
    (Wa_handOver_23 a0 a1 S))
set_option maxRecDepth 10000 in
theorem c_Wa_handOver_24 {X : iz_X} {l : Launch} {a0 : Nat} (h0 : iz_sh a0 = (8 + 3, 2)) {a1 : Nat} (h1 : iz_sh a1 = (0, (iz_sh a1).2)) (s0 : Int32) (S : iz_S) : iz_Y X l RX8 tX8_handOver 3 1 (iz_Kc X l yX8_handOver cX8_handOver 3 (some .int) 1 iz_eI) 24 [(0, .ref (X.1 a0)), (1, .ref (X.1 a1))] [.int s0] S (Wa_handOver_24 a0 a1 s0 S) := by
  unfold Wa_handOver_24
  refine iz_istore_n (n := 2) (ls2 := [(0, .ref (X.1 a0)), (1, .ref (X.1 a1)), (2, .int s0)]) 12 [1, 2, 0] rfl (by decide) rfl ?_
  refine iz_aload_n (n := 0) 13 0 rfl rfl ?_
  refine iz_getR 14 1 h0 fl_X8_9 rfl (by decide) (by decide) rfl ?_
  refine iz_iconst (v := 0) 15 (by decide) rfl ?_
  refine iz_aload_n (n := 1) 16 1 rfl rfl ?_
  refine iz_iconst (v := 0) 17 (by decide) rfl ?_
  refine iz_iload_n (n := 2) 18 2 rfl rfl ?_
  refine iz_acopy 19 (sf_8_1 h0) h1 ml_X8_23 ac_nat ac_sta ac_ini (by decide) (Nat.le_of_ble_eq_true rfl) rfl (fun S3 => ?_)
  refine iz_aload_n (n := 0) 20 0 rfl rfl ?_
  refine iz_callVV (As := []) (rest := []) 21 ml_X8_29 cw_X8_clear ci_X8_clear h0 (fun r9 hr9 => m_Wa_clear h0 hr9) rfl (by decide) (by decide) rfl rfl (Nat.le_of_ble_eq_true rfl) (fun S4 => ?_)
  refine iz_iload_n (n := 2) 22 2 rfl rfl ?_
  exact iz_iret 23 rfl
set_option maxRecDepth 10000 in
theorem c_Wa_handOver_23 {X : iz_X} {l : Launch} {a0 : Nat} (h0 : iz_sh a0 = (8 + 3, 2)) {a1 : Nat} (h1 : iz_sh a1 = (0, (iz_sh a1).2)) (S : iz_S) : iz_Y X l RX8 tX8_handOver 3 1 (iz_Kc X l yX8_handOver cX8_handOver 3 (some .int) 1 iz_eI) 23 [(0, .ref (X.1 a0)), (1, .ref (X.1 a1))] [] S (Wa_handOver_23 a0 a1 S) := by
  unfold Wa_handOver_23
  refine iz_iconst (v := 0) 11 (by decide) rfl ?_
  exact c_Wa_handOver_24 h0 h1 0 S
set_option maxRecDepth 10000 in
theorem c_Wa_handOver {X : iz_X} {l : Launch} {a0 : Nat} (h0 : iz_sh a0 = (8 + 3, 2)) {a1 : Nat} (h1 : iz_sh a1 = (0, (iz_sh a1).2)) (S : iz_S) : iz_Y X l RX8 tX8_handOver 3 1 (iz_Kc X l yX8_handOver cX8_handOver 3 (some .int) 1 iz_eI) 0 [(0, .ref (X.1 a0)), (1, .ref (X.1 a1))] [] S (Wa_handOver a0 a1 S) := by
  unfold Wa_handOver
  refine iz_aload_n (n := 0) 0 0 rfl rfl ?_
  refine iz_getI 1 0 h0 fl_X8_15 rfl (by decide) (by decide) rfl ?_
  refine iz_aload_n (n := 1) 2 1 rfl rfl ?_
  refine iz_alen 3 h1 rfl ?_
  refine iz_cmp_gt (tgt := 23) 4 rfl (by decide) ?_ ?_
  · exact c_Wa_handOver_23 h0 h1 S
  · refine iz_aload_n (n := 0) 5 0 rfl rfl ?_
    refine iz_callVI (As := []) (rest := []) 6 ml_X8_19 cw_X8_hasTwins ci_X8_hasTwins h0 (fun r9 hr9 => m_Wa_hasTwins h0 hr9) rfl (by decide) (by decide) rfl rfl (Nat.le_of_ble_eq_true rfl) (fun r2 S1 => ?_)
    refine iz_if_ne (tgt := 23) 7 rfl (by decide) ?_ ?_
    · exact c_Wa_handOver_23 h0 h1 S1
    · refine iz_aload_n (n := 0) 8 0 rfl rfl ?_
      refine iz_getI 9 0 h0 fl_X8_15 rfl (by decide) (by decide) rfl ?_
      refine iz_goto (tgt := 24) 10 (by decide) rfl ?_
      exact c_Wa_handOver_24 h0 h1 (S1.1 a0 0) S1
theorem m_Wa_handOver {X : iz_X} {l : Launch} {a0 : Nat} (h0 : iz_sh a0 = (8 + 3, 2)) {a1 : Nat} (h1 : iz_sh a1 = (0, (iz_sh a1).2)) {S : iz_S} {r9 : Int32 × iz_S} (hr : Wa_handOver a0 a1 S = some r9) : iz_Mt X l 1 yX8_handOver cX8_handOver 3 (some .int) [.ref (X.1 a0), .ref (X.1 a1)] S (iz_eI r9) :=
  iz_Mt_of (dt := tX8_handOver) dX8_handOver (by decide) hr (Nat.le_of_ble_eq_true rfl) (c_Wa_handOver h0 h1 S)
def Ic_isColumn (x0 : Int32) (S : iz_S) : Option (Int32 × iz_S) :=
  iz_bI (Ic_within x0 0 15 S) (fun r2 S1 =>
  iz_ck (decide (iz_nb r2 = r2)) (some (r2, S1)))
set_option maxRecDepth 10000 in
theorem c_Ic_isColumn {X : iz_X} {l : Launch} (x0 : Int32) (S : iz_S) : iz_Y X l RX9 tX9_isColumn 1 1 (iz_Kc X l yX9_isColumn cX9_isColumn 1 (some .boolean) 1 iz_eI) 0 [(0, .int x0)] [] S (Ic_isColumn x0 S) := by
  unfold Ic_isColumn
  refine iz_iload_n (n := 0) 0 0 rfl rfl ?_
  refine iz_iconst (v := 0) 1 (by decide) rfl ?_
  refine iz_bipush (v := 15) 2 (by decide) rfl ?_
  refine iz_callSI (As := [.int x0, .int 0, .int 15]) (rest := []) 3 ml_X9_85 cw_X9_within ci_X9_within (fun r9 hr9 => m_Ic_within  hr9) rfl (by decide) rfl rfl (Nat.le_of_ble_eq_true rfl) (fun r2 S1 => ?_)
  exact iz_zret 4 rfl
theorem m_Ic_isColumn {X : iz_X} {l : Launch} {x0 : Int32} {S : iz_S} {r9 : Int32 × iz_S} (hr : Ic_isColumn x0 S = some r9) : iz_Mt X l 1 yX9_isColumn cX9_isColumn 1 (some .boolean) [.int x0] S (iz_eI r9) :=
  iz_Mt_of (dt := tX9_isColumn) dX9_isColumn (by decide) hr (Nat.le_of_ble_eq_true rfl) (c_Ic_isColumn x0 S)
def Se_takeOver_54 (a0 : Nat) (a1 : Nat) (s0 : Int32) (S : iz_S) : Option (Int32 × iz_S) :=
  iz_ck (decide (iz_nb s0 = s0)) (some (s0, S))
def Se_takeOver_14b (a0 : Nat) (a1 : Nat) (k14 : Int32 → iz_S → Option (Int32 × iz_S)) (x2 : Int32) (S : iz_S) : Option (Int32 × iz_S) :=
  (if x2 < (S.1 a0 3) then
    (iz_ck (iz_in x2 6) (
    iz_bI (La_isSquare (iz_g S (iz_rf a0 2) x2) S) (fun r5 S4 =>
    if r5 = 0 then
      iz_ck (decide (iz_nb 0 = 0)) (some (0, S4))
    else
      (k14 (x2 + 1) S4))))
  else
    (if (S.1 a0 3) ≤ 0 then
      (Se_takeOver_54 a0 a1 0 S)
    else
      (Se_takeOver_54 a0 a1 1 S)))
def Se_takeOver_14 (a0 : Nat) (a1 : Nat) : Nat → Int32 → iz_S → Option (Int32 × iz_S)
  | 0 => fun _ _ => none
  | n9 + 1 => Se_takeOver_14b a0 a1 (Se_takeOver_14 a0 a1 n9)
def Se_takeOver (a0 : Nat) (a1 : Nat) (S : iz_S) : Option (Int32 × iz_S) :=
  iz_bI (Wa_handOver a1 (iz_rf a0 2) S) (fun r2 S1 =>
  iz_lt (iz_up S1 a0 3 r2) (fun S3 =>
  (Se_takeOver_14 a0 a1 iz_FU 0 S3)))
set_option maxRecDepth 10000 in
theorem c_Se_takeOver_54 {X : iz_X} {l : Launch} {a0 : Nat} (h0 : iz_sh a0 = (6 + 3, 8)) {a1 : Nat} (h1 : iz_sh a1 = (8 + 3, 2)) (s0 : Int32) (S : iz_S) : iz_Y X l RX6 tX6_takeOver 3 2 (iz_Kc X l yX6_takeOver cX6_takeOver 3 (some .boolean) 2 iz_eI) 54 [] [.int s0] S (Se_takeOver_54 a0 a1 s0 S) := by
  unfold Se_takeOver_54
  exact iz_zret 28 rfl
set_option maxRecDepth 10000 in
theorem c_Se_takeOver_14b {X : iz_X} {l : Launch} {a0 : Nat} (h0 : iz_sh a0 = (6 + 3, 8)) {a1 : Nat} (h1 : iz_sh a1 = (8 + 3, 2)) {k14 : Int32 → iz_S → Option (Int32 × iz_S)} (hk14 : ∀ (x2 : Int32) (S : iz_S), iz_Y X l RX6 tX6_takeOver 3 2 (iz_Kc X l yX6_takeOver cX6_takeOver 3 (some .boolean) 2 iz_eI) 14 [(0, .ref (X.1 a0)), (2, .int x2)] [] S (k14 x2 S)) (x2 : Int32) (S : iz_S) : iz_Y X l RX6 tX6_takeOver 3 2 (iz_Kc X l yX6_takeOver cX6_takeOver 3 (some .boolean) 2 iz_eI) 14 [(0, .ref (X.1 a0)), (2, .int x2)] [] S (Se_takeOver_14b a0 a1 k14 x2 S) := by
  unfold Se_takeOver_14b
  refine iz_iload_n (n := 2) 8 1 rfl rfl ?_
  refine iz_aload_n (n := 0) 9 0 rfl rfl ?_
  refine iz_getI 10 3 h0 fl_X6_30 rfl (by decide) (by decide) rfl ?_
  refine iz_cmp_ge (tgt := 42) 11 rfl (by decide) ?_ ?_
  · refine iz_aload_n (n := 0) 22 0 rfl rfl ?_
    refine iz_getI 23 3 h0 fl_X6_30 rfl (by decide) (by decide) rfl ?_
    refine iz_if_le (tgt := 53) 24 rfl (by decide) ?_ ?_
    · refine iz_iconst (v := 0) 27 (by decide) rfl ?_
      exact iz_sub [] rfl (c_Se_takeOver_54 h0 h1 0 S)
    · refine iz_iconst (v := 1) 25 (by decide) rfl ?_
      refine iz_goto (tgt := 54) 26 (by decide) rfl ?_
      exact iz_sub [] rfl (c_Se_takeOver_54 h0 h1 1 S)
  · refine iz_aload_n (n := 0) 12 0 rfl rfl ?_
    refine iz_getR 13 2 h0 fl_X6_15 rfl (by decide) (by decide) rfl ?_
    refine iz_iload_n (n := 2) 14 1 rfl rfl ?_
    refine iz_iald 15 (sf_6_2 h0) rfl ?_
    refine iz_callSI (As := [.int (iz_g S (iz_rf a0 2) x2)]) (rest := []) 16 ml_X6_34 cw_X2_isSquare ci_X2_isSquare (fun r9 hr9 => m_La_isSquare  hr9) rfl (by decide) rfl rfl (Nat.le_of_ble_eq_true rfl) (fun r5 S4 => ?_)
    refine iz_if_ne (tgt := 36) 17 rfl (by decide) ?_ ?_
    · refine iz_iinc (v := (x2 + 1)) (ls2 := [(0, .ref (X.1 a0)), (2, .int (x2 + 1))]) 20 1 [1, 0] rfl rfl rfl (by decide) rfl ?_
      refine iz_goto (tgt := 14) 21 (by decide) rfl ?_
      exact hk14 (x2 + 1) S4
    · refine iz_iconst (v := 0) 18 (by decide) rfl ?_
      exact iz_zret 19 rfl
theorem c_Se_takeOver_14 {X : iz_X} {l : Launch} {a0 : Nat} (h0 : iz_sh a0 = (6 + 3, 8)) {a1 : Nat} (h1 : iz_sh a1 = (8 + 3, 2)) : ∀ (n9 : Nat) (x2 : Int32) (S : iz_S), iz_Y X l RX6 tX6_takeOver 3 2 (iz_Kc X l yX6_takeOver cX6_takeOver 3 (some .boolean) 2 iz_eI) 14 [(0, .ref (X.1 a0)), (2, .int x2)] [] S (Se_takeOver_14 a0 a1 n9 x2 S)
  | 0 => by
    intros
    exact iz_none
  | n9 + 1 => c_Se_takeOver_14b h0 h1 (c_Se_takeOver_14 h0 h1 n9)
set_option maxRecDepth 10000 in
theorem c_Se_takeOver {X : iz_X} {l : Launch} {a0 : Nat} (h0 : iz_sh a0 = (6 + 3, 8)) {a1 : Nat} (h1 : iz_sh a1 = (8 + 3, 2)) (S : iz_S) : iz_Y X l RX6 tX6_takeOver 3 2 (iz_Kc X l yX6_takeOver cX6_takeOver 3 (some .boolean) 2 iz_eI) 0 [(0, .ref (X.1 a0)), (1, .ref (X.1 a1))] [] S (Se_takeOver a0 a1 S) := by
  unfold Se_takeOver
  refine iz_aload_n (n := 0) 0 0 rfl rfl ?_
  refine iz_aload_n (n := 1) 1 1 rfl rfl ?_
  refine iz_aload_n (n := 0) 2 0 rfl rfl ?_
  refine iz_getR 3 2 h0 fl_X6_15 rfl (by decide) (by decide) rfl ?_
  refine iz_callVI (As := [.ref (X.1 (iz_rf a0 2))]) (rest := [.ref (X.1 a0)]) 4 ml_X6_24 cw_X8_handOver ci_X8_handOver h1 (fun r9 hr9 => m_Wa_handOver h1 (iz_shI (sf_6_2 h0)) hr9) rfl (by decide) (by decide) rfl rfl (Nat.le_of_ble_eq_true rfl) (fun r2 S1 => ?_)
  refine iz_putI 5 3 h0 fl_X6_30 rfl (by decide) (by decide) rfl (fun S3 => ?_)
  refine iz_iconst (v := 0) 6 (by decide) rfl ?_
  refine iz_istore_n (n := 2) (ls2 := [(0, .ref (X.1 a0)), (2, .int 0)]) 7 [1, 0] rfl (by decide) rfl ?_
  exact c_Se_takeOver_14 h0 h1 iz_FU 0 S3
theorem m_Se_takeOver {X : iz_X} {l : Launch} {a0 : Nat} (h0 : iz_sh a0 = (6 + 3, 8)) {a1 : Nat} (h1 : iz_sh a1 = (8 + 3, 2)) {S : iz_S} {r9 : Int32 × iz_S} (hr : Se_takeOver a0 a1 S = some r9) : iz_Mt X l 2 yX6_takeOver cX6_takeOver 3 (some .boolean) [.ref (X.1 a0), .ref (X.1 a1)] S (iz_eI r9) :=
  iz_Mt_of (dt := tX6_takeOver) dX6_takeOver (by decide) hr (Nat.le_of_ble_eq_true rfl) (c_Se_takeOver h0 h1 S)
def Se_openCells_36 (a0 : Nat) (k5 : Int32 → Int64 → Int32 → iz_S → Option (Int64 × iz_S)) (x1 : Int32) (x2 : Int64) (x4 : Int32) (S : iz_S) : Option (Int64 × iz_S) :=
  (k5 x1 x2 (x4 + 1) S)
def Se_openCells_5b (a0 : Nat) (k5 : Int32 → Int64 → Int32 → iz_S → Option (Int64 × iz_S)) (x1 : Int32) (x2 : Int64) (x4 : Int32) (S : iz_S) : Option (Int64 × iz_S) :=
  (if x4 < (S.1 a0 3) then
    (if ((x1 >>> (x4 &&& 31)) &&& 1) = 0 then
      (Se_openCells_36 a0 k5 x1 x2 x4 S)
    else
      iz_ck (iz_in x4 6) (
      iz_bL (La_cellsOfSquare (iz_g S (iz_rf a0 2) x4) S) (fun r2 S1 =>
      iz_lt (x2 ||| r2) (fun v3 =>
      (Se_openCells_36 a0 k5 x1 v3 x4 S1)))))
  else
    some (x2, S))
def Se_openCells_5 (a0 : Nat) : Nat → Int32 → Int64 → Int32 → iz_S → Option (Int64 × iz_S)
  | 0 => fun _ _ _ _ => none
  | n9 + 1 => Se_openCells_5b a0 (Se_openCells_5 a0 n9)
def Se_openCells (a0 : Nat) (x1 : Int32) (S : iz_S) : Option (Int64 × iz_S) :=
  (Se_openCells_5 a0 iz_FU x1 0 0 S)
set_option maxRecDepth 10000 in
theorem c_Se_openCells_36 {X : iz_X} {l : Launch} {a0 : Nat} (h0 : iz_sh a0 = (6 + 3, 8)) {k5 : Int32 → Int64 → Int32 → iz_S → Option (Int64 × iz_S)} (hk5 : ∀ (x1 : Int32) (x2 : Int64) (x4 : Int32) (S : iz_S), iz_Y X l RX6 tX6_openCells 5 1 (iz_Kc X l yX6_openCells cX6_openCells 5 (some .long) 1 iz_eL) 5 [(0, .ref (X.1 a0)), (1, .int x1), (2, .long x2), (4, .int x4)] [] S (k5 x1 x2 x4 S)) (x1 : Int32) (x2 : Int64) (x4 : Int32) (S : iz_S) : iz_Y X l RX6 tX6_openCells 5 1 (iz_Kc X l yX6_openCells cX6_openCells 5 (some .long) 1 iz_eL) 36 [(0, .ref (X.1 a0)), (1, .int x1), (2, .long x2), (4, .int x4)] [] S (Se_openCells_36 a0 k5 x1 x2 x4 S) := by
  unfold Se_openCells_36
  refine iz_iinc (v := (x4 + 1)) (ls2 := [(0, .ref (X.1 a0)), (1, .int x1), (2, .long x2), (4, .int (x4 + 1))]) 22 3 [1, 2, 3, 0] rfl rfl rfl (by decide) rfl ?_
  refine iz_goto (tgt := 5) 23 (by decide) rfl ?_
  exact hk5 x1 x2 (x4 + 1) S
set_option maxRecDepth 10000 in
theorem c_Se_openCells_5b {X : iz_X} {l : Launch} {a0 : Nat} (h0 : iz_sh a0 = (6 + 3, 8)) {k5 : Int32 → Int64 → Int32 → iz_S → Option (Int64 × iz_S)} (hk5 : ∀ (x1 : Int32) (x2 : Int64) (x4 : Int32) (S : iz_S), iz_Y X l RX6 tX6_openCells 5 1 (iz_Kc X l yX6_openCells cX6_openCells 5 (some .long) 1 iz_eL) 5 [(0, .ref (X.1 a0)), (1, .int x1), (2, .long x2), (4, .int x4)] [] S (k5 x1 x2 x4 S)) (x1 : Int32) (x2 : Int64) (x4 : Int32) (S : iz_S) : iz_Y X l RX6 tX6_openCells 5 1 (iz_Kc X l yX6_openCells cX6_openCells 5 (some .long) 1 iz_eL) 5 [(0, .ref (X.1 a0)), (1, .int x1), (2, .long x2), (4, .int x4)] [] S (Se_openCells_5b a0 k5 x1 x2 x4 S) := by
  unfold Se_openCells_5b
  refine iz_iload (n := 4) 4 3 rfl rfl ?_
  refine iz_aload_n (n := 0) 5 0 rfl rfl ?_
  refine iz_getI 6 3 h0 fl_X6_30 rfl (by decide) (by decide) rfl ?_
  refine iz_cmp_ge (tgt := 42) 7 rfl (by decide) ?_ ?_
  · refine iz_lload_n (n := 2) 24 2 rfl rfl ?_
    exact iz_lret 25 rfl
  · refine iz_iload_n (n := 1) 8 1 rfl rfl ?_
    refine iz_iload (n := 4) 9 3 rfl rfl ?_
    refine iz_ishr 10 rfl ?_
    refine iz_iconst (v := 1) 11 (by decide) rfl ?_
    refine iz_iand 12 rfl ?_
    refine iz_if_eq (tgt := 36) 13 rfl (by decide) ?_ ?_
    · exact c_Se_openCells_36 h0 hk5 x1 x2 x4 S
    · refine iz_lload_n (n := 2) 14 2 rfl rfl ?_
      refine iz_aload_n (n := 0) 15 0 rfl rfl ?_
      refine iz_getR 16 2 h0 fl_X6_15 rfl (by decide) (by decide) rfl ?_
      refine iz_iload (n := 4) 17 3 rfl rfl ?_
      refine iz_iald 18 (sf_6_2 h0) rfl ?_
      refine iz_callSL (As := [.int (iz_g S (iz_rf a0 2) x4)]) (rest := [.long x2]) 19 ml_X6_68 cw_X2_cellsOfSquare ci_X2_cellsOfSquare (fun r9 hr9 => m_La_cellsOfSquare  hr9) rfl (by decide) rfl rfl (Nat.le_of_ble_eq_true rfl) (fun r2 S1 => ?_)
      refine iz_lor 20 rfl ?_
      refine iz_letL (fun v3 => ?_)
      refine iz_lstore_n (n := 2) (ls2 := [(0, .ref (X.1 a0)), (1, .int x1), (2, .long v3), (4, .int x4)]) 21 [1, 2, 0, 3] rfl (by decide) rfl ?_
      exact c_Se_openCells_36 h0 hk5 x1 v3 x4 S1
theorem c_Se_openCells_5 {X : iz_X} {l : Launch} {a0 : Nat} (h0 : iz_sh a0 = (6 + 3, 8)) : ∀ (n9 : Nat) (x1 : Int32) (x2 : Int64) (x4 : Int32) (S : iz_S), iz_Y X l RX6 tX6_openCells 5 1 (iz_Kc X l yX6_openCells cX6_openCells 5 (some .long) 1 iz_eL) 5 [(0, .ref (X.1 a0)), (1, .int x1), (2, .long x2), (4, .int x4)] [] S (Se_openCells_5 a0 n9 x1 x2 x4 S)
  | 0 => by
    intros
    exact iz_none
  | n9 + 1 => c_Se_openCells_5b h0 (c_Se_openCells_5 h0 n9)
set_option maxRecDepth 10000 in
theorem c_Se_openCells {X : iz_X} {l : Launch} {a0 : Nat} (h0 : iz_sh a0 = (6 + 3, 8)) (x1 : Int32) (S : iz_S) : iz_Y X l RX6 tX6_openCells 5 1 (iz_Kc X l yX6_openCells cX6_openCells 5 (some .long) 1 iz_eL) 0 [(0, .ref (X.1 a0)), (1, .int x1)] [] S (Se_openCells a0 x1 S) := by
  unfold Se_openCells
  refine iz_lconst (v := 0) 0 (by decide) rfl ?_
  refine iz_lstore_n (n := 2) (ls2 := [(0, .ref (X.1 a0)), (1, .int x1), (2, .long 0)]) 1 [1, 2, 0] rfl (by decide) rfl ?_
  refine iz_iconst (v := 0) 2 (by decide) rfl ?_
  refine iz_istore (n := 4) (ls2 := [(0, .ref (X.1 a0)), (1, .int x1), (2, .long 0), (4, .int 0)]) 3 [1, 2, 3, 0] rfl (by decide) rfl ?_
  exact c_Se_openCells_5 h0 iz_FU x1 0 0 S
theorem m_Se_openCells {X : iz_X} {l : Launch} {a0 : Nat} (h0 : iz_sh a0 = (6 + 3, 8)) {x1 : Int32} {S : iz_S} {r9 : Int64 × iz_S} (hr : Se_openCells a0 x1 S = some r9) : iz_Mt X l 1 yX6_openCells cX6_openCells 5 (some .long) [.ref (X.1 a0), .int x1] S (iz_eL r9) :=
  iz_Mt_of (dt := tX6_openCells) dX6_openCells (by decide) hr (Nat.le_of_ble_eq_true rfl) (c_Se_openCells h0 x1 S)
def Se_mayFollow_56 (a0 : Nat) (s0 : Int32) (S : iz_S) : Option (Int32 × iz_S) :=
  iz_ck (decide (iz_nb s0 = s0)) (some (s0, S))
def Se_mayFollow (a0 : Nat) (x1 : Int32) (x2 : Int32) (S : iz_S) : Option (Int32 × iz_S) :=
  (if ((x2 >>> (x1 &&& 31)) &&& 1) = 0 then
    (iz_bL (Se_openCells a0 x2 S) (fun r2 S1 =>
    iz_ck (iz_in x1 6) (
    iz_bL (La_cellsOfSquare (iz_g S1 (iz_rf a0 2) x1) S1) (fun r4 S3 =>
    iz_bI (La_barAmong r4 ((S3.2 a0 6) &&& (r2 ^^^ (-1))) ((S3.2 a0 7) &&& (r2 ^^^ (-1))) S3) (fun r6 S5 =>
    if r6 = 0 then
      (Se_mayFollow_56 a0 1 S5)
    else
      (Se_mayFollow_56 a0 0 S5))))))
  else
    iz_ck (decide (iz_nb 0 = 0)) (some (0, S)))
set_option maxRecDepth 10000 in
theorem c_Se_mayFollow_56 {X : iz_X} {l : Launch} {a0 : Nat} (h0 : iz_sh a0 = (6 + 3, 8)) (s0 : Int32) (S : iz_S) : iz_Y X l RX6 tX6_mayFollow 5 3 (iz_Kc X l yX6_mayFollow cX6_mayFollow 5 (some .boolean) 3 iz_eI) 56 [] [.int s0] S (Se_mayFollow_56 a0 s0 S) := by
  unfold Se_mayFollow_56
  exact iz_zret 34 rfl
set_option maxRecDepth 10000 in
theorem c_Se_mayFollow {X : iz_X} {l : Launch} {a0 : Nat} (h0 : iz_sh a0 = (6 + 3, 8)) (x1 : Int32) (x2 : Int32) (S : iz_S) : iz_Y X l RX6 tX6_mayFollow 5 3 (iz_Kc X l yX6_mayFollow cX6_mayFollow 5 (some .boolean) 3 iz_eI) 0 [(0, .ref (X.1 a0)), (1, .int x1), (2, .int x2)] [] S (Se_mayFollow a0 x1 x2 S) := by
  unfold Se_mayFollow
  refine iz_iload_n (n := 2) 0 2 rfl rfl ?_
  refine iz_iload_n (n := 1) 1 1 rfl rfl ?_
  refine iz_ishr 2 rfl ?_
  refine iz_iconst (v := 1) 3 (by decide) rfl ?_
  refine iz_iand 4 rfl ?_
  refine iz_if_eq (tgt := 10) 5 rfl (by decide) ?_ ?_
  · refine iz_aload_n (n := 0) 8 0 rfl rfl ?_
    refine iz_iload_n (n := 2) 9 2 rfl rfl ?_
    refine iz_callVL (As := [.int x2]) (rest := []) 10 ml_X6_65 cw_X6_openCells ci_X6_openCells h0 (fun r9 hr9 => m_Se_openCells h0 hr9) rfl (by decide) (by decide) rfl rfl (Nat.le_of_ble_eq_true rfl) (fun r2 S1 => ?_)
    refine iz_lstore_n (n := 3) (ls2 := [(0, .ref (X.1 a0)), (1, .int x1), (3, .long r2)]) 11 [1, 2, 0] rfl (by decide) rfl ?_
    refine iz_aload_n (n := 0) 12 0 rfl rfl ?_
    refine iz_getR 13 2 h0 fl_X6_15 rfl (by decide) (by decide) rfl ?_
    refine iz_iload_n (n := 1) 14 1 rfl rfl ?_
    refine iz_iald 15 (sf_6_2 h0) rfl ?_
    refine iz_callSL (As := [.int (iz_g S1 (iz_rf a0 2) x1)]) (rest := []) 16 ml_X6_68 cw_X2_cellsOfSquare ci_X2_cellsOfSquare (fun r9 hr9 => m_La_cellsOfSquare  hr9) rfl (by decide) rfl rfl (Nat.le_of_ble_eq_true rfl) (fun r4 S3 => ?_)
    refine iz_aload_n (n := 0) 17 0 rfl rfl ?_
    refine iz_getL 18 6 h0 fl_X6_44 rfl (by decide) (by decide) rfl ?_
    refine iz_lload_n (n := 3) 19 2 rfl rfl ?_
    refine iz_ldc2 20 kc_X6_71 rfl ?_
    refine iz_lxor 21 rfl ?_
    refine iz_land 22 rfl ?_
    refine iz_aload_n (n := 0) 23 0 rfl rfl ?_
    refine iz_getL 24 7 h0 fl_X6_51 rfl (by decide) (by decide) rfl ?_
    refine iz_lload_n (n := 3) 25 2 rfl rfl ?_
    refine iz_ldc2 26 kc_X6_71 rfl ?_
    refine iz_lxor 27 rfl ?_
    refine iz_land 28 rfl ?_
    refine iz_callSI (As := [.long r4, .long ((S3.2 a0 6) &&& (r2 ^^^ (-1))), .long ((S3.2 a0 7) &&& (r2 ^^^ (-1)))]) (rest := []) 29 ml_X6_73 cw_X2_barAmong ci_X2_barAmong (fun r9 hr9 => m_La_barAmong  hr9) rfl (by decide) rfl rfl (Nat.le_of_ble_eq_true rfl) (fun r6 S5 => ?_)
    refine iz_if_ne (tgt := 55) 30 rfl (by decide) ?_ ?_
    · refine iz_iconst (v := 0) 33 (by decide) rfl ?_
      exact iz_sub [] rfl (c_Se_mayFollow_56 h0 0 S5)
    · refine iz_iconst (v := 1) 31 (by decide) rfl ?_
      refine iz_goto (tgt := 56) 32 (by decide) rfl ?_
      exact iz_sub [] rfl (c_Se_mayFollow_56 h0 1 S5)
  · refine iz_iconst (v := 0) 6 (by decide) rfl ?_
    exact iz_zret 7 rfl
theorem m_Se_mayFollow {X : iz_X} {l : Launch} {a0 : Nat} (h0 : iz_sh a0 = (6 + 3, 8)) {x1 : Int32} {x2 : Int32} {S : iz_S} {r9 : Int32 × iz_S} (hr : Se_mayFollow a0 x1 x2 S = some r9) : iz_Mt X l 3 yX6_mayFollow cX6_mayFollow 5 (some .boolean) [.ref (X.1 a0), .int x1, .int x2] S (iz_eI r9) :=
  iz_Mt_of (dt := tX6_mayFollow) dX6_mayFollow (by decide) hr (Nat.le_of_ble_eq_true rfl) (c_Se_mayFollow h0 x1 x2 S)
def Se_askBehind_72 (a0 : Nat) (k9 : Int32 → Int32 → iz_S → Option iz_S) (x1 : Int32) (x2 : Int32) (S : iz_S) : Option iz_S :=
  (k9 x1 (x2 + 1) S)
def Se_askBehind_9b (a0 : Nat) (k9 : Int32 → Int32 → iz_S → Option iz_S) (x1 : Int32) (x2 : Int32) (S : iz_S) : Option iz_S :=
  (if x2 < (S.1 a0 3) then
    (iz_bI (Se_mayFollow a0 x2 x1 S) (fun r3 S2 =>
    if r3 = 0 then
      (Se_askBehind_72 a0 k9 x1 x2 S2)
    else
      (iz_ck (iz_in (x1 ||| ((1 : Int32) <<< (x2 &&& 31))) 64) (
      iz_ck (iz_in x1 64) (
      if ((1 : Int32) + (iz_g S2 (iz_rf a0 4) (x1 ||| ((1 : Int32) <<< (x2 &&& 31))))) ≤ (iz_g S2 (iz_rf a0 4) x1) then
        (Se_askBehind_72 a0 k9 x1 x2 S2)
      else
        iz_ck (iz_in (x1 ||| ((1 : Int32) <<< (x2 &&& 31))) 64) (
        iz_ck (iz_in x1 64) (iz_lt (iz_s S2 (iz_rf a0 4) x1 ((1 : Int32) + (iz_g S2 (iz_rf a0 4) (x1 ||| ((1 : Int32) <<< (x2 &&& 31)))))) (fun S4 =>
        iz_ck (iz_in x1 64) (iz_lt (iz_s S4 (iz_rf a0 5) x1 x2) (fun S5 =>
        (Se_askBehind_72 a0 k9 x1 x2 S5)))))))))))
  else
    some S)
def Se_askBehind_9 (a0 : Nat) : Nat → Int32 → Int32 → iz_S → Option iz_S
  | 0 => fun _ _ _ => none
  | n9 + 1 => Se_askBehind_9b a0 (Se_askBehind_9 a0 n9)
def Se_askBehind (a0 : Nat) (x1 : Int32) (S : iz_S) : Option iz_S :=
  iz_ck (iz_in x1 64) (iz_lt (iz_s S (iz_rf a0 4) x1 0) (fun S1 =>
  (Se_askBehind_9 a0 iz_FU x1 0 S1)))
set_option maxRecDepth 10000 in
theorem c_Se_askBehind_72 {X : iz_X} {l : Launch} {a0 : Nat} (h0 : iz_sh a0 = (6 + 3, 8)) {k9 : Int32 → Int32 → iz_S → Option iz_S} (hk9 : ∀ (x1 : Int32) (x2 : Int32) (S : iz_S), iz_Y X l RX6 tX6_askBehind 3 4 (iz_Kc X l yX6_askBehind cX6_askBehind 3 none 4 iz_eV) 9 [(0, .ref (X.1 a0)), (1, .int x1), (2, .int x2)] [] S (k9 x1 x2 S)) (x1 : Int32) (x2 : Int32) (S : iz_S) : iz_Y X l RX6 tX6_askBehind 3 4 (iz_Kc X l yX6_askBehind cX6_askBehind 3 none 4 iz_eV) 72 [(0, .ref (X.1 a0)), (1, .int x1), (2, .int x2)] [] S (Se_askBehind_72 a0 k9 x1 x2 S) := by
  unfold Se_askBehind_72
  refine iz_iinc (v := (x2 + 1)) (ls2 := [(0, .ref (X.1 a0)), (1, .int x1), (2, .int (x2 + 1))]) 50 2 [1, 2, 0] rfl rfl rfl (by decide) rfl ?_
  refine iz_goto (tgt := 9) 51 (by decide) rfl ?_
  exact hk9 x1 (x2 + 1) S
set_option maxRecDepth 10000 in
theorem c_Se_askBehind_9b {X : iz_X} {l : Launch} {a0 : Nat} (h0 : iz_sh a0 = (6 + 3, 8)) {k9 : Int32 → Int32 → iz_S → Option iz_S} (hk9 : ∀ (x1 : Int32) (x2 : Int32) (S : iz_S), iz_Y X l RX6 tX6_askBehind 3 4 (iz_Kc X l yX6_askBehind cX6_askBehind 3 none 4 iz_eV) 9 [(0, .ref (X.1 a0)), (1, .int x1), (2, .int x2)] [] S (k9 x1 x2 S)) (x1 : Int32) (x2 : Int32) (S : iz_S) : iz_Y X l RX6 tX6_askBehind 3 4 (iz_Kc X l yX6_askBehind cX6_askBehind 3 none 4 iz_eV) 9 [(0, .ref (X.1 a0)), (1, .int x1), (2, .int x2)] [] S (Se_askBehind_9b a0 k9 x1 x2 S) := by
  unfold Se_askBehind_9b
  refine iz_iload_n (n := 2) 7 2 rfl rfl ?_
  refine iz_aload_n (n := 0) 8 0 rfl rfl ?_
  refine iz_getI 9 3 h0 fl_X6_30 rfl (by decide) (by decide) rfl ?_
  refine iz_cmp_ge (tgt := 78) 10 rfl (by decide) ?_ ?_
  · exact iz_vret 52 rfl
  · refine iz_aload_n (n := 0) 11 0 rfl rfl ?_
    refine iz_iload_n (n := 2) 12 2 rfl rfl ?_
    refine iz_iload_n (n := 1) 13 1 rfl rfl ?_
    refine iz_callVI (As := [.int x2, .int x1]) (rest := []) 14 ml_X6_61 cw_X6_mayFollow ci_X6_mayFollow h0 (fun r9 hr9 => m_Se_mayFollow h0 hr9) rfl (by decide) (by decide) rfl rfl (Nat.le_of_ble_eq_true rfl) (fun r3 S2 => ?_)
    refine iz_if_eq (tgt := 72) 15 rfl (by decide) ?_ ?_
    · exact c_Se_askBehind_72 h0 hk9 x1 x2 S2
    · refine iz_iconst (v := 1) 16 (by decide) rfl ?_
      refine iz_aload_n (n := 0) 17 0 rfl rfl ?_
      refine iz_getR 18 4 h0 fl_X6_18 rfl (by decide) (by decide) rfl ?_
      refine iz_iload_n (n := 1) 19 1 rfl rfl ?_
      refine iz_iconst (v := 1) 20 (by decide) rfl ?_
      refine iz_iload_n (n := 2) 21 2 rfl rfl ?_
      refine iz_ishl 22 rfl ?_
      refine iz_ior 23 rfl ?_
      refine iz_iald 24 (sf_6_4 h0) rfl ?_
      refine iz_iadd 25 rfl ?_
      refine iz_aload_n (n := 0) 26 0 rfl rfl ?_
      refine iz_getR 27 4 h0 fl_X6_18 rfl (by decide) (by decide) rfl ?_
      refine iz_iload_n (n := 1) 28 1 rfl rfl ?_
      refine iz_iald 29 (sf_6_4 h0) rfl ?_
      refine iz_cmp_le (tgt := 72) 30 rfl (by decide) ?_ ?_
      · exact c_Se_askBehind_72 h0 hk9 x1 x2 S2
      · refine iz_aload_n (n := 0) 31 0 rfl rfl ?_
        refine iz_getR 32 4 h0 fl_X6_18 rfl (by decide) (by decide) rfl ?_
        refine iz_iload_n (n := 1) 33 1 rfl rfl ?_
        refine iz_iconst (v := 1) 34 (by decide) rfl ?_
        refine iz_aload_n (n := 0) 35 0 rfl rfl ?_
        refine iz_getR 36 4 h0 fl_X6_18 rfl (by decide) (by decide) rfl ?_
        refine iz_iload_n (n := 1) 37 1 rfl rfl ?_
        refine iz_iconst (v := 1) 38 (by decide) rfl ?_
        refine iz_iload_n (n := 2) 39 2 rfl rfl ?_
        refine iz_ishl 40 rfl ?_
        refine iz_ior 41 rfl ?_
        refine iz_iald 42 (sf_6_4 h0) rfl ?_
        refine iz_iadd 43 rfl ?_
        refine iz_iast 44 (sf_6_4 h0) rfl (fun S4 => ?_)
        refine iz_aload_n (n := 0) 45 0 rfl rfl ?_
        refine iz_getR 46 5 h0 fl_X6_21 rfl (by decide) (by decide) rfl ?_
        refine iz_iload_n (n := 1) 47 1 rfl rfl ?_
        refine iz_iload_n (n := 2) 48 2 rfl rfl ?_
        refine iz_iast 49 (sf_6_5 h0) rfl (fun S5 => ?_)
        exact c_Se_askBehind_72 h0 hk9 x1 x2 S5
theorem c_Se_askBehind_9 {X : iz_X} {l : Launch} {a0 : Nat} (h0 : iz_sh a0 = (6 + 3, 8)) : ∀ (n9 : Nat) (x1 : Int32) (x2 : Int32) (S : iz_S), iz_Y X l RX6 tX6_askBehind 3 4 (iz_Kc X l yX6_askBehind cX6_askBehind 3 none 4 iz_eV) 9 [(0, .ref (X.1 a0)), (1, .int x1), (2, .int x2)] [] S (Se_askBehind_9 a0 n9 x1 x2 S)
  | 0 => by
    intros
    exact iz_none
  | n9 + 1 => c_Se_askBehind_9b h0 (c_Se_askBehind_9 h0 n9)
set_option maxRecDepth 10000 in
theorem c_Se_askBehind {X : iz_X} {l : Launch} {a0 : Nat} (h0 : iz_sh a0 = (6 + 3, 8)) (x1 : Int32) (S : iz_S) : iz_Y X l RX6 tX6_askBehind 3 4 (iz_Kc X l yX6_askBehind cX6_askBehind 3 none 4 iz_eV) 0 [(0, .ref (X.1 a0)), (1, .int x1)] [] S (Se_askBehind a0 x1 S) := by
  unfold Se_askBehind
  refine iz_aload_n (n := 0) 0 0 rfl rfl ?_
  refine iz_getR 1 4 h0 fl_X6_18 rfl (by decide) (by decide) rfl ?_
  refine iz_iload_n (n := 1) 2 1 rfl rfl ?_
  refine iz_iconst (v := 0) 3 (by decide) rfl ?_
  refine iz_iast 4 (sf_6_4 h0) rfl (fun S1 => ?_)
  refine iz_iconst (v := 0) 5 (by decide) rfl ?_
  refine iz_istore_n (n := 2) (ls2 := [(0, .ref (X.1 a0)), (1, .int x1), (2, .int 0)]) 6 [1, 2, 0] rfl (by decide) rfl ?_
  exact c_Se_askBehind_9 h0 iz_FU x1 0 S1
theorem m_Se_askBehind {X : iz_X} {l : Launch} {a0 : Nat} (h0 : iz_sh a0 = (6 + 3, 8)) {x1 : Int32} {S : iz_S} {r9 : iz_S} (hr : Se_askBehind a0 x1 S = some r9) : iz_Mt X l 4 yX6_askBehind cX6_askBehind 3 none [.ref (X.1 a0), .int x1] S (iz_eV r9) :=
  iz_Mt_of (dt := tX6_askBehind) dX6_askBehind (by decide) hr (Nat.le_of_ble_eq_true rfl) (c_Se_askBehind h0 x1 S)
def Se_walk_14b (a0 : Nat) (k14 : Int32 → Int32 → iz_S → Option iz_S) (x1 : Int32) (x2 : Int32) (S : iz_S) : Option iz_S :=
  (if x2 < (S.1 a0 1) then
    iz_ck (iz_in x1 64) (
    iz_ck (iz_in (iz_g S (iz_rf a0 5) x1) 6) (
    iz_ck (iz_in x2 6) (iz_lt (iz_s S (iz_rf a0 0) x2 (iz_g S (iz_rf a0 2) (iz_g S (iz_rf a0 5) x1))) (fun S2 =>
    iz_ck (iz_in x1 64) (
    iz_lt (x1 ||| ((1 : Int32) <<< ((iz_g S2 (iz_rf a0 5) x1) &&& 31))) (fun v3 =>
    (k14 v3 (x2 + 1) S2)))))))
  else
    some S)
def Se_walk_14 (a0 : Nat) : Nat → Int32 → Int32 → iz_S → Option iz_S
  | 0 => fun _ _ _ => none
  | n9 + 1 => Se_walk_14b a0 (Se_walk_14 a0 n9)
def Se_walk (a0 : Nat) (S : iz_S) : Option iz_S :=
  iz_ck (iz_in 0 64) (
  iz_lt (iz_up S a0 1 (iz_g S (iz_rf a0 4) 0)) (fun S1 =>
  (Se_walk_14 a0 iz_FU 0 0 S1)))
set_option maxRecDepth 10000 in
theorem c_Se_walk_14b {X : iz_X} {l : Launch} {a0 : Nat} (h0 : iz_sh a0 = (6 + 3, 8)) {k14 : Int32 → Int32 → iz_S → Option iz_S} (hk14 : ∀ (x1 : Int32) (x2 : Int32) (S : iz_S), iz_Y X l RX6 tX6_walk 3 0 (iz_Kc X l yX6_walk cX6_walk 3 none 0 iz_eV) 14 [(0, .ref (X.1 a0)), (1, .int x1), (2, .int x2)] [] S (k14 x1 x2 S)) (x1 : Int32) (x2 : Int32) (S : iz_S) : iz_Y X l RX6 tX6_walk 3 0 (iz_Kc X l yX6_walk cX6_walk 3 none 0 iz_eV) 14 [(0, .ref (X.1 a0)), (1, .int x1), (2, .int x2)] [] S (Se_walk_14b a0 k14 x1 x2 S) := by
  unfold Se_walk_14b
  refine iz_iload_n (n := 2) 10 2 rfl rfl ?_
  refine iz_aload_n (n := 0) 11 0 rfl rfl ?_
  refine iz_getI 12 1 h0 fl_X6_77 rfl (by decide) (by decide) rfl ?_
  refine iz_cmp_ge (tgt := 56) 13 rfl (by decide) ?_ ?_
  · exact iz_vret 36 rfl
  · refine iz_aload_n (n := 0) 14 0 rfl rfl ?_
    refine iz_getR 15 0 h0 fl_X6_9 rfl (by decide) (by decide) rfl ?_
    refine iz_iload_n (n := 2) 16 2 rfl rfl ?_
    refine iz_aload_n (n := 0) 17 0 rfl rfl ?_
    refine iz_getR 18 2 h0 fl_X6_15 rfl (by decide) (by decide) rfl ?_
    refine iz_aload_n (n := 0) 19 0 rfl rfl ?_
    refine iz_getR 20 5 h0 fl_X6_21 rfl (by decide) (by decide) rfl ?_
    refine iz_iload_n (n := 1) 21 1 rfl rfl ?_
    refine iz_iald 22 (sf_6_5 h0) rfl ?_
    refine iz_iald 23 (sf_6_2 h0) rfl ?_
    refine iz_iast 24 (sf_6_0 h0) rfl (fun S2 => ?_)
    refine iz_iload_n (n := 1) 25 1 rfl rfl ?_
    refine iz_iconst (v := 1) 26 (by decide) rfl ?_
    refine iz_aload_n (n := 0) 27 0 rfl rfl ?_
    refine iz_getR 28 5 h0 fl_X6_21 rfl (by decide) (by decide) rfl ?_
    refine iz_iload_n (n := 1) 29 1 rfl rfl ?_
    refine iz_iald 30 (sf_6_5 h0) rfl ?_
    refine iz_ishl 31 rfl ?_
    refine iz_ior 32 rfl ?_
    refine iz_let (fun v3 => ?_)
    refine iz_istore_n (n := 1) (ls2 := [(0, .ref (X.1 a0)), (1, .int v3), (2, .int x2)]) 33 [1, 0, 2] rfl (by decide) rfl ?_
    refine iz_iinc (v := (x2 + 1)) (ls2 := [(0, .ref (X.1 a0)), (1, .int v3), (2, .int (x2 + 1))]) 34 2 [1, 2, 0] rfl rfl rfl (by decide) rfl ?_
    refine iz_goto (tgt := 14) 35 (by decide) rfl ?_
    exact hk14 v3 (x2 + 1) S2
theorem c_Se_walk_14 {X : iz_X} {l : Launch} {a0 : Nat} (h0 : iz_sh a0 = (6 + 3, 8)) : ∀ (n9 : Nat) (x1 : Int32) (x2 : Int32) (S : iz_S), iz_Y X l RX6 tX6_walk 3 0 (iz_Kc X l yX6_walk cX6_walk 3 none 0 iz_eV) 14 [(0, .ref (X.1 a0)), (1, .int x1), (2, .int x2)] [] S (Se_walk_14 a0 n9 x1 x2 S)
  | 0 => by
    intros
    exact iz_none
  | n9 + 1 => c_Se_walk_14b h0 (c_Se_walk_14 h0 n9)
set_option maxRecDepth 10000 in
theorem c_Se_walk {X : iz_X} {l : Launch} {a0 : Nat} (h0 : iz_sh a0 = (6 + 3, 8)) (S : iz_S) : iz_Y X l RX6 tX6_walk 3 0 (iz_Kc X l yX6_walk cX6_walk 3 none 0 iz_eV) 0 [(0, .ref (X.1 a0))] [] S (Se_walk a0 S) := by
  unfold Se_walk
  refine iz_aload_n (n := 0) 0 0 rfl rfl ?_
  refine iz_aload_n (n := 0) 1 0 rfl rfl ?_
  refine iz_getR 2 4 h0 fl_X6_18 rfl (by decide) (by decide) rfl ?_
  refine iz_iconst (v := 0) 3 (by decide) rfl ?_
  refine iz_iald 4 (sf_6_4 h0) rfl ?_
  refine iz_putI 5 1 h0 fl_X6_77 rfl (by decide) (by decide) rfl (fun S1 => ?_)
  refine iz_iconst (v := 0) 6 (by decide) rfl ?_
  refine iz_istore_n (n := 1) (ls2 := [(0, .ref (X.1 a0)), (1, .int 0)]) 7 [1, 0] rfl (by decide) rfl ?_
  refine iz_iconst (v := 0) 8 (by decide) rfl ?_
  refine iz_istore_n (n := 2) (ls2 := [(0, .ref (X.1 a0)), (1, .int 0), (2, .int 0)]) 9 [1, 2, 0] rfl (by decide) rfl ?_
  exact c_Se_walk_14 h0 iz_FU 0 0 S1
theorem m_Se_walk {X : iz_X} {l : Launch} {a0 : Nat} (h0 : iz_sh a0 = (6 + 3, 8)) {S : iz_S} {r9 : iz_S} (hr : Se_walk a0 S = some r9) : iz_Mt X l 0 yX6_walk cX6_walk 3 none [.ref (X.1 a0)] S (iz_eV r9) :=
  iz_Mt_of (dt := tX6_walk) dX6_walk (by decide) hr (Nat.le_of_ble_eq_true rfl) (c_Se_walk h0 S)
def Se_plan_28b (a0 : Nat) (a1 : Nat) (k28 : Int32 → iz_S → Option iz_S) (x2 : Int32) (S : iz_S) : Option iz_S :=
  (if x2 < 0 then
    iz_bV (Se_walk a0 S) (fun S8 =>
    some S8)
  else
    iz_bV (Se_askBehind a0 x2 S) (fun S9 =>
    (k28 (x2 + (-1)) S9)))
def Se_plan_28 (a0 : Nat) (a1 : Nat) : Nat → Int32 → iz_S → Option iz_S
  | 0 => fun _ _ => none
  | n9 + 1 => Se_plan_28b a0 a1 (Se_plan_28 a0 a1 n9)
def Se_plan (a0 : Nat) (a1 : Nat) (S : iz_S) : Option iz_S :=
  iz_bL (La_cellsOf a1 8 S) (fun r2 S1 =>
  iz_lt (iz_upL S1 a0 6 r2) (fun S3 =>
  iz_bL (La_bearing a1 1 S3) (fun r5 S4 =>
  iz_lt (iz_upL S4 a0 7 r5) (fun S6 =>
  iz_lt (((1 : Int32) <<< ((S6.1 a0 3) &&& 31)) - 1) (fun v7 =>
  (Se_plan_28 a0 a1 iz_FU v7 S6))))))
set_option maxRecDepth 10000 in
theorem c_Se_plan_28b {X : iz_X} {l : Launch} {a0 : Nat} (h0 : iz_sh a0 = (6 + 3, 8)) {a1 : Nat} (h1 : iz_sh a1 = (2 + 3, 3)) {k28 : Int32 → iz_S → Option iz_S} (hk28 : ∀ (x2 : Int32) (S : iz_S), iz_Y X l RX6 tX6_plan 3 5 (iz_Kc X l yX6_plan cX6_plan 3 none 5 iz_eV) 28 [(0, .ref (X.1 a0)), (2, .int x2)] [] S (k28 x2 S)) (x2 : Int32) (S : iz_S) : iz_Y X l RX6 tX6_plan 3 5 (iz_Kc X l yX6_plan cX6_plan 3 none 5 iz_eV) 28 [(0, .ref (X.1 a0)), (2, .int x2)] [] S (Se_plan_28b a0 a1 k28 x2 S) := by
  unfold Se_plan_28b
  refine iz_iload_n (n := 2) 17 1 rfl rfl ?_
  refine iz_if_lt (tgt := 43) 18 rfl (by decide) ?_ ?_
  · refine iz_aload_n (n := 0) 24 0 rfl rfl ?_
    refine iz_callVV (As := []) (rest := []) 25 ml_X6_58 cw_X6_walk ci_X6_walk h0 (fun r9 hr9 => m_Se_walk h0 hr9) rfl (by decide) (by decide) rfl rfl (Nat.le_of_ble_eq_true rfl) (fun S8 => ?_)
    exact iz_vret 26 rfl
  · refine iz_aload_n (n := 0) 19 0 rfl rfl ?_
    refine iz_iload_n (n := 2) 20 1 rfl rfl ?_
    refine iz_callVV (As := [.int x2]) (rest := []) 21 ml_X6_54 cw_X6_askBehind ci_X6_askBehind h0 (fun r9 hr9 => m_Se_askBehind h0 hr9) rfl (by decide) (by decide) rfl rfl (Nat.le_of_ble_eq_true rfl) (fun S9 => ?_)
    refine iz_iinc (v := (x2 + (-1))) (ls2 := [(0, .ref (X.1 a0)), (2, .int (x2 + (-1)))]) 22 1 [1, 0] rfl rfl rfl (by decide) rfl ?_
    refine iz_goto (tgt := 28) 23 (by decide) rfl ?_
    exact hk28 (x2 + (-1)) S9
theorem c_Se_plan_28 {X : iz_X} {l : Launch} {a0 : Nat} (h0 : iz_sh a0 = (6 + 3, 8)) {a1 : Nat} (h1 : iz_sh a1 = (2 + 3, 3)) : ∀ (n9 : Nat) (x2 : Int32) (S : iz_S), iz_Y X l RX6 tX6_plan 3 5 (iz_Kc X l yX6_plan cX6_plan 3 none 5 iz_eV) 28 [(0, .ref (X.1 a0)), (2, .int x2)] [] S (Se_plan_28 a0 a1 n9 x2 S)
  | 0 => by
    intros
    exact iz_none
  | n9 + 1 => c_Se_plan_28b h0 h1 (c_Se_plan_28 h0 h1 n9)
set_option maxRecDepth 10000 in
theorem c_Se_plan {X : iz_X} {l : Launch} {a0 : Nat} (h0 : iz_sh a0 = (6 + 3, 8)) {a1 : Nat} (h1 : iz_sh a1 = (2 + 3, 3)) (S : iz_S) : iz_Y X l RX6 tX6_plan 3 5 (iz_Kc X l yX6_plan cX6_plan 3 none 5 iz_eV) 0 [(0, .ref (X.1 a0)), (1, .ref (X.1 a1))] [] S (Se_plan a0 a1 S) := by
  unfold Se_plan
  refine iz_aload_n (n := 0) 0 0 rfl rfl ?_
  refine iz_aload_n (n := 1) 1 1 rfl rfl ?_
  refine iz_bipush (v := 8) 2 (by decide) rfl ?_
  refine iz_callVL (As := [.int 8]) (rest := [.ref (X.1 a0)]) 3 ml_X6_40 cw_X2_cellsOf ci_X2_cellsOf h1 (fun r9 hr9 => m_La_cellsOf h1 hr9) rfl (by decide) (by decide) rfl rfl (Nat.le_of_ble_eq_true rfl) (fun r2 S1 => ?_)
  refine iz_putL 4 6 h0 fl_X6_44 rfl (by decide) (by decide) rfl (fun S3 => ?_)
  refine iz_aload_n (n := 0) 5 0 rfl rfl ?_
  refine iz_aload_n (n := 1) 6 1 rfl rfl ?_
  refine iz_iconst (v := 1) 7 (by decide) rfl ?_
  refine iz_callVL (As := [.int 1]) (rest := [.ref (X.1 a0)]) 8 ml_X6_48 cw_X2_bearing ci_X2_bearing h1 (fun r9 hr9 => m_La_bearing h1 hr9) rfl (by decide) (by decide) rfl rfl (Nat.le_of_ble_eq_true rfl) (fun r5 S4 => ?_)
  refine iz_putL 9 7 h0 fl_X6_51 rfl (by decide) (by decide) rfl (fun S6 => ?_)
  refine iz_iconst (v := 1) 10 (by decide) rfl ?_
  refine iz_aload_n (n := 0) 11 0 rfl rfl ?_
  refine iz_getI 12 3 h0 fl_X6_30 rfl (by decide) (by decide) rfl ?_
  refine iz_ishl 13 rfl ?_
  refine iz_iconst (v := 1) 14 (by decide) rfl ?_
  refine iz_isub 15 rfl ?_
  refine iz_let (fun v7 => ?_)
  refine iz_istore_n (n := 2) (ls2 := [(0, .ref (X.1 a0)), (2, .int v7)]) 16 [1, 0] rfl (by decide) rfl ?_
  exact c_Se_plan_28 h0 h1 iz_FU v7 S6
theorem m_Se_plan {X : iz_X} {l : Launch} {a0 : Nat} (h0 : iz_sh a0 = (6 + 3, 8)) {a1 : Nat} (h1 : iz_sh a1 = (2 + 3, 3)) {S : iz_S} {r9 : iz_S} (hr : Se_plan a0 a1 S = some r9) : iz_Mt X l 5 yX6_plan cX6_plan 3 none [.ref (X.1 a0), .ref (X.1 a1)] S (iz_eV r9) :=
  iz_Mt_of (dt := tX6_plan) dX6_plan (by decide) hr (Nat.le_of_ble_eq_true rfl) (c_Se_plan h0 h1 S)
def Wa_enter (a0 : Nat) (x1 : Int32) (S : iz_S) : Option (Int32 × iz_S) :=
  iz_ck (iz_in (S.1 a0 0) 16) (iz_lt (iz_s S (iz_rf a0 1) (S.1 a0 0) x1) (fun S1 =>
  iz_lt (iz_up S1 a0 0 ((S1.1 a0 0) + 1)) (fun S2 =>
  some ((S2.1 a0 0), S2))))
set_option maxRecDepth 10000 in
theorem c_Wa_enter {X : iz_X} {l : Launch} {a0 : Nat} (h0 : iz_sh a0 = (8 + 3, 2)) (x1 : Int32) (S : iz_S) : iz_Y X l RX8 tX8_enter 2 0 (iz_Kc X l yX8_enter cX8_enter 2 (some .int) 0 iz_eI) 0 [(0, .ref (X.1 a0)), (1, .int x1)] [] S (Wa_enter a0 x1 S) := by
  unfold Wa_enter
  refine iz_aload_n (n := 0) 0 0 rfl rfl ?_
  refine iz_getR 1 1 h0 fl_X8_9 rfl (by decide) (by decide) rfl ?_
  refine iz_aload_n (n := 0) 2 0 rfl rfl ?_
  refine iz_getI 3 0 h0 fl_X8_15 rfl (by decide) (by decide) rfl ?_
  refine iz_iload_n (n := 1) 4 1 rfl rfl ?_
  refine iz_iast 5 (sf_8_1 h0) rfl (fun S1 => ?_)
  refine iz_aload_n (n := 0) 6 0 rfl rfl ?_
  refine iz_dup 7 rfl rfl ?_
  refine iz_getI 8 0 h0 fl_X8_15 rfl (by decide) (by decide) rfl ?_
  refine iz_iconst (v := 1) 9 (by decide) rfl ?_
  refine iz_iadd 10 rfl ?_
  refine iz_putI 11 0 h0 fl_X8_15 rfl (by decide) (by decide) rfl (fun S2 => ?_)
  refine iz_aload_n (n := 0) 12 0 rfl rfl ?_
  refine iz_getI 13 0 h0 fl_X8_15 rfl (by decide) (by decide) rfl ?_
  exact iz_iret 14 rfl
theorem m_Wa_enter {X : iz_X} {l : Launch} {a0 : Nat} (h0 : iz_sh a0 = (8 + 3, 2)) {x1 : Int32} {S : iz_S} {r9 : Int32 × iz_S} (hr : Wa_enter a0 x1 S = some r9) : iz_Mt X l 0 yX8_enter cX8_enter 2 (some .int) [.ref (X.1 a0), .int x1] S (iz_eI r9) :=
  iz_Mt_of (dt := tX8_enter) dX8_enter (by decide) hr (Nat.le_of_ble_eq_true rfl) (c_Wa_enter h0 x1 S)
def Ic_isStation_35 (s0 : Int32) (S : iz_S) : Option (Int32 × iz_S) :=
  iz_ck (decide (iz_nb s0 = s0)) (some (s0, S))
def Ic_isStation_34 (S : iz_S) : Option (Int32 × iz_S) :=
  (Ic_isStation_35 0 S)
def Ic_isStation (x0 : Int32) (x1 : Int32) (x2 : Int32) (S : iz_S) : Option (Int32 × iz_S) :=
  (iz_bI (Ic_within x0 1 100 S) (fun r2 S1 =>
  if r2 = 0 then
    (Ic_isStation_34 S1)
  else
    (iz_bI (Ic_within x1 0 60 S1) (fun r4 S3 =>
    if r4 = 0 then
      (Ic_isStation_34 S3)
    else
      (iz_bI (Ic_within x2 0 30 S3) (fun r6 S5 =>
      if r6 = 0 then
        (Ic_isStation_34 S5)
      else
        (Ic_isStation_35 1 S5)))))))
set_option maxRecDepth 10000 in
theorem c_Ic_isStation_35 {X : iz_X} {l : Launch} (s0 : Int32) (S : iz_S) : iz_Y X l RX9 tX9_isStation 3 1 (iz_Kc X l yX9_isStation cX9_isStation 3 (some .boolean) 1 iz_eI) 35 [] [.int s0] S (Ic_isStation_35 s0 S) := by
  unfold Ic_isStation_35
  exact iz_zret 18 rfl
set_option maxRecDepth 10000 in
theorem c_Ic_isStation_34 {X : iz_X} {l : Launch} (S : iz_S) : iz_Y X l RX9 tX9_isStation 3 1 (iz_Kc X l yX9_isStation cX9_isStation 3 (some .boolean) 1 iz_eI) 34 [] [] S (Ic_isStation_34 S) := by
  unfold Ic_isStation_34
  refine iz_iconst (v := 0) 17 (by decide) rfl ?_
  exact c_Ic_isStation_35 0 S
set_option maxRecDepth 10000 in
theorem c_Ic_isStation {X : iz_X} {l : Launch} (x0 : Int32) (x1 : Int32) (x2 : Int32) (S : iz_S) : iz_Y X l RX9 tX9_isStation 3 1 (iz_Kc X l yX9_isStation cX9_isStation 3 (some .boolean) 1 iz_eI) 0 [(0, .int x0), (1, .int x1), (2, .int x2)] [] S (Ic_isStation x0 x1 x2 S) := by
  unfold Ic_isStation
  refine iz_iload_n (n := 0) 0 0 rfl rfl ?_
  refine iz_iconst (v := 1) 1 (by decide) rfl ?_
  refine iz_bipush (v := 100) 2 (by decide) rfl ?_
  refine iz_callSI (As := [.int x0, .int 1, .int 100]) (rest := []) 3 ml_X9_85 cw_X9_within ci_X9_within (fun r9 hr9 => m_Ic_within  hr9) rfl (by decide) rfl rfl (Nat.le_of_ble_eq_true rfl) (fun r2 S1 => ?_)
  refine iz_if_eq (tgt := 34) 4 rfl (by decide) ?_ ?_
  · exact iz_sub [] rfl (c_Ic_isStation_34 S1)
  · refine iz_iload_n (n := 1) 5 1 rfl rfl ?_
    refine iz_iconst (v := 0) 6 (by decide) rfl ?_
    refine iz_bipush (v := 60) 7 (by decide) rfl ?_
    refine iz_callSI (As := [.int x1, .int 0, .int 60]) (rest := []) 8 ml_X9_85 cw_X9_within ci_X9_within (fun r9 hr9 => m_Ic_within  hr9) rfl (by decide) rfl rfl (Nat.le_of_ble_eq_true rfl) (fun r4 S3 => ?_)
    refine iz_if_eq (tgt := 34) 9 rfl (by decide) ?_ ?_
    · exact iz_sub [] rfl (c_Ic_isStation_34 S3)
    · refine iz_iload_n (n := 2) 10 2 rfl rfl ?_
      refine iz_iconst (v := 0) 11 (by decide) rfl ?_
      refine iz_bipush (v := 30) 12 (by decide) rfl ?_
      refine iz_callSI (As := [.int x2, .int 0, .int 30]) (rest := []) 13 ml_X9_85 cw_X9_within ci_X9_within (fun r9 hr9 => m_Ic_within  hr9) rfl (by decide) rfl rfl (Nat.le_of_ble_eq_true rfl) (fun r6 S5 => ?_)
      refine iz_if_eq (tgt := 34) 14 rfl (by decide) ?_ ?_
      · exact iz_sub [] rfl (c_Ic_isStation_34 S5)
      · refine iz_iconst (v := 1) 15 (by decide) rfl ?_
        refine iz_goto (tgt := 35) 16 (by decide) rfl ?_
        exact iz_sub [] rfl (c_Ic_isStation_35 1 S5)
theorem m_Ic_isStation {X : iz_X} {l : Launch} {x0 : Int32} {x1 : Int32} {x2 : Int32} {S : iz_S} {r9 : Int32 × iz_S} (hr : Ic_isStation x0 x1 x2 S = some r9) : iz_Mt X l 1 yX9_isStation cX9_isStation 3 (some .boolean) [.int x0, .int x1, .int x2] S (iz_eI r9) :=
  iz_Mt_of (dt := tX9_isStation) dX9_isStation (by decide) hr (Nat.le_of_ble_eq_true rfl) (c_Ic_isStation x0 x1 x2 S)
