def Mo_finding (a0 : Nat) (x1 : Int32) (S : iz_S) : Option (Int32 × iz_S) :=
  iz_ck (iz_in x1 6) (
  iz_ck (iz_in x1 6) (iz_lt (iz_s S (iz_rf a0 28) x1 ((iz_g S (iz_rf a0 28) x1) + 1)) (fun S1 =>
  some ((((-1000000) : Int32) - x1), S1))))
set_option maxRecDepth 10000 in
theorem c_Mo_finding {X : iz_X} {l : Launch} {a0 : Nat} (h0 : iz_sh a0 = (10 + 3, 48)) (x1 : Int32) (S : iz_S) : iz_Y X l RX10 tX10_finding 2 0 (iz_Kc X l yX10_finding cX10_finding 2 (some .int) 0 iz_eI) 0 [(0, .ref (X.1 a0)), (1, .int x1)] [] S (Mo_finding a0 x1 S) := by
  unfold Mo_finding
  refine iz_aload_n (n := 0) 0 0 rfl rfl ?_
  refine iz_getR 1 28 h0 fl_X10_80 rfl (by decide) (by decide) rfl ?_
  refine iz_iload_n (n := 1) 2 1 rfl rfl ?_
  refine iz_dup2 3 rfl rfl rfl ?_
  refine iz_iald 4 (sf_10_28 h0) rfl ?_
  refine iz_iconst (v := 1) 5 (by decide) rfl ?_
  refine iz_iadd 6 rfl ?_
  refine iz_iast 7 (sf_10_28 h0) rfl (fun S1 => ?_)
  refine iz_ldc 8 kc_X10_122 rfl ?_
  refine iz_iload_n (n := 1) 9 1 rfl rfl ?_
  refine iz_isub 10 rfl ?_
  exact iz_iret 11 rfl
theorem m_Mo_finding {X : iz_X} {l : Launch} {a0 : Nat} (h0 : iz_sh a0 = (10 + 3, 48)) {x1 : Int32} {S : iz_S} {r9 : Int32 × iz_S} (hr : Mo_finding a0 x1 S = some r9) : iz_Mt X l 0 yX10_finding cX10_finding 2 (some .int) [.ref (X.1 a0), .int x1] S (iz_eI r9) :=
  iz_Mt_of (dt := tX10_finding) dX10_finding (by decide) hr (Nat.le_of_ble_eq_true rfl) (c_Mo_finding h0 x1 S)
def Mo_isIn_15 (s0 : Int32) (S : iz_S) : Option (Int32 × iz_S) :=
  iz_ck (decide (iz_nb s0 = s0)) (some (s0, S))
def Mo_isIn_14 (S : iz_S) : Option (Int32 × iz_S) :=
  (Mo_isIn_15 0 S)
def Mo_isIn (x0 : Int32) (x1 : Int32) (x2 : Int32) (S : iz_S) : Option (Int32 × iz_S) :=
  (if x0 < x1 then
    (Mo_isIn_14 S)
  else
    (if x0 ≤ x2 then
      (Mo_isIn_15 1 S)
    else
      (Mo_isIn_14 S)))
set_option maxRecDepth 10000 in
theorem c_Mo_isIn_15 {X : iz_X} {l : Launch} (s0 : Int32) (S : iz_S) : iz_Y X l RX10 tX10_isIn 3 0 (iz_Kc X l yX10_isIn cX10_isIn 3 (some .boolean) 0 iz_eI) 15 [] [.int s0] S (Mo_isIn_15 s0 S) := by
  unfold Mo_isIn_15
  exact iz_zret 9 rfl
set_option maxRecDepth 10000 in
theorem c_Mo_isIn_14 {X : iz_X} {l : Launch} (S : iz_S) : iz_Y X l RX10 tX10_isIn 3 0 (iz_Kc X l yX10_isIn cX10_isIn 3 (some .boolean) 0 iz_eI) 14 [] [] S (Mo_isIn_14 S) := by
  unfold Mo_isIn_14
  refine iz_iconst (v := 0) 8 (by decide) rfl ?_
  exact c_Mo_isIn_15 0 S
set_option maxRecDepth 10000 in
theorem c_Mo_isIn {X : iz_X} {l : Launch} (x0 : Int32) (x1 : Int32) (x2 : Int32) (S : iz_S) : iz_Y X l RX10 tX10_isIn 3 0 (iz_Kc X l yX10_isIn cX10_isIn 3 (some .boolean) 0 iz_eI) 0 [(0, .int x0), (1, .int x1), (2, .int x2)] [] S (Mo_isIn x0 x1 x2 S) := by
  unfold Mo_isIn
  refine iz_iload_n (n := 0) 0 0 rfl rfl ?_
  refine iz_iload_n (n := 1) 1 1 rfl rfl ?_
  refine iz_cmp_lt (tgt := 14) 2 rfl (by decide) ?_ ?_
  · exact iz_sub [] rfl (c_Mo_isIn_14 S)
  · refine iz_iload_n (n := 0) 3 0 rfl rfl ?_
    refine iz_iload_n (n := 2) 4 2 rfl rfl ?_
    refine iz_cmp_gt (tgt := 14) 5 rfl (by decide) ?_ ?_
    · exact iz_sub [] rfl (c_Mo_isIn_14 S)
    · refine iz_iconst (v := 1) 6 (by decide) rfl ?_
      refine iz_goto (tgt := 15) 7 (by decide) rfl ?_
      exact iz_sub [] rfl (c_Mo_isIn_15 1 S)
theorem m_Mo_isIn {X : iz_X} {l : Launch} {x0 : Int32} {x1 : Int32} {x2 : Int32} {S : iz_S} {r9 : Int32 × iz_S} (hr : Mo_isIn x0 x1 x2 S = some r9) : iz_Mt X l 0 yX10_isIn cX10_isIn 3 (some .boolean) [.int x0, .int x1, .int x2] S (iz_eI r9) :=
  iz_Mt_of (dt := tX10_isIn) dX10_isIn (by decide) hr (Nat.le_of_ble_eq_true rfl) (c_Mo_isIn x0 x1 x2 S)
def Mo_isCell (x0 : Int32) (S : iz_S) : Option (Int32 × iz_S) :=
  iz_bI (Mo_isIn x0 0 63 S) (fun r2 S1 =>
  iz_ck (decide (iz_nb r2 = r2)) (some (r2, S1)))
set_option maxRecDepth 10000 in
theorem c_Mo_isCell {X : iz_X} {l : Launch} (x0 : Int32) (S : iz_S) : iz_Y X l RX10 tX10_isCell 1 1 (iz_Kc X l yX10_isCell cX10_isCell 1 (some .boolean) 1 iz_eI) 0 [(0, .int x0)] [] S (Mo_isCell x0 S) := by
  unfold Mo_isCell
  refine iz_iload_n (n := 0) 0 0 rfl rfl ?_
  refine iz_iconst (v := 0) 1 (by decide) rfl ?_
  refine iz_bipush (v := 63) 2 (by decide) rfl ?_
  refine iz_callSI (As := [.int x0, .int 0, .int 63]) (rest := []) 3 ml_X10_123 cw_X10_isIn ci_X10_isIn (fun r9 hr9 => m_Mo_isIn  hr9) rfl (by decide) rfl rfl (Nat.le_of_ble_eq_true rfl) (fun r2 S1 => ?_)
  exact iz_zret 4 rfl
theorem m_Mo_isCell {X : iz_X} {l : Launch} {x0 : Int32} {S : iz_S} {r9 : Int32 × iz_S} (hr : Mo_isCell x0 S = some r9) : iz_Mt X l 1 yX10_isCell cX10_isCell 1 (some .boolean) [.int x0] S (iz_eI r9) :=
  iz_Mt_of (dt := tX10_isCell) dX10_isCell (by decide) hr (Nat.le_of_ble_eq_true rfl) (c_Mo_isCell x0 S)
def Mo_clean_23 (a0 : Nat) (S : iz_S) : Option iz_S :=
  some S
def Mo_clean (a0 : Nat) (x1 : Int32) (S : iz_S) : Option iz_S :=
  (iz_ck (iz_in x1 64) (
  if (iz_g S (iz_rf a0 0) x1) = 0 then
    iz_ck (iz_in x1 64) (iz_lt (iz_s S (iz_rf a0 1) x1 0) (fun S1 =>
    iz_ck (iz_in x1 64) (iz_lt (iz_s S1 (iz_rf a0 2) x1 (iz_nb 0)) (fun S2 =>
    (Mo_clean_23 a0 S2)))))
  else
    (Mo_clean_23 a0 S)))
set_option maxRecDepth 10000 in
theorem c_Mo_clean_23 {X : iz_X} {l : Launch} {a0 : Nat} (h0 : iz_sh a0 = (10 + 3, 48)) (S : iz_S) : iz_Y X l RX10 tX10_clean 2 0 (iz_Kc X l yX10_clean cX10_clean 2 none 0 iz_eV) 23 [] [] S (Mo_clean_23 a0 S) := by
  unfold Mo_clean_23
  exact iz_vret 15 rfl
set_option maxRecDepth 10000 in
theorem c_Mo_clean {X : iz_X} {l : Launch} {a0 : Nat} (h0 : iz_sh a0 = (10 + 3, 48)) (x1 : Int32) (S : iz_S) : iz_Y X l RX10 tX10_clean 2 0 (iz_Kc X l yX10_clean cX10_clean 2 none 0 iz_eV) 0 [(0, .ref (X.1 a0)), (1, .int x1)] [] S (Mo_clean a0 x1 S) := by
  unfold Mo_clean
  refine iz_aload_n (n := 0) 0 0 rfl rfl ?_
  refine iz_getR 1 0 h0 fl_X10_7 rfl (by decide) (by decide) rfl ?_
  refine iz_iload_n (n := 1) 2 1 rfl rfl ?_
  refine iz_iald 3 (sf_10_0 h0) rfl ?_
  refine iz_if_ne (tgt := 23) 4 rfl (by decide) ?_ ?_
  · exact iz_sub [] rfl (c_Mo_clean_23 h0 S)
  · refine iz_aload_n (n := 0) 5 0 rfl rfl ?_
    refine iz_getR 6 1 h0 fl_X10_13 rfl (by decide) (by decide) rfl ?_
    refine iz_iload_n (n := 1) 7 1 rfl rfl ?_
    refine iz_iconst (v := 0) 8 (by decide) rfl ?_
    refine iz_iast 9 (sf_10_1 h0) rfl (fun S1 => ?_)
    refine iz_aload_n (n := 0) 10 0 rfl rfl ?_
    refine iz_getR 11 2 h0 fl_X10_16 rfl (by decide) (by decide) rfl ?_
    refine iz_iload_n (n := 1) 12 1 rfl rfl ?_
    refine iz_iconst (v := 0) 13 (by decide) rfl ?_
    refine iz_bast 14 (sf_10_2 h0) rfl (fun S2 => ?_)
    exact iz_sub [] rfl (c_Mo_clean_23 h0 S2)
theorem m_Mo_clean {X : iz_X} {l : Launch} {a0 : Nat} (h0 : iz_sh a0 = (10 + 3, 48)) {x1 : Int32} {S : iz_S} {r9 : iz_S} (hr : Mo_clean a0 x1 S = some r9) : iz_Mt X l 0 yX10_clean cX10_clean 2 none [.ref (X.1 a0), .int x1] S (iz_eV r9) :=
  iz_Mt_of (dt := tX10_clean) dX10_clean (by decide) hr (Nat.le_of_ble_eq_true rfl) (c_Mo_clean h0 x1 S)
def Mo_bearing_26 (a0 : Nat) (k4 : Int32 → Int32 → Int32 → iz_S → Option (Int32 × iz_S)) (x1 : Int32) (x3 : Int32) (s0 : Int32) (s1 : Int32) (S : iz_S) : Option (Int32 × iz_S) :=
  iz_lt (s0 + s1) (fun v1 =>
  (k4 x1 v1 (x3 + 1) S))
def Mo_bearing_4b (a0 : Nat) (k4 : Int32 → Int32 → Int32 → iz_S → Option (Int32 × iz_S)) (x1 : Int32) (x2 : Int32) (x3 : Int32) (S : iz_S) : Option (Int32 × iz_S) :=
  (if x3 < 64 then
    (iz_ck (iz_in x3 64) (
    if (iz_g S (iz_rf a0 0) x3) < x1 then
      (Mo_bearing_26 a0 k4 x1 x3 x2 0 S)
    else
      (Mo_bearing_26 a0 k4 x1 x3 x2 1 S)))
  else
    some (x2, S))
def Mo_bearing_4 (a0 : Nat) : Nat → Int32 → Int32 → Int32 → iz_S → Option (Int32 × iz_S)
  | 0 => fun _ _ _ _ => none
  | n9 + 1 => Mo_bearing_4b a0 (Mo_bearing_4 a0 n9)
def Mo_bearing (a0 : Nat) (x1 : Int32) (S : iz_S) : Option (Int32 × iz_S) :=
  (Mo_bearing_4 a0 iz_FU x1 0 0 S)
set_option maxRecDepth 10000 in
theorem c_Mo_bearing_26 {X : iz_X} {l : Launch} {a0 : Nat} (h0 : iz_sh a0 = (10 + 3, 48)) {k4 : Int32 → Int32 → Int32 → iz_S → Option (Int32 × iz_S)} (hk4 : ∀ (x1 : Int32) (x2 : Int32) (x3 : Int32) (S : iz_S), iz_Y X l RX10 tX10_bearing 4 0 (iz_Kc X l yX10_bearing cX10_bearing 4 (some .int) 0 iz_eI) 4 [(0, .ref (X.1 a0)), (1, .int x1), (2, .int x2), (3, .int x3)] [] S (k4 x1 x2 x3 S)) (x1 : Int32) (x3 : Int32) (s0 : Int32) (s1 : Int32) (S : iz_S) : iz_Y X l RX10 tX10_bearing 4 0 (iz_Kc X l yX10_bearing cX10_bearing 4 (some .int) 0 iz_eI) 26 [(0, .ref (X.1 a0)), (1, .int x1), (3, .int x3)] [.int s1, .int s0] S (Mo_bearing_26 a0 k4 x1 x3 s0 s1 S) := by
  unfold Mo_bearing_26
  refine iz_iadd 17 rfl ?_
  refine iz_let (fun v1 => ?_)
  refine iz_istore_n (n := 2) (ls2 := [(0, .ref (X.1 a0)), (1, .int x1), (2, .int v1), (3, .int x3)]) 18 [1, 2, 0, 3] rfl (by decide) rfl ?_
  refine iz_iinc (v := (x3 + 1)) (ls2 := [(0, .ref (X.1 a0)), (1, .int x1), (2, .int v1), (3, .int (x3 + 1))]) 19 3 [1, 2, 3, 0] rfl rfl rfl (by decide) rfl ?_
  refine iz_goto (tgt := 4) 20 (by decide) rfl ?_
  exact hk4 x1 v1 (x3 + 1) S
set_option maxRecDepth 10000 in
theorem c_Mo_bearing_4b {X : iz_X} {l : Launch} {a0 : Nat} (h0 : iz_sh a0 = (10 + 3, 48)) {k4 : Int32 → Int32 → Int32 → iz_S → Option (Int32 × iz_S)} (hk4 : ∀ (x1 : Int32) (x2 : Int32) (x3 : Int32) (S : iz_S), iz_Y X l RX10 tX10_bearing 4 0 (iz_Kc X l yX10_bearing cX10_bearing 4 (some .int) 0 iz_eI) 4 [(0, .ref (X.1 a0)), (1, .int x1), (2, .int x2), (3, .int x3)] [] S (k4 x1 x2 x3 S)) (x1 : Int32) (x2 : Int32) (x3 : Int32) (S : iz_S) : iz_Y X l RX10 tX10_bearing 4 0 (iz_Kc X l yX10_bearing cX10_bearing 4 (some .int) 0 iz_eI) 4 [(0, .ref (X.1 a0)), (1, .int x1), (2, .int x2), (3, .int x3)] [] S (Mo_bearing_4b a0 k4 x1 x2 x3 S) := by
  unfold Mo_bearing_4b
  refine iz_iload_n (n := 3) 4 3 rfl rfl ?_
  refine iz_bipush (v := 64) 5 (by decide) rfl ?_
  refine iz_cmp_ge (tgt := 34) 6 rfl (by decide) ?_ ?_
  · refine iz_iload_n (n := 2) 21 2 rfl rfl ?_
    exact iz_iret 22 rfl
  · refine iz_iload_n (n := 2) 7 2 rfl rfl ?_
    refine iz_aload_n (n := 0) 8 0 rfl rfl ?_
    refine iz_getR 9 0 h0 fl_X10_7 rfl (by decide) (by decide) rfl ?_
    refine iz_iload_n (n := 3) 10 3 rfl rfl ?_
    refine iz_iald 11 (sf_10_0 h0) rfl ?_
    refine iz_iload_n (n := 1) 12 1 rfl rfl ?_
    refine iz_cmp_lt (tgt := 25) 13 rfl (by decide) ?_ ?_
    · refine iz_iconst (v := 0) 16 (by decide) rfl ?_
      exact iz_sub [0, 1, 3] rfl (c_Mo_bearing_26 h0 hk4 x1 x3 x2 0 S)
    · refine iz_iconst (v := 1) 14 (by decide) rfl ?_
      refine iz_goto (tgt := 26) 15 (by decide) rfl ?_
      exact iz_sub [0, 1, 3] rfl (c_Mo_bearing_26 h0 hk4 x1 x3 x2 1 S)
theorem c_Mo_bearing_4 {X : iz_X} {l : Launch} {a0 : Nat} (h0 : iz_sh a0 = (10 + 3, 48)) : ∀ (n9 : Nat) (x1 : Int32) (x2 : Int32) (x3 : Int32) (S : iz_S), iz_Y X l RX10 tX10_bearing 4 0 (iz_Kc X l yX10_bearing cX10_bearing 4 (some .int) 0 iz_eI) 4 [(0, .ref (X.1 a0)), (1, .int x1), (2, .int x2), (3, .int x3)] [] S (Mo_bearing_4 a0 n9 x1 x2 x3 S)
  | 0 => by
    intros
    exact iz_none
  | n9 + 1 => c_Mo_bearing_4b h0 (c_Mo_bearing_4 h0 n9)
set_option maxRecDepth 10000 in
theorem c_Mo_bearing {X : iz_X} {l : Launch} {a0 : Nat} (h0 : iz_sh a0 = (10 + 3, 48)) (x1 : Int32) (S : iz_S) : iz_Y X l RX10 tX10_bearing 4 0 (iz_Kc X l yX10_bearing cX10_bearing 4 (some .int) 0 iz_eI) 0 [(0, .ref (X.1 a0)), (1, .int x1)] [] S (Mo_bearing a0 x1 S) := by
  unfold Mo_bearing
  refine iz_iconst (v := 0) 0 (by decide) rfl ?_
  refine iz_istore_n (n := 2) (ls2 := [(0, .ref (X.1 a0)), (1, .int x1), (2, .int 0)]) 1 [1, 2, 0] rfl (by decide) rfl ?_
  refine iz_iconst (v := 0) 2 (by decide) rfl ?_
  refine iz_istore_n (n := 3) (ls2 := [(0, .ref (X.1 a0)), (1, .int x1), (2, .int 0), (3, .int 0)]) 3 [1, 2, 3, 0] rfl (by decide) rfl ?_
  exact c_Mo_bearing_4 h0 iz_FU x1 0 0 S
theorem m_Mo_bearing {X : iz_X} {l : Launch} {a0 : Nat} (h0 : iz_sh a0 = (10 + 3, 48)) {x1 : Int32} {S : iz_S} {r9 : Int32 × iz_S} (hr : Mo_bearing a0 x1 S = some r9) : iz_Mt X l 0 yX10_bearing cX10_bearing 4 (some .int) [.ref (X.1 a0), .int x1] S (iz_eI r9) :=
  iz_Mt_of (dt := tX10_bearing) dX10_bearing (by decide) hr (Nat.le_of_ble_eq_true rfl) (c_Mo_bearing h0 x1 S)
def Mo_frost_110 (a0 : Nat) (k18 : Int32 → Int32 → iz_S → Option (Int32 × iz_S)) (x1 : Int32) (x2 : Int32) (s1 : Int32) (s2 : Int32) (s3 : Int32) (S : iz_S) : Option (Int32 × iz_S) :=
  iz_ck (iz_in s1 64) (iz_lt (iz_s S (iz_rf a0 2) s1 (iz_nb (s2 ||| s3))) (fun S10 =>
  iz_bV (Mo_clean a0 x2 S10) (fun S11 =>
  (k18 x1 (x2 + 1) S11))))
def Mo_frost_81 (a0 : Nat) (k18 : Int32 → Int32 → iz_S → Option (Int32 × iz_S)) (x1 : Int32) (x2 : Int32) (x4 : Int32) (S : iz_S) : Option (Int32 × iz_S) :=
  (iz_ck (iz_in x2 64) (iz_lt (iz_s S (iz_rf a0 0) x2 x4) (fun S9 =>
  iz_ck (iz_in x2 64) (
  iz_ck (iz_in x2 64) (
  if (iz_g S9 (iz_rf a0 1) x2) ≤ 0 then
    (Mo_frost_110 a0 k18 x1 x2 x2 (iz_g S9 (iz_rf a0 2) x2) 0 S9)
  else
    (Mo_frost_110 a0 k18 x1 x2 x2 (iz_g S9 (iz_rf a0 2) x2) 1 S9))))))
def Mo_frost_55b (a0 : Nat) (k18 : Int32 → Int32 → iz_S → Option (Int32 × iz_S)) (k55 : Int32 → Int32 → Int32 → Int32 → iz_S → Option (Int32 × iz_S)) (x1 : Int32) (x2 : Int32) (x3 : Int32) (x4 : Int32) (S : iz_S) : Option (Int32 × iz_S) :=
  (if x4 < 60 then
    (if ((x4 + 1) * (x4 + 1)) ≤ x3 then
      (k55 x1 x2 x3 (x4 + 1) S)
    else
      (Mo_frost_81 a0 k18 x1 x2 x4 S))
  else
    (Mo_frost_81 a0 k18 x1 x2 x4 S))
def Mo_frost_55 (a0 : Nat) (k18 : Int32 → Int32 → iz_S → Option (Int32 × iz_S)) : Nat → Int32 → Int32 → Int32 → Int32 → iz_S → Option (Int32 × iz_S)
  | 0 => fun _ _ _ _ _ => none
  | n9 + 1 => Mo_frost_55b a0 k18 (Mo_frost_55 a0 k18 n9)
def Mo_frost_18b (a0 : Nat) (k18 : Int32 → Int32 → iz_S → Option (Int32 × iz_S)) (x1 : Int32) (x2 : Int32) (S : iz_S) : Option (Int32 × iz_S) :=
  (if x2 < 64 then
    iz_ck (iz_in x2 64) (
    iz_ck (iz_in x2 64) (
    iz_ck (iz_in x2 64) (
    iz_ck (decide (¬ ((2 : Int32) + (iz_g S (iz_rf a0 1) x2)) = 0)) (
    iz_lt (((iz_g S (iz_rf a0 0) x2) * (iz_g S (iz_rf a0 0) x2)) + ((x1 * 40) / ((2 : Int32) + (iz_g S (iz_rf a0 1) x2)))) (fun v8 =>
    (Mo_frost_55 a0 k18 iz_FU x1 x2 v8 0 S))))))
  else
    iz_ck (iz_in 1 3) (
    iz_bI (Mo_bearing a0 (iz_zV 3 (Int32.toNatClampNeg 1)) S) (fun r6 S5 =>
    some (r6, S5))))
def Mo_frost_18 (a0 : Nat) : Nat → Int32 → Int32 → iz_S → Option (Int32 × iz_S)
  | 0 => fun _ _ _ => none
  | n9 + 1 => Mo_frost_18b a0 (Mo_frost_18 a0 n9)
def Mo_frost (a0 : Nat) (x1 : Int32) (S : iz_S) : Option (Int32 × iz_S) :=
  (iz_bI (Mo_isIn x1 1 40 S) (fun r2 S1 =>
  if r2 = 0 then
    iz_bI (Mo_finding a0 1 S1) (fun r4 S3 =>
    some (r4, S3))
  else
    (Mo_frost_18 a0 iz_FU x1 0 S1)))
set_option maxRecDepth 10000 in
theorem c_Mo_frost_110 {X : iz_X} {l : Launch} {a0 : Nat} (h0 : iz_sh a0 = (10 + 3, 48)) {k18 : Int32 → Int32 → iz_S → Option (Int32 × iz_S)} (hk18 : ∀ (x1 : Int32) (x2 : Int32) (S : iz_S), iz_Y X l RX10 tX10_frost 5 1 (iz_Kc X l yX10_frost cX10_frost 5 (some .int) 1 iz_eI) 18 [(0, .ref (X.1 a0)), (1, .int x1), (2, .int x2)] [] S (k18 x1 x2 S)) (x1 : Int32) (x2 : Int32) (s1 : Int32) (s2 : Int32) (s3 : Int32) (S : iz_S) : iz_Y X l RX10 tX10_frost 5 1 (iz_Kc X l yX10_frost cX10_frost 5 (some .int) 1 iz_eI) 110 [(0, .ref (X.1 a0)), (1, .int x1), (2, .int x2)] [.int s3, .int s2, .int s1, .ref (X.1 (iz_rf a0 2))] S (Mo_frost_110 a0 k18 x1 x2 s1 s2 s3 S) := by
  unfold Mo_frost_110
  refine iz_ior 69 rfl ?_
  refine iz_bast 70 (sf_10_2 h0) rfl (fun S10 => ?_)
  refine iz_aload_n (n := 0) 71 0 rfl rfl ?_
  refine iz_iload_n (n := 2) 72 2 rfl rfl ?_
  refine iz_callVV (As := [.int x2]) (rest := []) 73 ml_X10_131 cw_X10_clean ci_X10_clean h0 (fun r9 hr9 => m_Mo_clean h0 hr9) rfl (by decide) (by decide) rfl rfl (Nat.le_of_ble_eq_true rfl) (fun S11 => ?_)
  refine iz_iinc (v := (x2 + 1)) (ls2 := [(0, .ref (X.1 a0)), (1, .int x1), (2, .int (x2 + 1))]) 74 2 [1, 2, 0] rfl rfl rfl (by decide) rfl ?_
  refine iz_goto (tgt := 18) 75 (by decide) rfl ?_
  exact hk18 x1 (x2 + 1) S11
set_option maxRecDepth 10000 in
theorem c_Mo_frost_81 {X : iz_X} {l : Launch} {a0 : Nat} (h0 : iz_sh a0 = (10 + 3, 48)) {k18 : Int32 → Int32 → iz_S → Option (Int32 × iz_S)} (hk18 : ∀ (x1 : Int32) (x2 : Int32) (S : iz_S), iz_Y X l RX10 tX10_frost 5 1 (iz_Kc X l yX10_frost cX10_frost 5 (some .int) 1 iz_eI) 18 [(0, .ref (X.1 a0)), (1, .int x1), (2, .int x2)] [] S (k18 x1 x2 S)) (x1 : Int32) (x2 : Int32) (x4 : Int32) (S : iz_S) : iz_Y X l RX10 tX10_frost 5 1 (iz_Kc X l yX10_frost cX10_frost 5 (some .int) 1 iz_eI) 81 [(0, .ref (X.1 a0)), (1, .int x1), (2, .int x2), (4, .int x4)] [] S (Mo_frost_81 a0 k18 x1 x2 x4 S) := by
  unfold Mo_frost_81
  refine iz_aload_n (n := 0) 51 0 rfl rfl ?_
  refine iz_getR 52 0 h0 fl_X10_7 rfl (by decide) (by decide) rfl ?_
  refine iz_iload_n (n := 2) 53 2 rfl rfl ?_
  refine iz_iload (n := 4) 54 3 rfl rfl ?_
  refine iz_iast 55 (sf_10_0 h0) rfl (fun S9 => ?_)
  refine iz_aload_n (n := 0) 56 0 rfl rfl ?_
  refine iz_getR 57 2 h0 fl_X10_16 rfl (by decide) (by decide) rfl ?_
  refine iz_iload_n (n := 2) 58 2 rfl rfl ?_
  refine iz_dup2 59 rfl rfl rfl ?_
  refine iz_bald 60 (sf_10_2 h0) rfl ?_
  refine iz_aload_n (n := 0) 61 0 rfl rfl ?_
  refine iz_getR 62 1 h0 fl_X10_13 rfl (by decide) (by decide) rfl ?_
  refine iz_iload_n (n := 2) 63 2 rfl rfl ?_
  refine iz_iald 64 (sf_10_1 h0) rfl ?_
  refine iz_if_le (tgt := 109) 65 rfl (by decide) ?_ ?_
  · refine iz_iconst (v := 0) 68 (by decide) rfl ?_
    exact iz_sub [0, 1, 2] rfl (c_Mo_frost_110 h0 hk18 x1 x2 x2 (iz_g S9 (iz_rf a0 2) x2) 0 S9)
  · refine iz_iconst (v := 1) 66 (by decide) rfl ?_
    refine iz_goto (tgt := 110) 67 (by decide) rfl ?_
    exact iz_sub [0, 1, 2] rfl (c_Mo_frost_110 h0 hk18 x1 x2 x2 (iz_g S9 (iz_rf a0 2) x2) 1 S9)
set_option maxRecDepth 10000 in
theorem c_Mo_frost_55b {X : iz_X} {l : Launch} {a0 : Nat} (h0 : iz_sh a0 = (10 + 3, 48)) {k18 : Int32 → Int32 → iz_S → Option (Int32 × iz_S)} {k55 : Int32 → Int32 → Int32 → Int32 → iz_S → Option (Int32 × iz_S)} (hk18 : ∀ (x1 : Int32) (x2 : Int32) (S : iz_S), iz_Y X l RX10 tX10_frost 5 1 (iz_Kc X l yX10_frost cX10_frost 5 (some .int) 1 iz_eI) 18 [(0, .ref (X.1 a0)), (1, .int x1), (2, .int x2)] [] S (k18 x1 x2 S)) (hk55 : ∀ (x1 : Int32) (x2 : Int32) (x3 : Int32) (x4 : Int32) (S : iz_S), iz_Y X l RX10 tX10_frost 5 1 (iz_Kc X l yX10_frost cX10_frost 5 (some .int) 1 iz_eI) 55 [(0, .ref (X.1 a0)), (1, .int x1), (2, .int x2), (3, .int x3), (4, .int x4)] [] S (k55 x1 x2 x3 x4 S)) (x1 : Int32) (x2 : Int32) (x3 : Int32) (x4 : Int32) (S : iz_S) : iz_Y X l RX10 tX10_frost 5 1 (iz_Kc X l yX10_frost cX10_frost 5 (some .int) 1 iz_eI) 55 [(0, .ref (X.1 a0)), (1, .int x1), (2, .int x2), (3, .int x3), (4, .int x4)] [] S (Mo_frost_55b a0 k18 k55 x1 x2 x3 x4 S) := by
  unfold Mo_frost_55b
  refine iz_iload (n := 4) 37 4 rfl rfl ?_
  refine iz_bipush (v := 60) 38 (by decide) rfl ?_
  refine iz_cmp_ge (tgt := 81) 39 rfl (by decide) ?_ ?_
  · exact iz_sub [0, 1, 2, 4] rfl (c_Mo_frost_81 h0 hk18 x1 x2 x4 S)
  · refine iz_iload (n := 4) 40 4 rfl rfl ?_
    refine iz_iconst (v := 1) 41 (by decide) rfl ?_
    refine iz_iadd 42 rfl ?_
    refine iz_iload (n := 4) 43 4 rfl rfl ?_
    refine iz_iconst (v := 1) 44 (by decide) rfl ?_
    refine iz_iadd 45 rfl ?_
    refine iz_imul 46 rfl ?_
    refine iz_iload_n (n := 3) 47 3 rfl rfl ?_
    refine iz_cmp_gt (tgt := 81) 48 rfl (by decide) ?_ ?_
    · exact iz_sub [0, 1, 2, 4] rfl (c_Mo_frost_81 h0 hk18 x1 x2 x4 S)
    · refine iz_iinc (v := (x4 + 1)) (ls2 := [(0, .ref (X.1 a0)), (1, .int x1), (2, .int x2), (3, .int x3), (4, .int (x4 + 1))]) 49 4 [1, 2, 3, 4, 0] rfl rfl rfl (by decide) rfl ?_
      refine iz_goto (tgt := 55) 50 (by decide) rfl ?_
      exact hk55 x1 x2 x3 (x4 + 1) S
theorem c_Mo_frost_55 {X : iz_X} {l : Launch} {a0 : Nat} (h0 : iz_sh a0 = (10 + 3, 48)) {k18 : Int32 → Int32 → iz_S → Option (Int32 × iz_S)} (hk18 : ∀ (x1 : Int32) (x2 : Int32) (S : iz_S), iz_Y X l RX10 tX10_frost 5 1 (iz_Kc X l yX10_frost cX10_frost 5 (some .int) 1 iz_eI) 18 [(0, .ref (X.1 a0)), (1, .int x1), (2, .int x2)] [] S (k18 x1 x2 S)) : ∀ (n9 : Nat) (x1 : Int32) (x2 : Int32) (x3 : Int32) (x4 : Int32) (S : iz_S), iz_Y X l RX10 tX10_frost 5 1 (iz_Kc X l yX10_frost cX10_frost 5 (some .int) 1 iz_eI) 55 [(0, .ref (X.1 a0)), (1, .int x1), (2, .int x2), (3, .int x3), (4, .int x4)] [] S (Mo_frost_55 a0 k18 n9 x1 x2 x3 x4 S)
  | 0 => by
    intros
    exact iz_none
  | n9 + 1 => c_Mo_frost_55b h0 hk18 (c_Mo_frost_55 h0 hk18 n9)
set_option maxRecDepth 10000 in
theorem c_Mo_frost_18b {X : iz_X} {l : Launch} {a0 : Nat} (h0 : iz_sh a0 = (10 + 3, 48)) {k18 : Int32 → Int32 → iz_S → Option (Int32 × iz_S)} (hk18 : ∀ (x1 : Int32) (x2 : Int32) (S : iz_S), iz_Y X l RX10 tX10_frost 5 1 (iz_Kc X l yX10_frost cX10_frost 5 (some .int) 1 iz_eI) 18 [(0, .ref (X.1 a0)), (1, .int x1), (2, .int x2)] [] S (k18 x1 x2 S)) (x1 : Int32) (x2 : Int32) (S : iz_S) : iz_Y X l RX10 tX10_frost 5 1 (iz_Kc X l yX10_frost cX10_frost 5 (some .int) 1 iz_eI) 18 [(0, .ref (X.1 a0)), (1, .int x1), (2, .int x2)] [] S (Mo_frost_18b a0 k18 x1 x2 S) := by
  unfold Mo_frost_18b
  refine iz_iload_n (n := 2) 11 2 rfl rfl ?_
  refine iz_bipush (v := 64) 12 (by decide) rfl ?_
  refine iz_cmp_ge (tgt := 123) 13 rfl (by decide) ?_ ?_
  · refine iz_aload_n (n := 0) 76 0 rfl rfl ?_
    refine iz_gets 77 3 (by decide) sl_X10_135 rfl ?_
    refine iz_iconst (v := 1) 78 (by decide) rfl ?_
    refine iz_tald 79 3 (by decide) rfl ?_
    refine iz_callVI (As := [.int (iz_zV 3 (Int32.toNatClampNeg 1))]) (rest := []) 80 ml_X10_138 cw_X10_bearing ci_X10_bearing h0 (fun r9 hr9 => m_Mo_bearing h0 hr9) rfl (by decide) (by decide) rfl rfl (Nat.le_of_ble_eq_true rfl) (fun r6 S5 => ?_)
    exact iz_iret 81 rfl
  · refine iz_aload_n (n := 0) 14 0 rfl rfl ?_
    refine iz_getR 15 0 h0 fl_X10_7 rfl (by decide) (by decide) rfl ?_
    refine iz_iload_n (n := 2) 16 2 rfl rfl ?_
    refine iz_iald 17 (sf_10_0 h0) rfl ?_
    refine iz_aload_n (n := 0) 18 0 rfl rfl ?_
    refine iz_getR 19 0 h0 fl_X10_7 rfl (by decide) (by decide) rfl ?_
    refine iz_iload_n (n := 2) 20 2 rfl rfl ?_
    refine iz_iald 21 (sf_10_0 h0) rfl ?_
    refine iz_imul 22 rfl ?_
    refine iz_iload_n (n := 1) 23 1 rfl rfl ?_
    refine iz_bipush (v := 40) 24 (by decide) rfl ?_
    refine iz_imul 25 rfl ?_
    refine iz_iconst (v := 2) 26 (by decide) rfl ?_
    refine iz_aload_n (n := 0) 27 0 rfl rfl ?_
    refine iz_getR 28 1 h0 fl_X10_13 rfl (by decide) (by decide) rfl ?_
    refine iz_iload_n (n := 2) 29 2 rfl rfl ?_
    refine iz_iald 30 (sf_10_1 h0) rfl ?_
    refine iz_iadd 31 rfl ?_
    refine iz_ckr (fun hc7 => ?_)
    refine iz_idiv 32 (of_decide_eq_true hc7) rfl ?_
    refine iz_iadd 33 rfl ?_
    refine iz_let (fun v8 => ?_)
    refine iz_istore_n (n := 3) (ls2 := [(0, .ref (X.1 a0)), (1, .int x1), (2, .int x2), (3, .int v8)]) 34 [1, 2, 3, 0] rfl (by decide) rfl ?_
    refine iz_iconst (v := 0) 35 (by decide) rfl ?_
    refine iz_istore (n := 4) (ls2 := [(0, .ref (X.1 a0)), (1, .int x1), (2, .int x2), (3, .int v8), (4, .int 0)]) 36 [1, 2, 3, 4, 0] rfl (by decide) rfl ?_
    exact c_Mo_frost_55 h0 hk18 iz_FU x1 x2 v8 0 S
theorem c_Mo_frost_18 {X : iz_X} {l : Launch} {a0 : Nat} (h0 : iz_sh a0 = (10 + 3, 48)) : ∀ (n9 : Nat) (x1 : Int32) (x2 : Int32) (S : iz_S), iz_Y X l RX10 tX10_frost 5 1 (iz_Kc X l yX10_frost cX10_frost 5 (some .int) 1 iz_eI) 18 [(0, .ref (X.1 a0)), (1, .int x1), (2, .int x2)] [] S (Mo_frost_18 a0 n9 x1 x2 S)
  | 0 => by
    intros
    exact iz_none
  | n9 + 1 => c_Mo_frost_18b h0 (c_Mo_frost_18 h0 n9)
set_option maxRecDepth 10000 in
theorem c_Mo_frost {X : iz_X} {l : Launch} {a0 : Nat} (h0 : iz_sh a0 = (10 + 3, 48)) (x1 : Int32) (S : iz_S) : iz_Y X l RX10 tX10_frost 5 1 (iz_Kc X l yX10_frost cX10_frost 5 (some .int) 1 iz_eI) 0 [(0, .ref (X.1 a0)), (1, .int x1)] [] S (Mo_frost a0 x1 S) := by
  unfold Mo_frost
  refine iz_iload_n (n := 1) 0 1 rfl rfl ?_
  refine iz_iconst (v := 1) 1 (by decide) rfl ?_
  refine iz_bipush (v := 40) 2 (by decide) rfl ?_
  refine iz_callSI (As := [.int x1, .int 1, .int 40]) (rest := []) 3 ml_X10_123 cw_X10_isIn ci_X10_isIn (fun r9 hr9 => m_Mo_isIn  hr9) rfl (by decide) rfl rfl (Nat.le_of_ble_eq_true rfl) (fun r2 S1 => ?_)
  refine iz_if_ne (tgt := 16) 4 rfl (by decide) ?_ ?_
  · refine iz_iconst (v := 0) 9 (by decide) rfl ?_
    refine iz_istore_n (n := 2) (ls2 := [(0, .ref (X.1 a0)), (1, .int x1), (2, .int 0)]) 10 [1, 2, 0] rfl (by decide) rfl ?_
    exact c_Mo_frost_18 h0 iz_FU x1 0 S1
  · refine iz_aload_n (n := 0) 5 0 rfl rfl ?_
    refine iz_iconst (v := 1) 6 (by decide) rfl ?_
    refine iz_callVI (As := [.int 1]) (rest := []) 7 ml_X10_127 cw_X10_finding ci_X10_finding h0 (fun r9 hr9 => m_Mo_finding h0 hr9) rfl (by decide) (by decide) rfl rfl (Nat.le_of_ble_eq_true rfl) (fun r4 S3 => ?_)
    exact iz_iret 8 rfl
theorem m_Mo_frost {X : iz_X} {l : Launch} {a0 : Nat} (h0 : iz_sh a0 = (10 + 3, 48)) {x1 : Int32} {S : iz_S} {r9 : Int32 × iz_S} (hr : Mo_frost a0 x1 S = some r9) : iz_Mt X l 1 yX10_frost cX10_frost 5 (some .int) [.ref (X.1 a0), .int x1] S (iz_eI r9) :=
  iz_Mt_of (dt := tX10_frost) dX10_frost (by decide) hr (Nat.le_of_ble_eq_true rfl) (c_Mo_frost h0 x1 S)
def Mo_thaw_51 (a0 : Nat) (k18 : Int32 → Int32 → iz_S → Option (Int32 × iz_S)) (x1 : Int32) (x2 : Int32) (s1 : Int32) (s2 : Int32) (S : iz_S) : Option (Int32 × iz_S) :=
  iz_ck (iz_in s1 64) (iz_lt (iz_s S (iz_rf a0 0) s1 s2) (fun S7 =>
  iz_ck (iz_in x2 64) (iz_lt (iz_s S7 (iz_rf a0 1) x2 0) (fun S8 =>
  iz_bV (Mo_clean a0 x2 S8) (fun S9 =>
  (k18 x1 (x2 + 1) S9))))))
def Mo_thaw_18b (a0 : Nat) (k18 : Int32 → Int32 → iz_S → Option (Int32 × iz_S)) (x1 : Int32) (x2 : Int32) (S : iz_S) : Option (Int32 × iz_S) :=
  (if x2 < 64 then
    (iz_ck (iz_in x2 64) (
    if (iz_g S (iz_rf a0 0) x2) ≤ x1 then
      (Mo_thaw_51 a0 k18 x1 x2 x2 0 S)
    else
      iz_ck (iz_in x2 64) (
      (Mo_thaw_51 a0 k18 x1 x2 x2 ((iz_g S (iz_rf a0 0) x2) - x1) S))))
  else
    iz_bI (Mo_bearing a0 1 S) (fun r6 S5 =>
    some (r6, S5)))
def Mo_thaw_18 (a0 : Nat) : Nat → Int32 → Int32 → iz_S → Option (Int32 × iz_S)
  | 0 => fun _ _ _ => none
  | n9 + 1 => Mo_thaw_18b a0 (Mo_thaw_18 a0 n9)
def Mo_thaw (a0 : Nat) (x1 : Int32) (S : iz_S) : Option (Int32 × iz_S) :=
  (iz_bI (Mo_isIn x1 1 20 S) (fun r2 S1 =>
  if r2 = 0 then
    iz_bI (Mo_finding a0 1 S1) (fun r4 S3 =>
    some (r4, S3))
  else
    (Mo_thaw_18 a0 iz_FU x1 0 S1)))
set_option maxRecDepth 10000 in
theorem c_Mo_thaw_51 {X : iz_X} {l : Launch} {a0 : Nat} (h0 : iz_sh a0 = (10 + 3, 48)) {k18 : Int32 → Int32 → iz_S → Option (Int32 × iz_S)} (hk18 : ∀ (x1 : Int32) (x2 : Int32) (S : iz_S), iz_Y X l RX10 tX10_thaw 3 1 (iz_Kc X l yX10_thaw cX10_thaw 3 (some .int) 1 iz_eI) 18 [(0, .ref (X.1 a0)), (1, .int x1), (2, .int x2)] [] S (k18 x1 x2 S)) (x1 : Int32) (x2 : Int32) (s1 : Int32) (s2 : Int32) (S : iz_S) : iz_Y X l RX10 tX10_thaw 3 1 (iz_Kc X l yX10_thaw cX10_thaw 3 (some .int) 1 iz_eI) 51 [(0, .ref (X.1 a0)), (1, .int x1), (2, .int x2)] [.int s2, .int s1, .ref (X.1 (iz_rf a0 0))] S (Mo_thaw_51 a0 k18 x1 x2 s1 s2 S) := by
  unfold Mo_thaw_51
  refine iz_iast 31 (sf_10_0 h0) rfl (fun S7 => ?_)
  refine iz_aload_n (n := 0) 32 0 rfl rfl ?_
  refine iz_getR 33 1 h0 fl_X10_13 rfl (by decide) (by decide) rfl ?_
  refine iz_iload_n (n := 2) 34 2 rfl rfl ?_
  refine iz_iconst (v := 0) 35 (by decide) rfl ?_
  refine iz_iast 36 (sf_10_1 h0) rfl (fun S8 => ?_)
  refine iz_aload_n (n := 0) 37 0 rfl rfl ?_
  refine iz_iload_n (n := 2) 38 2 rfl rfl ?_
  refine iz_callVV (As := [.int x2]) (rest := []) 39 ml_X10_131 cw_X10_clean ci_X10_clean h0 (fun r9 hr9 => m_Mo_clean h0 hr9) rfl (by decide) (by decide) rfl rfl (Nat.le_of_ble_eq_true rfl) (fun S9 => ?_)
  refine iz_iinc (v := (x2 + 1)) (ls2 := [(0, .ref (X.1 a0)), (1, .int x1), (2, .int (x2 + 1))]) 40 2 [1, 2, 0] rfl rfl rfl (by decide) rfl ?_
  refine iz_goto (tgt := 18) 41 (by decide) rfl ?_
  exact hk18 x1 (x2 + 1) S9
set_option maxRecDepth 10000 in
theorem c_Mo_thaw_18b {X : iz_X} {l : Launch} {a0 : Nat} (h0 : iz_sh a0 = (10 + 3, 48)) {k18 : Int32 → Int32 → iz_S → Option (Int32 × iz_S)} (hk18 : ∀ (x1 : Int32) (x2 : Int32) (S : iz_S), iz_Y X l RX10 tX10_thaw 3 1 (iz_Kc X l yX10_thaw cX10_thaw 3 (some .int) 1 iz_eI) 18 [(0, .ref (X.1 a0)), (1, .int x1), (2, .int x2)] [] S (k18 x1 x2 S)) (x1 : Int32) (x2 : Int32) (S : iz_S) : iz_Y X l RX10 tX10_thaw 3 1 (iz_Kc X l yX10_thaw cX10_thaw 3 (some .int) 1 iz_eI) 18 [(0, .ref (X.1 a0)), (1, .int x1), (2, .int x2)] [] S (Mo_thaw_18b a0 k18 x1 x2 S) := by
  unfold Mo_thaw_18b
  refine iz_iload_n (n := 2) 11 2 rfl rfl ?_
  refine iz_bipush (v := 64) 12 (by decide) rfl ?_
  refine iz_cmp_ge (tgt := 70) 13 rfl (by decide) ?_ ?_
  · refine iz_aload_n (n := 0) 42 0 rfl rfl ?_
    refine iz_iconst (v := 1) 43 (by decide) rfl ?_
    refine iz_callVI (As := [.int 1]) (rest := []) 44 ml_X10_138 cw_X10_bearing ci_X10_bearing h0 (fun r9 hr9 => m_Mo_bearing h0 hr9) rfl (by decide) (by decide) rfl rfl (Nat.le_of_ble_eq_true rfl) (fun r6 S5 => ?_)
    exact iz_iret 45 rfl
  · refine iz_aload_n (n := 0) 14 0 rfl rfl ?_
    refine iz_getR 15 0 h0 fl_X10_7 rfl (by decide) (by decide) rfl ?_
    refine iz_iload_n (n := 2) 16 2 rfl rfl ?_
    refine iz_aload_n (n := 0) 17 0 rfl rfl ?_
    refine iz_getR 18 0 h0 fl_X10_7 rfl (by decide) (by decide) rfl ?_
    refine iz_iload_n (n := 2) 19 2 rfl rfl ?_
    refine iz_iald 20 (sf_10_0 h0) rfl ?_
    refine iz_iload_n (n := 1) 21 1 rfl rfl ?_
    refine iz_cmp_le (tgt := 50) 22 rfl (by decide) ?_ ?_
    · refine iz_iconst (v := 0) 30 (by decide) rfl ?_
      exact c_Mo_thaw_51 h0 hk18 x1 x2 x2 0 S
    · refine iz_aload_n (n := 0) 23 0 rfl rfl ?_
      refine iz_getR 24 0 h0 fl_X10_7 rfl (by decide) (by decide) rfl ?_
      refine iz_iload_n (n := 2) 25 2 rfl rfl ?_
      refine iz_iald 26 (sf_10_0 h0) rfl ?_
      refine iz_iload_n (n := 1) 27 1 rfl rfl ?_
      refine iz_isub 28 rfl ?_
      refine iz_goto (tgt := 51) 29 (by decide) rfl ?_
      exact c_Mo_thaw_51 h0 hk18 x1 x2 x2 ((iz_g S (iz_rf a0 0) x2) - x1) S
theorem c_Mo_thaw_18 {X : iz_X} {l : Launch} {a0 : Nat} (h0 : iz_sh a0 = (10 + 3, 48)) : ∀ (n9 : Nat) (x1 : Int32) (x2 : Int32) (S : iz_S), iz_Y X l RX10 tX10_thaw 3 1 (iz_Kc X l yX10_thaw cX10_thaw 3 (some .int) 1 iz_eI) 18 [(0, .ref (X.1 a0)), (1, .int x1), (2, .int x2)] [] S (Mo_thaw_18 a0 n9 x1 x2 S)
  | 0 => by
    intros
    exact iz_none
  | n9 + 1 => c_Mo_thaw_18b h0 (c_Mo_thaw_18 h0 n9)
set_option maxRecDepth 10000 in
theorem c_Mo_thaw {X : iz_X} {l : Launch} {a0 : Nat} (h0 : iz_sh a0 = (10 + 3, 48)) (x1 : Int32) (S : iz_S) : iz_Y X l RX10 tX10_thaw 3 1 (iz_Kc X l yX10_thaw cX10_thaw 3 (some .int) 1 iz_eI) 0 [(0, .ref (X.1 a0)), (1, .int x1)] [] S (Mo_thaw a0 x1 S) := by
  unfold Mo_thaw
  refine iz_iload_n (n := 1) 0 1 rfl rfl ?_
  refine iz_iconst (v := 1) 1 (by decide) rfl ?_
  refine iz_bipush (v := 20) 2 (by decide) rfl ?_
  refine iz_callSI (As := [.int x1, .int 1, .int 20]) (rest := []) 3 ml_X10_123 cw_X10_isIn ci_X10_isIn (fun r9 hr9 => m_Mo_isIn  hr9) rfl (by decide) rfl rfl (Nat.le_of_ble_eq_true rfl) (fun r2 S1 => ?_)
  refine iz_if_ne (tgt := 16) 4 rfl (by decide) ?_ ?_
  · refine iz_iconst (v := 0) 9 (by decide) rfl ?_
    refine iz_istore_n (n := 2) (ls2 := [(0, .ref (X.1 a0)), (1, .int x1), (2, .int 0)]) 10 [1, 2, 0] rfl (by decide) rfl ?_
    exact c_Mo_thaw_18 h0 iz_FU x1 0 S1
  · refine iz_aload_n (n := 0) 5 0 rfl rfl ?_
    refine iz_iconst (v := 1) 6 (by decide) rfl ?_
    refine iz_callVI (As := [.int 1]) (rest := []) 7 ml_X10_127 cw_X10_finding ci_X10_finding h0 (fun r9 hr9 => m_Mo_finding h0 hr9) rfl (by decide) (by decide) rfl rfl (Nat.le_of_ble_eq_true rfl) (fun r4 S3 => ?_)
    exact iz_iret 8 rfl
theorem m_Mo_thaw {X : iz_X} {l : Launch} {a0 : Nat} (h0 : iz_sh a0 = (10 + 3, 48)) {x1 : Int32} {S : iz_S} {r9 : Int32 × iz_S} (hr : Mo_thaw a0 x1 S = some r9) : iz_Mt X l 1 yX10_thaw cX10_thaw 3 (some .int) [.ref (X.1 a0), .int x1] S (iz_eI r9) :=
  iz_Mt_of (dt := tX10_thaw) dX10_thaw (by decide) hr (Nat.le_of_ble_eq_true rfl) (c_Mo_thaw h0 x1 S)
def Mo_snow_67 (a0 : Nat) (k20 : Int32 → Int32 → Int32 → iz_S → Option (Int32 × iz_S)) (x1 : Int32) (x2 : Int32) (x3 : Int32) (S : iz_S) : Option (Int32 × iz_S) :=
  iz_ck (iz_in x3 64) (
  iz_lt (x2 + (iz_g S (iz_rf a0 1) x3)) (fun v5 =>
  (k20 x1 v5 (x3 + 1) S)))
def Mo_snow_66 (a0 : Nat) (k20 : Int32 → Int32 → Int32 → iz_S → Option (Int32 × iz_S)) (x1 : Int32) (x2 : Int32) (x3 : Int32) (s1 : Int32) (s2 : Int32) (S : iz_S) : Option (Int32 × iz_S) :=
  iz_ck (iz_in s1 64) (iz_lt (iz_s S (iz_rf a0 1) s1 s2) (fun S6 =>
  (Mo_snow_67 a0 k20 x1 x2 x3 S6)))
def Mo_snow_20b (a0 : Nat) (k20 : Int32 → Int32 → Int32 → iz_S → Option (Int32 × iz_S)) (x1 : Int32) (x2 : Int32) (x3 : Int32) (S : iz_S) : Option (Int32 × iz_S) :=
  (if x3 < 64 then
    (iz_ck (iz_in x3 64) (
    if (iz_g S (iz_rf a0 0) x3) ≤ 0 then
      (Mo_snow_67 a0 k20 x1 x2 x3 S)
    else
      (iz_ck (iz_in x3 64) (
      if ((iz_g S (iz_rf a0 1) x3) + x1) ≤ 30 then
        iz_ck (iz_in x3 64) (
        (Mo_snow_66 a0 k20 x1 x2 x3 x3 ((iz_g S (iz_rf a0 1) x3) + x1) S))
      else
        (Mo_snow_66 a0 k20 x1 x2 x3 x3 30 S)))))
  else
    some (x2, S))
def Mo_snow_20 (a0 : Nat) : Nat → Int32 → Int32 → Int32 → iz_S → Option (Int32 × iz_S)
  | 0 => fun _ _ _ _ => none
  | n9 + 1 => Mo_snow_20b a0 (Mo_snow_20 a0 n9)
def Mo_snow (a0 : Nat) (x1 : Int32) (S : iz_S) : Option (Int32 × iz_S) :=
  (iz_bI (Mo_isIn x1 1 10 S) (fun r2 S1 =>
  if r2 = 0 then
    iz_bI (Mo_finding a0 1 S1) (fun r4 S3 =>
    some (r4, S3))
  else
    (Mo_snow_20 a0 iz_FU x1 0 0 S1)))
set_option maxRecDepth 10000 in
theorem c_Mo_snow_67 {X : iz_X} {l : Launch} {a0 : Nat} (h0 : iz_sh a0 = (10 + 3, 48)) {k20 : Int32 → Int32 → Int32 → iz_S → Option (Int32 × iz_S)} (hk20 : ∀ (x1 : Int32) (x2 : Int32) (x3 : Int32) (S : iz_S), iz_Y X l RX10 tX10_snow 4 1 (iz_Kc X l yX10_snow cX10_snow 4 (some .int) 1 iz_eI) 20 [(0, .ref (X.1 a0)), (1, .int x1), (2, .int x2), (3, .int x3)] [] S (k20 x1 x2 x3 S)) (x1 : Int32) (x2 : Int32) (x3 : Int32) (S : iz_S) : iz_Y X l RX10 tX10_snow 4 1 (iz_Kc X l yX10_snow cX10_snow 4 (some .int) 1 iz_eI) 67 [(0, .ref (X.1 a0)), (1, .int x1), (2, .int x2), (3, .int x3)] [] S (Mo_snow_67 a0 k20 x1 x2 x3 S) := by
  unfold Mo_snow_67
  refine iz_iload_n (n := 2) 41 2 rfl rfl ?_
  refine iz_aload_n (n := 0) 42 0 rfl rfl ?_
  refine iz_getR 43 1 h0 fl_X10_13 rfl (by decide) (by decide) rfl ?_
  refine iz_iload_n (n := 3) 44 3 rfl rfl ?_
  refine iz_iald 45 (sf_10_1 h0) rfl ?_
  refine iz_iadd 46 rfl ?_
  refine iz_let (fun v5 => ?_)
  refine iz_istore_n (n := 2) (ls2 := [(0, .ref (X.1 a0)), (1, .int x1), (2, .int v5), (3, .int x3)]) 47 [1, 2, 0, 3] rfl (by decide) rfl ?_
  refine iz_iinc (v := (x3 + 1)) (ls2 := [(0, .ref (X.1 a0)), (1, .int x1), (2, .int v5), (3, .int (x3 + 1))]) 48 3 [1, 2, 3, 0] rfl rfl rfl (by decide) rfl ?_
  refine iz_goto (tgt := 20) 49 (by decide) rfl ?_
  exact hk20 x1 v5 (x3 + 1) S
set_option maxRecDepth 10000 in
theorem c_Mo_snow_66 {X : iz_X} {l : Launch} {a0 : Nat} (h0 : iz_sh a0 = (10 + 3, 48)) {k20 : Int32 → Int32 → Int32 → iz_S → Option (Int32 × iz_S)} (hk20 : ∀ (x1 : Int32) (x2 : Int32) (x3 : Int32) (S : iz_S), iz_Y X l RX10 tX10_snow 4 1 (iz_Kc X l yX10_snow cX10_snow 4 (some .int) 1 iz_eI) 20 [(0, .ref (X.1 a0)), (1, .int x1), (2, .int x2), (3, .int x3)] [] S (k20 x1 x2 x3 S)) (x1 : Int32) (x2 : Int32) (x3 : Int32) (s1 : Int32) (s2 : Int32) (S : iz_S) : iz_Y X l RX10 tX10_snow 4 1 (iz_Kc X l yX10_snow cX10_snow 4 (some .int) 1 iz_eI) 66 [(0, .ref (X.1 a0)), (1, .int x1), (2, .int x2), (3, .int x3)] [.int s2, .int s1, .ref (X.1 (iz_rf a0 1))] S (Mo_snow_66 a0 k20 x1 x2 x3 s1 s2 S) := by
  unfold Mo_snow_66
  refine iz_iast 40 (sf_10_1 h0) rfl (fun S6 => ?_)
  exact c_Mo_snow_67 h0 hk20 x1 x2 x3 S6
set_option maxRecDepth 10000 in
theorem c_Mo_snow_20b {X : iz_X} {l : Launch} {a0 : Nat} (h0 : iz_sh a0 = (10 + 3, 48)) {k20 : Int32 → Int32 → Int32 → iz_S → Option (Int32 × iz_S)} (hk20 : ∀ (x1 : Int32) (x2 : Int32) (x3 : Int32) (S : iz_S), iz_Y X l RX10 tX10_snow 4 1 (iz_Kc X l yX10_snow cX10_snow 4 (some .int) 1 iz_eI) 20 [(0, .ref (X.1 a0)), (1, .int x1), (2, .int x2), (3, .int x3)] [] S (k20 x1 x2 x3 S)) (x1 : Int32) (x2 : Int32) (x3 : Int32) (S : iz_S) : iz_Y X l RX10 tX10_snow 4 1 (iz_Kc X l yX10_snow cX10_snow 4 (some .int) 1 iz_eI) 20 [(0, .ref (X.1 a0)), (1, .int x1), (2, .int x2), (3, .int x3)] [] S (Mo_snow_20b a0 k20 x1 x2 x3 S) := by
  unfold Mo_snow_20b
  refine iz_iload_n (n := 3) 13 3 rfl rfl ?_
  refine iz_bipush (v := 64) 14 (by decide) rfl ?_
  refine iz_cmp_ge (tgt := 82) 15 rfl (by decide) ?_ ?_
  · refine iz_iload_n (n := 2) 50 2 rfl rfl ?_
    exact iz_iret 51 rfl
  · refine iz_aload_n (n := 0) 16 0 rfl rfl ?_
    refine iz_getR 17 0 h0 fl_X10_7 rfl (by decide) (by decide) rfl ?_
    refine iz_iload_n (n := 3) 18 3 rfl rfl ?_
    refine iz_iald 19 (sf_10_0 h0) rfl ?_
    refine iz_if_le (tgt := 67) 20 rfl (by decide) ?_ ?_
    · exact c_Mo_snow_67 h0 hk20 x1 x2 x3 S
    · refine iz_aload_n (n := 0) 21 0 rfl rfl ?_
      refine iz_getR 22 1 h0 fl_X10_13 rfl (by decide) (by decide) rfl ?_
      refine iz_iload_n (n := 3) 23 3 rfl rfl ?_
      refine iz_aload_n (n := 0) 24 0 rfl rfl ?_
      refine iz_getR 25 1 h0 fl_X10_13 rfl (by decide) (by decide) rfl ?_
      refine iz_iload_n (n := 3) 26 3 rfl rfl ?_
      refine iz_iald 27 (sf_10_1 h0) rfl ?_
      refine iz_iload_n (n := 1) 28 1 rfl rfl ?_
      refine iz_iadd 29 rfl ?_
      refine iz_bipush (v := 30) 30 (by decide) rfl ?_
      refine iz_cmp_le (tgt := 58) 31 rfl (by decide) ?_ ?_
      · refine iz_aload_n (n := 0) 34 0 rfl rfl ?_
        refine iz_getR 35 1 h0 fl_X10_13 rfl (by decide) (by decide) rfl ?_
        refine iz_iload_n (n := 3) 36 3 rfl rfl ?_
        refine iz_iald 37 (sf_10_1 h0) rfl ?_
        refine iz_iload_n (n := 1) 38 1 rfl rfl ?_
        refine iz_iadd 39 rfl ?_
        exact c_Mo_snow_66 h0 hk20 x1 x2 x3 x3 ((iz_g S (iz_rf a0 1) x3) + x1) S
      · refine iz_bipush (v := 30) 32 (by decide) rfl ?_
        refine iz_goto (tgt := 66) 33 (by decide) rfl ?_
        exact c_Mo_snow_66 h0 hk20 x1 x2 x3 x3 30 S
theorem c_Mo_snow_20 {X : iz_X} {l : Launch} {a0 : Nat} (h0 : iz_sh a0 = (10 + 3, 48)) : ∀ (n9 : Nat) (x1 : Int32) (x2 : Int32) (x3 : Int32) (S : iz_S), iz_Y X l RX10 tX10_snow 4 1 (iz_Kc X l yX10_snow cX10_snow 4 (some .int) 1 iz_eI) 20 [(0, .ref (X.1 a0)), (1, .int x1), (2, .int x2), (3, .int x3)] [] S (Mo_snow_20 a0 n9 x1 x2 x3 S)
  | 0 => by
    intros
    exact iz_none
  | n9 + 1 => c_Mo_snow_20b h0 (c_Mo_snow_20 h0 n9)
set_option maxRecDepth 10000 in
theorem c_Mo_snow {X : iz_X} {l : Launch} {a0 : Nat} (h0 : iz_sh a0 = (10 + 3, 48)) (x1 : Int32) (S : iz_S) : iz_Y X l RX10 tX10_snow 4 1 (iz_Kc X l yX10_snow cX10_snow 4 (some .int) 1 iz_eI) 0 [(0, .ref (X.1 a0)), (1, .int x1)] [] S (Mo_snow a0 x1 S) := by
  unfold Mo_snow
  refine iz_iload_n (n := 1) 0 1 rfl rfl ?_
  refine iz_iconst (v := 1) 1 (by decide) rfl ?_
  refine iz_bipush (v := 10) 2 (by decide) rfl ?_
  refine iz_callSI (As := [.int x1, .int 1, .int 10]) (rest := []) 3 ml_X10_123 cw_X10_isIn ci_X10_isIn (fun r9 hr9 => m_Mo_isIn  hr9) rfl (by decide) rfl rfl (Nat.le_of_ble_eq_true rfl) (fun r2 S1 => ?_)
  refine iz_if_ne (tgt := 16) 4 rfl (by decide) ?_ ?_
  · refine iz_iconst (v := 0) 9 (by decide) rfl ?_
    refine iz_istore_n (n := 2) (ls2 := [(0, .ref (X.1 a0)), (1, .int x1), (2, .int 0)]) 10 [1, 2, 0] rfl (by decide) rfl ?_
    refine iz_iconst (v := 0) 11 (by decide) rfl ?_
    refine iz_istore_n (n := 3) (ls2 := [(0, .ref (X.1 a0)), (1, .int x1), (2, .int 0), (3, .int 0)]) 12 [1, 2, 3, 0] rfl (by decide) rfl ?_
    exact c_Mo_snow_20 h0 iz_FU x1 0 0 S1
  · refine iz_aload_n (n := 0) 5 0 rfl rfl ?_
    refine iz_iconst (v := 1) 6 (by decide) rfl ?_
    refine iz_callVI (As := [.int 1]) (rest := []) 7 ml_X10_127 cw_X10_finding ci_X10_finding h0 (fun r9 hr9 => m_Mo_finding h0 hr9) rfl (by decide) (by decide) rfl rfl (Nat.le_of_ble_eq_true rfl) (fun r4 S3 => ?_)
    exact iz_iret 8 rfl
theorem m_Mo_snow {X : iz_X} {l : Launch} {a0 : Nat} (h0 : iz_sh a0 = (10 + 3, 48)) {x1 : Int32} {S : iz_S} {r9 : Int32 × iz_S} (hr : Mo_snow a0 x1 S = some r9) : iz_Mt X l 1 yX10_snow cX10_snow 4 (some .int) [.ref (X.1 a0), .int x1] S (iz_eI r9) :=
  iz_Mt_of (dt := tX10_snow) dX10_snow (by decide) hr (Nat.le_of_ble_eq_true rfl) (c_Mo_snow h0 x1 S)
def Mo_scrape_23b (a0 : Nat) (k23 : Int32 → Int32 → Int32 → iz_S → Option (Int32 × iz_S)) (x1 : Int32) (x2 : Int32) (x3 : Int32) (S : iz_S) : Option (Int32 × iz_S) :=
  (if x3 < (((8 : Int32) * x1) + 8) then
    iz_ck (iz_in x3 64) (
    iz_lt (x2 + (iz_g S (iz_rf a0 1) x3)) (fun v6 =>
    iz_ck (iz_in x3 64) (iz_lt (iz_s S (iz_rf a0 1) x3 0) (fun S7 =>
    (k23 x1 v6 (x3 + 1) S7)))))
  else
    some (x2, S))
def Mo_scrape_23 (a0 : Nat) : Nat → Int32 → Int32 → Int32 → iz_S → Option (Int32 × iz_S)
  | 0 => fun _ _ _ _ => none
  | n9 + 1 => Mo_scrape_23b a0 (Mo_scrape_23 a0 n9)
def Mo_scrape (a0 : Nat) (x1 : Int32) (S : iz_S) : Option (Int32 × iz_S) :=
  (iz_bI (Mo_isIn x1 0 7 S) (fun r2 S1 =>
  if r2 = 0 then
    iz_bI (Mo_finding a0 1 S1) (fun r5 S4 =>
    some (r5, S4))
  else
    iz_lt ((8 : Int32) * x1) (fun v3 =>
    (Mo_scrape_23 a0 iz_FU x1 0 v3 S1))))
set_option maxRecDepth 10000 in
theorem c_Mo_scrape_23b {X : iz_X} {l : Launch} {a0 : Nat} (h0 : iz_sh a0 = (10 + 3, 48)) {k23 : Int32 → Int32 → Int32 → iz_S → Option (Int32 × iz_S)} (hk23 : ∀ (x1 : Int32) (x2 : Int32) (x3 : Int32) (S : iz_S), iz_Y X l RX10 tX10_scrape 4 1 (iz_Kc X l yX10_scrape cX10_scrape 4 (some .int) 1 iz_eI) 23 [(0, .ref (X.1 a0)), (1, .int x1), (2, .int x2), (3, .int x3)] [] S (k23 x1 x2 x3 S)) (x1 : Int32) (x2 : Int32) (x3 : Int32) (S : iz_S) : iz_Y X l RX10 tX10_scrape 4 1 (iz_Kc X l yX10_scrape cX10_scrape 4 (some .int) 1 iz_eI) 23 [(0, .ref (X.1 a0)), (1, .int x1), (2, .int x2), (3, .int x3)] [] S (Mo_scrape_23b a0 k23 x1 x2 x3 S) := by
  unfold Mo_scrape_23b
  refine iz_iload_n (n := 3) 15 3 rfl rfl ?_
  refine iz_bipush (v := 8) 16 (by decide) rfl ?_
  refine iz_iload_n (n := 1) 17 1 rfl rfl ?_
  refine iz_imul 18 rfl ?_
  refine iz_bipush (v := 8) 19 (by decide) rfl ?_
  refine iz_iadd 20 rfl ?_
  refine iz_cmp_ge (tgt := 56) 21 rfl (by decide) ?_ ?_
  · refine iz_iload_n (n := 2) 36 2 rfl rfl ?_
    exact iz_iret 37 rfl
  · refine iz_iload_n (n := 2) 22 2 rfl rfl ?_
    refine iz_aload_n (n := 0) 23 0 rfl rfl ?_
    refine iz_getR 24 1 h0 fl_X10_13 rfl (by decide) (by decide) rfl ?_
    refine iz_iload_n (n := 3) 25 3 rfl rfl ?_
    refine iz_iald 26 (sf_10_1 h0) rfl ?_
    refine iz_iadd 27 rfl ?_
    refine iz_let (fun v6 => ?_)
    refine iz_istore_n (n := 2) (ls2 := [(0, .ref (X.1 a0)), (1, .int x1), (2, .int v6), (3, .int x3)]) 28 [1, 2, 0, 3] rfl (by decide) rfl ?_
    refine iz_aload_n (n := 0) 29 0 rfl rfl ?_
    refine iz_getR 30 1 h0 fl_X10_13 rfl (by decide) (by decide) rfl ?_
    refine iz_iload_n (n := 3) 31 3 rfl rfl ?_
    refine iz_iconst (v := 0) 32 (by decide) rfl ?_
    refine iz_iast 33 (sf_10_1 h0) rfl (fun S7 => ?_)
    refine iz_iinc (v := (x3 + 1)) (ls2 := [(0, .ref (X.1 a0)), (1, .int x1), (2, .int v6), (3, .int (x3 + 1))]) 34 3 [1, 2, 3, 0] rfl rfl rfl (by decide) rfl ?_
    refine iz_goto (tgt := 23) 35 (by decide) rfl ?_
    exact hk23 x1 v6 (x3 + 1) S7
theorem c_Mo_scrape_23 {X : iz_X} {l : Launch} {a0 : Nat} (h0 : iz_sh a0 = (10 + 3, 48)) : ∀ (n9 : Nat) (x1 : Int32) (x2 : Int32) (x3 : Int32) (S : iz_S), iz_Y X l RX10 tX10_scrape 4 1 (iz_Kc X l yX10_scrape cX10_scrape 4 (some .int) 1 iz_eI) 23 [(0, .ref (X.1 a0)), (1, .int x1), (2, .int x2), (3, .int x3)] [] S (Mo_scrape_23 a0 n9 x1 x2 x3 S)
  | 0 => by
    intros
    exact iz_none
  | n9 + 1 => c_Mo_scrape_23b h0 (c_Mo_scrape_23 h0 n9)
set_option maxRecDepth 10000 in
theorem c_Mo_scrape {X : iz_X} {l : Launch} {a0 : Nat} (h0 : iz_sh a0 = (10 + 3, 48)) (x1 : Int32) (S : iz_S) : iz_Y X l RX10 tX10_scrape 4 1 (iz_Kc X l yX10_scrape cX10_scrape 4 (some .int) 1 iz_eI) 0 [(0, .ref (X.1 a0)), (1, .int x1)] [] S (Mo_scrape a0 x1 S) := by
  unfold Mo_scrape
  refine iz_iload_n (n := 1) 0 1 rfl rfl ?_
  refine iz_iconst (v := 0) 1 (by decide) rfl ?_
  refine iz_bipush (v := 7) 2 (by decide) rfl ?_
  refine iz_callSI (As := [.int x1, .int 0, .int 7]) (rest := []) 3 ml_X10_123 cw_X10_isIn ci_X10_isIn (fun r9 hr9 => m_Mo_isIn  hr9) rfl (by decide) rfl rfl (Nat.le_of_ble_eq_true rfl) (fun r2 S1 => ?_)
  refine iz_if_ne (tgt := 16) 4 rfl (by decide) ?_ ?_
  · refine iz_iconst (v := 0) 9 (by decide) rfl ?_
    refine iz_istore_n (n := 2) (ls2 := [(0, .ref (X.1 a0)), (1, .int x1), (2, .int 0)]) 10 [1, 2, 0] rfl (by decide) rfl ?_
    refine iz_bipush (v := 8) 11 (by decide) rfl ?_
    refine iz_iload_n (n := 1) 12 1 rfl rfl ?_
    refine iz_imul 13 rfl ?_
    refine iz_let (fun v3 => ?_)
    refine iz_istore_n (n := 3) (ls2 := [(0, .ref (X.1 a0)), (1, .int x1), (2, .int 0), (3, .int v3)]) 14 [1, 2, 3, 0] rfl (by decide) rfl ?_
    exact c_Mo_scrape_23 h0 iz_FU x1 0 v3 S1
  · refine iz_aload_n (n := 0) 5 0 rfl rfl ?_
    refine iz_iconst (v := 1) 6 (by decide) rfl ?_
    refine iz_callVI (As := [.int 1]) (rest := []) 7 ml_X10_127 cw_X10_finding ci_X10_finding h0 (fun r9 hr9 => m_Mo_finding h0 hr9) rfl (by decide) (by decide) rfl rfl (Nat.le_of_ble_eq_true rfl) (fun r5 S4 => ?_)
    exact iz_iret 8 rfl
theorem m_Mo_scrape {X : iz_X} {l : Launch} {a0 : Nat} (h0 : iz_sh a0 = (10 + 3, 48)) {x1 : Int32} {S : iz_S} {r9 : Int32 × iz_S} (hr : Mo_scrape a0 x1 S = some r9) : iz_Mt X l 1 yX10_scrape cX10_scrape 4 (some .int) [.ref (X.1 a0), .int x1] S (iz_eI r9) :=
  iz_Mt_of (dt := tX10_scrape) dX10_scrape (by decide) hr (Nat.le_of_ble_eq_true rfl) (c_Mo_scrape h0 x1 S)
def Mo_cell_16 (a0 : Nat) (S : iz_S) : Option (Int32 × iz_S) :=
  iz_bI (Mo_finding a0 1 S) (fun r6 S5 =>
  some (r6, S5))
def Mo_cell_63 (a0 : Nat) (s0 : Int32) (S : iz_S) : Option (Int32 × iz_S) :=
  some (s0, S)
def Mo_cell (a0 : Nat) (x1 : Int32) (x2 : Int32) (S : iz_S) : Option (Int32 × iz_S) :=
  (iz_bI (Mo_isCell x1 S) (fun r2 S1 =>
  if r2 = 0 then
    (Mo_cell_16 a0 S1)
  else
    (iz_bI (Mo_isIn x2 0 2 S1) (fun r4 S3 =>
    if r4 = 0 then
      (Mo_cell_16 a0 S3)
    else
      (if x2 = 0 then
        iz_ck (iz_in x1 64) (
        (Mo_cell_63 a0 (iz_g S3 (iz_rf a0 0) x1) S3))
      else
        (if x2 = 1 then
          iz_ck (iz_in x1 64) (
          (Mo_cell_63 a0 (iz_g S3 (iz_rf a0 1) x1) S3))
        else
          (iz_ck (iz_in x1 64) (
          if (iz_g S3 (iz_rf a0 2) x1) = 0 then
            (Mo_cell_63 a0 0 S3)
          else
            (Mo_cell_63 a0 1 S3)))))))))
set_option maxRecDepth 10000 in
theorem c_Mo_cell_16 {X : iz_X} {l : Launch} {a0 : Nat} (h0 : iz_sh a0 = (10 + 3, 48)) (S : iz_S) : iz_Y X l RX10 tX10_cell 3 2 (iz_Kc X l yX10_cell cX10_cell 3 (some .int) 2 iz_eI) 16 [(0, .ref (X.1 a0))] [] S (Mo_cell_16 a0 S) := by
  unfold Mo_cell_16
  refine iz_aload_n (n := 0) 8 0 rfl rfl ?_
  refine iz_iconst (v := 1) 9 (by decide) rfl ?_
  refine iz_callVI (As := [.int 1]) (rest := []) 10 ml_X10_127 cw_X10_finding ci_X10_finding h0 (fun r9 hr9 => m_Mo_finding h0 hr9) rfl (by decide) (by decide) rfl rfl (Nat.le_of_ble_eq_true rfl) (fun r6 S5 => ?_)
  exact iz_iret 11 rfl
set_option maxRecDepth 10000 in
theorem c_Mo_cell_63 {X : iz_X} {l : Launch} {a0 : Nat} (h0 : iz_sh a0 = (10 + 3, 48)) (s0 : Int32) (S : iz_S) : iz_Y X l RX10 tX10_cell 3 2 (iz_Kc X l yX10_cell cX10_cell 3 (some .int) 2 iz_eI) 63 [] [.int s0] S (Mo_cell_63 a0 s0 S) := by
  unfold Mo_cell_63
  exact iz_iret 35 rfl
set_option maxRecDepth 10000 in
theorem c_Mo_cell {X : iz_X} {l : Launch} {a0 : Nat} (h0 : iz_sh a0 = (10 + 3, 48)) (x1 : Int32) (x2 : Int32) (S : iz_S) : iz_Y X l RX10 tX10_cell 3 2 (iz_Kc X l yX10_cell cX10_cell 3 (some .int) 2 iz_eI) 0 [(0, .ref (X.1 a0)), (1, .int x1), (2, .int x2)] [] S (Mo_cell a0 x1 x2 S) := by
  unfold Mo_cell
  refine iz_iload_n (n := 1) 0 1 rfl rfl ?_
  refine iz_callSI (As := [.int x1]) (rest := []) 1 ml_X10_141 cw_X10_isCell ci_X10_isCell (fun r9 hr9 => m_Mo_isCell  hr9) rfl (by decide) rfl rfl (Nat.le_of_ble_eq_true rfl) (fun r2 S1 => ?_)
  refine iz_if_eq (tgt := 16) 2 rfl (by decide) ?_ ?_
  · exact iz_sub [0] rfl (c_Mo_cell_16 h0 S1)
  · refine iz_iload_n (n := 2) 3 2 rfl rfl ?_
    refine iz_iconst (v := 0) 4 (by decide) rfl ?_
    refine iz_iconst (v := 2) 5 (by decide) rfl ?_
    refine iz_callSI (As := [.int x2, .int 0, .int 2]) (rest := []) 6 ml_X10_123 cw_X10_isIn ci_X10_isIn (fun r9 hr9 => m_Mo_isIn  hr9) rfl (by decide) rfl rfl (Nat.le_of_ble_eq_true rfl) (fun r4 S3 => ?_)
    refine iz_if_ne (tgt := 22) 7 rfl (by decide) ?_ ?_
    · refine iz_iload_n (n := 2) 12 2 rfl rfl ?_
      refine iz_if_ne (tgt := 35) 13 rfl (by decide) ?_ ?_
      · refine iz_iload_n (n := 2) 19 2 rfl rfl ?_
        refine iz_iconst (v := 1) 20 (by decide) rfl ?_
        refine iz_cmp_ne (tgt := 49) 21 rfl (by decide) ?_ ?_
        · refine iz_aload_n (n := 0) 27 0 rfl rfl ?_
          refine iz_getR 28 2 h0 fl_X10_16 rfl (by decide) (by decide) rfl ?_
          refine iz_iload_n (n := 1) 29 1 rfl rfl ?_
          refine iz_bald 30 (sf_10_2 h0) rfl ?_
          refine iz_if_eq (tgt := 62) 31 rfl (by decide) ?_ ?_
          · refine iz_iconst (v := 0) 34 (by decide) rfl ?_
            exact iz_sub [] rfl (c_Mo_cell_63 h0 0 S3)
          · refine iz_iconst (v := 1) 32 (by decide) rfl ?_
            refine iz_goto (tgt := 63) 33 (by decide) rfl ?_
            exact iz_sub [] rfl (c_Mo_cell_63 h0 1 S3)
        · refine iz_aload_n (n := 0) 22 0 rfl rfl ?_
          refine iz_getR 23 1 h0 fl_X10_13 rfl (by decide) (by decide) rfl ?_
          refine iz_iload_n (n := 1) 24 1 rfl rfl ?_
          refine iz_iald 25 (sf_10_1 h0) rfl ?_
          refine iz_goto (tgt := 63) 26 (by decide) rfl ?_
          exact iz_sub [] rfl (c_Mo_cell_63 h0 (iz_g S3 (iz_rf a0 1) x1) S3)
      · refine iz_aload_n (n := 0) 14 0 rfl rfl ?_
        refine iz_getR 15 0 h0 fl_X10_7 rfl (by decide) (by decide) rfl ?_
        refine iz_iload_n (n := 1) 16 1 rfl rfl ?_
        refine iz_iald 17 (sf_10_0 h0) rfl ?_
        refine iz_goto (tgt := 63) 18 (by decide) rfl ?_
        exact iz_sub [] rfl (c_Mo_cell_63 h0 (iz_g S3 (iz_rf a0 0) x1) S3)
    · exact iz_sub [0] rfl (c_Mo_cell_16 h0 S3)
theorem m_Mo_cell {X : iz_X} {l : Launch} {a0 : Nat} (h0 : iz_sh a0 = (10 + 3, 48)) {x1 : Int32} {x2 : Int32} {S : iz_S} {r9 : Int32 × iz_S} (hr : Mo_cell a0 x1 x2 S = some r9) : iz_Mt X l 2 yX10_cell cX10_cell 3 (some .int) [.ref (X.1 a0), .int x1, .int x2] S (iz_eI r9) :=
  iz_Mt_of (dt := tX10_cell) dX10_cell (by decide) hr (Nat.le_of_ble_eq_true rfl) (c_Mo_cell h0 x1 x2 S)
def Mo_beside_79 (s0 : Int32) (S : iz_S) : Option (Int32 × iz_S) :=
  some (s0, S)
def Mo_beside_78 (S : iz_S) : Option (Int32 × iz_S) :=
  (Mo_beside_79 (-1) S)
def Mo_beside_47 (x2 : Int32) (s0 : Int32) (s1 : Int32) (S : iz_S) : Option (Int32 × iz_S) :=
  (iz_lt (s0 + s1) (fun v2 =>
  iz_bI (Mo_isIn x2 0 7 S) (fun r4 S3 =>
  if r4 = 0 then
    (Mo_beside_78 S3)
  else
    (iz_bI (Mo_isIn v2 0 7 S3) (fun r6 S5 =>
    if r6 = 0 then
      (Mo_beside_78 S5)
    else
      (Mo_beside_79 (((8 : Int32) * x2) + v2) S5))))))
def Mo_beside_22 (x0 : Int32) (x1 : Int32) (s0 : Int32) (s1 : Int32) (S : iz_S) : Option (Int32 × iz_S) :=
  (iz_lt (s0 + s1) (fun v1 =>
  if x1 = 2 then
    (Mo_beside_47 v1 (x0 - x0 / 8 * 8) (-1) S)
  else
    (if x1 = 3 then
      (Mo_beside_47 v1 (x0 - x0 / 8 * 8) 1 S)
    else
      (Mo_beside_47 v1 (x0 - x0 / 8 * 8) 0 S))))
def Mo_beside (x0 : Int32) (x1 : Int32) (S : iz_S) : Option (Int32 × iz_S) :=
  (if x1 = 0 then
    (Mo_beside_22 x0 x1 (x0 / 8) (-1) S)
  else
    (if x1 = 1 then
      (Mo_beside_22 x0 x1 (x0 / 8) 1 S)
    else
      (Mo_beside_22 x0 x1 (x0 / 8) 0 S)))
set_option maxRecDepth 10000 in
theorem c_Mo_beside_79 {X : iz_X} {l : Launch} (s0 : Int32) (S : iz_S) : iz_Y X l RX10 tX10_beside 4 1 (iz_Kc X l yX10_beside cX10_beside 4 (some .int) 1 iz_eI) 79 [] [.int s0] S (Mo_beside_79 s0 S) := by
  unfold Mo_beside_79
  exact iz_iret 48 rfl
set_option maxRecDepth 10000 in
theorem c_Mo_beside_78 {X : iz_X} {l : Launch} (S : iz_S) : iz_Y X l RX10 tX10_beside 4 1 (iz_Kc X l yX10_beside cX10_beside 4 (some .int) 1 iz_eI) 78 [] [] S (Mo_beside_78 S) := by
  unfold Mo_beside_78
  refine iz_iconst (v := (-1)) 47 (by decide) rfl ?_
  exact c_Mo_beside_79 (-1) S
set_option maxRecDepth 10000 in
theorem c_Mo_beside_47 {X : iz_X} {l : Launch} (x2 : Int32) (s0 : Int32) (s1 : Int32) (S : iz_S) : iz_Y X l RX10 tX10_beside 4 1 (iz_Kc X l yX10_beside cX10_beside 4 (some .int) 1 iz_eI) 47 [(2, .int x2)] [.int s1, .int s0] S (Mo_beside_47 x2 s0 s1 S) := by
  unfold Mo_beside_47
  refine iz_iadd 29 rfl ?_
  refine iz_let (fun v2 => ?_)
  refine iz_istore_n (n := 3) (ls2 := [(2, .int x2), (3, .int v2)]) 30 [1, 0] rfl (by decide) rfl ?_
  refine iz_iload_n (n := 2) 31 0 rfl rfl ?_
  refine iz_iconst (v := 0) 32 (by decide) rfl ?_
  refine iz_bipush (v := 7) 33 (by decide) rfl ?_
  refine iz_callSI (As := [.int x2, .int 0, .int 7]) (rest := []) 34 ml_X10_123 cw_X10_isIn ci_X10_isIn (fun r9 hr9 => m_Mo_isIn  hr9) rfl (by decide) rfl rfl (Nat.le_of_ble_eq_true rfl) (fun r4 S3 => ?_)
  refine iz_if_eq (tgt := 78) 35 rfl (by decide) ?_ ?_
  · exact iz_sub [] rfl (c_Mo_beside_78 S3)
  · refine iz_iload_n (n := 3) 36 1 rfl rfl ?_
    refine iz_iconst (v := 0) 37 (by decide) rfl ?_
    refine iz_bipush (v := 7) 38 (by decide) rfl ?_
    refine iz_callSI (As := [.int v2, .int 0, .int 7]) (rest := []) 39 ml_X10_123 cw_X10_isIn ci_X10_isIn (fun r9 hr9 => m_Mo_isIn  hr9) rfl (by decide) rfl rfl (Nat.le_of_ble_eq_true rfl) (fun r6 S5 => ?_)
    refine iz_if_eq (tgt := 78) 40 rfl (by decide) ?_ ?_
    · exact iz_sub [] rfl (c_Mo_beside_78 S5)
    · refine iz_bipush (v := 8) 41 (by decide) rfl ?_
      refine iz_iload_n (n := 2) 42 0 rfl rfl ?_
      refine iz_imul 43 rfl ?_
      refine iz_iload_n (n := 3) 44 1 rfl rfl ?_
      refine iz_iadd 45 rfl ?_
      refine iz_goto (tgt := 79) 46 (by decide) rfl ?_
      exact iz_sub [] rfl (c_Mo_beside_79 (((8 : Int32) * x2) + v2) S5)
set_option maxRecDepth 10000 in
theorem c_Mo_beside_22 {X : iz_X} {l : Launch} (x0 : Int32) (x1 : Int32) (s0 : Int32) (s1 : Int32) (S : iz_S) : iz_Y X l RX10 tX10_beside 4 1 (iz_Kc X l yX10_beside cX10_beside 4 (some .int) 1 iz_eI) 22 [(0, .int x0), (1, .int x1)] [.int s1, .int s0] S (Mo_beside_22 x0 x1 s0 s1 S) := by
  unfold Mo_beside_22
  refine iz_iadd 13 rfl ?_
  refine iz_let (fun v1 => ?_)
  refine iz_istore_n (n := 2) (ls2 := [(0, .int x0), (1, .int x1), (2, .int v1)]) 14 [1, 2, 0] rfl (by decide) rfl ?_
  refine iz_iload_n (n := 0) 15 0 rfl rfl ?_
  refine iz_bipush (v := 8) 16 (by decide) rfl ?_
  refine iz_irem 17 (by decide) rfl ?_
  refine iz_iload_n (n := 1) 18 1 rfl rfl ?_
  refine iz_iconst (v := 2) 19 (by decide) rfl ?_
  refine iz_cmp_ne (tgt := 37) 20 rfl (by decide) ?_ ?_
  · refine iz_iload_n (n := 1) 23 1 rfl rfl ?_
    refine iz_iconst (v := 3) 24 (by decide) rfl ?_
    refine iz_cmp_ne (tgt := 46) 25 rfl (by decide) ?_ ?_
    · refine iz_iconst (v := 0) 28 (by decide) rfl ?_
      exact iz_sub [2] rfl (c_Mo_beside_47 v1 (x0 - x0 / 8 * 8) 0 S)
    · refine iz_iconst (v := 1) 26 (by decide) rfl ?_
      refine iz_goto (tgt := 47) 27 (by decide) rfl ?_
      exact iz_sub [2] rfl (c_Mo_beside_47 v1 (x0 - x0 / 8 * 8) 1 S)
  · refine iz_iconst (v := (-1)) 21 (by decide) rfl ?_
    refine iz_goto (tgt := 47) 22 (by decide) rfl ?_
    exact iz_sub [2] rfl (c_Mo_beside_47 v1 (x0 - x0 / 8 * 8) (-1) S)
set_option maxRecDepth 10000 in
theorem c_Mo_beside {X : iz_X} {l : Launch} (x0 : Int32) (x1 : Int32) (S : iz_S) : iz_Y X l RX10 tX10_beside 4 1 (iz_Kc X l yX10_beside cX10_beside 4 (some .int) 1 iz_eI) 0 [(0, .int x0), (1, .int x1)] [] S (Mo_beside x0 x1 S) := by
  unfold Mo_beside
  refine iz_iload_n (n := 0) 0 0 rfl rfl ?_
  refine iz_bipush (v := 8) 1 (by decide) rfl ?_
  refine iz_idiv 2 (by decide) rfl ?_
  refine iz_iload_n (n := 1) 3 1 rfl rfl ?_
  refine iz_if_ne (tgt := 12) 4 rfl (by decide) ?_ ?_
  · refine iz_iload_n (n := 1) 7 1 rfl rfl ?_
    refine iz_iconst (v := 1) 8 (by decide) rfl ?_
    refine iz_cmp_ne (tgt := 21) 9 rfl (by decide) ?_ ?_
    · refine iz_iconst (v := 0) 12 (by decide) rfl ?_
      exact c_Mo_beside_22 x0 x1 (x0 / 8) 0 S
    · refine iz_iconst (v := 1) 10 (by decide) rfl ?_
      refine iz_goto (tgt := 22) 11 (by decide) rfl ?_
      exact c_Mo_beside_22 x0 x1 (x0 / 8) 1 S
  · refine iz_iconst (v := (-1)) 5 (by decide) rfl ?_
    refine iz_goto (tgt := 22) 6 (by decide) rfl ?_
    exact c_Mo_beside_22 x0 x1 (x0 / 8) (-1) S
theorem m_Mo_beside {X : iz_X} {l : Launch} {x0 : Int32} {x1 : Int32} {S : iz_S} {r9 : Int32 × iz_S} (hr : Mo_beside x0 x1 S = some r9) : iz_Mt X l 1 yX10_beside cX10_beside 4 (some .int) [.int x0, .int x1] S (iz_eI r9) :=
  iz_Mt_of (dt := tX10_beside) dX10_beside (by decide) hr (Nat.le_of_ble_eq_true rfl) (c_Mo_beside x0 x1 S)
def Mo_isOf_39 (s0 : Int32) (S : iz_S) : Option (Int32 × iz_S) :=
  iz_ck (decide (iz_nb s0 = s0)) (some (s0, S))
def Mo_isOf_38 (S : iz_S) : Option (Int32 × iz_S) :=
  (Mo_isOf_39 0 S)
def Mo_isOf (x0 : Int32) (x1 : Int32) (S : iz_S) : Option (Int32 × iz_S) :=
  (iz_bI (Mo_isIn ((x0 / 8) - (x1 / 8)) 0 1 S) (fun r2 S1 =>
  if r2 = 0 then
    (Mo_isOf_38 S1)
  else
    (iz_bI (Mo_isIn ((x0 - x0 / 8 * 8) - (x1 - x1 / 8 * 8)) 0 1 S1) (fun r4 S3 =>
    if r4 = 0 then
      (Mo_isOf_38 S3)
    else
      (Mo_isOf_39 1 S3)))))
set_option maxRecDepth 10000 in
theorem c_Mo_isOf_39 {X : iz_X} {l : Launch} (s0 : Int32) (S : iz_S) : iz_Y X l RX10 tX10_isOf 2 1 (iz_Kc X l yX10_isOf cX10_isOf 2 (some .boolean) 1 iz_eI) 39 [] [.int s0] S (Mo_isOf_39 s0 S) := by
  unfold Mo_isOf_39
  exact iz_zret 25 rfl
set_option maxRecDepth 10000 in
theorem c_Mo_isOf_38 {X : iz_X} {l : Launch} (S : iz_S) : iz_Y X l RX10 tX10_isOf 2 1 (iz_Kc X l yX10_isOf cX10_isOf 2 (some .boolean) 1 iz_eI) 38 [] [] S (Mo_isOf_38 S) := by
  unfold Mo_isOf_38
  refine iz_iconst (v := 0) 24 (by decide) rfl ?_
  exact c_Mo_isOf_39 0 S
set_option maxRecDepth 10000 in
theorem c_Mo_isOf {X : iz_X} {l : Launch} (x0 : Int32) (x1 : Int32) (S : iz_S) : iz_Y X l RX10 tX10_isOf 2 1 (iz_Kc X l yX10_isOf cX10_isOf 2 (some .boolean) 1 iz_eI) 0 [(0, .int x0), (1, .int x1)] [] S (Mo_isOf x0 x1 S) := by
  unfold Mo_isOf
  refine iz_iload_n (n := 0) 0 0 rfl rfl ?_
  refine iz_bipush (v := 8) 1 (by decide) rfl ?_
  refine iz_idiv 2 (by decide) rfl ?_
  refine iz_iload_n (n := 1) 3 1 rfl rfl ?_
  refine iz_bipush (v := 8) 4 (by decide) rfl ?_
  refine iz_idiv 5 (by decide) rfl ?_
  refine iz_isub 6 rfl ?_
  refine iz_iconst (v := 0) 7 (by decide) rfl ?_
  refine iz_iconst (v := 1) 8 (by decide) rfl ?_
  refine iz_callSI (As := [.int ((x0 / 8) - (x1 / 8)), .int 0, .int 1]) (rest := []) 9 ml_X10_123 cw_X10_isIn ci_X10_isIn (fun r9 hr9 => m_Mo_isIn  hr9) rfl (by decide) rfl rfl (Nat.le_of_ble_eq_true rfl) (fun r2 S1 => ?_)
  refine iz_if_eq (tgt := 38) 10 rfl (by decide) ?_ ?_
  · exact iz_sub [] rfl (c_Mo_isOf_38 S1)
  · refine iz_iload_n (n := 0) 11 0 rfl rfl ?_
    refine iz_bipush (v := 8) 12 (by decide) rfl ?_
    refine iz_irem 13 (by decide) rfl ?_
    refine iz_iload_n (n := 1) 14 1 rfl rfl ?_
    refine iz_bipush (v := 8) 15 (by decide) rfl ?_
    refine iz_irem 16 (by decide) rfl ?_
    refine iz_isub 17 rfl ?_
    refine iz_iconst (v := 0) 18 (by decide) rfl ?_
    refine iz_iconst (v := 1) 19 (by decide) rfl ?_
    refine iz_callSI (As := [.int ((x0 - x0 / 8 * 8) - (x1 - x1 / 8 * 8)), .int 0, .int 1]) (rest := []) 20 ml_X10_123 cw_X10_isIn ci_X10_isIn (fun r9 hr9 => m_Mo_isIn  hr9) rfl (by decide) rfl rfl (Nat.le_of_ble_eq_true rfl) (fun r4 S3 => ?_)
    refine iz_if_eq (tgt := 38) 21 rfl (by decide) ?_ ?_
    · exact iz_sub [] rfl (c_Mo_isOf_38 S3)
    · refine iz_iconst (v := 1) 22 (by decide) rfl ?_
      refine iz_goto (tgt := 39) 23 (by decide) rfl ?_
      exact iz_sub [] rfl (c_Mo_isOf_39 1 S3)
theorem m_Mo_isOf {X : iz_X} {l : Launch} {x0 : Int32} {x1 : Int32} {S : iz_S} {r9 : Int32 × iz_S} (hr : Mo_isOf x0 x1 S = some r9) : iz_Mt X l 1 yX10_isOf cX10_isOf 2 (some .boolean) [.int x0, .int x1] S (iz_eI r9) :=
  iz_Mt_of (dt := tX10_isOf) dX10_isOf (by decide) hr (Nat.le_of_ble_eq_true rfl) (c_Mo_isOf x0 x1 S)
def Mo_flood_180 (a0 : Nat) (k89 : Int32 → Int32 → Int32 → Int32 → iz_S → Option iz_S) (k98 : Int32 → Int32 → Int32 → Int32 → Int32 → iz_S → Option iz_S) (x1 : Int32) (x2 : Int32) (x3 : Int32) (x4 : Int32) (x5 : Int32) (S : iz_S) : Option iz_S :=
  (k98 x1 x2 x3 x4 (x5 + 1) S)
def Mo_flood_161 (a0 : Nat) (k89 : Int32 → Int32 → Int32 → Int32 → iz_S → Option iz_S) (k98 : Int32 → Int32 → Int32 → Int32 → Int32 → iz_S → Option iz_S) (x1 : Int32) (x2 : Int32) (x3 : Int32) (x4 : Int32) (x5 : Int32) (x6 : Int32) (S : iz_S) : Option iz_S :=
  iz_ck (iz_in x6 64) (iz_lt (iz_s S (iz_rf a0 29) x6 (iz_nb 1)) (fun S9 =>
  iz_ck (iz_in x3 64) (iz_lt (iz_s S9 (iz_rf a0 30) x3 x6) (fun S10 =>
  (Mo_flood_180 a0 k89 k98 x1 x2 (x3 + 1) x4 x5 S10)))))
def Mo_flood_98b (a0 : Nat) (k89 : Int32 → Int32 → Int32 → Int32 → iz_S → Option iz_S) (k98 : Int32 → Int32 → Int32 → Int32 → Int32 → iz_S → Option iz_S) (x1 : Int32) (x2 : Int32) (x3 : Int32) (x4 : Int32) (x5 : Int32) (S : iz_S) : Option iz_S :=
  (if x5 < 4 then
    (iz_ck (iz_in x4 64) (
    iz_bI (Mo_beside (iz_g S (iz_rf a0 30) x4) x5 S) (fun r4 S3 =>
    if r4 < 0 then
      (Mo_flood_180 a0 k89 k98 x1 x2 x3 x4 x5 S3)
    else
      (iz_ck (iz_in r4 64) (
      if (iz_g S3 (iz_rf a0 29) r4) = 0 then
        (iz_ck (iz_in r4 64) (
        iz_ck (iz_in x1 3) (
        if (iz_g S3 (iz_rf a0 0) r4) < (iz_zV 3 (Int32.toNatClampNeg x1)) then
          (Mo_flood_180 a0 k89 k98 x1 x2 x3 x4 x5 S3)
        else
          (if x2 < 0 then
            (Mo_flood_161 a0 k89 k98 x1 x2 x3 x4 x5 r4 S3)
          else
            (iz_bI (Mo_isOf r4 x2 S3) (fun r6 S5 =>
            if r6 = 0 then
              (Mo_flood_161 a0 k89 k98 x1 x2 x3 x4 x5 r4 S5)
            else
              (Mo_flood_180 a0 k89 k98 x1 x2 x3 x4 x5 S5)))))))
      else
        (Mo_flood_180 a0 k89 k98 x1 x2 x3 x4 x5 S3))))))
  else
    (k89 x1 x2 x3 (x4 + 1) S))
def Mo_flood_98 (a0 : Nat) (k89 : Int32 → Int32 → Int32 → Int32 → iz_S → Option iz_S) : Nat → Int32 → Int32 → Int32 → Int32 → Int32 → iz_S → Option iz_S
  | 0 => fun _ _ _ _ _ _ => none
  | n9 + 1 => Mo_flood_98b a0 k89 (Mo_flood_98 a0 k89 n9)
def Mo_flood_89b (a0 : Nat) (k89 : Int32 → Int32 → Int32 → Int32 → iz_S → Option iz_S) (x1 : Int32) (x2 : Int32) (x3 : Int32) (x4 : Int32) (S : iz_S) : Option iz_S :=
  (if x4 < x3 then
    (Mo_flood_98 a0 k89 iz_FU x1 x2 x3 x4 0 S)
  else
    some S)
def Mo_flood_89 (a0 : Nat) : Nat → Int32 → Int32 → Int32 → Int32 → iz_S → Option iz_S
  | 0 => fun _ _ _ _ _ => none
  | n9 + 1 => Mo_flood_89b a0 (Mo_flood_89 a0 n9)
def Mo_flood_80 (a0 : Nat) (k5 : Int32 → Int32 → Int32 → Int32 → iz_S → Option iz_S) (x1 : Int32) (x2 : Int32) (x3 : Int32) (x4 : Int32) (S : iz_S) : Option iz_S :=
  (k5 x1 x2 x3 (x4 + 1) S)
def Mo_flood_58 (a0 : Nat) (k5 : Int32 → Int32 → Int32 → Int32 → iz_S → Option iz_S) (x1 : Int32) (x2 : Int32) (x3 : Int32) (x4 : Int32) (s1 : Int32) (s2 : Int32) (S : iz_S) : Option iz_S :=
  (iz_ck (iz_in s1 64) (iz_lt (iz_s S (iz_rf a0 29) s1 (iz_nb s2)) (fun S7 =>
  iz_ck (iz_in x4 64) (
  if (iz_g S7 (iz_rf a0 29) x4) = 0 then
    (Mo_flood_80 a0 k5 x1 x2 x3 x4 S7)
  else
    iz_ck (iz_in x3 64) (iz_lt (iz_s S7 (iz_rf a0 30) x3 x4) (fun S8 =>
    (Mo_flood_80 a0 k5 x1 x2 (x3 + 1) x4 S8)))))))
def Mo_flood_57 (a0 : Nat) (k5 : Int32 → Int32 → Int32 → Int32 → iz_S → Option iz_S) (x1 : Int32) (x2 : Int32) (x3 : Int32) (x4 : Int32) (s1 : Int32) (S : iz_S) : Option iz_S :=
  (Mo_flood_58 a0 k5 x1 x2 x3 x4 s1 0 S)
def Mo_flood_53 (a0 : Nat) (k5 : Int32 → Int32 → Int32 → Int32 → iz_S → Option iz_S) (x1 : Int32) (x2 : Int32) (x3 : Int32) (x4 : Int32) (s1 : Int32) (S : iz_S) : Option iz_S :=
  (Mo_flood_58 a0 k5 x1 x2 x3 x4 s1 1 S)
def Mo_flood_5b (a0 : Nat) (k5 : Int32 → Int32 → Int32 → Int32 → iz_S → Option iz_S) (x1 : Int32) (x2 : Int32) (x3 : Int32) (x4 : Int32) (S : iz_S) : Option iz_S :=
  (if x4 < 64 then
    (if x4 < 8 then
      (iz_ck (iz_in x4 64) (
      iz_ck (iz_in x1 3) (
      if (iz_g S (iz_rf a0 0) x4) < (iz_zV 3 (Int32.toNatClampNeg x1)) then
        (Mo_flood_57 a0 k5 x1 x2 x3 x4 x4 S)
      else
        (if x2 < 0 then
          (Mo_flood_53 a0 k5 x1 x2 x3 x4 x4 S)
        else
          (iz_bI (Mo_isOf x4 x2 S) (fun r2 S1 =>
          if r2 = 0 then
            (Mo_flood_53 a0 k5 x1 x2 x3 x4 x4 S1)
          else
            (Mo_flood_57 a0 k5 x1 x2 x3 x4 x4 S1)))))))
    else
      (Mo_flood_57 a0 k5 x1 x2 x3 x4 x4 S))
  else
    (Mo_flood_89 a0 iz_FU x1 x2 x3 0 S))
def Mo_flood_5 (a0 : Nat) : Nat → Int32 → Int32 → Int32 → Int32 → iz_S → Option iz_S
  | 0 => fun _ _ _ _ _ => none
  | n9 + 1 => Mo_flood_5b a0 (Mo_flood_5 a0 n9)
def Mo_flood (a0 : Nat) (x1 : Int32) (x2 : Int32) (S : iz_S) : Option iz_S :=
  (Mo_flood_5 a0 iz_FU x1 x2 0 0 S)
set_option maxRecDepth 10000 in
theorem c_Mo_flood_180 {X : iz_X} {l : Launch} {a0 : Nat} (h0 : iz_sh a0 = (10 + 3, 48)) {k89 : Int32 → Int32 → Int32 → Int32 → iz_S → Option iz_S} {k98 : Int32 → Int32 → Int32 → Int32 → Int32 → iz_S → Option iz_S} (hk89 : ∀ (x1 : Int32) (x2 : Int32) (x3 : Int32) (x4 : Int32) (S : iz_S), iz_Y X l RX10 tX10_flood 7 2 (iz_Kc X l yX10_flood cX10_flood 7 none 2 iz_eV) 89 [(0, .ref (X.1 a0)), (1, .int x1), (2, .int x2), (3, .int x3), (4, .int x4)] [] S (k89 x1 x2 x3 x4 S)) (hk98 : ∀ (x1 : Int32) (x2 : Int32) (x3 : Int32) (x4 : Int32) (x5 : Int32) (S : iz_S), iz_Y X l RX10 tX10_flood 7 2 (iz_Kc X l yX10_flood cX10_flood 7 none 2 iz_eV) 98 [(0, .ref (X.1 a0)), (1, .int x1), (2, .int x2), (3, .int x3), (4, .int x4), (5, .int x5)] [] S (k98 x1 x2 x3 x4 x5 S)) (x1 : Int32) (x2 : Int32) (x3 : Int32) (x4 : Int32) (x5 : Int32) (S : iz_S) : iz_Y X l RX10 tX10_flood 7 2 (iz_Kc X l yX10_flood cX10_flood 7 none 2 iz_eV) 180 [(0, .ref (X.1 a0)), (1, .int x1), (2, .int x2), (3, .int x3), (4, .int x4), (5, .int x5)] [] S (Mo_flood_180 a0 k89 k98 x1 x2 x3 x4 x5 S) := by
  unfold Mo_flood_180
  refine iz_iinc (v := (x5 + 1)) (ls2 := [(0, .ref (X.1 a0)), (1, .int x1), (2, .int x2), (3, .int x3), (4, .int x4), (5, .int (x5 + 1))]) 93 5 [1, 2, 3, 4, 5, 0] rfl rfl rfl (by decide) rfl ?_
  refine iz_goto (tgt := 98) 94 (by decide) rfl ?_
  exact hk98 x1 x2 x3 x4 (x5 + 1) S
set_option maxRecDepth 10000 in
theorem c_Mo_flood_161 {X : iz_X} {l : Launch} {a0 : Nat} (h0 : iz_sh a0 = (10 + 3, 48)) {k89 : Int32 → Int32 → Int32 → Int32 → iz_S → Option iz_S} {k98 : Int32 → Int32 → Int32 → Int32 → Int32 → iz_S → Option iz_S} (hk89 : ∀ (x1 : Int32) (x2 : Int32) (x3 : Int32) (x4 : Int32) (S : iz_S), iz_Y X l RX10 tX10_flood 7 2 (iz_Kc X l yX10_flood cX10_flood 7 none 2 iz_eV) 89 [(0, .ref (X.1 a0)), (1, .int x1), (2, .int x2), (3, .int x3), (4, .int x4)] [] S (k89 x1 x2 x3 x4 S)) (hk98 : ∀ (x1 : Int32) (x2 : Int32) (x3 : Int32) (x4 : Int32) (x5 : Int32) (S : iz_S), iz_Y X l RX10 tX10_flood 7 2 (iz_Kc X l yX10_flood cX10_flood 7 none 2 iz_eV) 98 [(0, .ref (X.1 a0)), (1, .int x1), (2, .int x2), (3, .int x3), (4, .int x4), (5, .int x5)] [] S (k98 x1 x2 x3 x4 x5 S)) (x1 : Int32) (x2 : Int32) (x3 : Int32) (x4 : Int32) (x5 : Int32) (x6 : Int32) (S : iz_S) : iz_Y X l RX10 tX10_flood 7 2 (iz_Kc X l yX10_flood cX10_flood 7 none 2 iz_eV) 161 [(0, .ref (X.1 a0)), (1, .int x1), (2, .int x2), (3, .int x3), (4, .int x4), (5, .int x5), (6, .int x6)] [] S (Mo_flood_161 a0 k89 k98 x1 x2 x3 x4 x5 x6 S) := by
  unfold Mo_flood_161
  refine iz_aload_n (n := 0) 82 0 rfl rfl ?_
  refine iz_getR 83 29 h0 fl_X10_83 rfl (by decide) (by decide) rfl ?_
  refine iz_iload (n := 6) 84 6 rfl rfl ?_
  refine iz_iconst (v := 1) 85 (by decide) rfl ?_
  refine iz_bast 86 (sf_10_29 h0) rfl (fun S9 => ?_)
  refine iz_aload_n (n := 0) 87 0 rfl rfl ?_
  refine iz_getR 88 30 h0 fl_X10_86 rfl (by decide) (by decide) rfl ?_
  refine iz_iload_n (n := 3) 89 3 rfl rfl ?_
  refine iz_iload (n := 6) 90 6 rfl rfl ?_
  refine iz_iast 91 (sf_10_30 h0) rfl (fun S10 => ?_)
  refine iz_iinc (v := (x3 + 1)) (ls2 := [(0, .ref (X.1 a0)), (1, .int x1), (2, .int x2), (3, .int (x3 + 1)), (4, .int x4), (5, .int x5)]) 92 3 [1, 2, 3, 0, 4, 5] rfl rfl rfl (by decide) rfl ?_
  exact c_Mo_flood_180 h0 hk89 hk98 x1 x2 (x3 + 1) x4 x5 S10
set_option maxRecDepth 10000 in
theorem c_Mo_flood_98b {X : iz_X} {l : Launch} {a0 : Nat} (h0 : iz_sh a0 = (10 + 3, 48)) {k89 : Int32 → Int32 → Int32 → Int32 → iz_S → Option iz_S} {k98 : Int32 → Int32 → Int32 → Int32 → Int32 → iz_S → Option iz_S} (hk89 : ∀ (x1 : Int32) (x2 : Int32) (x3 : Int32) (x4 : Int32) (S : iz_S), iz_Y X l RX10 tX10_flood 7 2 (iz_Kc X l yX10_flood cX10_flood 7 none 2 iz_eV) 89 [(0, .ref (X.1 a0)), (1, .int x1), (2, .int x2), (3, .int x3), (4, .int x4)] [] S (k89 x1 x2 x3 x4 S)) (hk98 : ∀ (x1 : Int32) (x2 : Int32) (x3 : Int32) (x4 : Int32) (x5 : Int32) (S : iz_S), iz_Y X l RX10 tX10_flood 7 2 (iz_Kc X l yX10_flood cX10_flood 7 none 2 iz_eV) 98 [(0, .ref (X.1 a0)), (1, .int x1), (2, .int x2), (3, .int x3), (4, .int x4), (5, .int x5)] [] S (k98 x1 x2 x3 x4 x5 S)) (x1 : Int32) (x2 : Int32) (x3 : Int32) (x4 : Int32) (x5 : Int32) (S : iz_S) : iz_Y X l RX10 tX10_flood 7 2 (iz_Kc X l yX10_flood cX10_flood 7 none 2 iz_eV) 98 [(0, .ref (X.1 a0)), (1, .int x1), (2, .int x2), (3, .int x3), (4, .int x4), (5, .int x5)] [] S (Mo_flood_98b a0 k89 k98 x1 x2 x3 x4 x5 S) := by
  unfold Mo_flood_98b
  refine iz_iload (n := 5) 51 5 rfl rfl ?_
  refine iz_iconst (v := 4) 52 (by decide) rfl ?_
  refine iz_cmp_ge (tgt := 186) 53 rfl (by decide) ?_ ?_
  · refine iz_iinc (v := (x4 + 1)) (ls2 := [(0, .ref (X.1 a0)), (1, .int x1), (2, .int x2), (3, .int x3), (4, .int (x4 + 1))]) 95 4 [1, 2, 3, 4, 0] rfl rfl rfl (by decide) rfl ?_
    refine iz_goto (tgt := 89) 96 (by decide) rfl ?_
    exact hk89 x1 x2 x3 (x4 + 1) S
  · refine iz_aload_n (n := 0) 54 0 rfl rfl ?_
    refine iz_getR 55 30 h0 fl_X10_86 rfl (by decide) (by decide) rfl ?_
    refine iz_iload (n := 4) 56 4 rfl rfl ?_
    refine iz_iald 57 (sf_10_30 h0) rfl ?_
    refine iz_iload (n := 5) 58 5 rfl rfl ?_
    refine iz_callSI (As := [.int (iz_g S (iz_rf a0 30) x4), .int x5]) (rest := []) 59 ml_X10_149 cw_X10_beside ci_X10_beside (fun r9 hr9 => m_Mo_beside  hr9) rfl (by decide) rfl rfl (Nat.le_of_ble_eq_true rfl) (fun r4 S3 => ?_)
    refine iz_istore (n := 6) (ls2 := [(0, .ref (X.1 a0)), (1, .int x1), (2, .int x2), (3, .int x3), (4, .int x4), (5, .int x5), (6, .int r4)]) 60 [1, 2, 3, 4, 5, 6, 0] rfl (by decide) rfl ?_
    refine iz_iload (n := 6) 61 6 rfl rfl ?_
    refine iz_if_lt (tgt := 180) 62 rfl (by decide) ?_ ?_
    · exact iz_sub [0, 1, 2, 3, 4, 5] rfl (c_Mo_flood_180 h0 hk89 hk98 x1 x2 x3 x4 x5 S3)
    · refine iz_aload_n (n := 0) 63 0 rfl rfl ?_
      refine iz_getR 64 29 h0 fl_X10_83 rfl (by decide) (by decide) rfl ?_
      refine iz_iload (n := 6) 65 6 rfl rfl ?_
      refine iz_bald 66 (sf_10_29 h0) rfl ?_
      refine iz_if_ne (tgt := 180) 67 rfl (by decide) ?_ ?_
      · exact iz_sub [0, 1, 2, 3, 4, 5] rfl (c_Mo_flood_180 h0 hk89 hk98 x1 x2 x3 x4 x5 S3)
      · refine iz_aload_n (n := 0) 68 0 rfl rfl ?_
        refine iz_getR 69 0 h0 fl_X10_7 rfl (by decide) (by decide) rfl ?_
        refine iz_iload (n := 6) 70 6 rfl rfl ?_
        refine iz_iald 71 (sf_10_0 h0) rfl ?_
        refine iz_gets 72 3 (by decide) sl_X10_135 rfl ?_
        refine iz_iload_n (n := 1) 73 1 rfl rfl ?_
        refine iz_tald 74 3 (by decide) rfl ?_
        refine iz_cmp_lt (tgt := 180) 75 rfl (by decide) ?_ ?_
        · exact iz_sub [0, 1, 2, 3, 4, 5] rfl (c_Mo_flood_180 h0 hk89 hk98 x1 x2 x3 x4 x5 S3)
        · refine iz_iload_n (n := 2) 76 2 rfl rfl ?_
          refine iz_if_lt (tgt := 161) 77 rfl (by decide) ?_ ?_
          · exact c_Mo_flood_161 h0 hk89 hk98 x1 x2 x3 x4 x5 r4 S3
          · refine iz_iload (n := 6) 78 6 rfl rfl ?_
            refine iz_iload_n (n := 2) 79 2 rfl rfl ?_
            refine iz_callSI (As := [.int r4, .int x2]) (rest := []) 80 ml_X10_145 cw_X10_isOf ci_X10_isOf (fun r9 hr9 => m_Mo_isOf  hr9) rfl (by decide) rfl rfl (Nat.le_of_ble_eq_true rfl) (fun r6 S5 => ?_)
            refine iz_if_ne (tgt := 180) 81 rfl (by decide) ?_ ?_
            · exact iz_sub [0, 1, 2, 3, 4, 5] rfl (c_Mo_flood_180 h0 hk89 hk98 x1 x2 x3 x4 x5 S5)
            · exact c_Mo_flood_161 h0 hk89 hk98 x1 x2 x3 x4 x5 r4 S5
theorem c_Mo_flood_98 {X : iz_X} {l : Launch} {a0 : Nat} (h0 : iz_sh a0 = (10 + 3, 48)) {k89 : Int32 → Int32 → Int32 → Int32 → iz_S → Option iz_S} (hk89 : ∀ (x1 : Int32) (x2 : Int32) (x3 : Int32) (x4 : Int32) (S : iz_S), iz_Y X l RX10 tX10_flood 7 2 (iz_Kc X l yX10_flood cX10_flood 7 none 2 iz_eV) 89 [(0, .ref (X.1 a0)), (1, .int x1), (2, .int x2), (3, .int x3), (4, .int x4)] [] S (k89 x1 x2 x3 x4 S)) : ∀ (n9 : Nat) (x1 : Int32) (x2 : Int32) (x3 : Int32) (x4 : Int32) (x5 : Int32) (S : iz_S), iz_Y X l RX10 tX10_flood 7 2 (iz_Kc X l yX10_flood cX10_flood 7 none 2 iz_eV) 98 [(0, .ref (X.1 a0)), (1, .int x1), (2, .int x2), (3, .int x3), (4, .int x4), (5, .int x5)] [] S (Mo_flood_98 a0 k89 n9 x1 x2 x3 x4 x5 S)
  | 0 => by
    intros
    exact iz_none
  | n9 + 1 => c_Mo_flood_98b h0 hk89 (c_Mo_flood_98 h0 hk89 n9)
set_option maxRecDepth 10000 in
theorem c_Mo_flood_89b {X : iz_X} {l : Launch} {a0 : Nat} (h0 : iz_sh a0 = (10 + 3, 48)) {k89 : Int32 → Int32 → Int32 → Int32 → iz_S → Option iz_S} (hk89 : ∀ (x1 : Int32) (x2 : Int32) (x3 : Int32) (x4 : Int32) (S : iz_S), iz_Y X l RX10 tX10_flood 7 2 (iz_Kc X l yX10_flood cX10_flood 7 none 2 iz_eV) 89 [(0, .ref (X.1 a0)), (1, .int x1), (2, .int x2), (3, .int x3), (4, .int x4)] [] S (k89 x1 x2 x3 x4 S)) (x1 : Int32) (x2 : Int32) (x3 : Int32) (x4 : Int32) (S : iz_S) : iz_Y X l RX10 tX10_flood 7 2 (iz_Kc X l yX10_flood cX10_flood 7 none 2 iz_eV) 89 [(0, .ref (X.1 a0)), (1, .int x1), (2, .int x2), (3, .int x3), (4, .int x4)] [] S (Mo_flood_89b a0 k89 x1 x2 x3 x4 S) := by
  unfold Mo_flood_89b
  refine iz_iload (n := 4) 46 4 rfl rfl ?_
  refine iz_iload_n (n := 3) 47 3 rfl rfl ?_
  refine iz_cmp_ge (tgt := 192) 48 rfl (by decide) ?_ ?_
  · exact iz_vret 97 rfl
  · refine iz_iconst (v := 0) 49 (by decide) rfl ?_
    refine iz_istore (n := 5) (ls2 := [(0, .ref (X.1 a0)), (1, .int x1), (2, .int x2), (3, .int x3), (4, .int x4), (5, .int 0)]) 50 [1, 2, 3, 4, 5, 0] rfl (by decide) rfl ?_
    exact c_Mo_flood_98 h0 hk89 iz_FU x1 x2 x3 x4 0 S
theorem c_Mo_flood_89 {X : iz_X} {l : Launch} {a0 : Nat} (h0 : iz_sh a0 = (10 + 3, 48)) : ∀ (n9 : Nat) (x1 : Int32) (x2 : Int32) (x3 : Int32) (x4 : Int32) (S : iz_S), iz_Y X l RX10 tX10_flood 7 2 (iz_Kc X l yX10_flood cX10_flood 7 none 2 iz_eV) 89 [(0, .ref (X.1 a0)), (1, .int x1), (2, .int x2), (3, .int x3), (4, .int x4)] [] S (Mo_flood_89 a0 n9 x1 x2 x3 x4 S)
  | 0 => by
    intros
    exact iz_none
  | n9 + 1 => c_Mo_flood_89b h0 (c_Mo_flood_89 h0 n9)
set_option maxRecDepth 10000 in
theorem c_Mo_flood_80 {X : iz_X} {l : Launch} {a0 : Nat} (h0 : iz_sh a0 = (10 + 3, 48)) {k5 : Int32 → Int32 → Int32 → Int32 → iz_S → Option iz_S} (hk5 : ∀ (x1 : Int32) (x2 : Int32) (x3 : Int32) (x4 : Int32) (S : iz_S), iz_Y X l RX10 tX10_flood 7 2 (iz_Kc X l yX10_flood cX10_flood 7 none 2 iz_eV) 5 [(0, .ref (X.1 a0)), (1, .int x1), (2, .int x2), (3, .int x3), (4, .int x4)] [] S (k5 x1 x2 x3 x4 S)) (x1 : Int32) (x2 : Int32) (x3 : Int32) (x4 : Int32) (S : iz_S) : iz_Y X l RX10 tX10_flood 7 2 (iz_Kc X l yX10_flood cX10_flood 7 none 2 iz_eV) 80 [(0, .ref (X.1 a0)), (1, .int x1), (2, .int x2), (3, .int x3), (4, .int x4)] [] S (Mo_flood_80 a0 k5 x1 x2 x3 x4 S) := by
  unfold Mo_flood_80
  refine iz_iinc (v := (x4 + 1)) (ls2 := [(0, .ref (X.1 a0)), (1, .int x1), (2, .int x2), (3, .int x3), (4, .int (x4 + 1))]) 42 4 [1, 2, 3, 4, 0] rfl rfl rfl (by decide) rfl ?_
  refine iz_goto (tgt := 5) 43 (by decide) rfl ?_
  exact hk5 x1 x2 x3 (x4 + 1) S
set_option maxRecDepth 10000 in
theorem c_Mo_flood_58 {X : iz_X} {l : Launch} {a0 : Nat} (h0 : iz_sh a0 = (10 + 3, 48)) {k5 : Int32 → Int32 → Int32 → Int32 → iz_S → Option iz_S} (hk5 : ∀ (x1 : Int32) (x2 : Int32) (x3 : Int32) (x4 : Int32) (S : iz_S), iz_Y X l RX10 tX10_flood 7 2 (iz_Kc X l yX10_flood cX10_flood 7 none 2 iz_eV) 5 [(0, .ref (X.1 a0)), (1, .int x1), (2, .int x2), (3, .int x3), (4, .int x4)] [] S (k5 x1 x2 x3 x4 S)) (x1 : Int32) (x2 : Int32) (x3 : Int32) (x4 : Int32) (s1 : Int32) (s2 : Int32) (S : iz_S) : iz_Y X l RX10 tX10_flood 7 2 (iz_Kc X l yX10_flood cX10_flood 7 none 2 iz_eV) 58 [(0, .ref (X.1 a0)), (1, .int x1), (2, .int x2), (3, .int x3), (4, .int x4)] [.int s2, .int s1, .ref (X.1 (iz_rf a0 29))] S (Mo_flood_58 a0 k5 x1 x2 x3 x4 s1 s2 S) := by
  unfold Mo_flood_58
  refine iz_bast 30 (sf_10_29 h0) rfl (fun S7 => ?_)
  refine iz_aload_n (n := 0) 31 0 rfl rfl ?_
  refine iz_getR 32 29 h0 fl_X10_83 rfl (by decide) (by decide) rfl ?_
  refine iz_iload (n := 4) 33 4 rfl rfl ?_
  refine iz_bald 34 (sf_10_29 h0) rfl ?_
  refine iz_if_eq (tgt := 80) 35 rfl (by decide) ?_ ?_
  · exact c_Mo_flood_80 h0 hk5 x1 x2 x3 x4 S7
  · refine iz_aload_n (n := 0) 36 0 rfl rfl ?_
    refine iz_getR 37 30 h0 fl_X10_86 rfl (by decide) (by decide) rfl ?_
    refine iz_iload_n (n := 3) 38 3 rfl rfl ?_
    refine iz_iload (n := 4) 39 4 rfl rfl ?_
    refine iz_iast 40 (sf_10_30 h0) rfl (fun S8 => ?_)
    refine iz_iinc (v := (x3 + 1)) (ls2 := [(0, .ref (X.1 a0)), (1, .int x1), (2, .int x2), (3, .int (x3 + 1)), (4, .int x4)]) 41 3 [1, 2, 3, 0, 4] rfl rfl rfl (by decide) rfl ?_
    exact c_Mo_flood_80 h0 hk5 x1 x2 (x3 + 1) x4 S8
set_option maxRecDepth 10000 in
theorem c_Mo_flood_57 {X : iz_X} {l : Launch} {a0 : Nat} (h0 : iz_sh a0 = (10 + 3, 48)) {k5 : Int32 → Int32 → Int32 → Int32 → iz_S → Option iz_S} (hk5 : ∀ (x1 : Int32) (x2 : Int32) (x3 : Int32) (x4 : Int32) (S : iz_S), iz_Y X l RX10 tX10_flood 7 2 (iz_Kc X l yX10_flood cX10_flood 7 none 2 iz_eV) 5 [(0, .ref (X.1 a0)), (1, .int x1), (2, .int x2), (3, .int x3), (4, .int x4)] [] S (k5 x1 x2 x3 x4 S)) (x1 : Int32) (x2 : Int32) (x3 : Int32) (x4 : Int32) (s1 : Int32) (S : iz_S) : iz_Y X l RX10 tX10_flood 7 2 (iz_Kc X l yX10_flood cX10_flood 7 none 2 iz_eV) 57 [(0, .ref (X.1 a0)), (1, .int x1), (2, .int x2), (3, .int x3), (4, .int x4)] [.int s1, .ref (X.1 (iz_rf a0 29))] S (Mo_flood_57 a0 k5 x1 x2 x3 x4 s1 S) := by
  unfold Mo_flood_57
  refine iz_iconst (v := 0) 29 (by decide) rfl ?_
  exact c_Mo_flood_58 h0 hk5 x1 x2 x3 x4 s1 0 S
set_option maxRecDepth 10000 in
theorem c_Mo_flood_53 {X : iz_X} {l : Launch} {a0 : Nat} (h0 : iz_sh a0 = (10 + 3, 48)) {k5 : Int32 → Int32 → Int32 → Int32 → iz_S → Option iz_S} (hk5 : ∀ (x1 : Int32) (x2 : Int32) (x3 : Int32) (x4 : Int32) (S : iz_S), iz_Y X l RX10 tX10_flood 7 2 (iz_Kc X l yX10_flood cX10_flood 7 none 2 iz_eV) 5 [(0, .ref (X.1 a0)), (1, .int x1), (2, .int x2), (3, .int x3), (4, .int x4)] [] S (k5 x1 x2 x3 x4 S)) (x1 : Int32) (x2 : Int32) (x3 : Int32) (x4 : Int32) (s1 : Int32) (S : iz_S) : iz_Y X l RX10 tX10_flood 7 2 (iz_Kc X l yX10_flood cX10_flood 7 none 2 iz_eV) 53 [(0, .ref (X.1 a0)), (1, .int x1), (2, .int x2), (3, .int x3), (4, .int x4)] [.int s1, .ref (X.1 (iz_rf a0 29))] S (Mo_flood_53 a0 k5 x1 x2 x3 x4 s1 S) := by
  unfold Mo_flood_53
  refine iz_iconst (v := 1) 27 (by decide) rfl ?_
  refine iz_goto (tgt := 58) 28 (by decide) rfl ?_
  exact c_Mo_flood_58 h0 hk5 x1 x2 x3 x4 s1 1 S
set_option maxRecDepth 10000 in
theorem c_Mo_flood_5b {X : iz_X} {l : Launch} {a0 : Nat} (h0 : iz_sh a0 = (10 + 3, 48)) {k5 : Int32 → Int32 → Int32 → Int32 → iz_S → Option iz_S} (hk5 : ∀ (x1 : Int32) (x2 : Int32) (x3 : Int32) (x4 : Int32) (S : iz_S), iz_Y X l RX10 tX10_flood 7 2 (iz_Kc X l yX10_flood cX10_flood 7 none 2 iz_eV) 5 [(0, .ref (X.1 a0)), (1, .int x1), (2, .int x2), (3, .int x3), (4, .int x4)] [] S (k5 x1 x2 x3 x4 S)) (x1 : Int32) (x2 : Int32) (x3 : Int32) (x4 : Int32) (S : iz_S) : iz_Y X l RX10 tX10_flood 7 2 (iz_Kc X l yX10_flood cX10_flood 7 none 2 iz_eV) 5 [(0, .ref (X.1 a0)), (1, .int x1), (2, .int x2), (3, .int x3), (4, .int x4)] [] S (Mo_flood_5b a0 k5 x1 x2 x3 x4 S) := by
  unfold Mo_flood_5b
  refine iz_iload (n := 4) 4 4 rfl rfl ?_
  refine iz_bipush (v := 64) 5 (by decide) rfl ?_
  refine iz_cmp_ge (tgt := 86) 6 rfl (by decide) ?_ ?_
  · refine iz_iconst (v := 0) 44 (by decide) rfl ?_
    refine iz_istore (n := 4) (ls2 := [(0, .ref (X.1 a0)), (1, .int x1), (2, .int x2), (3, .int x3), (4, .int 0)]) 45 [1, 2, 3, 4, 0] rfl (by decide) rfl ?_
    exact c_Mo_flood_89 h0 iz_FU x1 x2 x3 0 S
  · refine iz_aload_n (n := 0) 7 0 rfl rfl ?_
    refine iz_getR 8 29 h0 fl_X10_83 rfl (by decide) (by decide) rfl ?_
    refine iz_iload (n := 4) 9 4 rfl rfl ?_
    refine iz_iload (n := 4) 10 4 rfl rfl ?_
    refine iz_bipush (v := 8) 11 (by decide) rfl ?_
    refine iz_cmp_ge (tgt := 57) 12 rfl (by decide) ?_ ?_
    · exact c_Mo_flood_57 h0 hk5 x1 x2 x3 x4 x4 S
    · refine iz_aload_n (n := 0) 13 0 rfl rfl ?_
      refine iz_getR 14 0 h0 fl_X10_7 rfl (by decide) (by decide) rfl ?_
      refine iz_iload (n := 4) 15 4 rfl rfl ?_
      refine iz_iald 16 (sf_10_0 h0) rfl ?_
      refine iz_gets 17 3 (by decide) sl_X10_135 rfl ?_
      refine iz_iload_n (n := 1) 18 1 rfl rfl ?_
      refine iz_tald 19 3 (by decide) rfl ?_
      refine iz_cmp_lt (tgt := 57) 20 rfl (by decide) ?_ ?_
      · exact c_Mo_flood_57 h0 hk5 x1 x2 x3 x4 x4 S
      · refine iz_iload_n (n := 2) 21 2 rfl rfl ?_
        refine iz_if_lt (tgt := 53) 22 rfl (by decide) ?_ ?_
        · exact c_Mo_flood_53 h0 hk5 x1 x2 x3 x4 x4 S
        · refine iz_iload (n := 4) 23 4 rfl rfl ?_
          refine iz_iload_n (n := 2) 24 2 rfl rfl ?_
          refine iz_callSI (As := [.int x4, .int x2]) (rest := [.int x4, .ref (X.1 (iz_rf a0 29))]) 25 ml_X10_145 cw_X10_isOf ci_X10_isOf (fun r9 hr9 => m_Mo_isOf  hr9) rfl (by decide) rfl rfl (Nat.le_of_ble_eq_true rfl) (fun r2 S1 => ?_)
          refine iz_if_ne (tgt := 57) 26 rfl (by decide) ?_ ?_
          · exact c_Mo_flood_57 h0 hk5 x1 x2 x3 x4 x4 S1
          · exact c_Mo_flood_53 h0 hk5 x1 x2 x3 x4 x4 S1
theorem c_Mo_flood_5 {X : iz_X} {l : Launch} {a0 : Nat} (h0 : iz_sh a0 = (10 + 3, 48)) : ∀ (n9 : Nat) (x1 : Int32) (x2 : Int32) (x3 : Int32) (x4 : Int32) (S : iz_S), iz_Y X l RX10 tX10_flood 7 2 (iz_Kc X l yX10_flood cX10_flood 7 none 2 iz_eV) 5 [(0, .ref (X.1 a0)), (1, .int x1), (2, .int x2), (3, .int x3), (4, .int x4)] [] S (Mo_flood_5 a0 n9 x1 x2 x3 x4 S)
  | 0 => by
    intros
    exact iz_none
  | n9 + 1 => c_Mo_flood_5b h0 (c_Mo_flood_5 h0 n9)
set_option maxRecDepth 10000 in
theorem c_Mo_flood {X : iz_X} {l : Launch} {a0 : Nat} (h0 : iz_sh a0 = (10 + 3, 48)) (x1 : Int32) (x2 : Int32) (S : iz_S) : iz_Y X l RX10 tX10_flood 7 2 (iz_Kc X l yX10_flood cX10_flood 7 none 2 iz_eV) 0 [(0, .ref (X.1 a0)), (1, .int x1), (2, .int x2)] [] S (Mo_flood a0 x1 x2 S) := by
  unfold Mo_flood
  refine iz_iconst (v := 0) 0 (by decide) rfl ?_
  refine iz_istore_n (n := 3) (ls2 := [(0, .ref (X.1 a0)), (1, .int x1), (2, .int x2), (3, .int 0)]) 1 [1, 2, 3, 0] rfl (by decide) rfl ?_
  refine iz_iconst (v := 0) 2 (by decide) rfl ?_
  refine iz_istore (n := 4) (ls2 := [(0, .ref (X.1 a0)), (1, .int x1), (2, .int x2), (3, .int 0), (4, .int 0)]) 3 [1, 2, 3, 4, 0] rfl (by decide) rfl ?_
  exact c_Mo_flood_5 h0 iz_FU x1 x2 0 0 S
theorem m_Mo_flood {X : iz_X} {l : Launch} {a0 : Nat} (h0 : iz_sh a0 = (10 + 3, 48)) {x1 : Int32} {x2 : Int32} {S : iz_S} {r9 : iz_S} (hr : Mo_flood a0 x1 x2 S = some r9) : iz_Mt X l 2 yX10_flood cX10_flood 7 none [.ref (X.1 a0), .int x1, .int x2] S (iz_eV r9) :=
  iz_Mt_of (dt := tX10_flood) dX10_flood (by decide) hr (Nat.le_of_ble_eq_true rfl) (c_Mo_flood h0 x1 x2 S)
def Mo_reached_46 (a0 : Nat) (k25 : Int32 → Int32 → iz_S → Option (Int32 × iz_S)) (x3 : Int32) (s0 : Int32) (s1 : Int32) (S : iz_S) : Option (Int32 × iz_S) :=
  iz_lt (s0 + s1) (fun v6 =>
  (k25 v6 (x3 + 1) S))
def Mo_reached_25b (a0 : Nat) (k25 : Int32 → Int32 → iz_S → Option (Int32 × iz_S)) (x2 : Int32) (x3 : Int32) (S : iz_S) : Option (Int32 × iz_S) :=
  (if x3 < 64 then
    (iz_ck (iz_in x3 64) (
    if (iz_g S (iz_rf a0 29) x3) = 0 then
      (Mo_reached_46 a0 k25 x3 x2 0 S)
    else
      (Mo_reached_46 a0 k25 x3 x2 1 S)))
  else
    some (x2, S))
def Mo_reached_25 (a0 : Nat) : Nat → Int32 → Int32 → iz_S → Option (Int32 × iz_S)
  | 0 => fun _ _ _ => none
  | n9 + 1 => Mo_reached_25b a0 (Mo_reached_25 a0 n9)
def Mo_reached (a0 : Nat) (x1 : Int32) (S : iz_S) : Option (Int32 × iz_S) :=
  (iz_bI (Mo_isIn x1 0 2 S) (fun r2 S1 =>
  if r2 = 0 then
    iz_bI (Mo_finding a0 1 S1) (fun r5 S4 =>
    some (r5, S4))
  else
    iz_bV (Mo_flood a0 x1 (-1) S1) (fun S3 =>
    (Mo_reached_25 a0 iz_FU 0 0 S3))))
set_option maxRecDepth 10000 in
theorem c_Mo_reached_46 {X : iz_X} {l : Launch} {a0 : Nat} (h0 : iz_sh a0 = (10 + 3, 48)) {k25 : Int32 → Int32 → iz_S → Option (Int32 × iz_S)} (hk25 : ∀ (x2 : Int32) (x3 : Int32) (S : iz_S), iz_Y X l RX10 tX10_reached 4 3 (iz_Kc X l yX10_reached cX10_reached 4 (some .int) 3 iz_eI) 25 [(0, .ref (X.1 a0)), (2, .int x2), (3, .int x3)] [] S (k25 x2 x3 S)) (x3 : Int32) (s0 : Int32) (s1 : Int32) (S : iz_S) : iz_Y X l RX10 tX10_reached 4 3 (iz_Kc X l yX10_reached cX10_reached 4 (some .int) 3 iz_eI) 46 [(0, .ref (X.1 a0)), (3, .int x3)] [.int s1, .int s0] S (Mo_reached_46 a0 k25 x3 s0 s1 S) := by
  unfold Mo_reached_46
  refine iz_iadd 29 rfl ?_
  refine iz_let (fun v6 => ?_)
  refine iz_istore_n (n := 2) (ls2 := [(0, .ref (X.1 a0)), (2, .int v6), (3, .int x3)]) 30 [1, 0, 2] rfl (by decide) rfl ?_
  refine iz_iinc (v := (x3 + 1)) (ls2 := [(0, .ref (X.1 a0)), (2, .int v6), (3, .int (x3 + 1))]) 31 2 [1, 2, 0] rfl rfl rfl (by decide) rfl ?_
  refine iz_goto (tgt := 25) 32 (by decide) rfl ?_
  exact hk25 v6 (x3 + 1) S
set_option maxRecDepth 10000 in
theorem c_Mo_reached_25b {X : iz_X} {l : Launch} {a0 : Nat} (h0 : iz_sh a0 = (10 + 3, 48)) {k25 : Int32 → Int32 → iz_S → Option (Int32 × iz_S)} (hk25 : ∀ (x2 : Int32) (x3 : Int32) (S : iz_S), iz_Y X l RX10 tX10_reached 4 3 (iz_Kc X l yX10_reached cX10_reached 4 (some .int) 3 iz_eI) 25 [(0, .ref (X.1 a0)), (2, .int x2), (3, .int x3)] [] S (k25 x2 x3 S)) (x2 : Int32) (x3 : Int32) (S : iz_S) : iz_Y X l RX10 tX10_reached 4 3 (iz_Kc X l yX10_reached cX10_reached 4 (some .int) 3 iz_eI) 25 [(0, .ref (X.1 a0)), (2, .int x2), (3, .int x3)] [] S (Mo_reached_25b a0 k25 x2 x3 S) := by
  unfold Mo_reached_25b
  refine iz_iload_n (n := 3) 17 2 rfl rfl ?_
  refine iz_bipush (v := 64) 18 (by decide) rfl ?_
  refine iz_cmp_ge (tgt := 54) 19 rfl (by decide) ?_ ?_
  · refine iz_iload_n (n := 2) 33 1 rfl rfl ?_
    exact iz_iret 34 rfl
  · refine iz_iload_n (n := 2) 20 1 rfl rfl ?_
    refine iz_aload_n (n := 0) 21 0 rfl rfl ?_
    refine iz_getR 22 29 h0 fl_X10_83 rfl (by decide) (by decide) rfl ?_
    refine iz_iload_n (n := 3) 23 2 rfl rfl ?_
    refine iz_bald 24 (sf_10_29 h0) rfl ?_
    refine iz_if_eq (tgt := 45) 25 rfl (by decide) ?_ ?_
    · refine iz_iconst (v := 0) 28 (by decide) rfl ?_
      exact iz_sub [0, 2] rfl (c_Mo_reached_46 h0 hk25 x3 x2 0 S)
    · refine iz_iconst (v := 1) 26 (by decide) rfl ?_
      refine iz_goto (tgt := 46) 27 (by decide) rfl ?_
      exact iz_sub [0, 2] rfl (c_Mo_reached_46 h0 hk25 x3 x2 1 S)
theorem c_Mo_reached_25 {X : iz_X} {l : Launch} {a0 : Nat} (h0 : iz_sh a0 = (10 + 3, 48)) : ∀ (n9 : Nat) (x2 : Int32) (x3 : Int32) (S : iz_S), iz_Y X l RX10 tX10_reached 4 3 (iz_Kc X l yX10_reached cX10_reached 4 (some .int) 3 iz_eI) 25 [(0, .ref (X.1 a0)), (2, .int x2), (3, .int x3)] [] S (Mo_reached_25 a0 n9 x2 x3 S)
  | 0 => by
    intros
    exact iz_none
  | n9 + 1 => c_Mo_reached_25b h0 (c_Mo_reached_25 h0 n9)
set_option maxRecDepth 10000 in
theorem c_Mo_reached {X : iz_X} {l : Launch} {a0 : Nat} (h0 : iz_sh a0 = (10 + 3, 48)) (x1 : Int32) (S : iz_S) : iz_Y X l RX10 tX10_reached 4 3 (iz_Kc X l yX10_reached cX10_reached 4 (some .int) 3 iz_eI) 0 [(0, .ref (X.1 a0)), (1, .int x1)] [] S (Mo_reached a0 x1 S) := by
  unfold Mo_reached
  refine iz_iload_n (n := 1) 0 1 rfl rfl ?_
  refine iz_iconst (v := 0) 1 (by decide) rfl ?_
  refine iz_iconst (v := 2) 2 (by decide) rfl ?_
  refine iz_callSI (As := [.int x1, .int 0, .int 2]) (rest := []) 3 ml_X10_123 cw_X10_isIn ci_X10_isIn (fun r9 hr9 => m_Mo_isIn  hr9) rfl (by decide) rfl rfl (Nat.le_of_ble_eq_true rfl) (fun r2 S1 => ?_)
  refine iz_if_ne (tgt := 15) 4 rfl (by decide) ?_ ?_
  · refine iz_aload_n (n := 0) 9 0 rfl rfl ?_
    refine iz_iload_n (n := 1) 10 1 rfl rfl ?_
    refine iz_iconst (v := (-1)) 11 (by decide) rfl ?_
    refine iz_callVV (As := [.int x1, .int (-1)]) (rest := []) 12 ml_X10_153 cw_X10_flood ci_X10_flood h0 (fun r9 hr9 => m_Mo_flood h0 hr9) rfl (by decide) (by decide) rfl rfl (Nat.le_of_ble_eq_true rfl) (fun S3 => ?_)
    refine iz_iconst (v := 0) 13 (by decide) rfl ?_
    refine iz_istore_n (n := 2) (ls2 := [(0, .ref (X.1 a0)), (2, .int 0)]) 14 [1, 0] rfl (by decide) rfl ?_
    refine iz_iconst (v := 0) 15 (by decide) rfl ?_
    refine iz_istore_n (n := 3) (ls2 := [(0, .ref (X.1 a0)), (2, .int 0), (3, .int 0)]) 16 [1, 2, 0] rfl (by decide) rfl ?_
    exact c_Mo_reached_25 h0 iz_FU 0 0 S3
  · refine iz_aload_n (n := 0) 5 0 rfl rfl ?_
    refine iz_iconst (v := 1) 6 (by decide) rfl ?_
    refine iz_callVI (As := [.int 1]) (rest := []) 7 ml_X10_127 cw_X10_finding ci_X10_finding h0 (fun r9 hr9 => m_Mo_finding h0 hr9) rfl (by decide) (by decide) rfl rfl (Nat.le_of_ble_eq_true rfl) (fun r5 S4 => ?_)
    exact iz_iret 8 rfl
theorem m_Mo_reached {X : iz_X} {l : Launch} {a0 : Nat} (h0 : iz_sh a0 = (10 + 3, 48)) {x1 : Int32} {S : iz_S} {r9 : Int32 × iz_S} (hr : Mo_reached a0 x1 S = some r9) : iz_Mt X l 3 yX10_reached cX10_reached 4 (some .int) [.ref (X.1 a0), .int x1] S (iz_eI r9) :=
  iz_Mt_of (dt := tX10_reached) dX10_reached (by decide) hr (Nat.le_of_ble_eq_true rfl) (c_Mo_reached h0 x1 S)
def Mo_reach_16 (a0 : Nat) (S : iz_S) : Option (Int32 × iz_S) :=
  iz_bI (Mo_finding a0 1 S) (fun r7 S6 =>
  some (r7, S6))
def Mo_reach_42 (a0 : Nat) (s0 : Int32) (S : iz_S) : Option (Int32 × iz_S) :=
  some (s0, S)
def Mo_reach (a0 : Nat) (x1 : Int32) (x2 : Int32) (S : iz_S) : Option (Int32 × iz_S) :=
  (iz_bI (Mo_isCell x1 S) (fun r2 S1 =>
  if r2 = 0 then
    (Mo_reach_16 a0 S1)
  else
    (iz_bI (Mo_isIn x2 0 2 S1) (fun r4 S3 =>
    if r4 = 0 then
      (Mo_reach_16 a0 S3)
    else
      (iz_bV (Mo_flood a0 x2 (-1) S3) (fun S5 =>
      iz_ck (iz_in x1 64) (
      if (iz_g S5 (iz_rf a0 29) x1) = 0 then
        (Mo_reach_42 a0 0 S5)
      else
        (Mo_reach_42 a0 1 S5))))))))
set_option maxRecDepth 10000 in
theorem c_Mo_reach_16 {X : iz_X} {l : Launch} {a0 : Nat} (h0 : iz_sh a0 = (10 + 3, 48)) (S : iz_S) : iz_Y X l RX10 tX10_reach 3 3 (iz_Kc X l yX10_reach cX10_reach 3 (some .int) 3 iz_eI) 16 [(0, .ref (X.1 a0))] [] S (Mo_reach_16 a0 S) := by
  unfold Mo_reach_16
  refine iz_aload_n (n := 0) 8 0 rfl rfl ?_
  refine iz_iconst (v := 1) 9 (by decide) rfl ?_
  refine iz_callVI (As := [.int 1]) (rest := []) 10 ml_X10_127 cw_X10_finding ci_X10_finding h0 (fun r9 hr9 => m_Mo_finding h0 hr9) rfl (by decide) (by decide) rfl rfl (Nat.le_of_ble_eq_true rfl) (fun r7 S6 => ?_)
  exact iz_iret 11 rfl
set_option maxRecDepth 10000 in
theorem c_Mo_reach_42 {X : iz_X} {l : Launch} {a0 : Nat} (h0 : iz_sh a0 = (10 + 3, 48)) (s0 : Int32) (S : iz_S) : iz_Y X l RX10 tX10_reach 3 3 (iz_Kc X l yX10_reach cX10_reach 3 (some .int) 3 iz_eI) 42 [] [.int s0] S (Mo_reach_42 a0 s0 S) := by
  unfold Mo_reach_42
  exact iz_iret 24 rfl
set_option maxRecDepth 10000 in
theorem c_Mo_reach {X : iz_X} {l : Launch} {a0 : Nat} (h0 : iz_sh a0 = (10 + 3, 48)) (x1 : Int32) (x2 : Int32) (S : iz_S) : iz_Y X l RX10 tX10_reach 3 3 (iz_Kc X l yX10_reach cX10_reach 3 (some .int) 3 iz_eI) 0 [(0, .ref (X.1 a0)), (1, .int x1), (2, .int x2)] [] S (Mo_reach a0 x1 x2 S) := by
  unfold Mo_reach
  refine iz_iload_n (n := 1) 0 1 rfl rfl ?_
  refine iz_callSI (As := [.int x1]) (rest := []) 1 ml_X10_141 cw_X10_isCell ci_X10_isCell (fun r9 hr9 => m_Mo_isCell  hr9) rfl (by decide) rfl rfl (Nat.le_of_ble_eq_true rfl) (fun r2 S1 => ?_)
  refine iz_if_eq (tgt := 16) 2 rfl (by decide) ?_ ?_
  · exact iz_sub [0] rfl (c_Mo_reach_16 h0 S1)
  · refine iz_iload_n (n := 2) 3 2 rfl rfl ?_
    refine iz_iconst (v := 0) 4 (by decide) rfl ?_
    refine iz_iconst (v := 2) 5 (by decide) rfl ?_
    refine iz_callSI (As := [.int x2, .int 0, .int 2]) (rest := []) 6 ml_X10_123 cw_X10_isIn ci_X10_isIn (fun r9 hr9 => m_Mo_isIn  hr9) rfl (by decide) rfl rfl (Nat.le_of_ble_eq_true rfl) (fun r4 S3 => ?_)
    refine iz_if_ne (tgt := 22) 7 rfl (by decide) ?_ ?_
    · refine iz_aload_n (n := 0) 12 0 rfl rfl ?_
      refine iz_iload_n (n := 2) 13 2 rfl rfl ?_
      refine iz_iconst (v := (-1)) 14 (by decide) rfl ?_
      refine iz_callVV (As := [.int x2, .int (-1)]) (rest := []) 15 ml_X10_153 cw_X10_flood ci_X10_flood h0 (fun r9 hr9 => m_Mo_flood h0 hr9) rfl (by decide) (by decide) rfl rfl (Nat.le_of_ble_eq_true rfl) (fun S5 => ?_)
      refine iz_aload_n (n := 0) 16 0 rfl rfl ?_
      refine iz_getR 17 29 h0 fl_X10_83 rfl (by decide) (by decide) rfl ?_
      refine iz_iload_n (n := 1) 18 1 rfl rfl ?_
      refine iz_bald 19 (sf_10_29 h0) rfl ?_
      refine iz_if_eq (tgt := 41) 20 rfl (by decide) ?_ ?_
      · refine iz_iconst (v := 0) 23 (by decide) rfl ?_
        exact iz_sub [] rfl (c_Mo_reach_42 h0 0 S5)
      · refine iz_iconst (v := 1) 21 (by decide) rfl ?_
        refine iz_goto (tgt := 42) 22 (by decide) rfl ?_
        exact iz_sub [] rfl (c_Mo_reach_42 h0 1 S5)
    · exact iz_sub [0] rfl (c_Mo_reach_16 h0 S3)
theorem m_Mo_reach {X : iz_X} {l : Launch} {a0 : Nat} (h0 : iz_sh a0 = (10 + 3, 48)) {x1 : Int32} {x2 : Int32} {S : iz_S} {r9 : Int32 × iz_S} (hr : Mo_reach a0 x1 x2 S = some r9) : iz_Mt X l 3 yX10_reach cX10_reach 3 (some .int) [.ref (X.1 a0), .int x1, .int x2] S (iz_eI r9) :=
  iz_Mt_of (dt := tX10_reach) dX10_reach (by decide) hr (Nat.le_of_ble_eq_true rfl) (c_Mo_reach h0 x1 x2 S)
def Mo_isSquare_30 (s0 : Int32) (S : iz_S) : Option (Int32 × iz_S) :=
  iz_ck (decide (iz_nb s0 = s0)) (some (s0, S))
def Mo_isSquare_29 (S : iz_S) : Option (Int32 × iz_S) :=
  (Mo_isSquare_30 0 S)
def Mo_isSquare (x0 : Int32) (S : iz_S) : Option (Int32 × iz_S) :=
  (iz_bI (Mo_isCell x0 S) (fun r2 S1 =>
  if r2 = 0 then
    (Mo_isSquare_29 S1)
  else
    (if (x0 / 8) < 7 then
      (if (x0 - x0 / 8 * 8) < 7 then
        (Mo_isSquare_30 1 S1)
      else
        (Mo_isSquare_29 S1))
    else
      (Mo_isSquare_29 S1))))
set_option maxRecDepth 10000 in
theorem c_Mo_isSquare_30 {X : iz_X} {l : Launch} (s0 : Int32) (S : iz_S) : iz_Y X l RX10 tX10_isSquare 1 2 (iz_Kc X l yX10_isSquare cX10_isSquare 1 (some .boolean) 2 iz_eI) 30 [] [.int s0] S (Mo_isSquare_30 s0 S) := by
  unfold Mo_isSquare_30
  exact iz_zret 16 rfl
set_option maxRecDepth 10000 in
theorem c_Mo_isSquare_29 {X : iz_X} {l : Launch} (S : iz_S) : iz_Y X l RX10 tX10_isSquare 1 2 (iz_Kc X l yX10_isSquare cX10_isSquare 1 (some .boolean) 2 iz_eI) 29 [] [] S (Mo_isSquare_29 S) := by
  unfold Mo_isSquare_29
  refine iz_iconst (v := 0) 15 (by decide) rfl ?_
  exact c_Mo_isSquare_30 0 S
set_option maxRecDepth 10000 in
theorem c_Mo_isSquare {X : iz_X} {l : Launch} (x0 : Int32) (S : iz_S) : iz_Y X l RX10 tX10_isSquare 1 2 (iz_Kc X l yX10_isSquare cX10_isSquare 1 (some .boolean) 2 iz_eI) 0 [(0, .int x0)] [] S (Mo_isSquare x0 S) := by
  unfold Mo_isSquare
  refine iz_iload_n (n := 0) 0 0 rfl rfl ?_
  refine iz_callSI (As := [.int x0]) (rest := []) 1 ml_X10_141 cw_X10_isCell ci_X10_isCell (fun r9 hr9 => m_Mo_isCell  hr9) rfl (by decide) rfl rfl (Nat.le_of_ble_eq_true rfl) (fun r2 S1 => ?_)
  refine iz_if_eq (tgt := 29) 2 rfl (by decide) ?_ ?_
  · exact iz_sub [] rfl (c_Mo_isSquare_29 S1)
  · refine iz_iload_n (n := 0) 3 0 rfl rfl ?_
    refine iz_bipush (v := 8) 4 (by decide) rfl ?_
    refine iz_idiv 5 (by decide) rfl ?_
    refine iz_bipush (v := 7) 6 (by decide) rfl ?_
    refine iz_cmp_ge (tgt := 29) 7 rfl (by decide) ?_ ?_
    · exact iz_sub [] rfl (c_Mo_isSquare_29 S1)
    · refine iz_iload_n (n := 0) 8 0 rfl rfl ?_
      refine iz_bipush (v := 8) 9 (by decide) rfl ?_
      refine iz_irem 10 (by decide) rfl ?_
      refine iz_bipush (v := 7) 11 (by decide) rfl ?_
      refine iz_cmp_ge (tgt := 29) 12 rfl (by decide) ?_ ?_
      · exact iz_sub [] rfl (c_Mo_isSquare_29 S1)
      · refine iz_iconst (v := 1) 13 (by decide) rfl ?_
        refine iz_goto (tgt := 30) 14 (by decide) rfl ?_
        exact iz_sub [] rfl (c_Mo_isSquare_30 1 S1)
theorem m_Mo_isSquare {X : iz_X} {l : Launch} {x0 : Int32} {S : iz_S} {r9 : Int32 × iz_S} (hr : Mo_isSquare x0 S = some r9) : iz_Mt X l 2 yX10_isSquare cX10_isSquare 1 (some .boolean) [.int x0] S (iz_eI r9) :=
  iz_Mt_of (dt := tX10_isSquare) dX10_isSquare (by decide) hr (Nat.le_of_ble_eq_true rfl) (c_Mo_isSquare x0 S)
def Mo_barOf_94 (a0 : Nat) (k43 : Int32 → Int32 → iz_S → Option (Int32 × iz_S)) (x1 : Int32) (x2 : Int32) (S : iz_S) : Option (Int32 × iz_S) :=
  (k43 x1 (x2 + 1) S)
def Mo_barOf_88 (a0 : Nat) (k43 : Int32 → Int32 → iz_S → Option (Int32 × iz_S)) (k51 : Int32 → Int32 → Int32 → iz_S → Option (Int32 × iz_S)) (x1 : Int32) (x2 : Int32) (x3 : Int32) (S : iz_S) : Option (Int32 × iz_S) :=
  (k51 x1 x2 (x3 + 1) S)
def Mo_barOf_51b (a0 : Nat) (k43 : Int32 → Int32 → iz_S → Option (Int32 × iz_S)) (k51 : Int32 → Int32 → Int32 → iz_S → Option (Int32 × iz_S)) (x1 : Int32) (x2 : Int32) (x3 : Int32) (S : iz_S) : Option (Int32 × iz_S) :=
  (if x3 < 4 then
    (iz_bI (Mo_isOf x2 x1 S) (fun r5 S4 =>
    if r5 = 0 then
      (Mo_barOf_94 a0 k43 x1 x2 S4)
    else
      (iz_bI (Mo_beside x2 x3 S4) (fun r7 S6 =>
      if r7 < 0 then
        (Mo_barOf_88 a0 k43 k51 x1 x2 x3 S6)
      else
        (iz_ck (iz_in r7 64) (
        if (iz_g S6 (iz_rf a0 29) r7) = 0 then
          (Mo_barOf_88 a0 k43 k51 x1 x2 x3 S6)
        else
          some (0, S6)))))))
  else
    (Mo_barOf_94 a0 k43 x1 x2 S))
def Mo_barOf_51 (a0 : Nat) (k43 : Int32 → Int32 → iz_S → Option (Int32 × iz_S)) : Nat → Int32 → Int32 → Int32 → iz_S → Option (Int32 × iz_S)
  | 0 => fun _ _ _ _ => none
  | n9 + 1 => Mo_barOf_51b a0 k43 (Mo_barOf_51 a0 k43 n9)
def Mo_barOf_43b (a0 : Nat) (k43 : Int32 → Int32 → iz_S → Option (Int32 × iz_S)) (x1 : Int32) (x2 : Int32) (S : iz_S) : Option (Int32 × iz_S) :=
  (if x2 < 64 then
    (Mo_barOf_51 a0 k43 iz_FU x1 x2 0 S)
  else
    some (2, S))
def Mo_barOf_43 (a0 : Nat) : Nat → Int32 → Int32 → iz_S → Option (Int32 × iz_S)
  | 0 => fun _ _ _ => none
  | n9 + 1 => Mo_barOf_43b a0 (Mo_barOf_43 a0 n9)
def Mo_barOf_29 (a0 : Nat) (k2 : Int32 → Int32 → iz_S → Option (Int32 × iz_S)) (x1 : Int32) (x2 : Int32) (S : iz_S) : Option (Int32 × iz_S) :=
  (k2 x1 (x2 + 1) S)
def Mo_barOf_2b (a0 : Nat) (k2 : Int32 → Int32 → iz_S → Option (Int32 × iz_S)) (x1 : Int32) (x2 : Int32) (S : iz_S) : Option (Int32 × iz_S) :=
  (if x2 < 64 then
    (iz_bI (Mo_isOf x2 x1 S) (fun r3 S2 =>
    if r3 = 0 then
      (Mo_barOf_29 a0 k2 x1 x2 S2)
    else
      (iz_ck (iz_in x2 64) (
      if (iz_g S2 (iz_rf a0 0) x2) < 8 then
        some (1, S2)
      else
        (Mo_barOf_29 a0 k2 x1 x2 S2)))))
  else
    iz_bV (Mo_flood a0 1 x1 S) (fun S1 =>
    (Mo_barOf_43 a0 iz_FU x1 0 S1)))
def Mo_barOf_2 (a0 : Nat) : Nat → Int32 → Int32 → iz_S → Option (Int32 × iz_S)
  | 0 => fun _ _ _ => none
  | n9 + 1 => Mo_barOf_2b a0 (Mo_barOf_2 a0 n9)
def Mo_barOf (a0 : Nat) (x1 : Int32) (S : iz_S) : Option (Int32 × iz_S) :=
  (Mo_barOf_2 a0 iz_FU x1 0 S)
set_option maxRecDepth 10000 in
theorem c_Mo_barOf_94 {X : iz_X} {l : Launch} {a0 : Nat} (h0 : iz_sh a0 = (10 + 3, 48)) {k43 : Int32 → Int32 → iz_S → Option (Int32 × iz_S)} (hk43 : ∀ (x1 : Int32) (x2 : Int32) (S : iz_S), iz_Y X l RX10 tX10_barOf 5 3 (iz_Kc X l yX10_barOf cX10_barOf 5 (some .int) 3 iz_eI) 43 [(0, .ref (X.1 a0)), (1, .int x1), (2, .int x2)] [] S (k43 x1 x2 S)) (x1 : Int32) (x2 : Int32) (S : iz_S) : iz_Y X l RX10 tX10_barOf 5 3 (iz_Kc X l yX10_barOf cX10_barOf 5 (some .int) 3 iz_eI) 94 [(0, .ref (X.1 a0)), (1, .int x1), (2, .int x2)] [] S (Mo_barOf_94 a0 k43 x1 x2 S) := by
  unfold Mo_barOf_94
  refine iz_iinc (v := (x2 + 1)) (ls2 := [(0, .ref (X.1 a0)), (1, .int x1), (2, .int (x2 + 1))]) 52 2 [1, 2, 0] rfl rfl rfl (by decide) rfl ?_
  refine iz_goto (tgt := 43) 53 (by decide) rfl ?_
  exact hk43 x1 (x2 + 1) S
set_option maxRecDepth 10000 in
theorem c_Mo_barOf_88 {X : iz_X} {l : Launch} {a0 : Nat} (h0 : iz_sh a0 = (10 + 3, 48)) {k43 : Int32 → Int32 → iz_S → Option (Int32 × iz_S)} {k51 : Int32 → Int32 → Int32 → iz_S → Option (Int32 × iz_S)} (hk43 : ∀ (x1 : Int32) (x2 : Int32) (S : iz_S), iz_Y X l RX10 tX10_barOf 5 3 (iz_Kc X l yX10_barOf cX10_barOf 5 (some .int) 3 iz_eI) 43 [(0, .ref (X.1 a0)), (1, .int x1), (2, .int x2)] [] S (k43 x1 x2 S)) (hk51 : ∀ (x1 : Int32) (x2 : Int32) (x3 : Int32) (S : iz_S), iz_Y X l RX10 tX10_barOf 5 3 (iz_Kc X l yX10_barOf cX10_barOf 5 (some .int) 3 iz_eI) 51 [(0, .ref (X.1 a0)), (1, .int x1), (2, .int x2), (3, .int x3)] [] S (k51 x1 x2 x3 S)) (x1 : Int32) (x2 : Int32) (x3 : Int32) (S : iz_S) : iz_Y X l RX10 tX10_barOf 5 3 (iz_Kc X l yX10_barOf cX10_barOf 5 (some .int) 3 iz_eI) 88 [(0, .ref (X.1 a0)), (1, .int x1), (2, .int x2), (3, .int x3)] [] S (Mo_barOf_88 a0 k43 k51 x1 x2 x3 S) := by
  unfold Mo_barOf_88
  refine iz_iinc (v := (x3 + 1)) (ls2 := [(0, .ref (X.1 a0)), (1, .int x1), (2, .int x2), (3, .int (x3 + 1))]) 50 3 [1, 2, 3, 0] rfl rfl rfl (by decide) rfl ?_
  refine iz_goto (tgt := 51) 51 (by decide) rfl ?_
  exact hk51 x1 x2 (x3 + 1) S
set_option maxRecDepth 10000 in
theorem c_Mo_barOf_51b {X : iz_X} {l : Launch} {a0 : Nat} (h0 : iz_sh a0 = (10 + 3, 48)) {k43 : Int32 → Int32 → iz_S → Option (Int32 × iz_S)} {k51 : Int32 → Int32 → Int32 → iz_S → Option (Int32 × iz_S)} (hk43 : ∀ (x1 : Int32) (x2 : Int32) (S : iz_S), iz_Y X l RX10 tX10_barOf 5 3 (iz_Kc X l yX10_barOf cX10_barOf 5 (some .int) 3 iz_eI) 43 [(0, .ref (X.1 a0)), (1, .int x1), (2, .int x2)] [] S (k43 x1 x2 S)) (hk51 : ∀ (x1 : Int32) (x2 : Int32) (x3 : Int32) (S : iz_S), iz_Y X l RX10 tX10_barOf 5 3 (iz_Kc X l yX10_barOf cX10_barOf 5 (some .int) 3 iz_eI) 51 [(0, .ref (X.1 a0)), (1, .int x1), (2, .int x2), (3, .int x3)] [] S (k51 x1 x2 x3 S)) (x1 : Int32) (x2 : Int32) (x3 : Int32) (S : iz_S) : iz_Y X l RX10 tX10_barOf 5 3 (iz_Kc X l yX10_barOf cX10_barOf 5 (some .int) 3 iz_eI) 51 [(0, .ref (X.1 a0)), (1, .int x1), (2, .int x2), (3, .int x3)] [] S (Mo_barOf_51b a0 k43 k51 x1 x2 x3 S) := by
  unfold Mo_barOf_51b
  refine iz_iload_n (n := 3) 30 3 rfl rfl ?_
  refine iz_iconst (v := 4) 31 (by decide) rfl ?_
  refine iz_cmp_ge (tgt := 94) 32 rfl (by decide) ?_ ?_
  · exact iz_sub [0, 1, 2] rfl (c_Mo_barOf_94 h0 hk43 x1 x2 S)
  · refine iz_iload_n (n := 2) 33 2 rfl rfl ?_
    refine iz_iload_n (n := 1) 34 1 rfl rfl ?_
    refine iz_callSI (As := [.int x2, .int x1]) (rest := []) 35 ml_X10_145 cw_X10_isOf ci_X10_isOf (fun r9 hr9 => m_Mo_isOf  hr9) rfl (by decide) rfl rfl (Nat.le_of_ble_eq_true rfl) (fun r5 S4 => ?_)
    refine iz_if_eq (tgt := 94) 36 rfl (by decide) ?_ ?_
    · exact iz_sub [0, 1, 2] rfl (c_Mo_barOf_94 h0 hk43 x1 x2 S4)
    · refine iz_iload_n (n := 2) 37 2 rfl rfl ?_
      refine iz_iload_n (n := 3) 38 3 rfl rfl ?_
      refine iz_callSI (As := [.int x2, .int x3]) (rest := []) 39 ml_X10_149 cw_X10_beside ci_X10_beside (fun r9 hr9 => m_Mo_beside  hr9) rfl (by decide) rfl rfl (Nat.le_of_ble_eq_true rfl) (fun r7 S6 => ?_)
      refine iz_istore (n := 4) (ls2 := [(0, .ref (X.1 a0)), (1, .int x1), (2, .int x2), (3, .int x3), (4, .int r7)]) 40 [1, 2, 3, 4, 0] rfl (by decide) rfl ?_
      refine iz_iload (n := 4) 41 4 rfl rfl ?_
      refine iz_if_lt (tgt := 88) 42 rfl (by decide) ?_ ?_
      · exact iz_sub [0, 1, 2, 3] rfl (c_Mo_barOf_88 h0 hk43 hk51 x1 x2 x3 S6)
      · refine iz_aload_n (n := 0) 43 0 rfl rfl ?_
        refine iz_getR 44 29 h0 fl_X10_83 rfl (by decide) (by decide) rfl ?_
        refine iz_iload (n := 4) 45 4 rfl rfl ?_
        refine iz_bald 46 (sf_10_29 h0) rfl ?_
        refine iz_if_eq (tgt := 88) 47 rfl (by decide) ?_ ?_
        · exact iz_sub [0, 1, 2, 3] rfl (c_Mo_barOf_88 h0 hk43 hk51 x1 x2 x3 S6)
        · refine iz_iconst (v := 0) 48 (by decide) rfl ?_
          exact iz_iret 49 rfl
theorem c_Mo_barOf_51 {X : iz_X} {l : Launch} {a0 : Nat} (h0 : iz_sh a0 = (10 + 3, 48)) {k43 : Int32 → Int32 → iz_S → Option (Int32 × iz_S)} (hk43 : ∀ (x1 : Int32) (x2 : Int32) (S : iz_S), iz_Y X l RX10 tX10_barOf 5 3 (iz_Kc X l yX10_barOf cX10_barOf 5 (some .int) 3 iz_eI) 43 [(0, .ref (X.1 a0)), (1, .int x1), (2, .int x2)] [] S (k43 x1 x2 S)) : ∀ (n9 : Nat) (x1 : Int32) (x2 : Int32) (x3 : Int32) (S : iz_S), iz_Y X l RX10 tX10_barOf 5 3 (iz_Kc X l yX10_barOf cX10_barOf 5 (some .int) 3 iz_eI) 51 [(0, .ref (X.1 a0)), (1, .int x1), (2, .int x2), (3, .int x3)] [] S (Mo_barOf_51 a0 k43 n9 x1 x2 x3 S)
  | 0 => by
    intros
    exact iz_none
  | n9 + 1 => c_Mo_barOf_51b h0 hk43 (c_Mo_barOf_51 h0 hk43 n9)
set_option maxRecDepth 10000 in
theorem c_Mo_barOf_43b {X : iz_X} {l : Launch} {a0 : Nat} (h0 : iz_sh a0 = (10 + 3, 48)) {k43 : Int32 → Int32 → iz_S → Option (Int32 × iz_S)} (hk43 : ∀ (x1 : Int32) (x2 : Int32) (S : iz_S), iz_Y X l RX10 tX10_barOf 5 3 (iz_Kc X l yX10_barOf cX10_barOf 5 (some .int) 3 iz_eI) 43 [(0, .ref (X.1 a0)), (1, .int x1), (2, .int x2)] [] S (k43 x1 x2 S)) (x1 : Int32) (x2 : Int32) (S : iz_S) : iz_Y X l RX10 tX10_barOf 5 3 (iz_Kc X l yX10_barOf cX10_barOf 5 (some .int) 3 iz_eI) 43 [(0, .ref (X.1 a0)), (1, .int x1), (2, .int x2)] [] S (Mo_barOf_43b a0 k43 x1 x2 S) := by
  unfold Mo_barOf_43b
  refine iz_iload_n (n := 2) 25 2 rfl rfl ?_
  refine iz_bipush (v := 64) 26 (by decide) rfl ?_
  refine iz_cmp_ge (tgt := 100) 27 rfl (by decide) ?_ ?_
  · refine iz_iconst (v := 2) 54 (by decide) rfl ?_
    exact iz_iret 55 rfl
  · refine iz_iconst (v := 0) 28 (by decide) rfl ?_
    refine iz_istore_n (n := 3) (ls2 := [(0, .ref (X.1 a0)), (1, .int x1), (2, .int x2), (3, .int 0)]) 29 [1, 2, 3, 0] rfl (by decide) rfl ?_
    exact c_Mo_barOf_51 h0 hk43 iz_FU x1 x2 0 S
theorem c_Mo_barOf_43 {X : iz_X} {l : Launch} {a0 : Nat} (h0 : iz_sh a0 = (10 + 3, 48)) : ∀ (n9 : Nat) (x1 : Int32) (x2 : Int32) (S : iz_S), iz_Y X l RX10 tX10_barOf 5 3 (iz_Kc X l yX10_barOf cX10_barOf 5 (some .int) 3 iz_eI) 43 [(0, .ref (X.1 a0)), (1, .int x1), (2, .int x2)] [] S (Mo_barOf_43 a0 n9 x1 x2 S)
  | 0 => by
    intros
    exact iz_none
  | n9 + 1 => c_Mo_barOf_43b h0 (c_Mo_barOf_43 h0 n9)
set_option maxRecDepth 10000 in
theorem c_Mo_barOf_29 {X : iz_X} {l : Launch} {a0 : Nat} (h0 : iz_sh a0 = (10 + 3, 48)) {k2 : Int32 → Int32 → iz_S → Option (Int32 × iz_S)} (hk2 : ∀ (x1 : Int32) (x2 : Int32) (S : iz_S), iz_Y X l RX10 tX10_barOf 5 3 (iz_Kc X l yX10_barOf cX10_barOf 5 (some .int) 3 iz_eI) 2 [(0, .ref (X.1 a0)), (1, .int x1), (2, .int x2)] [] S (k2 x1 x2 S)) (x1 : Int32) (x2 : Int32) (S : iz_S) : iz_Y X l RX10 tX10_barOf 5 3 (iz_Kc X l yX10_barOf cX10_barOf 5 (some .int) 3 iz_eI) 29 [(0, .ref (X.1 a0)), (1, .int x1), (2, .int x2)] [] S (Mo_barOf_29 a0 k2 x1 x2 S) := by
  unfold Mo_barOf_29
  refine iz_iinc (v := (x2 + 1)) (ls2 := [(0, .ref (X.1 a0)), (1, .int x1), (2, .int (x2 + 1))]) 17 2 [1, 2, 0] rfl rfl rfl (by decide) rfl ?_
  refine iz_goto (tgt := 2) 18 (by decide) rfl ?_
  exact hk2 x1 (x2 + 1) S
set_option maxRecDepth 10000 in
theorem c_Mo_barOf_2b {X : iz_X} {l : Launch} {a0 : Nat} (h0 : iz_sh a0 = (10 + 3, 48)) {k2 : Int32 → Int32 → iz_S → Option (Int32 × iz_S)} (hk2 : ∀ (x1 : Int32) (x2 : Int32) (S : iz_S), iz_Y X l RX10 tX10_barOf 5 3 (iz_Kc X l yX10_barOf cX10_barOf 5 (some .int) 3 iz_eI) 2 [(0, .ref (X.1 a0)), (1, .int x1), (2, .int x2)] [] S (k2 x1 x2 S)) (x1 : Int32) (x2 : Int32) (S : iz_S) : iz_Y X l RX10 tX10_barOf 5 3 (iz_Kc X l yX10_barOf cX10_barOf 5 (some .int) 3 iz_eI) 2 [(0, .ref (X.1 a0)), (1, .int x1), (2, .int x2)] [] S (Mo_barOf_2b a0 k2 x1 x2 S) := by
  unfold Mo_barOf_2b
  refine iz_iload_n (n := 2) 2 2 rfl rfl ?_
  refine iz_bipush (v := 64) 3 (by decide) rfl ?_
  refine iz_cmp_ge (tgt := 35) 4 rfl (by decide) ?_ ?_
  · refine iz_aload_n (n := 0) 19 0 rfl rfl ?_
    refine iz_iconst (v := 1) 20 (by decide) rfl ?_
    refine iz_iload_n (n := 1) 21 1 rfl rfl ?_
    refine iz_callVV (As := [.int 1, .int x1]) (rest := []) 22 ml_X10_153 cw_X10_flood ci_X10_flood h0 (fun r9 hr9 => m_Mo_flood h0 hr9) rfl (by decide) (by decide) rfl rfl (Nat.le_of_ble_eq_true rfl) (fun S1 => ?_)
    refine iz_iconst (v := 0) 23 (by decide) rfl ?_
    refine iz_istore_n (n := 2) (ls2 := [(0, .ref (X.1 a0)), (1, .int x1), (2, .int 0)]) 24 [1, 2, 0] rfl (by decide) rfl ?_
    exact c_Mo_barOf_43 h0 iz_FU x1 0 S1
  · refine iz_iload_n (n := 2) 5 2 rfl rfl ?_
    refine iz_iload_n (n := 1) 6 1 rfl rfl ?_
    refine iz_callSI (As := [.int x2, .int x1]) (rest := []) 7 ml_X10_145 cw_X10_isOf ci_X10_isOf (fun r9 hr9 => m_Mo_isOf  hr9) rfl (by decide) rfl rfl (Nat.le_of_ble_eq_true rfl) (fun r3 S2 => ?_)
    refine iz_if_eq (tgt := 29) 8 rfl (by decide) ?_ ?_
    · exact c_Mo_barOf_29 h0 hk2 x1 x2 S2
    · refine iz_aload_n (n := 0) 9 0 rfl rfl ?_
      refine iz_getR 10 0 h0 fl_X10_7 rfl (by decide) (by decide) rfl ?_
      refine iz_iload_n (n := 2) 11 2 rfl rfl ?_
      refine iz_iald 12 (sf_10_0 h0) rfl ?_
      refine iz_bipush (v := 8) 13 (by decide) rfl ?_
      refine iz_cmp_ge (tgt := 29) 14 rfl (by decide) ?_ ?_
      · exact c_Mo_barOf_29 h0 hk2 x1 x2 S2
      · refine iz_iconst (v := 1) 15 (by decide) rfl ?_
        exact iz_iret 16 rfl
theorem c_Mo_barOf_2 {X : iz_X} {l : Launch} {a0 : Nat} (h0 : iz_sh a0 = (10 + 3, 48)) : ∀ (n9 : Nat) (x1 : Int32) (x2 : Int32) (S : iz_S), iz_Y X l RX10 tX10_barOf 5 3 (iz_Kc X l yX10_barOf cX10_barOf 5 (some .int) 3 iz_eI) 2 [(0, .ref (X.1 a0)), (1, .int x1), (2, .int x2)] [] S (Mo_barOf_2 a0 n9 x1 x2 S)
  | 0 => by
    intros
    exact iz_none
  | n9 + 1 => c_Mo_barOf_2b h0 (c_Mo_barOf_2 h0 n9)
set_option maxRecDepth 10000 in
theorem c_Mo_barOf {X : iz_X} {l : Launch} {a0 : Nat} (h0 : iz_sh a0 = (10 + 3, 48)) (x1 : Int32) (S : iz_S) : iz_Y X l RX10 tX10_barOf 5 3 (iz_Kc X l yX10_barOf cX10_barOf 5 (some .int) 3 iz_eI) 0 [(0, .ref (X.1 a0)), (1, .int x1)] [] S (Mo_barOf a0 x1 S) := by
  unfold Mo_barOf
  refine iz_iconst (v := 0) 0 (by decide) rfl ?_
  refine iz_istore_n (n := 2) (ls2 := [(0, .ref (X.1 a0)), (1, .int x1), (2, .int 0)]) 1 [1, 2, 0] rfl (by decide) rfl ?_
  exact c_Mo_barOf_2 h0 iz_FU x1 0 S
theorem m_Mo_barOf {X : iz_X} {l : Launch} {a0 : Nat} (h0 : iz_sh a0 = (10 + 3, 48)) {x1 : Int32} {S : iz_S} {r9 : Int32 × iz_S} (hr : Mo_barOf a0 x1 S = some r9) : iz_Mt X l 3 yX10_barOf cX10_barOf 5 (some .int) [.ref (X.1 a0), .int x1] S (iz_eI r9) :=
  iz_Mt_of (dt := tX10_barOf) dX10_barOf (by decide) hr (Nat.le_of_ble_eq_true rfl) (c_Mo_barOf h0 x1 S)
def Mo_bars_20 (a0 : Nat) (s0 : Int32) (S : iz_S) : Option (Int32 × iz_S) :=
  some (s0, S)
def Mo_bars (a0 : Nat) (x1 : Int32) (S : iz_S) : Option (Int32 × iz_S) :=
  (iz_bI (Mo_isSquare x1 S) (fun r2 S1 =>
  if r2 = 0 then
    iz_bI (Mo_finding a0 1 S1) (fun r4 S3 =>
    (Mo_bars_20 a0 r4 S3))
  else
    iz_bI (Mo_barOf a0 x1 S1) (fun r6 S5 =>
    (Mo_bars_20 a0 r6 S5))))
set_option maxRecDepth 10000 in
theorem c_Mo_bars_20 {X : iz_X} {l : Launch} {a0 : Nat} (h0 : iz_sh a0 = (10 + 3, 48)) (s0 : Int32) (S : iz_S) : iz_Y X l RX10 tX10_bars 2 4 (iz_Kc X l yX10_bars cX10_bars 2 (some .int) 4 iz_eI) 20 [] [.int s0] S (Mo_bars_20 a0 s0 S) := by
  unfold Mo_bars_20
  exact iz_iret 10 rfl
set_option maxRecDepth 10000 in
theorem c_Mo_bars {X : iz_X} {l : Launch} {a0 : Nat} (h0 : iz_sh a0 = (10 + 3, 48)) (x1 : Int32) (S : iz_S) : iz_Y X l RX10 tX10_bars 2 4 (iz_Kc X l yX10_bars cX10_bars 2 (some .int) 4 iz_eI) 0 [(0, .ref (X.1 a0)), (1, .int x1)] [] S (Mo_bars a0 x1 S) := by
  unfold Mo_bars
  refine iz_iload_n (n := 1) 0 1 rfl rfl ?_
  refine iz_callSI (As := [.int x1]) (rest := []) 1 ml_X10_157 cw_X10_isSquare ci_X10_isSquare (fun r9 hr9 => m_Mo_isSquare  hr9) rfl (by decide) rfl rfl (Nat.le_of_ble_eq_true rfl) (fun r2 S1 => ?_)
  refine iz_if_eq (tgt := 15) 2 rfl (by decide) ?_ ?_
  · refine iz_aload_n (n := 0) 7 0 rfl rfl ?_
    refine iz_iconst (v := 1) 8 (by decide) rfl ?_
    refine iz_callVI (As := [.int 1]) (rest := []) 9 ml_X10_127 cw_X10_finding ci_X10_finding h0 (fun r9 hr9 => m_Mo_finding h0 hr9) rfl (by decide) (by decide) rfl rfl (Nat.le_of_ble_eq_true rfl) (fun r4 S3 => ?_)
    exact iz_sub [] rfl (c_Mo_bars_20 h0 r4 S3)
  · refine iz_aload_n (n := 0) 3 0 rfl rfl ?_
    refine iz_iload_n (n := 1) 4 1 rfl rfl ?_
    refine iz_callVI (As := [.int x1]) (rest := []) 5 ml_X10_160 cw_X10_barOf ci_X10_barOf h0 (fun r9 hr9 => m_Mo_barOf h0 hr9) rfl (by decide) (by decide) rfl rfl (Nat.le_of_ble_eq_true rfl) (fun r6 S5 => ?_)
    refine iz_goto (tgt := 20) 6 (by decide) rfl ?_
    exact iz_sub [] rfl (c_Mo_bars_20 h0 r6 S5)
theorem m_Mo_bars {X : iz_X} {l : Launch} {a0 : Nat} (h0 : iz_sh a0 = (10 + 3, 48)) {x1 : Int32} {S : iz_S} {r9 : Int32 × iz_S} (hr : Mo_bars a0 x1 S = some r9) : iz_Mt X l 4 yX10_bars cX10_bars 2 (some .int) [.ref (X.1 a0), .int x1] S (iz_eI r9) :=
  iz_Mt_of (dt := tX10_bars) dX10_bars (by decide) hr (Nat.le_of_ble_eq_true rfl) (c_Mo_bars h0 x1 S)
def Mo_cut_150 (a0 : Nat) (x2 : Int32) (s1 : Int32) (s2 : Int32) (S : iz_S) : Option (Int32 × iz_S) :=
  iz_ck (iz_in s1 60) (iz_lt (iz_s S (iz_rf a0 4) s1 s2) (fun S14 =>
  iz_ck (iz_in (S14.1 a0 3) 60) (iz_lt (iz_s S14 (iz_rf a0 5) (S14.1 a0 3) ((5 : Int32) * x2)) (fun S15 =>
  iz_ck (iz_in (S15.1 a0 3) 60) (iz_lt (iz_s S15 (iz_rf a0 6) (S15.1 a0 3) 0) (fun S16 =>
  iz_ck (iz_in (S16.1 a0 3) 60) (iz_lt (iz_s S16 (iz_rf a0 7) (S16.1 a0 3) (-1)) (fun S17 =>
  iz_lt (iz_up S17 a0 3 ((S17.1 a0 3) + 1)) (fun S18 =>
  some (((S18.1 a0 3) - 1), S18))))))))))
def Mo_cut_107 (a0 : Nat) (k49 : Int32 → Int32 → Int32 → Int32 → iz_S → Option (Int32 × iz_S)) (x1 : Int32) (x2 : Int32) (x3 : Int32) (x4 : Int32) (S : iz_S) : Option (Int32 × iz_S) :=
  (k49 x1 x2 x3 (x4 + 1) S)
def Mo_cut_91 (a0 : Nat) (k49 : Int32 → Int32 → Int32 → Int32 → iz_S → Option (Int32 × iz_S)) (x1 : Int32) (x2 : Int32) (x4 : Int32) (s0 : Int32) (s1 : Int32) (S : iz_S) : Option (Int32 × iz_S) :=
  iz_lt (s0 + s1) (fun v19 =>
  iz_ck (iz_in x4 64) (iz_lt (iz_s S (iz_rf a0 0) x4 0) (fun S20 =>
  iz_bV (Mo_clean a0 x4 S20) (fun S21 =>
  (Mo_cut_107 a0 k49 x1 x2 v19 x4 S21)))))
def Mo_cut_49b (a0 : Nat) (k49 : Int32 → Int32 → Int32 → Int32 → iz_S → Option (Int32 × iz_S)) (x1 : Int32) (x2 : Int32) (x3 : Int32) (x4 : Int32) (S : iz_S) : Option (Int32 × iz_S) :=
  (if x4 < 64 then
    (iz_bI (Mo_isOf x4 x1 S) (fun r12 S11 =>
    if r12 = 0 then
      (Mo_cut_107 a0 k49 x1 x2 x3 x4 S11)
    else
      (iz_ck (iz_in x4 64) (
      iz_lt (x2 + (iz_g S11 (iz_rf a0 0) x4)) (fun v13 =>
      iz_ck (iz_in x4 64) (
      if (iz_g S11 (iz_rf a0 2) x4) = 0 then
        (Mo_cut_91 a0 k49 x1 v13 x4 x3 0 S11)
      else
        (Mo_cut_91 a0 k49 x1 v13 x4 x3 1 S11)))))))
  else
    (if x3 ≤ 1 then
      (if x3 = 1 then
        (Mo_cut_150 a0 x2 (S.1 a0 3) 0 S)
      else
        (if x2 < 48 then
          (Mo_cut_150 a0 x2 (S.1 a0 3) 3 S)
        else
          (Mo_cut_150 a0 x2 (S.1 a0 3) 1 S)))
    else
      (Mo_cut_150 a0 x2 (S.1 a0 3) 2 S)))
def Mo_cut_49 (a0 : Nat) : Nat → Int32 → Int32 → Int32 → Int32 → iz_S → Option (Int32 × iz_S)
  | 0 => fun _ _ _ _ _ => none
  | n9 + 1 => Mo_cut_49b a0 (Mo_cut_49 a0 n9)
def Mo_cut (a0 : Nat) (x1 : Int32) (S : iz_S) : Option (Int32 × iz_S) :=
  (iz_bI (Mo_isSquare x1 S) (fun r2 S1 =>
  if r2 = 0 then
    iz_bI (Mo_finding a0 1 S1) (fun r10 S9 =>
    some (r10, S9))
  else
    (iz_bI (Mo_barOf a0 x1 S1) (fun r4 S3 =>
    if r4 = 0 then
      (if (S3.1 a0 3) = 60 then
        iz_bI (Mo_finding a0 4 S3) (fun r6 S5 =>
        some (r6, S5))
      else
        (Mo_cut_49 a0 iz_FU x1 0 0 0 S3))
    else
      iz_bI (Mo_finding a0 3 S3) (fun r8 S7 =>
      some (r8, S7))))))
set_option maxRecDepth 10000 in
theorem c_Mo_cut_150 {X : iz_X} {l : Launch} {a0 : Nat} (h0 : iz_sh a0 = (10 + 3, 48)) (x2 : Int32) (s1 : Int32) (s2 : Int32) (S : iz_S) : iz_Y X l RX10 tX10_cut 5 4 (iz_Kc X l yX10_cut cX10_cut 5 (some .int) 4 iz_eI) 150 [(0, .ref (X.1 a0)), (2, .int x2)] [.int s2, .int s1, .ref (X.1 (iz_rf a0 4))] S (Mo_cut_150 a0 x2 s1 s2 S) := by
  unfold Mo_cut_150
  refine iz_iast 84 (sf_10_4 h0) rfl (fun S14 => ?_)
  refine iz_aload_n (n := 0) 85 0 rfl rfl ?_
  refine iz_getR 86 5 h0 fl_X10_23 rfl (by decide) (by decide) rfl ?_
  refine iz_aload_n (n := 0) 87 0 rfl rfl ?_
  refine iz_getI 88 3 h0 fl_X10_163 rfl (by decide) (by decide) rfl ?_
  refine iz_iconst (v := 5) 89 (by decide) rfl ?_
  refine iz_iload_n (n := 2) 90 1 rfl rfl ?_
  refine iz_imul 91 rfl ?_
  refine iz_iast 92 (sf_10_5 h0) rfl (fun S15 => ?_)
  refine iz_aload_n (n := 0) 93 0 rfl rfl ?_
  refine iz_getR 94 6 h0 fl_X10_26 rfl (by decide) (by decide) rfl ?_
  refine iz_aload_n (n := 0) 95 0 rfl rfl ?_
  refine iz_getI 96 3 h0 fl_X10_163 rfl (by decide) (by decide) rfl ?_
  refine iz_iconst (v := 0) 97 (by decide) rfl ?_
  refine iz_iast 98 (sf_10_6 h0) rfl (fun S16 => ?_)
  refine iz_aload_n (n := 0) 99 0 rfl rfl ?_
  refine iz_getR 100 7 h0 fl_X10_29 rfl (by decide) (by decide) rfl ?_
  refine iz_aload_n (n := 0) 101 0 rfl rfl ?_
  refine iz_getI 102 3 h0 fl_X10_163 rfl (by decide) (by decide) rfl ?_
  refine iz_iconst (v := (-1)) 103 (by decide) rfl ?_
  refine iz_iast 104 (sf_10_7 h0) rfl (fun S17 => ?_)
  refine iz_aload_n (n := 0) 105 0 rfl rfl ?_
  refine iz_dup 106 rfl rfl ?_
  refine iz_getI 107 3 h0 fl_X10_163 rfl (by decide) (by decide) rfl ?_
  refine iz_iconst (v := 1) 108 (by decide) rfl ?_
  refine iz_iadd 109 rfl ?_
  refine iz_putI 110 3 h0 fl_X10_163 rfl (by decide) (by decide) rfl (fun S18 => ?_)
  refine iz_aload_n (n := 0) 111 0 rfl rfl ?_
  refine iz_getI 112 3 h0 fl_X10_163 rfl (by decide) (by decide) rfl ?_
  refine iz_iconst (v := 1) 113 (by decide) rfl ?_
  refine iz_isub 114 rfl ?_
  exact iz_iret 115 rfl
set_option maxRecDepth 10000 in
theorem c_Mo_cut_107 {X : iz_X} {l : Launch} {a0 : Nat} (h0 : iz_sh a0 = (10 + 3, 48)) {k49 : Int32 → Int32 → Int32 → Int32 → iz_S → Option (Int32 × iz_S)} (hk49 : ∀ (x1 : Int32) (x2 : Int32) (x3 : Int32) (x4 : Int32) (S : iz_S), iz_Y X l RX10 tX10_cut 5 4 (iz_Kc X l yX10_cut cX10_cut 5 (some .int) 4 iz_eI) 49 [(0, .ref (X.1 a0)), (1, .int x1), (2, .int x2), (3, .int x3), (4, .int x4)] [] S (k49 x1 x2 x3 x4 S)) (x1 : Int32) (x2 : Int32) (x3 : Int32) (x4 : Int32) (S : iz_S) : iz_Y X l RX10 tX10_cut 5 4 (iz_Kc X l yX10_cut cX10_cut 5 (some .int) 4 iz_eI) 107 [(0, .ref (X.1 a0)), (1, .int x1), (2, .int x2), (3, .int x3), (4, .int x4)] [] S (Mo_cut_107 a0 k49 x1 x2 x3 x4 S) := by
  unfold Mo_cut_107
  refine iz_iinc (v := (x4 + 1)) (ls2 := [(0, .ref (X.1 a0)), (1, .int x1), (2, .int x2), (3, .int x3), (4, .int (x4 + 1))]) 62 4 [1, 2, 3, 4, 0] rfl rfl rfl (by decide) rfl ?_
  refine iz_goto (tgt := 49) 63 (by decide) rfl ?_
  exact hk49 x1 x2 x3 (x4 + 1) S
set_option maxRecDepth 10000 in
theorem c_Mo_cut_91 {X : iz_X} {l : Launch} {a0 : Nat} (h0 : iz_sh a0 = (10 + 3, 48)) {k49 : Int32 → Int32 → Int32 → Int32 → iz_S → Option (Int32 × iz_S)} (hk49 : ∀ (x1 : Int32) (x2 : Int32) (x3 : Int32) (x4 : Int32) (S : iz_S), iz_Y X l RX10 tX10_cut 5 4 (iz_Kc X l yX10_cut cX10_cut 5 (some .int) 4 iz_eI) 49 [(0, .ref (X.1 a0)), (1, .int x1), (2, .int x2), (3, .int x3), (4, .int x4)] [] S (k49 x1 x2 x3 x4 S)) (x1 : Int32) (x2 : Int32) (x4 : Int32) (s0 : Int32) (s1 : Int32) (S : iz_S) : iz_Y X l RX10 tX10_cut 5 4 (iz_Kc X l yX10_cut cX10_cut 5 (some .int) 4 iz_eI) 91 [(0, .ref (X.1 a0)), (1, .int x1), (2, .int x2), (4, .int x4)] [.int s1, .int s0] S (Mo_cut_91 a0 k49 x1 x2 x4 s0 s1 S) := by
  unfold Mo_cut_91
  refine iz_iadd 52 rfl ?_
  refine iz_let (fun v19 => ?_)
  refine iz_istore_n (n := 3) (ls2 := [(0, .ref (X.1 a0)), (1, .int x1), (2, .int x2), (3, .int v19), (4, .int x4)]) 53 [1, 2, 3, 0, 4] rfl (by decide) rfl ?_
  refine iz_aload_n (n := 0) 54 0 rfl rfl ?_
  refine iz_getR 55 0 h0 fl_X10_7 rfl (by decide) (by decide) rfl ?_
  refine iz_iload (n := 4) 56 4 rfl rfl ?_
  refine iz_iconst (v := 0) 57 (by decide) rfl ?_
  refine iz_iast 58 (sf_10_0 h0) rfl (fun S20 => ?_)
  refine iz_aload_n (n := 0) 59 0 rfl rfl ?_
  refine iz_iload (n := 4) 60 4 rfl rfl ?_
  refine iz_callVV (As := [.int x4]) (rest := []) 61 ml_X10_131 cw_X10_clean ci_X10_clean h0 (fun r9 hr9 => m_Mo_clean h0 hr9) rfl (by decide) (by decide) rfl rfl (Nat.le_of_ble_eq_true rfl) (fun S21 => ?_)
  exact c_Mo_cut_107 h0 hk49 x1 x2 v19 x4 S21
set_option maxRecDepth 10000 in
theorem c_Mo_cut_49b {X : iz_X} {l : Launch} {a0 : Nat} (h0 : iz_sh a0 = (10 + 3, 48)) {k49 : Int32 → Int32 → Int32 → Int32 → iz_S → Option (Int32 × iz_S)} (hk49 : ∀ (x1 : Int32) (x2 : Int32) (x3 : Int32) (x4 : Int32) (S : iz_S), iz_Y X l RX10 tX10_cut 5 4 (iz_Kc X l yX10_cut cX10_cut 5 (some .int) 4 iz_eI) 49 [(0, .ref (X.1 a0)), (1, .int x1), (2, .int x2), (3, .int x3), (4, .int x4)] [] S (k49 x1 x2 x3 x4 S)) (x1 : Int32) (x2 : Int32) (x3 : Int32) (x4 : Int32) (S : iz_S) : iz_Y X l RX10 tX10_cut 5 4 (iz_Kc X l yX10_cut cX10_cut 5 (some .int) 4 iz_eI) 49 [(0, .ref (X.1 a0)), (1, .int x1), (2, .int x2), (3, .int x3), (4, .int x4)] [] S (Mo_cut_49b a0 k49 x1 x2 x3 x4 S) := by
  unfold Mo_cut_49b
  refine iz_iload (n := 4) 29 4 rfl rfl ?_
  refine iz_bipush (v := 64) 30 (by decide) rfl ?_
  refine iz_cmp_ge (tgt := 113) 31 rfl (by decide) ?_ ?_
  · refine iz_aload_n (n := 0) 64 0 rfl rfl ?_
    refine iz_getR 65 4 h0 fl_X10_20 rfl (by decide) (by decide) rfl ?_
    refine iz_aload_n (n := 0) 66 0 rfl rfl ?_
    refine iz_getI 67 3 h0 fl_X10_163 rfl (by decide) (by decide) rfl ?_
    refine iz_iload_n (n := 3) 68 3 rfl rfl ?_
    refine iz_iconst (v := 1) 69 (by decide) rfl ?_
    refine iz_cmp_le (tgt := 130) 70 rfl (by decide) ?_ ?_
    · refine iz_iload_n (n := 3) 73 3 rfl rfl ?_
      refine iz_iconst (v := 1) 74 (by decide) rfl ?_
      refine iz_cmp_ne (tgt := 139) 75 rfl (by decide) ?_ ?_
      · refine iz_iload_n (n := 2) 78 2 rfl rfl ?_
        refine iz_bipush (v := 48) 79 (by decide) rfl ?_
        refine iz_cmp_ge (tgt := 149) 80 rfl (by decide) ?_ ?_
        · refine iz_iconst (v := 1) 83 (by decide) rfl ?_
          exact iz_sub [0, 2] rfl (c_Mo_cut_150 h0 x2 (S.1 a0 3) 1 S)
        · refine iz_iconst (v := 3) 81 (by decide) rfl ?_
          refine iz_goto (tgt := 150) 82 (by decide) rfl ?_
          exact iz_sub [0, 2] rfl (c_Mo_cut_150 h0 x2 (S.1 a0 3) 3 S)
      · refine iz_iconst (v := 0) 76 (by decide) rfl ?_
        refine iz_goto (tgt := 150) 77 (by decide) rfl ?_
        exact iz_sub [0, 2] rfl (c_Mo_cut_150 h0 x2 (S.1 a0 3) 0 S)
    · refine iz_iconst (v := 2) 71 (by decide) rfl ?_
      refine iz_goto (tgt := 150) 72 (by decide) rfl ?_
      exact iz_sub [0, 2] rfl (c_Mo_cut_150 h0 x2 (S.1 a0 3) 2 S)
  · refine iz_iload (n := 4) 32 4 rfl rfl ?_
    refine iz_iload_n (n := 1) 33 1 rfl rfl ?_
    refine iz_callSI (As := [.int x4, .int x1]) (rest := []) 34 ml_X10_145 cw_X10_isOf ci_X10_isOf (fun r9 hr9 => m_Mo_isOf  hr9) rfl (by decide) rfl rfl (Nat.le_of_ble_eq_true rfl) (fun r12 S11 => ?_)
    refine iz_if_eq (tgt := 107) 35 rfl (by decide) ?_ ?_
    · exact c_Mo_cut_107 h0 hk49 x1 x2 x3 x4 S11
    · refine iz_iload_n (n := 2) 36 2 rfl rfl ?_
      refine iz_aload_n (n := 0) 37 0 rfl rfl ?_
      refine iz_getR 38 0 h0 fl_X10_7 rfl (by decide) (by decide) rfl ?_
      refine iz_iload (n := 4) 39 4 rfl rfl ?_
      refine iz_iald 40 (sf_10_0 h0) rfl ?_
      refine iz_iadd 41 rfl ?_
      refine iz_let (fun v13 => ?_)
      refine iz_istore_n (n := 2) (ls2 := [(0, .ref (X.1 a0)), (1, .int x1), (2, .int v13), (3, .int x3), (4, .int x4)]) 42 [1, 2, 0, 3, 4] rfl (by decide) rfl ?_
      refine iz_iload_n (n := 3) 43 3 rfl rfl ?_
      refine iz_aload_n (n := 0) 44 0 rfl rfl ?_
      refine iz_getR 45 2 h0 fl_X10_16 rfl (by decide) (by decide) rfl ?_
      refine iz_iload (n := 4) 46 4 rfl rfl ?_
      refine iz_bald 47 (sf_10_2 h0) rfl ?_
      refine iz_if_eq (tgt := 90) 48 rfl (by decide) ?_ ?_
      · refine iz_iconst (v := 0) 51 (by decide) rfl ?_
        exact iz_sub [0, 1, 2, 4] rfl (c_Mo_cut_91 h0 hk49 x1 v13 x4 x3 0 S11)
      · refine iz_iconst (v := 1) 49 (by decide) rfl ?_
        refine iz_goto (tgt := 91) 50 (by decide) rfl ?_
        exact iz_sub [0, 1, 2, 4] rfl (c_Mo_cut_91 h0 hk49 x1 v13 x4 x3 1 S11)
theorem c_Mo_cut_49 {X : iz_X} {l : Launch} {a0 : Nat} (h0 : iz_sh a0 = (10 + 3, 48)) : ∀ (n9 : Nat) (x1 : Int32) (x2 : Int32) (x3 : Int32) (x4 : Int32) (S : iz_S), iz_Y X l RX10 tX10_cut 5 4 (iz_Kc X l yX10_cut cX10_cut 5 (some .int) 4 iz_eI) 49 [(0, .ref (X.1 a0)), (1, .int x1), (2, .int x2), (3, .int x3), (4, .int x4)] [] S (Mo_cut_49 a0 n9 x1 x2 x3 x4 S)
  | 0 => by
    intros
    exact iz_none
  | n9 + 1 => c_Mo_cut_49b h0 (c_Mo_cut_49 h0 n9)
set_option maxRecDepth 10000 in
theorem c_Mo_cut {X : iz_X} {l : Launch} {a0 : Nat} (h0 : iz_sh a0 = (10 + 3, 48)) (x1 : Int32) (S : iz_S) : iz_Y X l RX10 tX10_cut 5 4 (iz_Kc X l yX10_cut cX10_cut 5 (some .int) 4 iz_eI) 0 [(0, .ref (X.1 a0)), (1, .int x1)] [] S (Mo_cut a0 x1 S) := by
  unfold Mo_cut
  refine iz_iload_n (n := 1) 0 1 rfl rfl ?_
  refine iz_callSI (As := [.int x1]) (rest := []) 1 ml_X10_157 cw_X10_isSquare ci_X10_isSquare (fun r9 hr9 => m_Mo_isSquare  hr9) rfl (by decide) rfl rfl (Nat.le_of_ble_eq_true rfl) (fun r2 S1 => ?_)
  refine iz_if_ne (tgt := 13) 2 rfl (by decide) ?_ ?_
  · refine iz_aload_n (n := 0) 7 0 rfl rfl ?_
    refine iz_iload_n (n := 1) 8 1 rfl rfl ?_
    refine iz_callVI (As := [.int x1]) (rest := []) 9 ml_X10_160 cw_X10_barOf ci_X10_barOf h0 (fun r9 hr9 => m_Mo_barOf h0 hr9) rfl (by decide) (by decide) rfl rfl (Nat.le_of_ble_eq_true rfl) (fun r4 S3 => ?_)
    refine iz_if_eq (tgt := 27) 10 rfl (by decide) ?_ ?_
    · refine iz_aload_n (n := 0) 15 0 rfl rfl ?_
      refine iz_getI 16 3 h0 fl_X10_163 rfl (by decide) (by decide) rfl ?_
      refine iz_bipush (v := 60) 17 (by decide) rfl ?_
      refine iz_cmp_ne (tgt := 42) 18 rfl (by decide) ?_ ?_
      · refine iz_iconst (v := 0) 23 (by decide) rfl ?_
        refine iz_istore_n (n := 2) (ls2 := [(0, .ref (X.1 a0)), (1, .int x1), (2, .int 0)]) 24 [1, 2, 0] rfl (by decide) rfl ?_
        refine iz_iconst (v := 0) 25 (by decide) rfl ?_
        refine iz_istore_n (n := 3) (ls2 := [(0, .ref (X.1 a0)), (1, .int x1), (2, .int 0), (3, .int 0)]) 26 [1, 2, 3, 0] rfl (by decide) rfl ?_
        refine iz_iconst (v := 0) 27 (by decide) rfl ?_
        refine iz_istore (n := 4) (ls2 := [(0, .ref (X.1 a0)), (1, .int x1), (2, .int 0), (3, .int 0), (4, .int 0)]) 28 [1, 2, 3, 4, 0] rfl (by decide) rfl ?_
        exact c_Mo_cut_49 h0 iz_FU x1 0 0 0 S3
      · refine iz_aload_n (n := 0) 19 0 rfl rfl ?_
        refine iz_iconst (v := 4) 20 (by decide) rfl ?_
        refine iz_callVI (As := [.int 4]) (rest := []) 21 ml_X10_127 cw_X10_finding ci_X10_finding h0 (fun r9 hr9 => m_Mo_finding h0 hr9) rfl (by decide) (by decide) rfl rfl (Nat.le_of_ble_eq_true rfl) (fun r6 S5 => ?_)
        exact iz_iret 22 rfl
    · refine iz_aload_n (n := 0) 11 0 rfl rfl ?_
      refine iz_iconst (v := 3) 12 (by decide) rfl ?_
      refine iz_callVI (As := [.int 3]) (rest := []) 13 ml_X10_127 cw_X10_finding ci_X10_finding h0 (fun r9 hr9 => m_Mo_finding h0 hr9) rfl (by decide) (by decide) rfl rfl (Nat.le_of_ble_eq_true rfl) (fun r8 S7 => ?_)
      exact iz_iret 14 rfl
  · refine iz_aload_n (n := 0) 3 0 rfl rfl ?_
    refine iz_iconst (v := 1) 4 (by decide) rfl ?_
    refine iz_callVI (As := [.int 1]) (rest := []) 5 ml_X10_127 cw_X10_finding ci_X10_finding h0 (fun r9 hr9 => m_Mo_finding h0 hr9) rfl (by decide) (by decide) rfl rfl (Nat.le_of_ble_eq_true rfl) (fun r10 S9 => ?_)
    exact iz_iret 6 rfl
theorem m_Mo_cut {X : iz_X} {l : Launch} {a0 : Nat} (h0 : iz_sh a0 = (10 + 3, 48)) {x1 : Int32} {S : iz_S} {r9 : Int32 × iz_S} (hr : Mo_cut a0 x1 S = some r9) : iz_Mt X l 4 yX10_cut cX10_cut 5 (some .int) [.ref (X.1 a0), .int x1] S (iz_eI r9) :=
  iz_Mt_of (dt := tX10_cut) dX10_cut (by decide) hr (Nat.le_of_ble_eq_true rfl) (c_Mo_cut h0 x1 S)
def Mo_trySeason_204 (a0 : Nat) (rc : Nat → Int32 → Int32 → iz_S → Option iz_S) (k40 : Int32 → Int32 → Int32 → iz_S → Option iz_S) (x1 : Int32) (x2 : Int32) (x3 : Int32) (S : iz_S) : Option iz_S :=
  (k40 x1 x2 (x3 + 1) S)
def Mo_trySeason_162b (a0 : Nat) (rc : Nat → Int32 → Int32 → iz_S → Option iz_S) (k40 : Int32 → Int32 → Int32 → iz_S → Option iz_S) (k162 : Int32 → Int32 → Int32 → Int32 → Int32 → Int32 → iz_S → Option iz_S) (x1 : Int32) (x2 : Int32) (x3 : Int32) (x4 : Int32) (x5 : Int32) (x6 : Int32) (S : iz_S) : Option iz_S :=
  (if x6 < 4 then
    iz_ck (iz_in (x5 + x6) 256) (
    iz_ck (iz_in ((x4 + ((8 : Int32) * (x6 / 2))) + (x6 - x6 / 2 * 2)) 64) (iz_lt (iz_s S (iz_rf a0 0) ((x4 + ((8 : Int32) * (x6 / 2))) + (x6 - x6 / 2 * 2)) (iz_g S (iz_rf a0 36) (x5 + x6))) (fun S12 =>
    (k162 x1 x2 x3 x4 x5 (x6 + 1) S12))))
  else
    (Mo_trySeason_204 a0 rc k40 x1 x2 x3 S))
def Mo_trySeason_162 (a0 : Nat) (rc : Nat → Int32 → Int32 → iz_S → Option iz_S) (k40 : Int32 → Int32 → Int32 → iz_S → Option iz_S) : Nat → Int32 → Int32 → Int32 → Int32 → Int32 → Int32 → iz_S → Option iz_S
  | 0 => fun _ _ _ _ _ _ _ => none
  | n9 + 1 => Mo_trySeason_162b a0 rc k40 (Mo_trySeason_162 a0 rc k40 n9)
def Mo_trySeason_85b (a0 : Nat) (rc : Nat → Int32 → Int32 → iz_S → Option iz_S) (k40 : Int32 → Int32 → Int32 → iz_S → Option iz_S) (k85 : Int32 → Int32 → Int32 → Int32 → Int32 → Int32 → iz_S → Option iz_S) (x1 : Int32) (x2 : Int32) (x3 : Int32) (x4 : Int32) (x5 : Int32) (x6 : Int32) (S : iz_S) : Option iz_S :=
  (if x6 < 4 then
    iz_lt ((x4 + ((8 : Int32) * (x6 / 2))) + (x6 - x6 / 2 * 2)) (fun v9 =>
    iz_ck (iz_in v9 64) (
    iz_ck (iz_in (x5 + x6) 256) (iz_lt (iz_s S (iz_rf a0 36) (x5 + x6) (iz_g S (iz_rf a0 0) v9)) (fun S10 =>
    iz_ck (iz_in v9 64) (iz_lt (iz_s S10 (iz_rf a0 0) v9 0) (fun S11 =>
    (k85 x1 x2 x3 x4 x5 (x6 + 1) S11)))))))
  else
    iz_ck (iz_in x2 6) (iz_lt (iz_s S (iz_rf a0 33) x2 x4) (fun S7 =>
    iz_bV (rc a0 (x1 ||| ((1 : Int32) <<< (x3 &&& 31))) (x2 + 1) S7) (fun S8 =>
    (Mo_trySeason_162 a0 rc k40 iz_FU x1 x2 x3 x4 x5 0 S8)))))
def Mo_trySeason_85 (a0 : Nat) (rc : Nat → Int32 → Int32 → iz_S → Option iz_S) (k40 : Int32 → Int32 → Int32 → iz_S → Option iz_S) : Nat → Int32 → Int32 → Int32 → Int32 → Int32 → Int32 → iz_S → Option iz_S
  | 0 => fun _ _ _ _ _ _ _ => none
  | n9 + 1 => Mo_trySeason_85b a0 rc k40 (Mo_trySeason_85 a0 rc k40 n9)
def Mo_trySeason_40b (a0 : Nat) (rc : Nat → Int32 → Int32 → iz_S → Option iz_S) (k40 : Int32 → Int32 → Int32 → iz_S → Option iz_S) (x1 : Int32) (x2 : Int32) (x3 : Int32) (S : iz_S) : Option iz_S :=
  (if x3 < (S.1 a0 32) then
    (if ((x1 >>> (x3 &&& 31)) &&& 1) = 0 then
      (iz_ck (iz_in x3 6) (
      iz_bI (Mo_barOf a0 (iz_g S (iz_rf a0 31) x3) S) (fun r4 S3 =>
      if r4 = 0 then
        iz_ck (iz_in x3 6) (
        iz_lt (iz_g S3 (iz_rf a0 31) x3) (fun v5 =>
        iz_lt ((4 : Int32) * x2) (fun v6 =>
        (Mo_trySeason_85 a0 rc k40 iz_FU x1 x2 x3 v5 v6 0 S3))))
      else
        (Mo_trySeason_204 a0 rc k40 x1 x2 x3 S3))))
    else
      (Mo_trySeason_204 a0 rc k40 x1 x2 x3 S))
  else
    some S)
def Mo_trySeason_40 (a0 : Nat) (rc : Nat → Int32 → Int32 → iz_S → Option iz_S) : Nat → Int32 → Int32 → Int32 → iz_S → Option iz_S
  | 0 => fun _ _ _ _ => none
  | n9 + 1 => Mo_trySeason_40b a0 rc (Mo_trySeason_40 a0 rc n9)
def Mo_trySeason_38 (a0 : Nat) (rc : Nat → Int32 → Int32 → iz_S → Option iz_S) (x1 : Int32) (x2 : Int32) (S : iz_S) : Option iz_S :=
  (Mo_trySeason_40 a0 rc iz_FU x1 x2 0 S)
def Mo_trySeason_15b (a0 : Nat) (rc : Nat → Int32 → Int32 → iz_S → Option iz_S) (k15 : Int32 → Int32 → Int32 → iz_S → Option iz_S) (x1 : Int32) (x2 : Int32) (x3 : Int32) (S : iz_S) : Option iz_S :=
  (if x3 < x2 then
    iz_ck (iz_in x3 6) (
    iz_ck (iz_in x3 6) (iz_lt (iz_s S (iz_rf a0 34) x3 (iz_g S (iz_rf a0 33) x3)) (fun S2 =>
    (k15 x1 x2 (x3 + 1) S2))))
  else
    (Mo_trySeason_38 a0 rc x1 x2 S))
def Mo_trySeason_15 (a0 : Nat) (rc : Nat → Int32 → Int32 → iz_S → Option iz_S) : Nat → Int32 → Int32 → Int32 → iz_S → Option iz_S
  | 0 => fun _ _ _ _ => none
  | n9 + 1 => Mo_trySeason_15b a0 rc (Mo_trySeason_15 a0 rc n9)
def Mo_trySeason_b (a0 : Nat) (rc : Nat → Int32 → Int32 → iz_S → Option iz_S) (x1 : Int32) (x2 : Int32) (S : iz_S) : Option iz_S :=
  (if x2 ≤ (S.1 a0 35) then
    (Mo_trySeason_38 a0 rc x1 x2 S)
  else
    iz_lt (iz_up S a0 35 x2) (fun S1 =>
    (Mo_trySeason_15 a0 rc iz_FU x1 x2 0 S1)))
def Mo_trySeason : Nat → Nat → Int32 → Int32 → iz_S → Option iz_S
  | 0 => fun _ _ _ _ => none
  | n9 + 1 => fun a0 x1 x2 S => Mo_trySeason_b a0 (Mo_trySeason n9) x1 x2 S
set_option maxRecDepth 10000 in
theorem c_Mo_trySeason_204 {X : iz_X} {l : Launch} {a0 : Nat} (h0 : iz_sh a0 = (10 + 3, 48)) {rc : Nat → Int32 → Int32 → iz_S → Option iz_S} {d0 : Nat} (hrc : ∀ {a0 : Nat} (_ : iz_sh a0 = (10 + 3, 48)) (x1 : Int32) (x2 : Int32) (S : iz_S) r9, rc a0 x1 x2 S = some r9 → iz_Mt X l d0 yX10_trySeason cX10_trySeason 8 none [.ref (X.1 a0), .int x1, .int x2] S (iz_eV r9))  {d : Nat} (hd0 : d = d0 + 1) (hd9 : 4 ≤ d0) {k40 : Int32 → Int32 → Int32 → iz_S → Option iz_S} (hk40 : ∀ (x1 : Int32) (x2 : Int32) (x3 : Int32) (S : iz_S), iz_Y X l RX10 tX10_trySeason 8 d (iz_Kc X l yX10_trySeason cX10_trySeason 8 none d iz_eV) 40 [(0, .ref (X.1 a0)), (1, .int x1), (2, .int x2), (3, .int x3)] [] S (k40 x1 x2 x3 S)) (x1 : Int32) (x2 : Int32) (x3 : Int32) (S : iz_S) : iz_Y X l RX10 tX10_trySeason 8 d (iz_Kc X l yX10_trySeason cX10_trySeason 8 none d iz_eV) 204 [(0, .ref (X.1 a0)), (1, .int x1), (2, .int x2), (3, .int x3)] [] S (Mo_trySeason_204 a0 rc k40 x1 x2 x3 S) := by
  unfold Mo_trySeason_204
  subst hd0
  refine iz_iinc (v := (x3 + 1)) (ls2 := [(0, .ref (X.1 a0)), (1, .int x1), (2, .int x2), (3, .int (x3 + 1))]) 126 3 [1, 2, 3, 0] rfl rfl rfl (by decide) rfl ?_
  refine iz_goto (tgt := 40) 127 (by decide) rfl ?_
  exact hk40 x1 x2 (x3 + 1) S
set_option maxRecDepth 10000 in
theorem c_Mo_trySeason_162b {X : iz_X} {l : Launch} {a0 : Nat} (h0 : iz_sh a0 = (10 + 3, 48)) {rc : Nat → Int32 → Int32 → iz_S → Option iz_S} {d0 : Nat} (hrc : ∀ {a0 : Nat} (_ : iz_sh a0 = (10 + 3, 48)) (x1 : Int32) (x2 : Int32) (S : iz_S) r9, rc a0 x1 x2 S = some r9 → iz_Mt X l d0 yX10_trySeason cX10_trySeason 8 none [.ref (X.1 a0), .int x1, .int x2] S (iz_eV r9))  {d : Nat} (hd0 : d = d0 + 1) (hd9 : 4 ≤ d0) {k40 : Int32 → Int32 → Int32 → iz_S → Option iz_S} {k162 : Int32 → Int32 → Int32 → Int32 → Int32 → Int32 → iz_S → Option iz_S} (hk40 : ∀ (x1 : Int32) (x2 : Int32) (x3 : Int32) (S : iz_S), iz_Y X l RX10 tX10_trySeason 8 d (iz_Kc X l yX10_trySeason cX10_trySeason 8 none d iz_eV) 40 [(0, .ref (X.1 a0)), (1, .int x1), (2, .int x2), (3, .int x3)] [] S (k40 x1 x2 x3 S)) (hk162 : ∀ (x1 : Int32) (x2 : Int32) (x3 : Int32) (x4 : Int32) (x5 : Int32) (x6 : Int32) (S : iz_S), iz_Y X l RX10 tX10_trySeason 8 d (iz_Kc X l yX10_trySeason cX10_trySeason 8 none d iz_eV) 162 [(0, .ref (X.1 a0)), (1, .int x1), (2, .int x2), (3, .int x3), (4, .int x4), (5, .int x5), (6, .int x6)] [] S (k162 x1 x2 x3 x4 x5 x6 S)) (x1 : Int32) (x2 : Int32) (x3 : Int32) (x4 : Int32) (x5 : Int32) (x6 : Int32) (S : iz_S) : iz_Y X l RX10 tX10_trySeason 8 d (iz_Kc X l yX10_trySeason cX10_trySeason 8 none d iz_eV) 162 [(0, .ref (X.1 a0)), (1, .int x1), (2, .int x2), (3, .int x3), (4, .int x4), (5, .int x5), (6, .int x6)] [] S (Mo_trySeason_162b a0 rc k40 k162 x1 x2 x3 x4 x5 x6 S) := by
  unfold Mo_trySeason_162b
  subst hd0
  refine iz_iload (n := 6) 101 6 rfl rfl ?_
  refine iz_iconst (v := 4) 102 (by decide) rfl ?_
  refine iz_cmp_ge (tgt := 204) 103 rfl (by decide) ?_ ?_
  · exact iz_sub [0, 1, 2, 3] rfl (c_Mo_trySeason_204 h0 hrc rfl hd9 hk40 x1 x2 x3 S)
  · refine iz_aload_n (n := 0) 104 0 rfl rfl ?_
    refine iz_getR 105 0 h0 fl_X10_7 rfl (by decide) (by decide) rfl ?_
    refine iz_iload (n := 4) 106 4 rfl rfl ?_
    refine iz_bipush (v := 8) 107 (by decide) rfl ?_
    refine iz_iload (n := 6) 108 6 rfl rfl ?_
    refine iz_iconst (v := 2) 109 (by decide) rfl ?_
    refine iz_idiv 110 (by decide) rfl ?_
    refine iz_imul 111 rfl ?_
    refine iz_iadd 112 rfl ?_
    refine iz_iload (n := 6) 113 6 rfl rfl ?_
    refine iz_iconst (v := 2) 114 (by decide) rfl ?_
    refine iz_irem 115 (by decide) rfl ?_
    refine iz_iadd 116 rfl ?_
    refine iz_aload_n (n := 0) 117 0 rfl rfl ?_
    refine iz_getR 118 36 h0 fl_X10_98 rfl (by decide) (by decide) rfl ?_
    refine iz_iload (n := 5) 119 5 rfl rfl ?_
    refine iz_iload (n := 6) 120 6 rfl rfl ?_
    refine iz_iadd 121 rfl ?_
    refine iz_iald 122 (sf_10_36 h0) rfl ?_
    refine iz_iast 123 (sf_10_0 h0) rfl (fun S12 => ?_)
    refine iz_iinc (v := (x6 + 1)) (ls2 := [(0, .ref (X.1 a0)), (1, .int x1), (2, .int x2), (3, .int x3), (4, .int x4), (5, .int x5), (6, .int (x6 + 1))]) 124 6 [1, 2, 3, 4, 5, 6, 0] rfl rfl rfl (by decide) rfl ?_
    refine iz_goto (tgt := 162) 125 (by decide) rfl ?_
    exact hk162 x1 x2 x3 x4 x5 (x6 + 1) S12
theorem c_Mo_trySeason_162 {X : iz_X} {l : Launch} {a0 : Nat} (h0 : iz_sh a0 = (10 + 3, 48)) {rc : Nat → Int32 → Int32 → iz_S → Option iz_S} {d0 : Nat} (hrc : ∀ {a0 : Nat} (_ : iz_sh a0 = (10 + 3, 48)) (x1 : Int32) (x2 : Int32) (S : iz_S) r9, rc a0 x1 x2 S = some r9 → iz_Mt X l d0 yX10_trySeason cX10_trySeason 8 none [.ref (X.1 a0), .int x1, .int x2] S (iz_eV r9))  {d : Nat} (hd0 : d = d0 + 1) (hd9 : 4 ≤ d0) {k40 : Int32 → Int32 → Int32 → iz_S → Option iz_S} (hk40 : ∀ (x1 : Int32) (x2 : Int32) (x3 : Int32) (S : iz_S), iz_Y X l RX10 tX10_trySeason 8 d (iz_Kc X l yX10_trySeason cX10_trySeason 8 none d iz_eV) 40 [(0, .ref (X.1 a0)), (1, .int x1), (2, .int x2), (3, .int x3)] [] S (k40 x1 x2 x3 S)) : ∀ (n9 : Nat) (x1 : Int32) (x2 : Int32) (x3 : Int32) (x4 : Int32) (x5 : Int32) (x6 : Int32) (S : iz_S), iz_Y X l RX10 tX10_trySeason 8 d (iz_Kc X l yX10_trySeason cX10_trySeason 8 none d iz_eV) 162 [(0, .ref (X.1 a0)), (1, .int x1), (2, .int x2), (3, .int x3), (4, .int x4), (5, .int x5), (6, .int x6)] [] S (Mo_trySeason_162 a0 rc k40 n9 x1 x2 x3 x4 x5 x6 S)
  | 0 => by
    intros
    exact iz_none
  | n9 + 1 => c_Mo_trySeason_162b h0 hrc hd0 hd9 hk40 (c_Mo_trySeason_162 h0 hrc hd0 hd9 hk40 n9)
set_option maxRecDepth 10000 in
theorem c_Mo_trySeason_85b {X : iz_X} {l : Launch} {a0 : Nat} (h0 : iz_sh a0 = (10 + 3, 48)) {rc : Nat → Int32 → Int32 → iz_S → Option iz_S} {d0 : Nat} (hrc : ∀ {a0 : Nat} (_ : iz_sh a0 = (10 + 3, 48)) (x1 : Int32) (x2 : Int32) (S : iz_S) r9, rc a0 x1 x2 S = some r9 → iz_Mt X l d0 yX10_trySeason cX10_trySeason 8 none [.ref (X.1 a0), .int x1, .int x2] S (iz_eV r9))  {d : Nat} (hd0 : d = d0 + 1) (hd9 : 4 ≤ d0) {k40 : Int32 → Int32 → Int32 → iz_S → Option iz_S} {k85 : Int32 → Int32 → Int32 → Int32 → Int32 → Int32 → iz_S → Option iz_S} (hk40 : ∀ (x1 : Int32) (x2 : Int32) (x3 : Int32) (S : iz_S), iz_Y X l RX10 tX10_trySeason 8 d (iz_Kc X l yX10_trySeason cX10_trySeason 8 none d iz_eV) 40 [(0, .ref (X.1 a0)), (1, .int x1), (2, .int x2), (3, .int x3)] [] S (k40 x1 x2 x3 S)) (hk85 : ∀ (x1 : Int32) (x2 : Int32) (x3 : Int32) (x4 : Int32) (x5 : Int32) (x6 : Int32) (S : iz_S), iz_Y X l RX10 tX10_trySeason 8 d (iz_Kc X l yX10_trySeason cX10_trySeason 8 none d iz_eV) 85 [(0, .ref (X.1 a0)), (1, .int x1), (2, .int x2), (3, .int x3), (4, .int x4), (5, .int x5), (6, .int x6)] [] S (k85 x1 x2 x3 x4 x5 x6 S)) (x1 : Int32) (x2 : Int32) (x3 : Int32) (x4 : Int32) (x5 : Int32) (x6 : Int32) (S : iz_S) : iz_Y X l RX10 tX10_trySeason 8 d (iz_Kc X l yX10_trySeason cX10_trySeason 8 none d iz_eV) 85 [(0, .ref (X.1 a0)), (1, .int x1), (2, .int x2), (3, .int x3), (4, .int x4), (5, .int x5), (6, .int x6)] [] S (Mo_trySeason_85b a0 rc k40 k85 x1 x2 x3 x4 x5 x6 S) := by
  unfold Mo_trySeason_85b
  subst hd0
  refine iz_iload (n := 6) 52 6 rfl rfl ?_
  refine iz_iconst (v := 4) 53 (by decide) rfl ?_
  refine iz_cmp_ge (tgt := 139) 54 rfl (by decide) ?_ ?_
  · refine iz_aload_n (n := 0) 84 0 rfl rfl ?_
    refine iz_getR 85 33 h0 fl_X10_92 rfl (by decide) (by decide) rfl ?_
    refine iz_iload_n (n := 2) 86 2 rfl rfl ?_
    refine iz_iload (n := 4) 87 4 rfl rfl ?_
    refine iz_iast 88 (sf_10_33 h0) rfl (fun S7 => ?_)
    refine iz_aload_n (n := 0) 89 0 rfl rfl ?_
    refine iz_iload_n (n := 1) 90 1 rfl rfl ?_
    refine iz_iconst (v := 1) 91 (by decide) rfl ?_
    refine iz_iload_n (n := 3) 92 3 rfl rfl ?_
    refine iz_ishl 93 rfl ?_
    refine iz_ior 94 rfl ?_
    refine iz_iload_n (n := 2) 95 2 rfl rfl ?_
    refine iz_iconst (v := 1) 96 (by decide) rfl ?_
    refine iz_iadd 97 rfl ?_
    refine iz_callVV (As := [.int (x1 ||| ((1 : Int32) <<< (x3 &&& 31))), .int (x2 + 1)]) (rest := []) 98 ml_X10_173 cw_X10_trySeason ci_X10_trySeason h0 (fun r9 hr9 => hrc h0 (x1 ||| ((1 : Int32) <<< (x3 &&& 31))) (x2 + 1) S7 r9 hr9) rfl (by decide) (Nat.le_refl _) rfl rfl (Nat.le_of_ble_eq_true rfl) (fun S8 => ?_)
    refine iz_iconst (v := 0) 99 (by decide) rfl ?_
    refine iz_istore (n := 6) (ls2 := [(0, .ref (X.1 a0)), (1, .int x1), (2, .int x2), (3, .int x3), (4, .int x4), (5, .int x5), (6, .int 0)]) 100 [1, 2, 3, 4, 5, 6, 0] rfl (by decide) rfl ?_
    exact c_Mo_trySeason_162 h0 hrc rfl hd9 hk40 iz_FU x1 x2 x3 x4 x5 0 S8
  · refine iz_iload (n := 4) 55 4 rfl rfl ?_
    refine iz_bipush (v := 8) 56 (by decide) rfl ?_
    refine iz_iload (n := 6) 57 6 rfl rfl ?_
    refine iz_iconst (v := 2) 58 (by decide) rfl ?_
    refine iz_idiv 59 (by decide) rfl ?_
    refine iz_imul 60 rfl ?_
    refine iz_iadd 61 rfl ?_
    refine iz_iload (n := 6) 62 6 rfl rfl ?_
    refine iz_iconst (v := 2) 63 (by decide) rfl ?_
    refine iz_irem 64 (by decide) rfl ?_
    refine iz_iadd 65 rfl ?_
    refine iz_let (fun v9 => ?_)
    refine iz_istore (n := 7) (ls2 := [(0, .ref (X.1 a0)), (1, .int x1), (2, .int x2), (3, .int x3), (4, .int x4), (5, .int x5), (6, .int x6), (7, .int v9)]) 66 [1, 2, 3, 4, 5, 6, 7, 0] rfl (by decide) rfl ?_
    refine iz_aload_n (n := 0) 67 0 rfl rfl ?_
    refine iz_getR 68 36 h0 fl_X10_98 rfl (by decide) (by decide) rfl ?_
    refine iz_iload (n := 5) 69 5 rfl rfl ?_
    refine iz_iload (n := 6) 70 6 rfl rfl ?_
    refine iz_iadd 71 rfl ?_
    refine iz_aload_n (n := 0) 72 0 rfl rfl ?_
    refine iz_getR 73 0 h0 fl_X10_7 rfl (by decide) (by decide) rfl ?_
    refine iz_iload (n := 7) 74 7 rfl rfl ?_
    refine iz_iald 75 (sf_10_0 h0) rfl ?_
    refine iz_iast 76 (sf_10_36 h0) rfl (fun S10 => ?_)
    refine iz_aload_n (n := 0) 77 0 rfl rfl ?_
    refine iz_getR 78 0 h0 fl_X10_7 rfl (by decide) (by decide) rfl ?_
    refine iz_iload (n := 7) 79 7 rfl rfl ?_
    refine iz_iconst (v := 0) 80 (by decide) rfl ?_
    refine iz_iast 81 (sf_10_0 h0) rfl (fun S11 => ?_)
    refine iz_iinc (v := (x6 + 1)) (ls2 := [(0, .ref (X.1 a0)), (1, .int x1), (2, .int x2), (3, .int x3), (4, .int x4), (5, .int x5), (6, .int (x6 + 1))]) 82 6 [1, 2, 3, 4, 5, 6, 0] rfl rfl rfl (by decide) rfl ?_
    refine iz_goto (tgt := 85) 83 (by decide) rfl ?_
    exact hk85 x1 x2 x3 x4 x5 (x6 + 1) S11
theorem c_Mo_trySeason_85 {X : iz_X} {l : Launch} {a0 : Nat} (h0 : iz_sh a0 = (10 + 3, 48)) {rc : Nat → Int32 → Int32 → iz_S → Option iz_S} {d0 : Nat} (hrc : ∀ {a0 : Nat} (_ : iz_sh a0 = (10 + 3, 48)) (x1 : Int32) (x2 : Int32) (S : iz_S) r9, rc a0 x1 x2 S = some r9 → iz_Mt X l d0 yX10_trySeason cX10_trySeason 8 none [.ref (X.1 a0), .int x1, .int x2] S (iz_eV r9))  {d : Nat} (hd0 : d = d0 + 1) (hd9 : 4 ≤ d0) {k40 : Int32 → Int32 → Int32 → iz_S → Option iz_S} (hk40 : ∀ (x1 : Int32) (x2 : Int32) (x3 : Int32) (S : iz_S), iz_Y X l RX10 tX10_trySeason 8 d (iz_Kc X l yX10_trySeason cX10_trySeason 8 none d iz_eV) 40 [(0, .ref (X.1 a0)), (1, .int x1), (2, .int x2), (3, .int x3)] [] S (k40 x1 x2 x3 S)) : ∀ (n9 : Nat) (x1 : Int32) (x2 : Int32) (x3 : Int32) (x4 : Int32) (x5 : Int32) (x6 : Int32) (S : iz_S), iz_Y X l RX10 tX10_trySeason 8 d (iz_Kc X l yX10_trySeason cX10_trySeason 8 none d iz_eV) 85 [(0, .ref (X.1 a0)), (1, .int x1), (2, .int x2), (3, .int x3), (4, .int x4), (5, .int x5), (6, .int x6)] [] S (Mo_trySeason_85 a0 rc k40 n9 x1 x2 x3 x4 x5 x6 S)
  | 0 => by
    intros
    exact iz_none
  | n9 + 1 => c_Mo_trySeason_85b h0 hrc hd0 hd9 hk40 (c_Mo_trySeason_85 h0 hrc hd0 hd9 hk40 n9)
set_option maxRecDepth 10000 in
theorem c_Mo_trySeason_40b {X : iz_X} {l : Launch} {a0 : Nat} (h0 : iz_sh a0 = (10 + 3, 48)) {rc : Nat → Int32 → Int32 → iz_S → Option iz_S} {d0 : Nat} (hrc : ∀ {a0 : Nat} (_ : iz_sh a0 = (10 + 3, 48)) (x1 : Int32) (x2 : Int32) (S : iz_S) r9, rc a0 x1 x2 S = some r9 → iz_Mt X l d0 yX10_trySeason cX10_trySeason 8 none [.ref (X.1 a0), .int x1, .int x2] S (iz_eV r9))  {d : Nat} (hd0 : d = d0 + 1) (hd9 : 4 ≤ d0) {k40 : Int32 → Int32 → Int32 → iz_S → Option iz_S} (hk40 : ∀ (x1 : Int32) (x2 : Int32) (x3 : Int32) (S : iz_S), iz_Y X l RX10 tX10_trySeason 8 d (iz_Kc X l yX10_trySeason cX10_trySeason 8 none d iz_eV) 40 [(0, .ref (X.1 a0)), (1, .int x1), (2, .int x2), (3, .int x3)] [] S (k40 x1 x2 x3 S)) (x1 : Int32) (x2 : Int32) (x3 : Int32) (S : iz_S) : iz_Y X l RX10 tX10_trySeason 8 d (iz_Kc X l yX10_trySeason cX10_trySeason 8 none d iz_eV) 40 [(0, .ref (X.1 a0)), (1, .int x1), (2, .int x2), (3, .int x3)] [] S (Mo_trySeason_40b a0 rc k40 x1 x2 x3 S) := by
  unfold Mo_trySeason_40b
  subst hd0
  refine iz_iload_n (n := 3) 24 3 rfl rfl ?_
  refine iz_aload_n (n := 0) 25 0 rfl rfl ?_
  refine iz_getI 26 32 h0 fl_X10_170 rfl (by decide) (by decide) rfl ?_
  refine iz_cmp_ge (tgt := 210) 27 rfl (by decide) ?_ ?_
  · exact iz_vret 128 rfl
  · refine iz_iload_n (n := 1) 28 1 rfl rfl ?_
    refine iz_iload_n (n := 3) 29 3 rfl rfl ?_
    refine iz_ishr 30 rfl ?_
    refine iz_iconst (v := 1) 31 (by decide) rfl ?_
    refine iz_iand 32 rfl ?_
    refine iz_if_ne (tgt := 204) 33 rfl (by decide) ?_ ?_
    · exact c_Mo_trySeason_204 h0 hrc rfl hd9 hk40 x1 x2 x3 S
    · refine iz_aload_n (n := 0) 34 0 rfl rfl ?_
      refine iz_aload_n (n := 0) 35 0 rfl rfl ?_
      refine iz_getR 36 31 h0 fl_X10_89 rfl (by decide) (by decide) rfl ?_
      refine iz_iload_n (n := 3) 37 3 rfl rfl ?_
      refine iz_iald 38 (sf_10_31 h0) rfl ?_
      refine iz_callVI (As := [.int (iz_g S (iz_rf a0 31) x3)]) (rest := []) 39 ml_X10_160 cw_X10_barOf ci_X10_barOf h0 (fun r9 hr9 => m_Mo_barOf h0 hr9) rfl (by decide) (by omega) rfl rfl (Nat.le_of_ble_eq_true rfl) (fun r4 S3 => ?_)
      refine iz_if_ne (tgt := 204) 40 rfl (by decide) ?_ ?_
      · exact c_Mo_trySeason_204 h0 hrc rfl hd9 hk40 x1 x2 x3 S3
      · refine iz_aload_n (n := 0) 41 0 rfl rfl ?_
        refine iz_getR 42 31 h0 fl_X10_89 rfl (by decide) (by decide) rfl ?_
        refine iz_iload_n (n := 3) 43 3 rfl rfl ?_
        refine iz_iald 44 (sf_10_31 h0) rfl ?_
        refine iz_let (fun v5 => ?_)
        refine iz_istore (n := 4) (ls2 := [(0, .ref (X.1 a0)), (1, .int x1), (2, .int x2), (3, .int x3), (4, .int v5)]) 45 [1, 2, 3, 4, 0] rfl (by decide) rfl ?_
        refine iz_iconst (v := 4) 46 (by decide) rfl ?_
        refine iz_iload_n (n := 2) 47 2 rfl rfl ?_
        refine iz_imul 48 rfl ?_
        refine iz_let (fun v6 => ?_)
        refine iz_istore (n := 5) (ls2 := [(0, .ref (X.1 a0)), (1, .int x1), (2, .int x2), (3, .int x3), (4, .int v5), (5, .int v6)]) 49 [1, 2, 3, 4, 5, 0] rfl (by decide) rfl ?_
        refine iz_iconst (v := 0) 50 (by decide) rfl ?_
        refine iz_istore (n := 6) (ls2 := [(0, .ref (X.1 a0)), (1, .int x1), (2, .int x2), (3, .int x3), (4, .int v5), (5, .int v6), (6, .int 0)]) 51 [1, 2, 3, 4, 5, 6, 0] rfl (by decide) rfl ?_
        exact c_Mo_trySeason_85 h0 hrc rfl hd9 hk40 iz_FU x1 x2 x3 v5 v6 0 S3
theorem c_Mo_trySeason_40 {X : iz_X} {l : Launch} {a0 : Nat} (h0 : iz_sh a0 = (10 + 3, 48)) {rc : Nat → Int32 → Int32 → iz_S → Option iz_S} {d0 : Nat} (hrc : ∀ {a0 : Nat} (_ : iz_sh a0 = (10 + 3, 48)) (x1 : Int32) (x2 : Int32) (S : iz_S) r9, rc a0 x1 x2 S = some r9 → iz_Mt X l d0 yX10_trySeason cX10_trySeason 8 none [.ref (X.1 a0), .int x1, .int x2] S (iz_eV r9))  {d : Nat} (hd0 : d = d0 + 1) (hd9 : 4 ≤ d0) : ∀ (n9 : Nat) (x1 : Int32) (x2 : Int32) (x3 : Int32) (S : iz_S), iz_Y X l RX10 tX10_trySeason 8 d (iz_Kc X l yX10_trySeason cX10_trySeason 8 none d iz_eV) 40 [(0, .ref (X.1 a0)), (1, .int x1), (2, .int x2), (3, .int x3)] [] S (Mo_trySeason_40 a0 rc n9 x1 x2 x3 S)
  | 0 => by
    intros
    exact iz_none
  | n9 + 1 => c_Mo_trySeason_40b h0 hrc hd0 hd9 (c_Mo_trySeason_40 h0 hrc hd0 hd9 n9)
set_option maxRecDepth 10000 in
theorem c_Mo_trySeason_38 {X : iz_X} {l : Launch} {a0 : Nat} (h0 : iz_sh a0 = (10 + 3, 48)) {rc : Nat → Int32 → Int32 → iz_S → Option iz_S} {d0 : Nat} (hrc : ∀ {a0 : Nat} (_ : iz_sh a0 = (10 + 3, 48)) (x1 : Int32) (x2 : Int32) (S : iz_S) r9, rc a0 x1 x2 S = some r9 → iz_Mt X l d0 yX10_trySeason cX10_trySeason 8 none [.ref (X.1 a0), .int x1, .int x2] S (iz_eV r9))  {d : Nat} (hd0 : d = d0 + 1) (hd9 : 4 ≤ d0) (x1 : Int32) (x2 : Int32) (S : iz_S) : iz_Y X l RX10 tX10_trySeason 8 d (iz_Kc X l yX10_trySeason cX10_trySeason 8 none d iz_eV) 38 [(0, .ref (X.1 a0)), (1, .int x1), (2, .int x2)] [] S (Mo_trySeason_38 a0 rc x1 x2 S) := by
  unfold Mo_trySeason_38
  subst hd0
  refine iz_iconst (v := 0) 22 (by decide) rfl ?_
  refine iz_istore_n (n := 3) (ls2 := [(0, .ref (X.1 a0)), (1, .int x1), (2, .int x2), (3, .int 0)]) 23 [1, 2, 3, 0] rfl (by decide) rfl ?_
  exact c_Mo_trySeason_40 h0 hrc rfl hd9 iz_FU x1 x2 0 S
set_option maxRecDepth 10000 in
theorem c_Mo_trySeason_15b {X : iz_X} {l : Launch} {a0 : Nat} (h0 : iz_sh a0 = (10 + 3, 48)) {rc : Nat → Int32 → Int32 → iz_S → Option iz_S} {d0 : Nat} (hrc : ∀ {a0 : Nat} (_ : iz_sh a0 = (10 + 3, 48)) (x1 : Int32) (x2 : Int32) (S : iz_S) r9, rc a0 x1 x2 S = some r9 → iz_Mt X l d0 yX10_trySeason cX10_trySeason 8 none [.ref (X.1 a0), .int x1, .int x2] S (iz_eV r9))  {d : Nat} (hd0 : d = d0 + 1) (hd9 : 4 ≤ d0) {k15 : Int32 → Int32 → Int32 → iz_S → Option iz_S} (hk15 : ∀ (x1 : Int32) (x2 : Int32) (x3 : Int32) (S : iz_S), iz_Y X l RX10 tX10_trySeason 8 d (iz_Kc X l yX10_trySeason cX10_trySeason 8 none d iz_eV) 15 [(0, .ref (X.1 a0)), (1, .int x1), (2, .int x2), (3, .int x3)] [] S (k15 x1 x2 x3 S)) (x1 : Int32) (x2 : Int32) (x3 : Int32) (S : iz_S) : iz_Y X l RX10 tX10_trySeason 8 d (iz_Kc X l yX10_trySeason cX10_trySeason 8 none d iz_eV) 15 [(0, .ref (X.1 a0)), (1, .int x1), (2, .int x2), (3, .int x3)] [] S (Mo_trySeason_15b a0 rc k15 x1 x2 x3 S) := by
  unfold Mo_trySeason_15b
  subst hd0
  refine iz_iload_n (n := 3) 9 3 rfl rfl ?_
  refine iz_iload_n (n := 2) 10 2 rfl rfl ?_
  refine iz_cmp_ge (tgt := 38) 11 rfl (by decide) ?_ ?_
  · exact iz_sub [0, 1, 2] rfl (c_Mo_trySeason_38 h0 hrc rfl hd9 x1 x2 S)
  · refine iz_aload_n (n := 0) 12 0 rfl rfl ?_
    refine iz_getR 13 34 h0 fl_X10_95 rfl (by decide) (by decide) rfl ?_
    refine iz_iload_n (n := 3) 14 3 rfl rfl ?_
    refine iz_aload_n (n := 0) 15 0 rfl rfl ?_
    refine iz_getR 16 33 h0 fl_X10_92 rfl (by decide) (by decide) rfl ?_
    refine iz_iload_n (n := 3) 17 3 rfl rfl ?_
    refine iz_iald 18 (sf_10_33 h0) rfl ?_
    refine iz_iast 19 (sf_10_34 h0) rfl (fun S2 => ?_)
    refine iz_iinc (v := (x3 + 1)) (ls2 := [(0, .ref (X.1 a0)), (1, .int x1), (2, .int x2), (3, .int (x3 + 1))]) 20 3 [1, 2, 3, 0] rfl rfl rfl (by decide) rfl ?_
    refine iz_goto (tgt := 15) 21 (by decide) rfl ?_
    exact hk15 x1 x2 (x3 + 1) S2
theorem c_Mo_trySeason_15 {X : iz_X} {l : Launch} {a0 : Nat} (h0 : iz_sh a0 = (10 + 3, 48)) {rc : Nat → Int32 → Int32 → iz_S → Option iz_S} {d0 : Nat} (hrc : ∀ {a0 : Nat} (_ : iz_sh a0 = (10 + 3, 48)) (x1 : Int32) (x2 : Int32) (S : iz_S) r9, rc a0 x1 x2 S = some r9 → iz_Mt X l d0 yX10_trySeason cX10_trySeason 8 none [.ref (X.1 a0), .int x1, .int x2] S (iz_eV r9))  {d : Nat} (hd0 : d = d0 + 1) (hd9 : 4 ≤ d0) : ∀ (n9 : Nat) (x1 : Int32) (x2 : Int32) (x3 : Int32) (S : iz_S), iz_Y X l RX10 tX10_trySeason 8 d (iz_Kc X l yX10_trySeason cX10_trySeason 8 none d iz_eV) 15 [(0, .ref (X.1 a0)), (1, .int x1), (2, .int x2), (3, .int x3)] [] S (Mo_trySeason_15 a0 rc n9 x1 x2 x3 S)
  | 0 => by
    intros
    exact iz_none
  | n9 + 1 => c_Mo_trySeason_15b h0 hrc hd0 hd9 (c_Mo_trySeason_15 h0 hrc hd0 hd9 n9)
set_option maxRecDepth 10000 in
theorem c_Mo_trySeason_b {X : iz_X} {l : Launch} {a0 : Nat} (h0 : iz_sh a0 = (10 + 3, 48)) {rc : Nat → Int32 → Int32 → iz_S → Option iz_S} {d0 : Nat} (hrc : ∀ {a0 : Nat} (_ : iz_sh a0 = (10 + 3, 48)) (x1 : Int32) (x2 : Int32) (S : iz_S) r9, rc a0 x1 x2 S = some r9 → iz_Mt X l d0 yX10_trySeason cX10_trySeason 8 none [.ref (X.1 a0), .int x1, .int x2] S (iz_eV r9))  {d : Nat} (hd0 : d = d0 + 1) (hd9 : 4 ≤ d0) (x1 : Int32) (x2 : Int32) (S : iz_S) : iz_Y X l RX10 tX10_trySeason 8 d (iz_Kc X l yX10_trySeason cX10_trySeason 8 none d iz_eV) 0 [(0, .ref (X.1 a0)), (1, .int x1), (2, .int x2)] [] S (Mo_trySeason_b a0 rc x1 x2 S) := by
  unfold Mo_trySeason_b
  subst hd0
  refine iz_iload_n (n := 2) 0 2 rfl rfl ?_
  refine iz_aload_n (n := 0) 1 0 rfl rfl ?_
  refine iz_getI 2 35 h0 fl_X10_167 rfl (by decide) (by decide) rfl ?_
  refine iz_cmp_le (tgt := 38) 3 rfl (by decide) ?_ ?_
  · exact c_Mo_trySeason_38 h0 hrc rfl hd9 x1 x2 S
  · refine iz_aload_n (n := 0) 4 0 rfl rfl ?_
    refine iz_iload_n (n := 2) 5 2 rfl rfl ?_
    refine iz_putI 6 35 h0 fl_X10_167 rfl (by decide) (by decide) rfl (fun S1 => ?_)
    refine iz_iconst (v := 0) 7 (by decide) rfl ?_
    refine iz_istore_n (n := 3) (ls2 := [(0, .ref (X.1 a0)), (1, .int x1), (2, .int x2), (3, .int 0)]) 8 [1, 2, 3, 0] rfl (by decide) rfl ?_
    exact c_Mo_trySeason_15 h0 hrc rfl hd9 iz_FU x1 x2 0 S1
theorem m_Mo_trySeason_n {X : iz_X} {l : Launch} : ∀ (n9 : Nat) {a0 : Nat} (_ : iz_sh a0 = (10 + 3, 48)) (x1 : Int32) (x2 : Int32) (S : iz_S) (r9 : iz_S), Mo_trySeason n9 a0 x1 x2 S = some r9 → iz_Mt X l (4 + n9) yX10_trySeason cX10_trySeason 8 none [.ref (X.1 a0), .int x1, .int x2] S (iz_eV r9)
  | 0 => by
    intros
    rename_i h
    cases h
  | n9 + 1 => by
    intro  h0  x1 x2 S r9 hr
    exact iz_Mt_of (dt := tX10_trySeason) dX10_trySeason (by decide) hr (Nat.le_of_ble_eq_true rfl) (c_Mo_trySeason_b h0 (fun {a0} h0  x1 x2 S r9 hr => m_Mo_trySeason_n n9 h0  x1 x2 S r9 hr) rfl (by omega) x1 x2 S)
theorem m_Mo_trySeason {X : iz_X} {l : Launch} {a0 : Nat} (h0 : iz_sh a0 = (10 + 3, 48)) {x1 : Int32} {x2 : Int32} {S : iz_S} {r9 : iz_S} (hr : Mo_trySeason 10 a0 x1 x2 S = some r9) : iz_Mt X l 14 yX10_trySeason cX10_trySeason 8 none [.ref (X.1 a0), .int x1, .int x2] S (iz_eV r9) :=
  m_Mo_trySeason_n 10 h0 x1 x2 S r9 hr
def Mo_season_174 (a0 : Nat) (s0 : Int32) (S : iz_S) : Option (Int32 × iz_S) :=
  some (s0, S)
def Mo_season_113 (a0 : Nat) (x1 : Int32) (x2 : Int32) (x3 : Int32) (S : iz_S) : Option (Int32 × iz_S) :=
  (if x3 = 0 then
    iz_bI (Mo_finding a0 3 S) (fun r15 S14 =>
    some (r15, S14))
  else
    (iz_lt (iz_up S a0 32 x2) (fun S9 =>
    iz_lt (iz_up S9 a0 35 0) (fun S10 =>
    iz_bV (Mo_trySeason 10 a0 0 0 S10) (fun S11 =>
    if x1 = 0 then
      (Mo_season_174 a0 (S11.1 a0 35) S11)
    else
      (if x1 ≤ (S11.1 a0 35) then
        iz_ck (iz_in (x1 - 1) 6) (
        (Mo_season_174 a0 (iz_g S11 (iz_rf a0 34) (x1 - 1)) S11))
      else
        iz_bI (Mo_finding a0 2 S11) (fun r13 S12 =>
        (Mo_season_174 a0 r13 S12))))))))
def Mo_season_85 (a0 : Nat) (k31 : Int32 → Int32 → Int32 → Int32 → iz_S → Option (Int32 × iz_S)) (k55 : Int32 → Int32 → Int32 → Int32 → Int32 → iz_S → Option (Int32 × iz_S)) (x1 : Int32) (x2 : Int32) (x4 : Int32) (x5 : Int32) (s0 : Int32) (s1 : Int32) (S : iz_S) : Option (Int32 × iz_S) :=
  iz_lt (s0 &&& s1) (fun v17 =>
  (k55 x1 x2 v17 x4 (x5 + 1) S))
def Mo_season_55b (a0 : Nat) (k31 : Int32 → Int32 → Int32 → Int32 → iz_S → Option (Int32 × iz_S)) (k55 : Int32 → Int32 → Int32 → Int32 → Int32 → iz_S → Option (Int32 × iz_S)) (x1 : Int32) (x2 : Int32) (x3 : Int32) (x4 : Int32) (x5 : Int32) (S : iz_S) : Option (Int32 × iz_S) :=
  (if x5 < x4 then
    (iz_ck (iz_in x5 16) (
    iz_ck (iz_in x4 16) (
    if (iz_g S (iz_rf a0 27) x5) = (iz_g S (iz_rf a0 27) x4) then
      (Mo_season_85 a0 k31 k55 x1 x2 x4 x5 x3 0 S)
    else
      (Mo_season_85 a0 k31 k55 x1 x2 x4 x5 x3 1 S))))
  else
    iz_ck (iz_in x4 16) (
    iz_ck (iz_in x4 6) (iz_lt (iz_s S (iz_rf a0 31) x4 (iz_g S (iz_rf a0 27) x4)) (fun S16 =>
    (k31 x1 x2 x3 (x4 + 1) S16)))))
def Mo_season_55 (a0 : Nat) (k31 : Int32 → Int32 → Int32 → Int32 → iz_S → Option (Int32 × iz_S)) : Nat → Int32 → Int32 → Int32 → Int32 → Int32 → iz_S → Option (Int32 × iz_S)
  | 0 => fun _ _ _ _ _ _ => none
  | n9 + 1 => Mo_season_55b a0 k31 (Mo_season_55 a0 k31 n9)
def Mo_season_31b (a0 : Nat) (k31 : Int32 → Int32 → Int32 → Int32 → iz_S → Option (Int32 × iz_S)) (x1 : Int32) (x2 : Int32) (x3 : Int32) (x4 : Int32) (S : iz_S) : Option (Int32 × iz_S) :=
  (if x4 < x2 then
    (if x3 = 0 then
      (Mo_season_113 a0 x1 x2 x3 S)
    else
      iz_ck (iz_in x4 16) (
      iz_bI (Mo_isSquare (iz_g S (iz_rf a0 27) x4) S) (fun r8 S7 =>
      (Mo_season_55 a0 k31 iz_FU x1 x2 r8 x4 0 S7))))
  else
    (Mo_season_113 a0 x1 x2 x3 S))
def Mo_season_31 (a0 : Nat) : Nat → Int32 → Int32 → Int32 → Int32 → iz_S → Option (Int32 × iz_S)
  | 0 => fun _ _ _ _ _ => none
  | n9 + 1 => Mo_season_31b a0 (Mo_season_31 a0 n9)
def Mo_season (a0 : Nat) (x1 : Int32) (S : iz_S) : Option (Int32 × iz_S) :=
  (if x1 < 0 then
    iz_bI (Mo_finding a0 1 S) (fun r6 S5 =>
    some (r6, S5))
  else
    iz_lt (S.1 a0 26) (fun v1 =>
    iz_lt (iz_up S a0 26 0) (fun S2 =>
    iz_bI (Mo_isIn v1 1 6 S2) (fun r4 S3 =>
    (Mo_season_31 a0 iz_FU x1 v1 r4 0 S3)))))
set_option maxRecDepth 10000 in
theorem c_Mo_season_174 {X : iz_X} {l : Launch} {a0 : Nat} (h0 : iz_sh a0 = (10 + 3, 48)) (s0 : Int32) (S : iz_S) : iz_Y X l RX10 tX10_season 6 15 (iz_Kc X l yX10_season cX10_season 6 (some .int) 15 iz_eI) 174 [] [.int s0] S (Mo_season_174 a0 s0 S) := by
  unfold Mo_season_174
  exact iz_iret 97 rfl
set_option maxRecDepth 10000 in
theorem c_Mo_season_113 {X : iz_X} {l : Launch} {a0 : Nat} (h0 : iz_sh a0 = (10 + 3, 48)) (x1 : Int32) (x2 : Int32) (x3 : Int32) (S : iz_S) : iz_Y X l RX10 tX10_season 6 15 (iz_Kc X l yX10_season cX10_season 6 (some .int) 15 iz_eI) 113 [(0, .ref (X.1 a0)), (1, .int x1), (2, .int x2), (3, .int x3)] [] S (Mo_season_113 a0 x1 x2 x3 S) := by
  unfold Mo_season_113
  refine iz_iload_n (n := 3) 62 3 rfl rfl ?_
  refine iz_if_ne (tgt := 123) 63 rfl (by decide) ?_ ?_
  · refine iz_aload_n (n := 0) 68 0 rfl rfl ?_
    refine iz_iload_n (n := 2) 69 2 rfl rfl ?_
    refine iz_putI 70 32 h0 fl_X10_170 rfl (by decide) (by decide) rfl (fun S9 => ?_)
    refine iz_aload_n (n := 0) 71 0 rfl rfl ?_
    refine iz_iconst (v := 0) 72 (by decide) rfl ?_
    refine iz_putI 73 35 h0 fl_X10_167 rfl (by decide) (by decide) rfl (fun S10 => ?_)
    refine iz_aload_n (n := 0) 74 0 rfl rfl ?_
    refine iz_iconst (v := 0) 75 (by decide) rfl ?_
    refine iz_iconst (v := 0) 76 (by decide) rfl ?_
    refine iz_callVV (As := [.int 0, .int 0]) (rest := []) 77 ml_X10_173 cw_X10_trySeason ci_X10_trySeason h0 (fun r9 hr9 => m_Mo_trySeason h0 hr9) rfl (by decide) (by decide) rfl rfl (Nat.le_of_ble_eq_true rfl) (fun S11 => ?_)
    refine iz_iload_n (n := 1) 78 1 rfl rfl ?_
    refine iz_if_ne (tgt := 150) 79 rfl (by decide) ?_ ?_
    · refine iz_iload_n (n := 1) 83 1 rfl rfl ?_
      refine iz_aload_n (n := 0) 84 0 rfl rfl ?_
      refine iz_getI 85 35 h0 fl_X10_167 rfl (by decide) (by decide) rfl ?_
      refine iz_cmp_gt (tgt := 169) 86 rfl (by decide) ?_ ?_
      · refine iz_aload_n (n := 0) 94 0 rfl rfl ?_
        refine iz_iconst (v := 2) 95 (by decide) rfl ?_
        refine iz_callVI (As := [.int 2]) (rest := []) 96 ml_X10_127 cw_X10_finding ci_X10_finding h0 (fun r9 hr9 => m_Mo_finding h0 hr9) rfl (by decide) (by decide) rfl rfl (Nat.le_of_ble_eq_true rfl) (fun r13 S12 => ?_)
        exact iz_sub [] rfl (c_Mo_season_174 h0 r13 S12)
      · refine iz_aload_n (n := 0) 87 0 rfl rfl ?_
        refine iz_getR 88 34 h0 fl_X10_95 rfl (by decide) (by decide) rfl ?_
        refine iz_iload_n (n := 1) 89 1 rfl rfl ?_
        refine iz_iconst (v := 1) 90 (by decide) rfl ?_
        refine iz_isub 91 rfl ?_
        refine iz_iald 92 (sf_10_34 h0) rfl ?_
        refine iz_goto (tgt := 174) 93 (by decide) rfl ?_
        exact iz_sub [] rfl (c_Mo_season_174 h0 (iz_g S11 (iz_rf a0 34) (x1 - 1)) S11)
    · refine iz_aload_n (n := 0) 80 0 rfl rfl ?_
      refine iz_getI 81 35 h0 fl_X10_167 rfl (by decide) (by decide) rfl ?_
      refine iz_goto (tgt := 174) 82 (by decide) rfl ?_
      exact iz_sub [] rfl (c_Mo_season_174 h0 (S11.1 a0 35) S11)
  · refine iz_aload_n (n := 0) 64 0 rfl rfl ?_
    refine iz_iconst (v := 3) 65 (by decide) rfl ?_
    refine iz_callVI (As := [.int 3]) (rest := []) 66 ml_X10_127 cw_X10_finding ci_X10_finding h0 (fun r9 hr9 => m_Mo_finding h0 hr9) rfl (by decide) (by decide) rfl rfl (Nat.le_of_ble_eq_true rfl) (fun r15 S14 => ?_)
    exact iz_iret 67 rfl
set_option maxRecDepth 10000 in
theorem c_Mo_season_85 {X : iz_X} {l : Launch} {a0 : Nat} (h0 : iz_sh a0 = (10 + 3, 48)) {k31 : Int32 → Int32 → Int32 → Int32 → iz_S → Option (Int32 × iz_S)} {k55 : Int32 → Int32 → Int32 → Int32 → Int32 → iz_S → Option (Int32 × iz_S)} (hk31 : ∀ (x1 : Int32) (x2 : Int32) (x3 : Int32) (x4 : Int32) (S : iz_S), iz_Y X l RX10 tX10_season 6 15 (iz_Kc X l yX10_season cX10_season 6 (some .int) 15 iz_eI) 31 [(0, .ref (X.1 a0)), (1, .int x1), (2, .int x2), (3, .int x3), (4, .int x4)] [] S (k31 x1 x2 x3 x4 S)) (hk55 : ∀ (x1 : Int32) (x2 : Int32) (x3 : Int32) (x4 : Int32) (x5 : Int32) (S : iz_S), iz_Y X l RX10 tX10_season 6 15 (iz_Kc X l yX10_season cX10_season 6 (some .int) 15 iz_eI) 55 [(0, .ref (X.1 a0)), (1, .int x1), (2, .int x2), (3, .int x3), (4, .int x4), (5, .int x5)] [] S (k55 x1 x2 x3 x4 x5 S)) (x1 : Int32) (x2 : Int32) (x4 : Int32) (x5 : Int32) (s0 : Int32) (s1 : Int32) (S : iz_S) : iz_Y X l RX10 tX10_season 6 15 (iz_Kc X l yX10_season cX10_season 6 (some .int) 15 iz_eI) 85 [(0, .ref (X.1 a0)), (1, .int x1), (2, .int x2), (4, .int x4), (5, .int x5)] [.int s1, .int s0] S (Mo_season_85 a0 k31 k55 x1 x2 x4 x5 s0 s1 S) := by
  unfold Mo_season_85
  refine iz_iand 48 rfl ?_
  refine iz_let (fun v17 => ?_)
  refine iz_istore_n (n := 3) (ls2 := [(0, .ref (X.1 a0)), (1, .int x1), (2, .int x2), (3, .int v17), (4, .int x4), (5, .int x5)]) 49 [1, 2, 3, 0, 4, 5] rfl (by decide) rfl ?_
  refine iz_iinc (v := (x5 + 1)) (ls2 := [(0, .ref (X.1 a0)), (1, .int x1), (2, .int x2), (3, .int v17), (4, .int x4), (5, .int (x5 + 1))]) 50 5 [1, 2, 3, 4, 5, 0] rfl rfl rfl (by decide) rfl ?_
  refine iz_goto (tgt := 55) 51 (by decide) rfl ?_
  exact hk55 x1 x2 v17 x4 (x5 + 1) S
set_option maxRecDepth 10000 in
theorem c_Mo_season_55b {X : iz_X} {l : Launch} {a0 : Nat} (h0 : iz_sh a0 = (10 + 3, 48)) {k31 : Int32 → Int32 → Int32 → Int32 → iz_S → Option (Int32 × iz_S)} {k55 : Int32 → Int32 → Int32 → Int32 → Int32 → iz_S → Option (Int32 × iz_S)} (hk31 : ∀ (x1 : Int32) (x2 : Int32) (x3 : Int32) (x4 : Int32) (S : iz_S), iz_Y X l RX10 tX10_season 6 15 (iz_Kc X l yX10_season cX10_season 6 (some .int) 15 iz_eI) 31 [(0, .ref (X.1 a0)), (1, .int x1), (2, .int x2), (3, .int x3), (4, .int x4)] [] S (k31 x1 x2 x3 x4 S)) (hk55 : ∀ (x1 : Int32) (x2 : Int32) (x3 : Int32) (x4 : Int32) (x5 : Int32) (S : iz_S), iz_Y X l RX10 tX10_season 6 15 (iz_Kc X l yX10_season cX10_season 6 (some .int) 15 iz_eI) 55 [(0, .ref (X.1 a0)), (1, .int x1), (2, .int x2), (3, .int x3), (4, .int x4), (5, .int x5)] [] S (k55 x1 x2 x3 x4 x5 S)) (x1 : Int32) (x2 : Int32) (x3 : Int32) (x4 : Int32) (x5 : Int32) (S : iz_S) : iz_Y X l RX10 tX10_season 6 15 (iz_Kc X l yX10_season cX10_season 6 (some .int) 15 iz_eI) 55 [(0, .ref (X.1 a0)), (1, .int x1), (2, .int x2), (3, .int x3), (4, .int x4), (5, .int x5)] [] S (Mo_season_55b a0 k31 k55 x1 x2 x3 x4 x5 S) := by
  unfold Mo_season_55b
  refine iz_iload (n := 5) 32 5 rfl rfl ?_
  refine iz_iload (n := 4) 33 4 rfl rfl ?_
  refine iz_cmp_ge (tgt := 93) 34 rfl (by decide) ?_ ?_
  · refine iz_aload_n (n := 0) 52 0 rfl rfl ?_
    refine iz_getR 53 31 h0 fl_X10_89 rfl (by decide) (by decide) rfl ?_
    refine iz_iload (n := 4) 54 4 rfl rfl ?_
    refine iz_aload_n (n := 0) 55 0 rfl rfl ?_
    refine iz_getR 56 27 h0 fl_X10_77 rfl (by decide) (by decide) rfl ?_
    refine iz_iload (n := 4) 57 4 rfl rfl ?_
    refine iz_iald 58 (sf_10_27 h0) rfl ?_
    refine iz_iast 59 (sf_10_31 h0) rfl (fun S16 => ?_)
    refine iz_iinc (v := (x4 + 1)) (ls2 := [(0, .ref (X.1 a0)), (1, .int x1), (2, .int x2), (3, .int x3), (4, .int (x4 + 1))]) 60 4 [1, 2, 3, 4, 0] rfl rfl rfl (by decide) rfl ?_
    refine iz_goto (tgt := 31) 61 (by decide) rfl ?_
    exact hk31 x1 x2 x3 (x4 + 1) S16
  · refine iz_iload_n (n := 3) 35 3 rfl rfl ?_
    refine iz_aload_n (n := 0) 36 0 rfl rfl ?_
    refine iz_getR 37 27 h0 fl_X10_77 rfl (by decide) (by decide) rfl ?_
    refine iz_iload (n := 5) 38 5 rfl rfl ?_
    refine iz_iald 39 (sf_10_27 h0) rfl ?_
    refine iz_aload_n (n := 0) 40 0 rfl rfl ?_
    refine iz_getR 41 27 h0 fl_X10_77 rfl (by decide) (by decide) rfl ?_
    refine iz_iload (n := 4) 42 4 rfl rfl ?_
    refine iz_iald 43 (sf_10_27 h0) rfl ?_
    refine iz_cmp_eq (tgt := 84) 44 rfl (by decide) ?_ ?_
    · refine iz_iconst (v := 0) 47 (by decide) rfl ?_
      exact iz_sub [0, 1, 2, 4, 5] rfl (c_Mo_season_85 h0 hk31 hk55 x1 x2 x4 x5 x3 0 S)
    · refine iz_iconst (v := 1) 45 (by decide) rfl ?_
      refine iz_goto (tgt := 85) 46 (by decide) rfl ?_
      exact iz_sub [0, 1, 2, 4, 5] rfl (c_Mo_season_85 h0 hk31 hk55 x1 x2 x4 x5 x3 1 S)
theorem c_Mo_season_55 {X : iz_X} {l : Launch} {a0 : Nat} (h0 : iz_sh a0 = (10 + 3, 48)) {k31 : Int32 → Int32 → Int32 → Int32 → iz_S → Option (Int32 × iz_S)} (hk31 : ∀ (x1 : Int32) (x2 : Int32) (x3 : Int32) (x4 : Int32) (S : iz_S), iz_Y X l RX10 tX10_season 6 15 (iz_Kc X l yX10_season cX10_season 6 (some .int) 15 iz_eI) 31 [(0, .ref (X.1 a0)), (1, .int x1), (2, .int x2), (3, .int x3), (4, .int x4)] [] S (k31 x1 x2 x3 x4 S)) : ∀ (n9 : Nat) (x1 : Int32) (x2 : Int32) (x3 : Int32) (x4 : Int32) (x5 : Int32) (S : iz_S), iz_Y X l RX10 tX10_season 6 15 (iz_Kc X l yX10_season cX10_season 6 (some .int) 15 iz_eI) 55 [(0, .ref (X.1 a0)), (1, .int x1), (2, .int x2), (3, .int x3), (4, .int x4), (5, .int x5)] [] S (Mo_season_55 a0 k31 n9 x1 x2 x3 x4 x5 S)
  | 0 => by
    intros
    exact iz_none
  | n9 + 1 => c_Mo_season_55b h0 hk31 (c_Mo_season_55 h0 hk31 n9)
set_option maxRecDepth 10000 in
theorem c_Mo_season_31b {X : iz_X} {l : Launch} {a0 : Nat} (h0 : iz_sh a0 = (10 + 3, 48)) {k31 : Int32 → Int32 → Int32 → Int32 → iz_S → Option (Int32 × iz_S)} (hk31 : ∀ (x1 : Int32) (x2 : Int32) (x3 : Int32) (x4 : Int32) (S : iz_S), iz_Y X l RX10 tX10_season 6 15 (iz_Kc X l yX10_season cX10_season 6 (some .int) 15 iz_eI) 31 [(0, .ref (X.1 a0)), (1, .int x1), (2, .int x2), (3, .int x3), (4, .int x4)] [] S (k31 x1 x2 x3 x4 S)) (x1 : Int32) (x2 : Int32) (x3 : Int32) (x4 : Int32) (S : iz_S) : iz_Y X l RX10 tX10_season 6 15 (iz_Kc X l yX10_season cX10_season 6 (some .int) 15 iz_eI) 31 [(0, .ref (X.1 a0)), (1, .int x1), (2, .int x2), (3, .int x3), (4, .int x4)] [] S (Mo_season_31b a0 k31 x1 x2 x3 x4 S) := by
  unfold Mo_season_31b
  refine iz_iload (n := 4) 19 4 rfl rfl ?_
  refine iz_iload_n (n := 2) 20 2 rfl rfl ?_
  refine iz_cmp_ge (tgt := 113) 21 rfl (by decide) ?_ ?_
  · exact iz_sub [0, 1, 2, 3] rfl (c_Mo_season_113 h0 x1 x2 x3 S)
  · refine iz_iload_n (n := 3) 22 3 rfl rfl ?_
    refine iz_if_eq (tgt := 113) 23 rfl (by decide) ?_ ?_
    · exact iz_sub [0, 1, 2, 3] rfl (c_Mo_season_113 h0 x1 x2 x3 S)
    · refine iz_aload_n (n := 0) 24 0 rfl rfl ?_
      refine iz_getR 25 27 h0 fl_X10_77 rfl (by decide) (by decide) rfl ?_
      refine iz_iload (n := 4) 26 4 rfl rfl ?_
      refine iz_iald 27 (sf_10_27 h0) rfl ?_
      refine iz_callSI (As := [.int (iz_g S (iz_rf a0 27) x4)]) (rest := []) 28 ml_X10_157 cw_X10_isSquare ci_X10_isSquare (fun r9 hr9 => m_Mo_isSquare  hr9) rfl (by decide) rfl rfl (Nat.le_of_ble_eq_true rfl) (fun r8 S7 => ?_)
      refine iz_istore_n (n := 3) (ls2 := [(0, .ref (X.1 a0)), (1, .int x1), (2, .int x2), (3, .int r8), (4, .int x4)]) 29 [1, 2, 3, 0, 4] rfl (by decide) rfl ?_
      refine iz_iconst (v := 0) 30 (by decide) rfl ?_
      refine iz_istore (n := 5) (ls2 := [(0, .ref (X.1 a0)), (1, .int x1), (2, .int x2), (3, .int r8), (4, .int x4), (5, .int 0)]) 31 [1, 2, 3, 4, 5, 0] rfl (by decide) rfl ?_
      exact c_Mo_season_55 h0 hk31 iz_FU x1 x2 r8 x4 0 S7
theorem c_Mo_season_31 {X : iz_X} {l : Launch} {a0 : Nat} (h0 : iz_sh a0 = (10 + 3, 48)) : ∀ (n9 : Nat) (x1 : Int32) (x2 : Int32) (x3 : Int32) (x4 : Int32) (S : iz_S), iz_Y X l RX10 tX10_season 6 15 (iz_Kc X l yX10_season cX10_season 6 (some .int) 15 iz_eI) 31 [(0, .ref (X.1 a0)), (1, .int x1), (2, .int x2), (3, .int x3), (4, .int x4)] [] S (Mo_season_31 a0 n9 x1 x2 x3 x4 S)
  | 0 => by
    intros
    exact iz_none
  | n9 + 1 => c_Mo_season_31b h0 (c_Mo_season_31 h0 n9)
set_option maxRecDepth 10000 in
theorem c_Mo_season {X : iz_X} {l : Launch} {a0 : Nat} (h0 : iz_sh a0 = (10 + 3, 48)) (x1 : Int32) (S : iz_S) : iz_Y X l RX10 tX10_season 6 15 (iz_Kc X l yX10_season cX10_season 6 (some .int) 15 iz_eI) 0 [(0, .ref (X.1 a0)), (1, .int x1)] [] S (Mo_season a0 x1 S) := by
  unfold Mo_season
  refine iz_iload_n (n := 1) 0 1 rfl rfl ?_
  refine iz_if_ge (tgt := 10) 1 rfl (by decide) ?_ ?_
  · refine iz_aload_n (n := 0) 6 0 rfl rfl ?_
    refine iz_getI 7 26 h0 fl_X10_176 rfl (by decide) (by decide) rfl ?_
    refine iz_let (fun v1 => ?_)
    refine iz_istore_n (n := 2) (ls2 := [(0, .ref (X.1 a0)), (1, .int x1), (2, .int v1)]) 8 [1, 2, 0] rfl (by decide) rfl ?_
    refine iz_aload_n (n := 0) 9 0 rfl rfl ?_
    refine iz_iconst (v := 0) 10 (by decide) rfl ?_
    refine iz_putI 11 26 h0 fl_X10_176 rfl (by decide) (by decide) rfl (fun S2 => ?_)
    refine iz_iload_n (n := 2) 12 2 rfl rfl ?_
    refine iz_iconst (v := 1) 13 (by decide) rfl ?_
    refine iz_bipush (v := 6) 14 (by decide) rfl ?_
    refine iz_callSI (As := [.int v1, .int 1, .int 6]) (rest := []) 15 ml_X10_123 cw_X10_isIn ci_X10_isIn (fun r9 hr9 => m_Mo_isIn  hr9) rfl (by decide) rfl rfl (Nat.le_of_ble_eq_true rfl) (fun r4 S3 => ?_)
    refine iz_istore_n (n := 3) (ls2 := [(0, .ref (X.1 a0)), (1, .int x1), (2, .int v1), (3, .int r4)]) 16 [1, 2, 3, 0] rfl (by decide) rfl ?_
    refine iz_iconst (v := 0) 17 (by decide) rfl ?_
    refine iz_istore (n := 4) (ls2 := [(0, .ref (X.1 a0)), (1, .int x1), (2, .int v1), (3, .int r4), (4, .int 0)]) 18 [1, 2, 3, 4, 0] rfl (by decide) rfl ?_
    exact c_Mo_season_31 h0 iz_FU x1 v1 r4 0 S3
  · refine iz_aload_n (n := 0) 2 0 rfl rfl ?_
    refine iz_iconst (v := 1) 3 (by decide) rfl ?_
    refine iz_callVI (As := [.int 1]) (rest := []) 4 ml_X10_127 cw_X10_finding ci_X10_finding h0 (fun r9 hr9 => m_Mo_finding h0 hr9) rfl (by decide) (by decide) rfl rfl (Nat.le_of_ble_eq_true rfl) (fun r6 S5 => ?_)
    exact iz_iret 5 rfl
theorem m_Mo_season {X : iz_X} {l : Launch} {a0 : Nat} (h0 : iz_sh a0 = (10 + 3, 48)) {x1 : Int32} {S : iz_S} {r9 : Int32 × iz_S} (hr : Mo_season a0 x1 S = some r9) : iz_Mt X l 15 yX10_season cX10_season 6 (some .int) [.ref (X.1 a0), .int x1] S (iz_eI r9) :=
  iz_Mt_of (dt := tX10_season) dX10_season (by decide) hr (Nat.le_of_ble_eq_true rfl) (c_Mo_season h0 x1 S)
def Mo_isBlock_17 (a0 : Nat) (s0 : Int32) (S : iz_S) : Option (Int32 × iz_S) :=
  iz_ck (decide (iz_nb s0 = s0)) (some (s0, S))
def Mo_isBlock_16 (a0 : Nat) (S : iz_S) : Option (Int32 × iz_S) :=
  (Mo_isBlock_17 a0 0 S)
def Mo_isBlock (a0 : Nat) (x1 : Int32) (S : iz_S) : Option (Int32 × iz_S) :=
  (if x1 < 0 then
    (Mo_isBlock_16 a0 S)
  else
    (if x1 < (S.1 a0 3) then
      (Mo_isBlock_17 a0 1 S)
    else
      (Mo_isBlock_16 a0 S)))
set_option maxRecDepth 10000 in
theorem c_Mo_isBlock_17 {X : iz_X} {l : Launch} {a0 : Nat} (h0 : iz_sh a0 = (10 + 3, 48)) (s0 : Int32) (S : iz_S) : iz_Y X l RX10 tX10_isBlock 2 0 (iz_Kc X l yX10_isBlock cX10_isBlock 2 (some .boolean) 0 iz_eI) 17 [] [.int s0] S (Mo_isBlock_17 a0 s0 S) := by
  unfold Mo_isBlock_17
  exact iz_zret 9 rfl
set_option maxRecDepth 10000 in
theorem c_Mo_isBlock_16 {X : iz_X} {l : Launch} {a0 : Nat} (h0 : iz_sh a0 = (10 + 3, 48)) (S : iz_S) : iz_Y X l RX10 tX10_isBlock 2 0 (iz_Kc X l yX10_isBlock cX10_isBlock 2 (some .boolean) 0 iz_eI) 16 [] [] S (Mo_isBlock_16 a0 S) := by
  unfold Mo_isBlock_16
  refine iz_iconst (v := 0) 8 (by decide) rfl ?_
  exact c_Mo_isBlock_17 h0 0 S
set_option maxRecDepth 10000 in
theorem c_Mo_isBlock {X : iz_X} {l : Launch} {a0 : Nat} (h0 : iz_sh a0 = (10 + 3, 48)) (x1 : Int32) (S : iz_S) : iz_Y X l RX10 tX10_isBlock 2 0 (iz_Kc X l yX10_isBlock cX10_isBlock 2 (some .boolean) 0 iz_eI) 0 [(0, .ref (X.1 a0)), (1, .int x1)] [] S (Mo_isBlock a0 x1 S) := by
  unfold Mo_isBlock
  refine iz_iload_n (n := 1) 0 1 rfl rfl ?_
  refine iz_if_lt (tgt := 16) 1 rfl (by decide) ?_ ?_
  · exact iz_sub [] rfl (c_Mo_isBlock_16 h0 S)
  · refine iz_iload_n (n := 1) 2 1 rfl rfl ?_
    refine iz_aload_n (n := 0) 3 0 rfl rfl ?_
    refine iz_getI 4 3 h0 fl_X10_163 rfl (by decide) (by decide) rfl ?_
    refine iz_cmp_ge (tgt := 16) 5 rfl (by decide) ?_ ?_
    · exact iz_sub [] rfl (c_Mo_isBlock_16 h0 S)
    · refine iz_iconst (v := 1) 6 (by decide) rfl ?_
      refine iz_goto (tgt := 17) 7 (by decide) rfl ?_
      exact iz_sub [] rfl (c_Mo_isBlock_17 h0 1 S)
theorem m_Mo_isBlock {X : iz_X} {l : Launch} {a0 : Nat} (h0 : iz_sh a0 = (10 + 3, 48)) {x1 : Int32} {S : iz_S} {r9 : Int32 × iz_S} (hr : Mo_isBlock a0 x1 S = some r9) : iz_Mt X l 0 yX10_isBlock cX10_isBlock 2 (some .boolean) [.ref (X.1 a0), .int x1] S (iz_eI r9) :=
  iz_Mt_of (dt := tX10_isBlock) dX10_isBlock (by decide) hr (Nat.le_of_ble_eq_true rfl) (c_Mo_isBlock h0 x1 S)
def Mo_isColumn (x0 : Int32) (S : iz_S) : Option (Int32 × iz_S) :=
  iz_bI (Mo_isIn x0 0 15 S) (fun r2 S1 =>
  iz_ck (decide (iz_nb r2 = r2)) (some (r2, S1)))
set_option maxRecDepth 10000 in
theorem c_Mo_isColumn {X : iz_X} {l : Launch} (x0 : Int32) (S : iz_S) : iz_Y X l RX10 tX10_isColumn 1 1 (iz_Kc X l yX10_isColumn cX10_isColumn 1 (some .boolean) 1 iz_eI) 0 [(0, .int x0)] [] S (Mo_isColumn x0 S) := by
  unfold Mo_isColumn
  refine iz_iload_n (n := 0) 0 0 rfl rfl ?_
  refine iz_iconst (v := 0) 1 (by decide) rfl ?_
  refine iz_bipush (v := 15) 2 (by decide) rfl ?_
  refine iz_callSI (As := [.int x0, .int 0, .int 15]) (rest := []) 3 ml_X10_123 cw_X10_isIn ci_X10_isIn (fun r9 hr9 => m_Mo_isIn  hr9) rfl (by decide) rfl rfl (Nat.le_of_ble_eq_true rfl) (fun r2 S1 => ?_)
  exact iz_zret 4 rfl
theorem m_Mo_isColumn {X : iz_X} {l : Launch} {x0 : Int32} {S : iz_S} {r9 : Int32 × iz_S} (hr : Mo_isColumn x0 S = some r9) : iz_Mt X l 1 yX10_isColumn cX10_isColumn 1 (some .boolean) [.int x0] S (iz_eI r9) :=
  iz_Mt_of (dt := tX10_isColumn) dX10_isColumn (by decide) hr (Nat.le_of_ble_eq_true rfl) (c_Mo_isColumn x0 S)
def Mo_blockAt (a0 : Nat) (x1 : Int32) (x2 : Int32) (S : iz_S) : Option (Int32 × iz_S) :=
  iz_ck (iz_in (((6 : Int32) * x1) + x2) 96) (
  some ((iz_g S (iz_rf a0 8) (((6 : Int32) * x1) + x2)), S))
set_option maxRecDepth 10000 in
theorem c_Mo_blockAt {X : iz_X} {l : Launch} {a0 : Nat} (h0 : iz_sh a0 = (10 + 3, 48)) (x1 : Int32) (x2 : Int32) (S : iz_S) : iz_Y X l RX10 tX10_blockAt 3 0 (iz_Kc X l yX10_blockAt cX10_blockAt 3 (some .int) 0 iz_eI) 0 [(0, .ref (X.1 a0)), (1, .int x1), (2, .int x2)] [] S (Mo_blockAt a0 x1 x2 S) := by
  unfold Mo_blockAt
  refine iz_aload_n (n := 0) 0 0 rfl rfl ?_
  refine iz_getR 1 8 h0 fl_X10_32 rfl (by decide) (by decide) rfl ?_
  refine iz_bipush (v := 6) 2 (by decide) rfl ?_
  refine iz_iload_n (n := 1) 3 1 rfl rfl ?_
  refine iz_imul 4 rfl ?_
  refine iz_iload_n (n := 2) 5 2 rfl rfl ?_
  refine iz_iadd 6 rfl ?_
  refine iz_iald 7 (sf_10_8 h0) rfl ?_
  exact iz_iret 8 rfl
theorem m_Mo_blockAt {X : iz_X} {l : Launch} {a0 : Nat} (h0 : iz_sh a0 = (10 + 3, 48)) {x1 : Int32} {x2 : Int32} {S : iz_S} {r9 : Int32 × iz_S} (hr : Mo_blockAt a0 x1 x2 S = some r9) : iz_Mt X l 0 yX10_blockAt cX10_blockAt 3 (some .int) [.ref (X.1 a0), .int x1, .int x2] S (iz_eI r9) :=
  iz_Mt_of (dt := tX10_blockAt) dX10_blockAt (by decide) hr (Nat.le_of_ble_eq_true rfl) (c_Mo_blockAt h0 x1 x2 S)
def Mo_levelOf_2b (a0 : Nat) (k2 : Int32 → Int32 → iz_S → Option (Int32 × iz_S)) (x1 : Int32) (x2 : Int32) (S : iz_S) : Option (Int32 × iz_S) :=
  (iz_ck (iz_in x1 60) (
  iz_bI (Mo_blockAt a0 (iz_g S (iz_rf a0 7) x1) x2 S) (fun r2 S1 =>
  if r2 = x1 then
    some (x2, S1)
  else
    (k2 x1 (x2 + 1) S1))))
def Mo_levelOf_2 (a0 : Nat) : Nat → Int32 → Int32 → iz_S → Option (Int32 × iz_S)
  | 0 => fun _ _ _ => none
  | n9 + 1 => Mo_levelOf_2b a0 (Mo_levelOf_2 a0 n9)
def Mo_levelOf (a0 : Nat) (x1 : Int32) (S : iz_S) : Option (Int32 × iz_S) :=
  (Mo_levelOf_2 a0 iz_FU x1 0 S)
set_option maxRecDepth 10000 in
theorem c_Mo_levelOf_2b {X : iz_X} {l : Launch} {a0 : Nat} (h0 : iz_sh a0 = (10 + 3, 48)) {k2 : Int32 → Int32 → iz_S → Option (Int32 × iz_S)} (hk2 : ∀ (x1 : Int32) (x2 : Int32) (S : iz_S), iz_Y X l RX10 tX10_levelOf 3 1 (iz_Kc X l yX10_levelOf cX10_levelOf 3 (some .int) 1 iz_eI) 2 [(0, .ref (X.1 a0)), (1, .int x1), (2, .int x2)] [] S (k2 x1 x2 S)) (x1 : Int32) (x2 : Int32) (S : iz_S) : iz_Y X l RX10 tX10_levelOf 3 1 (iz_Kc X l yX10_levelOf cX10_levelOf 3 (some .int) 1 iz_eI) 2 [(0, .ref (X.1 a0)), (1, .int x1), (2, .int x2)] [] S (Mo_levelOf_2b a0 k2 x1 x2 S) := by
  unfold Mo_levelOf_2b
  refine iz_aload_n (n := 0) 2 0 rfl rfl ?_
  refine iz_aload_n (n := 0) 3 0 rfl rfl ?_
  refine iz_getR 4 7 h0 fl_X10_29 rfl (by decide) (by decide) rfl ?_
  refine iz_iload_n (n := 1) 5 1 rfl rfl ?_
  refine iz_iald 6 (sf_10_7 h0) rfl ?_
  refine iz_iload_n (n := 2) 7 2 rfl rfl ?_
  refine iz_callVI (As := [.int (iz_g S (iz_rf a0 7) x1), .int x2]) (rest := []) 8 ml_X10_179 cw_X10_blockAt ci_X10_blockAt h0 (fun r9 hr9 => m_Mo_blockAt h0 hr9) rfl (by decide) (by decide) rfl rfl (Nat.le_of_ble_eq_true rfl) (fun r2 S1 => ?_)
  refine iz_iload_n (n := 1) 9 1 rfl rfl ?_
  refine iz_cmp_eq (tgt := 23) 10 rfl (by decide) ?_ ?_
  · refine iz_iload_n (n := 2) 13 2 rfl rfl ?_
    exact iz_iret 14 rfl
  · refine iz_iinc (v := (x2 + 1)) (ls2 := [(0, .ref (X.1 a0)), (1, .int x1), (2, .int (x2 + 1))]) 11 2 [1, 2, 0] rfl rfl rfl (by decide) rfl ?_
    refine iz_goto (tgt := 2) 12 (by decide) rfl ?_
    exact hk2 x1 (x2 + 1) S1
theorem c_Mo_levelOf_2 {X : iz_X} {l : Launch} {a0 : Nat} (h0 : iz_sh a0 = (10 + 3, 48)) : ∀ (n9 : Nat) (x1 : Int32) (x2 : Int32) (S : iz_S), iz_Y X l RX10 tX10_levelOf 3 1 (iz_Kc X l yX10_levelOf cX10_levelOf 3 (some .int) 1 iz_eI) 2 [(0, .ref (X.1 a0)), (1, .int x1), (2, .int x2)] [] S (Mo_levelOf_2 a0 n9 x1 x2 S)
  | 0 => by
    intros
    exact iz_none
  | n9 + 1 => c_Mo_levelOf_2b h0 (c_Mo_levelOf_2 h0 n9)
set_option maxRecDepth 10000 in
theorem c_Mo_levelOf {X : iz_X} {l : Launch} {a0 : Nat} (h0 : iz_sh a0 = (10 + 3, 48)) (x1 : Int32) (S : iz_S) : iz_Y X l RX10 tX10_levelOf 3 1 (iz_Kc X l yX10_levelOf cX10_levelOf 3 (some .int) 1 iz_eI) 0 [(0, .ref (X.1 a0)), (1, .int x1)] [] S (Mo_levelOf a0 x1 S) := by
  unfold Mo_levelOf
  refine iz_iconst (v := 0) 0 (by decide) rfl ?_
  refine iz_istore_n (n := 2) (ls2 := [(0, .ref (X.1 a0)), (1, .int x1), (2, .int 0)]) 1 [1, 2, 0] rfl (by decide) rfl ?_
  exact c_Mo_levelOf_2 h0 iz_FU x1 0 S
theorem m_Mo_levelOf {X : iz_X} {l : Launch} {a0 : Nat} (h0 : iz_sh a0 = (10 + 3, 48)) {x1 : Int32} {S : iz_S} {r9 : Int32 × iz_S} (hr : Mo_levelOf a0 x1 S = some r9) : iz_Mt X l 1 yX10_levelOf cX10_levelOf 3 (some .int) [.ref (X.1 a0), .int x1] S (iz_eI r9) :=
  iz_Mt_of (dt := tX10_levelOf) dX10_levelOf (by decide) hr (Nat.le_of_ble_eq_true rfl) (c_Mo_levelOf h0 x1 S)
def Mo_loadOf_7b (a0 : Nat) (k7 : Int32 → Int32 → Int32 → iz_S → Option (Int32 × iz_S)) (x1 : Int32) (x3 : Int32) (x4 : Int32) (S : iz_S) : Option (Int32 × iz_S) :=
  (iz_ck (iz_in x1 16) (
  if x4 < (iz_g S (iz_rf a0 9) x1) then
    iz_bI (Mo_blockAt a0 x1 x4 S) (fun r3 S2 =>
    iz_ck (iz_in r3 60) (
    iz_lt (x3 + (iz_g S2 (iz_rf a0 5) r3)) (fun v4 =>
    (k7 x1 v4 (x4 + 1) S2))))
  else
    some (x3, S)))
def Mo_loadOf_7 (a0 : Nat) : Nat → Int32 → Int32 → Int32 → iz_S → Option (Int32 × iz_S)
  | 0 => fun _ _ _ _ => none
  | n9 + 1 => Mo_loadOf_7b a0 (Mo_loadOf_7 a0 n9)
def Mo_loadOf (a0 : Nat) (x1 : Int32) (x2 : Int32) (S : iz_S) : Option (Int32 × iz_S) :=
  iz_lt (x2 + 1) (fun v1 =>
  (Mo_loadOf_7 a0 iz_FU x1 0 v1 S))
set_option maxRecDepth 10000 in
theorem c_Mo_loadOf_7b {X : iz_X} {l : Launch} {a0 : Nat} (h0 : iz_sh a0 = (10 + 3, 48)) {k7 : Int32 → Int32 → Int32 → iz_S → Option (Int32 × iz_S)} (hk7 : ∀ (x1 : Int32) (x3 : Int32) (x4 : Int32) (S : iz_S), iz_Y X l RX10 tX10_loadOf 5 1 (iz_Kc X l yX10_loadOf cX10_loadOf 5 (some .int) 1 iz_eI) 7 [(0, .ref (X.1 a0)), (1, .int x1), (3, .int x3), (4, .int x4)] [] S (k7 x1 x3 x4 S)) (x1 : Int32) (x3 : Int32) (x4 : Int32) (S : iz_S) : iz_Y X l RX10 tX10_loadOf 5 1 (iz_Kc X l yX10_loadOf cX10_loadOf 5 (some .int) 1 iz_eI) 7 [(0, .ref (X.1 a0)), (1, .int x1), (3, .int x3), (4, .int x4)] [] S (Mo_loadOf_7b a0 k7 x1 x3 x4 S) := by
  unfold Mo_loadOf_7b
  refine iz_iload (n := 4) 6 3 rfl rfl ?_
  refine iz_aload_n (n := 0) 7 0 rfl rfl ?_
  refine iz_getR 8 9 h0 fl_X10_35 rfl (by decide) (by decide) rfl ?_
  refine iz_iload_n (n := 1) 9 1 rfl rfl ?_
  refine iz_iald 10 (sf_10_9 h0) rfl ?_
  refine iz_cmp_ge (tgt := 39) 11 rfl (by decide) ?_ ?_
  · refine iz_iload_n (n := 3) 24 2 rfl rfl ?_
    exact iz_iret 25 rfl
  · refine iz_iload_n (n := 3) 12 2 rfl rfl ?_
    refine iz_aload_n (n := 0) 13 0 rfl rfl ?_
    refine iz_getR 14 5 h0 fl_X10_23 rfl (by decide) (by decide) rfl ?_
    refine iz_aload_n (n := 0) 15 0 rfl rfl ?_
    refine iz_iload_n (n := 1) 16 1 rfl rfl ?_
    refine iz_iload (n := 4) 17 3 rfl rfl ?_
    refine iz_callVI (As := [.int x1, .int x4]) (rest := [.ref (X.1 (iz_rf a0 5)), .int x3]) 18 ml_X10_179 cw_X10_blockAt ci_X10_blockAt h0 (fun r9 hr9 => m_Mo_blockAt h0 hr9) rfl (by decide) (by decide) rfl rfl (Nat.le_of_ble_eq_true rfl) (fun r3 S2 => ?_)
    refine iz_iald 19 (sf_10_5 h0) rfl ?_
    refine iz_iadd 20 rfl ?_
    refine iz_let (fun v4 => ?_)
    refine iz_istore_n (n := 3) (ls2 := [(0, .ref (X.1 a0)), (1, .int x1), (3, .int v4), (4, .int x4)]) 21 [1, 2, 0, 3] rfl (by decide) rfl ?_
    refine iz_iinc (v := (x4 + 1)) (ls2 := [(0, .ref (X.1 a0)), (1, .int x1), (3, .int v4), (4, .int (x4 + 1))]) 22 3 [1, 2, 3, 0] rfl rfl rfl (by decide) rfl ?_
    refine iz_goto (tgt := 7) 23 (by decide) rfl ?_
    exact hk7 x1 v4 (x4 + 1) S2
theorem c_Mo_loadOf_7 {X : iz_X} {l : Launch} {a0 : Nat} (h0 : iz_sh a0 = (10 + 3, 48)) : ∀ (n9 : Nat) (x1 : Int32) (x3 : Int32) (x4 : Int32) (S : iz_S), iz_Y X l RX10 tX10_loadOf 5 1 (iz_Kc X l yX10_loadOf cX10_loadOf 5 (some .int) 1 iz_eI) 7 [(0, .ref (X.1 a0)), (1, .int x1), (3, .int x3), (4, .int x4)] [] S (Mo_loadOf_7 a0 n9 x1 x3 x4 S)
  | 0 => by
    intros
    exact iz_none
  | n9 + 1 => c_Mo_loadOf_7b h0 (c_Mo_loadOf_7 h0 n9)
set_option maxRecDepth 10000 in
theorem c_Mo_loadOf {X : iz_X} {l : Launch} {a0 : Nat} (h0 : iz_sh a0 = (10 + 3, 48)) (x1 : Int32) (x2 : Int32) (S : iz_S) : iz_Y X l RX10 tX10_loadOf 5 1 (iz_Kc X l yX10_loadOf cX10_loadOf 5 (some .int) 1 iz_eI) 0 [(0, .ref (X.1 a0)), (1, .int x1), (2, .int x2)] [] S (Mo_loadOf a0 x1 x2 S) := by
  unfold Mo_loadOf
  refine iz_iconst (v := 0) 0 (by decide) rfl ?_
  refine iz_istore_n (n := 3) (ls2 := [(0, .ref (X.1 a0)), (1, .int x1), (2, .int x2), (3, .int 0)]) 1 [1, 2, 3, 0] rfl (by decide) rfl ?_
  refine iz_iload_n (n := 2) 2 2 rfl rfl ?_
  refine iz_iconst (v := 1) 3 (by decide) rfl ?_
  refine iz_iadd 4 rfl ?_
  refine iz_let (fun v1 => ?_)
  refine iz_istore (n := 4) (ls2 := [(0, .ref (X.1 a0)), (1, .int x1), (3, .int 0), (4, .int v1)]) 5 [1, 2, 4, 0] rfl (by decide) rfl ?_
  exact c_Mo_loadOf_7 h0 iz_FU x1 0 v1 S
theorem m_Mo_loadOf {X : iz_X} {l : Launch} {a0 : Nat} (h0 : iz_sh a0 = (10 + 3, 48)) {x1 : Int32} {x2 : Int32} {S : iz_S} {r9 : Int32 × iz_S} (hr : Mo_loadOf a0 x1 x2 S = some r9) : iz_Mt X l 1 yX10_loadOf cX10_loadOf 5 (some .int) [.ref (X.1 a0), .int x1, .int x2] S (iz_eI r9) :=
  iz_Mt_of (dt := tX10_loadOf) dX10_loadOf (by decide) hr (Nat.le_of_ble_eq_true rfl) (c_Mo_loadOf h0 x1 x2 S)
def Mo_takeOut_20b (a0 : Nat) (k20 : Int32 → Int32 → Int32 → iz_S → Option iz_S) (x1 : Int32) (x3 : Int32) (x4 : Int32) (S : iz_S) : Option iz_S :=
  (iz_ck (iz_in x1 16) (
  if x4 < (iz_g S (iz_rf a0 9) x1) then
    iz_ck (iz_in ((((6 : Int32) * x1) + x4) + 1) 96) (
    iz_ck (iz_in (((6 : Int32) * x1) + x4) 96) (iz_lt (iz_s S (iz_rf a0 8) (((6 : Int32) * x1) + x4) (iz_g S (iz_rf a0 8) ((((6 : Int32) * x1) + x4) + 1))) (fun S5 =>
    (k20 x1 x3 (x4 + 1) S5))))
  else
    iz_ck (iz_in x3 60) (iz_lt (iz_s S (iz_rf a0 7) x3 (-1)) (fun S4 =>
    some S4))))
def Mo_takeOut_20 (a0 : Nat) : Nat → Int32 → Int32 → Int32 → iz_S → Option iz_S
  | 0 => fun _ _ _ _ => none
  | n9 + 1 => Mo_takeOut_20b a0 (Mo_takeOut_20 a0 n9)
def Mo_takeOut (a0 : Nat) (x1 : Int32) (x2 : Int32) (S : iz_S) : Option iz_S :=
  iz_bI (Mo_blockAt a0 x1 x2 S) (fun r2 S1 =>
  iz_ck (iz_in x1 16) (
  iz_ck (iz_in x1 16) (iz_lt (iz_s S1 (iz_rf a0 9) x1 ((iz_g S1 (iz_rf a0 9) x1) - 1)) (fun S3 =>
  (Mo_takeOut_20 a0 iz_FU x1 r2 x2 S3)))))
set_option maxRecDepth 10000 in
theorem c_Mo_takeOut_20b {X : iz_X} {l : Launch} {a0 : Nat} (h0 : iz_sh a0 = (10 + 3, 48)) {k20 : Int32 → Int32 → Int32 → iz_S → Option iz_S} (hk20 : ∀ (x1 : Int32) (x3 : Int32) (x4 : Int32) (S : iz_S), iz_Y X l RX10 tX10_takeOut 5 1 (iz_Kc X l yX10_takeOut cX10_takeOut 5 none 1 iz_eV) 20 [(0, .ref (X.1 a0)), (1, .int x1), (3, .int x3), (4, .int x4)] [] S (k20 x1 x3 x4 S)) (x1 : Int32) (x3 : Int32) (x4 : Int32) (S : iz_S) : iz_Y X l RX10 tX10_takeOut 5 1 (iz_Kc X l yX10_takeOut cX10_takeOut 5 none 1 iz_eV) 20 [(0, .ref (X.1 a0)), (1, .int x1), (3, .int x3), (4, .int x4)] [] S (Mo_takeOut_20b a0 k20 x1 x3 x4 S) := by
  unfold Mo_takeOut_20b
  refine iz_iload (n := 4) 15 3 rfl rfl ?_
  refine iz_aload_n (n := 0) 16 0 rfl rfl ?_
  refine iz_getR 17 9 h0 fl_X10_35 rfl (by decide) (by decide) rfl ?_
  refine iz_iload_n (n := 1) 18 1 rfl rfl ?_
  refine iz_iald 19 (sf_10_9 h0) rfl ?_
  refine iz_cmp_ge (tgt := 63) 20 rfl (by decide) ?_ ?_
  · refine iz_aload_n (n := 0) 41 0 rfl rfl ?_
    refine iz_getR 42 7 h0 fl_X10_29 rfl (by decide) (by decide) rfl ?_
    refine iz_iload_n (n := 3) 43 2 rfl rfl ?_
    refine iz_iconst (v := (-1)) 44 (by decide) rfl ?_
    refine iz_iast 45 (sf_10_7 h0) rfl (fun S4 => ?_)
    exact iz_vret 46 rfl
  · refine iz_aload_n (n := 0) 21 0 rfl rfl ?_
    refine iz_getR 22 8 h0 fl_X10_32 rfl (by decide) (by decide) rfl ?_
    refine iz_bipush (v := 6) 23 (by decide) rfl ?_
    refine iz_iload_n (n := 1) 24 1 rfl rfl ?_
    refine iz_imul 25 rfl ?_
    refine iz_iload (n := 4) 26 3 rfl rfl ?_
    refine iz_iadd 27 rfl ?_
    refine iz_aload_n (n := 0) 28 0 rfl rfl ?_
    refine iz_getR 29 8 h0 fl_X10_32 rfl (by decide) (by decide) rfl ?_
    refine iz_bipush (v := 6) 30 (by decide) rfl ?_
    refine iz_iload_n (n := 1) 31 1 rfl rfl ?_
    refine iz_imul 32 rfl ?_
    refine iz_iload (n := 4) 33 3 rfl rfl ?_
    refine iz_iadd 34 rfl ?_
    refine iz_iconst (v := 1) 35 (by decide) rfl ?_
    refine iz_iadd 36 rfl ?_
    refine iz_iald 37 (sf_10_8 h0) rfl ?_
    refine iz_iast 38 (sf_10_8 h0) rfl (fun S5 => ?_)
    refine iz_iinc (v := (x4 + 1)) (ls2 := [(0, .ref (X.1 a0)), (1, .int x1), (3, .int x3), (4, .int (x4 + 1))]) 39 3 [1, 2, 3, 0] rfl rfl rfl (by decide) rfl ?_
    refine iz_goto (tgt := 20) 40 (by decide) rfl ?_
    exact hk20 x1 x3 (x4 + 1) S5
theorem c_Mo_takeOut_20 {X : iz_X} {l : Launch} {a0 : Nat} (h0 : iz_sh a0 = (10 + 3, 48)) : ∀ (n9 : Nat) (x1 : Int32) (x3 : Int32) (x4 : Int32) (S : iz_S), iz_Y X l RX10 tX10_takeOut 5 1 (iz_Kc X l yX10_takeOut cX10_takeOut 5 none 1 iz_eV) 20 [(0, .ref (X.1 a0)), (1, .int x1), (3, .int x3), (4, .int x4)] [] S (Mo_takeOut_20 a0 n9 x1 x3 x4 S)
  | 0 => by
    intros
    exact iz_none
  | n9 + 1 => c_Mo_takeOut_20b h0 (c_Mo_takeOut_20 h0 n9)
set_option maxRecDepth 10000 in
theorem c_Mo_takeOut {X : iz_X} {l : Launch} {a0 : Nat} (h0 : iz_sh a0 = (10 + 3, 48)) (x1 : Int32) (x2 : Int32) (S : iz_S) : iz_Y X l RX10 tX10_takeOut 5 1 (iz_Kc X l yX10_takeOut cX10_takeOut 5 none 1 iz_eV) 0 [(0, .ref (X.1 a0)), (1, .int x1), (2, .int x2)] [] S (Mo_takeOut a0 x1 x2 S) := by
  unfold Mo_takeOut
  refine iz_aload_n (n := 0) 0 0 rfl rfl ?_
  refine iz_iload_n (n := 1) 1 1 rfl rfl ?_
  refine iz_iload_n (n := 2) 2 2 rfl rfl ?_
  refine iz_callVI (As := [.int x1, .int x2]) (rest := []) 3 ml_X10_179 cw_X10_blockAt ci_X10_blockAt h0 (fun r9 hr9 => m_Mo_blockAt h0 hr9) rfl (by decide) (by decide) rfl rfl (Nat.le_of_ble_eq_true rfl) (fun r2 S1 => ?_)
  refine iz_istore_n (n := 3) (ls2 := [(0, .ref (X.1 a0)), (1, .int x1), (2, .int x2), (3, .int r2)]) 4 [1, 2, 3, 0] rfl (by decide) rfl ?_
  refine iz_aload_n (n := 0) 5 0 rfl rfl ?_
  refine iz_getR 6 9 h0 fl_X10_35 rfl (by decide) (by decide) rfl ?_
  refine iz_iload_n (n := 1) 7 1 rfl rfl ?_
  refine iz_dup2 8 rfl rfl rfl ?_
  refine iz_iald 9 (sf_10_9 h0) rfl ?_
  refine iz_iconst (v := 1) 10 (by decide) rfl ?_
  refine iz_isub 11 rfl ?_
  refine iz_iast 12 (sf_10_9 h0) rfl (fun S3 => ?_)
  refine iz_iload_n (n := 2) 13 2 rfl rfl ?_
  refine iz_istore (n := 4) (ls2 := [(0, .ref (X.1 a0)), (1, .int x1), (3, .int r2), (4, .int x2)]) 14 [1, 2, 4, 0] rfl (by decide) rfl ?_
  exact c_Mo_takeOut_20 h0 iz_FU x1 r2 x2 S3
theorem m_Mo_takeOut {X : iz_X} {l : Launch} {a0 : Nat} (h0 : iz_sh a0 = (10 + 3, 48)) {x1 : Int32} {x2 : Int32} {S : iz_S} {r9 : iz_S} (hr : Mo_takeOut a0 x1 x2 S = some r9) : iz_Mt X l 1 yX10_takeOut cX10_takeOut 5 none [.ref (X.1 a0), .int x1, .int x2] S (iz_eV r9) :=
  iz_Mt_of (dt := tX10_takeOut) dX10_takeOut (by decide) hr (Nat.le_of_ble_eq_true rfl) (c_Mo_takeOut h0 x1 x2 S)
def Mo_goes (a0 : Nat) (x1 : Int32) (x2 : Int32) (S : iz_S) : Option iz_S :=
  iz_bI (Mo_blockAt a0 x1 x2 S) (fun r2 S1 =>
  iz_bV (Mo_takeOut a0 x1 x2 S1) (fun S3 =>
  iz_ck (iz_in r2 60) (iz_lt (iz_s S3 (iz_rf a0 6) r2 2) (fun S4 =>
  iz_ck (iz_in r2 60) (iz_lt (iz_s S4 (iz_rf a0 5) r2 0) (fun S5 =>
  some S5))))))
set_option maxRecDepth 10000 in
theorem c_Mo_goes {X : iz_X} {l : Launch} {a0 : Nat} (h0 : iz_sh a0 = (10 + 3, 48)) (x1 : Int32) (x2 : Int32) (S : iz_S) : iz_Y X l RX10 tX10_goes 4 2 (iz_Kc X l yX10_goes cX10_goes 4 none 2 iz_eV) 0 [(0, .ref (X.1 a0)), (1, .int x1), (2, .int x2)] [] S (Mo_goes a0 x1 x2 S) := by
  unfold Mo_goes
  refine iz_aload_n (n := 0) 0 0 rfl rfl ?_
  refine iz_iload_n (n := 1) 1 1 rfl rfl ?_
  refine iz_iload_n (n := 2) 2 2 rfl rfl ?_
  refine iz_callVI (As := [.int x1, .int x2]) (rest := []) 3 ml_X10_179 cw_X10_blockAt ci_X10_blockAt h0 (fun r9 hr9 => m_Mo_blockAt h0 hr9) rfl (by decide) (by decide) rfl rfl (Nat.le_of_ble_eq_true rfl) (fun r2 S1 => ?_)
  refine iz_istore_n (n := 3) (ls2 := [(0, .ref (X.1 a0)), (1, .int x1), (2, .int x2), (3, .int r2)]) 4 [1, 2, 3, 0] rfl (by decide) rfl ?_
  refine iz_aload_n (n := 0) 5 0 rfl rfl ?_
  refine iz_iload_n (n := 1) 6 1 rfl rfl ?_
  refine iz_iload_n (n := 2) 7 2 rfl rfl ?_
  refine iz_callVV (As := [.int x1, .int x2]) (rest := []) 8 ml_X10_182 cw_X10_takeOut ci_X10_takeOut h0 (fun r9 hr9 => m_Mo_takeOut h0 hr9) rfl (by decide) (by decide) rfl rfl (Nat.le_of_ble_eq_true rfl) (fun S3 => ?_)
  refine iz_aload_n (n := 0) 9 0 rfl rfl ?_
  refine iz_getR 10 6 h0 fl_X10_26 rfl (by decide) (by decide) rfl ?_
  refine iz_iload_n (n := 3) 11 3 rfl rfl ?_
  refine iz_iconst (v := 2) 12 (by decide) rfl ?_
  refine iz_iast 13 (sf_10_6 h0) rfl (fun S4 => ?_)
  refine iz_aload_n (n := 0) 14 0 rfl rfl ?_
  refine iz_getR 15 5 h0 fl_X10_23 rfl (by decide) (by decide) rfl ?_
  refine iz_iload_n (n := 3) 16 3 rfl rfl ?_
  refine iz_iconst (v := 0) 17 (by decide) rfl ?_
  refine iz_iast 18 (sf_10_5 h0) rfl (fun S5 => ?_)
  exact iz_vret 19 rfl
theorem m_Mo_goes {X : iz_X} {l : Launch} {a0 : Nat} (h0 : iz_sh a0 = (10 + 3, 48)) {x1 : Int32} {x2 : Int32} {S : iz_S} {r9 : iz_S} (hr : Mo_goes a0 x1 x2 S = some r9) : iz_Mt X l 2 yX10_goes cX10_goes 4 none [.ref (X.1 a0), .int x1, .int x2] S (iz_eV r9) :=
  iz_Mt_of (dt := tX10_goes) dX10_goes (by decide) hr (Nat.le_of_ble_eq_true rfl) (c_Mo_goes h0 x1 x2 S)
def Mo_breakAll_81 (a0 : Nat) (k2 : Int32 → iz_S → Option iz_S) (k10 : Int32 → Int32 → iz_S → Option iz_S) (x1 : Int32) (x2 : Int32) (S : iz_S) : Option iz_S :=
  (k10 x1 x2 S)
def Mo_breakAll_78 (a0 : Nat) (k2 : Int32 → iz_S → Option iz_S) (k10 : Int32 → Int32 → iz_S → Option iz_S) (x1 : Int32) (x2 : Int32) (S : iz_S) : Option iz_S :=
  (Mo_breakAll_81 a0 k2 k10 x1 (x2 + 1) S)
def Mo_breakAll_10b (a0 : Nat) (k2 : Int32 → iz_S → Option iz_S) (k10 : Int32 → Int32 → iz_S → Option iz_S) (x1 : Int32) (x2 : Int32) (S : iz_S) : Option iz_S :=
  (iz_ck (iz_in x1 16) (
  if x2 < (iz_g S (iz_rf a0 9) x1) then
    (iz_bI (Mo_blockAt a0 x1 x2 S) (fun r2 S1 =>
    iz_ck (iz_in r2 60) (
    if (iz_g S1 (iz_rf a0 4) r2) = 3 then
      (iz_bI (Mo_loadOf a0 x1 x2 S1) (fun r4 S3 =>
      iz_ck (iz_in r2 60) (
      if r4 ≤ ((2 : Int32) * (iz_g S3 (iz_rf a0 5) r2)) then
        (Mo_breakAll_78 a0 k2 k10 x1 x2 S3)
      else
        iz_ck (iz_in 2 6) (
        iz_ck (iz_in r2 60) (
        iz_ck (iz_in 2 6) (iz_lt (iz_s S3 (iz_rf a0 25) 2 ((iz_g S3 (iz_rf a0 25) 2) + (iz_g S3 (iz_rf a0 5) r2))) (fun S5 =>
        iz_bV (Mo_goes a0 x1 x2 S5) (fun S6 =>
        (Mo_breakAll_81 a0 k2 k10 x1 x2 S6)))))))))
    else
      (Mo_breakAll_78 a0 k2 k10 x1 x2 S1))))
  else
    (k2 (x1 + 1) S)))
def Mo_breakAll_10 (a0 : Nat) (k2 : Int32 → iz_S → Option iz_S) : Nat → Int32 → Int32 → iz_S → Option iz_S
  | 0 => fun _ _ _ => none
  | n9 + 1 => Mo_breakAll_10b a0 k2 (Mo_breakAll_10 a0 k2 n9)
def Mo_breakAll_2b (a0 : Nat) (k2 : Int32 → iz_S → Option iz_S) (x1 : Int32) (S : iz_S) : Option iz_S :=
  (if x1 < 16 then
    (Mo_breakAll_10 a0 k2 iz_FU x1 0 S)
  else
    some S)
def Mo_breakAll_2 (a0 : Nat) : Nat → Int32 → iz_S → Option iz_S
  | 0 => fun _ _ => none
  | n9 + 1 => Mo_breakAll_2b a0 (Mo_breakAll_2 a0 n9)
def Mo_breakAll (a0 : Nat) (S : iz_S) : Option iz_S :=
  (Mo_breakAll_2 a0 iz_FU 0 S)
set_option maxRecDepth 10000 in
theorem c_Mo_breakAll_81 {X : iz_X} {l : Launch} {a0 : Nat} (h0 : iz_sh a0 = (10 + 3, 48)) {k2 : Int32 → iz_S → Option iz_S} {k10 : Int32 → Int32 → iz_S → Option iz_S} (hk2 : ∀ (x1 : Int32) (S : iz_S), iz_Y X l RX10 tX10_breakAll 4 3 (iz_Kc X l yX10_breakAll cX10_breakAll 4 none 3 iz_eV) 2 [(0, .ref (X.1 a0)), (1, .int x1)] [] S (k2 x1 S)) (hk10 : ∀ (x1 : Int32) (x2 : Int32) (S : iz_S), iz_Y X l RX10 tX10_breakAll 4 3 (iz_Kc X l yX10_breakAll cX10_breakAll 4 none 3 iz_eV) 10 [(0, .ref (X.1 a0)), (1, .int x1), (2, .int x2)] [] S (k10 x1 x2 S)) (x1 : Int32) (x2 : Int32) (S : iz_S) : iz_Y X l RX10 tX10_breakAll 4 3 (iz_Kc X l yX10_breakAll cX10_breakAll 4 none 3 iz_eV) 81 [(0, .ref (X.1 a0)), (1, .int x1), (2, .int x2)] [] S (Mo_breakAll_81 a0 k2 k10 x1 x2 S) := by
  unfold Mo_breakAll_81
  refine iz_goto (tgt := 10) 52 (by decide) rfl ?_
  exact hk10 x1 x2 S
set_option maxRecDepth 10000 in
theorem c_Mo_breakAll_78 {X : iz_X} {l : Launch} {a0 : Nat} (h0 : iz_sh a0 = (10 + 3, 48)) {k2 : Int32 → iz_S → Option iz_S} {k10 : Int32 → Int32 → iz_S → Option iz_S} (hk2 : ∀ (x1 : Int32) (S : iz_S), iz_Y X l RX10 tX10_breakAll 4 3 (iz_Kc X l yX10_breakAll cX10_breakAll 4 none 3 iz_eV) 2 [(0, .ref (X.1 a0)), (1, .int x1)] [] S (k2 x1 S)) (hk10 : ∀ (x1 : Int32) (x2 : Int32) (S : iz_S), iz_Y X l RX10 tX10_breakAll 4 3 (iz_Kc X l yX10_breakAll cX10_breakAll 4 none 3 iz_eV) 10 [(0, .ref (X.1 a0)), (1, .int x1), (2, .int x2)] [] S (k10 x1 x2 S)) (x1 : Int32) (x2 : Int32) (S : iz_S) : iz_Y X l RX10 tX10_breakAll 4 3 (iz_Kc X l yX10_breakAll cX10_breakAll 4 none 3 iz_eV) 78 [(0, .ref (X.1 a0)), (1, .int x1), (2, .int x2)] [] S (Mo_breakAll_78 a0 k2 k10 x1 x2 S) := by
  unfold Mo_breakAll_78
  refine iz_iinc (v := (x2 + 1)) (ls2 := [(0, .ref (X.1 a0)), (1, .int x1), (2, .int (x2 + 1))]) 51 2 [1, 2, 0] rfl rfl rfl (by decide) rfl ?_
  exact c_Mo_breakAll_81 h0 hk2 hk10 x1 (x2 + 1) S
set_option maxRecDepth 10000 in
theorem c_Mo_breakAll_10b {X : iz_X} {l : Launch} {a0 : Nat} (h0 : iz_sh a0 = (10 + 3, 48)) {k2 : Int32 → iz_S → Option iz_S} {k10 : Int32 → Int32 → iz_S → Option iz_S} (hk2 : ∀ (x1 : Int32) (S : iz_S), iz_Y X l RX10 tX10_breakAll 4 3 (iz_Kc X l yX10_breakAll cX10_breakAll 4 none 3 iz_eV) 2 [(0, .ref (X.1 a0)), (1, .int x1)] [] S (k2 x1 S)) (hk10 : ∀ (x1 : Int32) (x2 : Int32) (S : iz_S), iz_Y X l RX10 tX10_breakAll 4 3 (iz_Kc X l yX10_breakAll cX10_breakAll 4 none 3 iz_eV) 10 [(0, .ref (X.1 a0)), (1, .int x1), (2, .int x2)] [] S (k10 x1 x2 S)) (x1 : Int32) (x2 : Int32) (S : iz_S) : iz_Y X l RX10 tX10_breakAll 4 3 (iz_Kc X l yX10_breakAll cX10_breakAll 4 none 3 iz_eV) 10 [(0, .ref (X.1 a0)), (1, .int x1), (2, .int x2)] [] S (Mo_breakAll_10b a0 k2 k10 x1 x2 S) := by
  unfold Mo_breakAll_10b
  refine iz_iload_n (n := 2) 7 2 rfl rfl ?_
  refine iz_aload_n (n := 0) 8 0 rfl rfl ?_
  refine iz_getR 9 9 h0 fl_X10_35 rfl (by decide) (by decide) rfl ?_
  refine iz_iload_n (n := 1) 10 1 rfl rfl ?_
  refine iz_iald 11 (sf_10_9 h0) rfl ?_
  refine iz_cmp_ge (tgt := 84) 12 rfl (by decide) ?_ ?_
  · refine iz_iinc (v := (x1 + 1)) (ls2 := [(0, .ref (X.1 a0)), (1, .int (x1 + 1))]) 53 1 [1, 0] rfl rfl rfl (by decide) rfl ?_
    refine iz_goto (tgt := 2) 54 (by decide) rfl ?_
    exact hk2 (x1 + 1) S
  · refine iz_aload_n (n := 0) 13 0 rfl rfl ?_
    refine iz_iload_n (n := 1) 14 1 rfl rfl ?_
    refine iz_iload_n (n := 2) 15 2 rfl rfl ?_
    refine iz_callVI (As := [.int x1, .int x2]) (rest := []) 16 ml_X10_179 cw_X10_blockAt ci_X10_blockAt h0 (fun r9 hr9 => m_Mo_blockAt h0 hr9) rfl (by decide) (by decide) rfl rfl (Nat.le_of_ble_eq_true rfl) (fun r2 S1 => ?_)
    refine iz_istore_n (n := 3) (ls2 := [(0, .ref (X.1 a0)), (1, .int x1), (2, .int x2), (3, .int r2)]) 17 [1, 2, 3, 0] rfl (by decide) rfl ?_
    refine iz_aload_n (n := 0) 18 0 rfl rfl ?_
    refine iz_getR 19 4 h0 fl_X10_20 rfl (by decide) (by decide) rfl ?_
    refine iz_iload_n (n := 3) 20 3 rfl rfl ?_
    refine iz_iald 21 (sf_10_4 h0) rfl ?_
    refine iz_iconst (v := 3) 22 (by decide) rfl ?_
    refine iz_cmp_ne (tgt := 78) 23 rfl (by decide) ?_ ?_
    · exact iz_sub [0, 1, 2] rfl (c_Mo_breakAll_78 h0 hk2 hk10 x1 x2 S1)
    · refine iz_aload_n (n := 0) 24 0 rfl rfl ?_
      refine iz_iload_n (n := 1) 25 1 rfl rfl ?_
      refine iz_iload_n (n := 2) 26 2 rfl rfl ?_
      refine iz_callVI (As := [.int x1, .int x2]) (rest := []) 27 ml_X10_185 cw_X10_loadOf ci_X10_loadOf h0 (fun r9 hr9 => m_Mo_loadOf h0 hr9) rfl (by decide) (by decide) rfl rfl (Nat.le_of_ble_eq_true rfl) (fun r4 S3 => ?_)
      refine iz_iconst (v := 2) 28 (by decide) rfl ?_
      refine iz_aload_n (n := 0) 29 0 rfl rfl ?_
      refine iz_getR 30 5 h0 fl_X10_23 rfl (by decide) (by decide) rfl ?_
      refine iz_iload_n (n := 3) 31 3 rfl rfl ?_
      refine iz_iald 32 (sf_10_5 h0) rfl ?_
      refine iz_imul 33 rfl ?_
      refine iz_cmp_le (tgt := 78) 34 rfl (by decide) ?_ ?_
      · exact iz_sub [0, 1, 2] rfl (c_Mo_breakAll_78 h0 hk2 hk10 x1 x2 S3)
      · refine iz_aload_n (n := 0) 35 0 rfl rfl ?_
        refine iz_getR 36 25 h0 fl_X10_74 rfl (by decide) (by decide) rfl ?_
        refine iz_iconst (v := 2) 37 (by decide) rfl ?_
        refine iz_dup2 38 rfl rfl rfl ?_
        refine iz_iald 39 (sf_10_25 h0) rfl ?_
        refine iz_aload_n (n := 0) 40 0 rfl rfl ?_
        refine iz_getR 41 5 h0 fl_X10_23 rfl (by decide) (by decide) rfl ?_
        refine iz_iload_n (n := 3) 42 3 rfl rfl ?_
        refine iz_iald 43 (sf_10_5 h0) rfl ?_
        refine iz_iadd 44 rfl ?_
        refine iz_iast 45 (sf_10_25 h0) rfl (fun S5 => ?_)
        refine iz_aload_n (n := 0) 46 0 rfl rfl ?_
        refine iz_iload_n (n := 1) 47 1 rfl rfl ?_
        refine iz_iload_n (n := 2) 48 2 rfl rfl ?_
        refine iz_callVV (As := [.int x1, .int x2]) (rest := []) 49 ml_X10_188 cw_X10_goes ci_X10_goes h0 (fun r9 hr9 => m_Mo_goes h0 hr9) rfl (by decide) (by decide) rfl rfl (Nat.le_of_ble_eq_true rfl) (fun S6 => ?_)
        refine iz_goto (tgt := 81) 50 (by decide) rfl ?_
        exact iz_sub [0, 1, 2] rfl (c_Mo_breakAll_81 h0 hk2 hk10 x1 x2 S6)
theorem c_Mo_breakAll_10 {X : iz_X} {l : Launch} {a0 : Nat} (h0 : iz_sh a0 = (10 + 3, 48)) {k2 : Int32 → iz_S → Option iz_S} (hk2 : ∀ (x1 : Int32) (S : iz_S), iz_Y X l RX10 tX10_breakAll 4 3 (iz_Kc X l yX10_breakAll cX10_breakAll 4 none 3 iz_eV) 2 [(0, .ref (X.1 a0)), (1, .int x1)] [] S (k2 x1 S)) : ∀ (n9 : Nat) (x1 : Int32) (x2 : Int32) (S : iz_S), iz_Y X l RX10 tX10_breakAll 4 3 (iz_Kc X l yX10_breakAll cX10_breakAll 4 none 3 iz_eV) 10 [(0, .ref (X.1 a0)), (1, .int x1), (2, .int x2)] [] S (Mo_breakAll_10 a0 k2 n9 x1 x2 S)
  | 0 => by
    intros
    exact iz_none
  | n9 + 1 => c_Mo_breakAll_10b h0 hk2 (c_Mo_breakAll_10 h0 hk2 n9)
set_option maxRecDepth 10000 in
theorem c_Mo_breakAll_2b {X : iz_X} {l : Launch} {a0 : Nat} (h0 : iz_sh a0 = (10 + 3, 48)) {k2 : Int32 → iz_S → Option iz_S} (hk2 : ∀ (x1 : Int32) (S : iz_S), iz_Y X l RX10 tX10_breakAll 4 3 (iz_Kc X l yX10_breakAll cX10_breakAll 4 none 3 iz_eV) 2 [(0, .ref (X.1 a0)), (1, .int x1)] [] S (k2 x1 S)) (x1 : Int32) (S : iz_S) : iz_Y X l RX10 tX10_breakAll 4 3 (iz_Kc X l yX10_breakAll cX10_breakAll 4 none 3 iz_eV) 2 [(0, .ref (X.1 a0)), (1, .int x1)] [] S (Mo_breakAll_2b a0 k2 x1 S) := by
  unfold Mo_breakAll_2b
  refine iz_iload_n (n := 1) 2 1 rfl rfl ?_
  refine iz_bipush (v := 16) 3 (by decide) rfl ?_
  refine iz_cmp_ge (tgt := 90) 4 rfl (by decide) ?_ ?_
  · exact iz_vret 55 rfl
  · refine iz_iconst (v := 0) 5 (by decide) rfl ?_
    refine iz_istore_n (n := 2) (ls2 := [(0, .ref (X.1 a0)), (1, .int x1), (2, .int 0)]) 6 [1, 2, 0] rfl (by decide) rfl ?_
    exact c_Mo_breakAll_10 h0 hk2 iz_FU x1 0 S
theorem c_Mo_breakAll_2 {X : iz_X} {l : Launch} {a0 : Nat} (h0 : iz_sh a0 = (10 + 3, 48)) : ∀ (n9 : Nat) (x1 : Int32) (S : iz_S), iz_Y X l RX10 tX10_breakAll 4 3 (iz_Kc X l yX10_breakAll cX10_breakAll 4 none 3 iz_eV) 2 [(0, .ref (X.1 a0)), (1, .int x1)] [] S (Mo_breakAll_2 a0 n9 x1 S)
  | 0 => by
    intros
    exact iz_none
  | n9 + 1 => c_Mo_breakAll_2b h0 (c_Mo_breakAll_2 h0 n9)
set_option maxRecDepth 10000 in
theorem c_Mo_breakAll {X : iz_X} {l : Launch} {a0 : Nat} (h0 : iz_sh a0 = (10 + 3, 48)) (S : iz_S) : iz_Y X l RX10 tX10_breakAll 4 3 (iz_Kc X l yX10_breakAll cX10_breakAll 4 none 3 iz_eV) 0 [(0, .ref (X.1 a0))] [] S (Mo_breakAll a0 S) := by
  unfold Mo_breakAll
  refine iz_iconst (v := 0) 0 (by decide) rfl ?_
  refine iz_istore_n (n := 1) (ls2 := [(0, .ref (X.1 a0)), (1, .int 0)]) 1 [1, 0] rfl (by decide) rfl ?_
  exact c_Mo_breakAll_2 h0 iz_FU 0 S
theorem m_Mo_breakAll {X : iz_X} {l : Launch} {a0 : Nat} (h0 : iz_sh a0 = (10 + 3, 48)) {S : iz_S} {r9 : iz_S} (hr : Mo_breakAll a0 S = some r9) : iz_Mt X l 3 yX10_breakAll cX10_breakAll 4 none [.ref (X.1 a0)] S (iz_eV r9) :=
  iz_Mt_of (dt := tX10_breakAll) dX10_breakAll (by decide) hr (Nat.le_of_ble_eq_true rfl) (c_Mo_breakAll h0 S)
def Mo_lay (a0 : Nat) (x1 : Int32) (x2 : Int32) (S : iz_S) : Option iz_S :=
  iz_ck (iz_in x2 16) (
  iz_ck (iz_in (((6 : Int32) * x2) + (iz_g S (iz_rf a0 9) x2)) 96) (iz_lt (iz_s S (iz_rf a0 8) (((6 : Int32) * x2) + (iz_g S (iz_rf a0 9) x2)) x1) (fun S1 =>
  iz_ck (iz_in x2 16) (
  iz_ck (iz_in x2 16) (iz_lt (iz_s S1 (iz_rf a0 9) x2 ((iz_g S1 (iz_rf a0 9) x2) + 1)) (fun S2 =>
  iz_ck (iz_in x1 60) (iz_lt (iz_s S2 (iz_rf a0 7) x1 x2) (fun S3 =>
  some S3))))))))
set_option maxRecDepth 10000 in
theorem c_Mo_lay {X : iz_X} {l : Launch} {a0 : Nat} (h0 : iz_sh a0 = (10 + 3, 48)) (x1 : Int32) (x2 : Int32) (S : iz_S) : iz_Y X l RX10 tX10_lay 3 0 (iz_Kc X l yX10_lay cX10_lay 3 none 0 iz_eV) 0 [(0, .ref (X.1 a0)), (1, .int x1), (2, .int x2)] [] S (Mo_lay a0 x1 x2 S) := by
  unfold Mo_lay
  refine iz_aload_n (n := 0) 0 0 rfl rfl ?_
  refine iz_getR 1 8 h0 fl_X10_32 rfl (by decide) (by decide) rfl ?_
  refine iz_bipush (v := 6) 2 (by decide) rfl ?_
  refine iz_iload_n (n := 2) 3 2 rfl rfl ?_
  refine iz_imul 4 rfl ?_
  refine iz_aload_n (n := 0) 5 0 rfl rfl ?_
  refine iz_getR 6 9 h0 fl_X10_35 rfl (by decide) (by decide) rfl ?_
  refine iz_iload_n (n := 2) 7 2 rfl rfl ?_
  refine iz_iald 8 (sf_10_9 h0) rfl ?_
  refine iz_iadd 9 rfl ?_
  refine iz_iload_n (n := 1) 10 1 rfl rfl ?_
  refine iz_iast 11 (sf_10_8 h0) rfl (fun S1 => ?_)
  refine iz_aload_n (n := 0) 12 0 rfl rfl ?_
  refine iz_getR 13 9 h0 fl_X10_35 rfl (by decide) (by decide) rfl ?_
  refine iz_iload_n (n := 2) 14 2 rfl rfl ?_
  refine iz_dup2 15 rfl rfl rfl ?_
  refine iz_iald 16 (sf_10_9 h0) rfl ?_
  refine iz_iconst (v := 1) 17 (by decide) rfl ?_
  refine iz_iadd 18 rfl ?_
  refine iz_iast 19 (sf_10_9 h0) rfl (fun S2 => ?_)
  refine iz_aload_n (n := 0) 20 0 rfl rfl ?_
  refine iz_getR 21 7 h0 fl_X10_29 rfl (by decide) (by decide) rfl ?_
  refine iz_iload_n (n := 1) 22 1 rfl rfl ?_
  refine iz_iload_n (n := 2) 23 2 rfl rfl ?_
  refine iz_iast 24 (sf_10_7 h0) rfl (fun S3 => ?_)
  exact iz_vret 25 rfl
theorem m_Mo_lay {X : iz_X} {l : Launch} {a0 : Nat} (h0 : iz_sh a0 = (10 + 3, 48)) {x1 : Int32} {x2 : Int32} {S : iz_S} {r9 : iz_S} (hr : Mo_lay a0 x1 x2 S = some r9) : iz_Mt X l 0 yX10_lay cX10_lay 3 none [.ref (X.1 a0), .int x1, .int x2] S (iz_eV r9) :=
  iz_Mt_of (dt := tX10_lay) dX10_lay (by decide) hr (Nat.le_of_ble_eq_true rfl) (c_Mo_lay h0 x1 x2 S)
def Mo_put_15 (a0 : Nat) (S : iz_S) : Option (Int32 × iz_S) :=
  iz_bI (Mo_finding a0 1 S) (fun r12 S11 =>
  some (r12, S11))
def Mo_put_41 (a0 : Nat) (S : iz_S) : Option (Int32 × iz_S) :=
  iz_bI (Mo_finding a0 3 S) (fun r14 S13 =>
  some (r14, S13))
def Mo_put (a0 : Nat) (x1 : Int32) (x2 : Int32) (S : iz_S) : Option (Int32 × iz_S) :=
  (iz_bI (Mo_isBlock a0 x1 S) (fun r2 S1 =>
  if r2 = 0 then
    (Mo_put_15 a0 S1)
  else
    (iz_bI (Mo_isColumn x2 S1) (fun r4 S3 =>
    if r4 = 0 then
      (Mo_put_15 a0 S3)
    else
      (iz_ck (iz_in x1 60) (
      if (iz_g S3 (iz_rf a0 6) x1) = 0 then
        (iz_ck (iz_in x2 16) (
        if (iz_g S3 (iz_rf a0 9) x2) = 6 then
          (Mo_put_41 a0 S3)
        else
          iz_bV (Mo_lay a0 x1 x2 S3) (fun S5 =>
          iz_ck (iz_in x1 60) (iz_lt (iz_s S5 (iz_rf a0 6) x1 1) (fun S6 =>
          iz_ck (iz_in 0 6) (
          iz_ck (iz_in x1 60) (
          iz_ck (iz_in 0 6) (iz_lt (iz_s S6 (iz_rf a0 25) 0 ((iz_g S6 (iz_rf a0 25) 0) + (iz_g S6 (iz_rf a0 5) x1))) (fun S7 =>
          iz_bV (Mo_breakAll a0 S7) (fun S8 =>
          iz_bI (Mo_levelOf a0 x1 S8) (fun r10 S9 =>
          some (r10, S9))))))))))))
      else
        (Mo_put_41 a0 S3)))))))
set_option maxRecDepth 10000 in
theorem c_Mo_put_15 {X : iz_X} {l : Launch} {a0 : Nat} (h0 : iz_sh a0 = (10 + 3, 48)) (S : iz_S) : iz_Y X l RX10 tX10_put 3 4 (iz_Kc X l yX10_put cX10_put 3 (some .int) 4 iz_eI) 15 [(0, .ref (X.1 a0))] [] S (Mo_put_15 a0 S) := by
  unfold Mo_put_15
  refine iz_aload_n (n := 0) 7 0 rfl rfl ?_
  refine iz_iconst (v := 1) 8 (by decide) rfl ?_
  refine iz_callVI (As := [.int 1]) (rest := []) 9 ml_X10_127 cw_X10_finding ci_X10_finding h0 (fun r9 hr9 => m_Mo_finding h0 hr9) rfl (by decide) (by decide) rfl rfl (Nat.le_of_ble_eq_true rfl) (fun r12 S11 => ?_)
  exact iz_iret 10 rfl
set_option maxRecDepth 10000 in
theorem c_Mo_put_41 {X : iz_X} {l : Launch} {a0 : Nat} (h0 : iz_sh a0 = (10 + 3, 48)) (S : iz_S) : iz_Y X l RX10 tX10_put 3 4 (iz_Kc X l yX10_put cX10_put 3 (some .int) 4 iz_eI) 41 [(0, .ref (X.1 a0))] [] S (Mo_put_41 a0 S) := by
  unfold Mo_put_41
  refine iz_aload_n (n := 0) 22 0 rfl rfl ?_
  refine iz_iconst (v := 3) 23 (by decide) rfl ?_
  refine iz_callVI (As := [.int 3]) (rest := []) 24 ml_X10_127 cw_X10_finding ci_X10_finding h0 (fun r9 hr9 => m_Mo_finding h0 hr9) rfl (by decide) (by decide) rfl rfl (Nat.le_of_ble_eq_true rfl) (fun r14 S13 => ?_)
  exact iz_iret 25 rfl
set_option maxRecDepth 10000 in
theorem c_Mo_put {X : iz_X} {l : Launch} {a0 : Nat} (h0 : iz_sh a0 = (10 + 3, 48)) (x1 : Int32) (x2 : Int32) (S : iz_S) : iz_Y X l RX10 tX10_put 3 4 (iz_Kc X l yX10_put cX10_put 3 (some .int) 4 iz_eI) 0 [(0, .ref (X.1 a0)), (1, .int x1), (2, .int x2)] [] S (Mo_put a0 x1 x2 S) := by
  unfold Mo_put
  refine iz_aload_n (n := 0) 0 0 rfl rfl ?_
  refine iz_iload_n (n := 1) 1 1 rfl rfl ?_
  refine iz_callVI (As := [.int x1]) (rest := []) 2 ml_X10_191 cw_X10_isBlock ci_X10_isBlock h0 (fun r9 hr9 => m_Mo_isBlock h0 hr9) rfl (by decide) (by decide) rfl rfl (Nat.le_of_ble_eq_true rfl) (fun r2 S1 => ?_)
  refine iz_if_eq (tgt := 15) 3 rfl (by decide) ?_ ?_
  · exact iz_sub [0] rfl (c_Mo_put_15 h0 S1)
  · refine iz_iload_n (n := 2) 4 2 rfl rfl ?_
    refine iz_callSI (As := [.int x2]) (rest := []) 5 ml_X10_194 cw_X10_isColumn ci_X10_isColumn (fun r9 hr9 => m_Mo_isColumn  hr9) rfl (by decide) rfl rfl (Nat.le_of_ble_eq_true rfl) (fun r4 S3 => ?_)
    refine iz_if_ne (tgt := 21) 6 rfl (by decide) ?_ ?_
    · refine iz_aload_n (n := 0) 11 0 rfl rfl ?_
      refine iz_getR 12 6 h0 fl_X10_26 rfl (by decide) (by decide) rfl ?_
      refine iz_iload_n (n := 1) 13 1 rfl rfl ?_
      refine iz_iald 14 (sf_10_6 h0) rfl ?_
      refine iz_if_ne (tgt := 41) 15 rfl (by decide) ?_ ?_
      · exact iz_sub [0] rfl (c_Mo_put_41 h0 S3)
      · refine iz_aload_n (n := 0) 16 0 rfl rfl ?_
        refine iz_getR 17 9 h0 fl_X10_35 rfl (by decide) (by decide) rfl ?_
        refine iz_iload_n (n := 2) 18 2 rfl rfl ?_
        refine iz_iald 19 (sf_10_9 h0) rfl ?_
        refine iz_bipush (v := 6) 20 (by decide) rfl ?_
        refine iz_cmp_ne (tgt := 47) 21 rfl (by decide) ?_ ?_
        · refine iz_aload_n (n := 0) 26 0 rfl rfl ?_
          refine iz_iload_n (n := 1) 27 1 rfl rfl ?_
          refine iz_iload_n (n := 2) 28 2 rfl rfl ?_
          refine iz_callVV (As := [.int x1, .int x2]) (rest := []) 29 ml_X10_197 cw_X10_lay ci_X10_lay h0 (fun r9 hr9 => m_Mo_lay h0 hr9) rfl (by decide) (by decide) rfl rfl (Nat.le_of_ble_eq_true rfl) (fun S5 => ?_)
          refine iz_aload_n (n := 0) 30 0 rfl rfl ?_
          refine iz_getR 31 6 h0 fl_X10_26 rfl (by decide) (by decide) rfl ?_
          refine iz_iload_n (n := 1) 32 1 rfl rfl ?_
          refine iz_iconst (v := 1) 33 (by decide) rfl ?_
          refine iz_iast 34 (sf_10_6 h0) rfl (fun S6 => ?_)
          refine iz_aload_n (n := 0) 35 0 rfl rfl ?_
          refine iz_getR 36 25 h0 fl_X10_74 rfl (by decide) (by decide) rfl ?_
          refine iz_iconst (v := 0) 37 (by decide) rfl ?_
          refine iz_dup2 38 rfl rfl rfl ?_
          refine iz_iald 39 (sf_10_25 h0) rfl ?_
          refine iz_aload_n (n := 0) 40 0 rfl rfl ?_
          refine iz_getR 41 5 h0 fl_X10_23 rfl (by decide) (by decide) rfl ?_
          refine iz_iload_n (n := 1) 42 1 rfl rfl ?_
          refine iz_iald 43 (sf_10_5 h0) rfl ?_
          refine iz_iadd 44 rfl ?_
          refine iz_iast 45 (sf_10_25 h0) rfl (fun S7 => ?_)
          refine iz_aload_n (n := 0) 46 0 rfl rfl ?_
          refine iz_callVV (As := []) (rest := []) 47 ml_X10_200 cw_X10_breakAll ci_X10_breakAll h0 (fun r9 hr9 => m_Mo_breakAll h0 hr9) rfl (by decide) (by decide) rfl rfl (Nat.le_of_ble_eq_true rfl) (fun S8 => ?_)
          refine iz_aload_n (n := 0) 48 0 rfl rfl ?_
          refine iz_iload_n (n := 1) 49 1 rfl rfl ?_
          refine iz_callVI (As := [.int x1]) (rest := []) 50 ml_X10_203 cw_X10_levelOf ci_X10_levelOf h0 (fun r9 hr9 => m_Mo_levelOf h0 hr9) rfl (by decide) (by decide) rfl rfl (Nat.le_of_ble_eq_true rfl) (fun r10 S9 => ?_)
          exact iz_iret 51 rfl
        · exact iz_sub [0] rfl (c_Mo_put_41 h0 S3)
    · exact iz_sub [0] rfl (c_Mo_put_15 h0 S3)
theorem m_Mo_put {X : iz_X} {l : Launch} {a0 : Nat} (h0 : iz_sh a0 = (10 + 3, 48)) {x1 : Int32} {x2 : Int32} {S : iz_S} {r9 : Int32 × iz_S} (hr : Mo_put a0 x1 x2 S = some r9) : iz_Mt X l 4 yX10_put cX10_put 3 (some .int) [.ref (X.1 a0), .int x1, .int x2] S (iz_eI r9) :=
  iz_Mt_of (dt := tX10_put) dX10_put (by decide) hr (Nat.le_of_ble_eq_true rfl) (c_Mo_put h0 x1 x2 S)
def Mo_take (a0 : Nat) (x1 : Int32) (S : iz_S) : Option (Int32 × iz_S) :=
  (iz_bI (Mo_isColumn x1 S) (fun r2 S1 =>
  if r2 = 0 then
    iz_bI (Mo_finding a0 1 S1) (fun r10 S9 =>
    some (r10, S9))
  else
    (iz_ck (iz_in x1 16) (
    if (iz_g S1 (iz_rf a0 9) x1) = 0 then
      iz_bI (Mo_finding a0 2 S1) (fun r8 S7 =>
      some (r8, S7))
    else
      iz_ck (iz_in x1 16) (
      iz_bI (Mo_blockAt a0 x1 ((iz_g S1 (iz_rf a0 9) x1) - 1) S1) (fun r4 S3 =>
      iz_ck (iz_in 4 6) (
      iz_ck (iz_in r4 60) (
      iz_ck (iz_in 4 6) (iz_lt (iz_s S3 (iz_rf a0 25) 4 ((iz_g S3 (iz_rf a0 25) 4) + (iz_g S3 (iz_rf a0 5) r4))) (fun S5 =>
      iz_ck (iz_in x1 16) (
      iz_bV (Mo_goes a0 x1 ((iz_g S5 (iz_rf a0 9) x1) - 1) S5) (fun S6 =>
      some (r4, S6)))))))))))))
set_option maxRecDepth 10000 in
theorem c_Mo_take {X : iz_X} {l : Launch} {a0 : Nat} (h0 : iz_sh a0 = (10 + 3, 48)) (x1 : Int32) (S : iz_S) : iz_Y X l RX10 tX10_take 3 3 (iz_Kc X l yX10_take cX10_take 3 (some .int) 3 iz_eI) 0 [(0, .ref (X.1 a0)), (1, .int x1)] [] S (Mo_take a0 x1 S) := by
  unfold Mo_take
  refine iz_iload_n (n := 1) 0 1 rfl rfl ?_
  refine iz_callSI (As := [.int x1]) (rest := []) 1 ml_X10_194 cw_X10_isColumn ci_X10_isColumn (fun r9 hr9 => m_Mo_isColumn  hr9) rfl (by decide) rfl rfl (Nat.le_of_ble_eq_true rfl) (fun r2 S1 => ?_)
  refine iz_if_ne (tgt := 13) 2 rfl (by decide) ?_ ?_
  · refine iz_aload_n (n := 0) 7 0 rfl rfl ?_
    refine iz_getR 8 9 h0 fl_X10_35 rfl (by decide) (by decide) rfl ?_
    refine iz_iload_n (n := 1) 9 1 rfl rfl ?_
    refine iz_iald 10 (sf_10_9 h0) rfl ?_
    refine iz_if_ne (tgt := 28) 11 rfl (by decide) ?_ ?_
    · refine iz_aload_n (n := 0) 16 0 rfl rfl ?_
      refine iz_iload_n (n := 1) 17 1 rfl rfl ?_
      refine iz_aload_n (n := 0) 18 0 rfl rfl ?_
      refine iz_getR 19 9 h0 fl_X10_35 rfl (by decide) (by decide) rfl ?_
      refine iz_iload_n (n := 1) 20 1 rfl rfl ?_
      refine iz_iald 21 (sf_10_9 h0) rfl ?_
      refine iz_iconst (v := 1) 22 (by decide) rfl ?_
      refine iz_isub 23 rfl ?_
      refine iz_callVI (As := [.int x1, .int ((iz_g S1 (iz_rf a0 9) x1) - 1)]) (rest := []) 24 ml_X10_179 cw_X10_blockAt ci_X10_blockAt h0 (fun r9 hr9 => m_Mo_blockAt h0 hr9) rfl (by decide) (by decide) rfl rfl (Nat.le_of_ble_eq_true rfl) (fun r4 S3 => ?_)
      refine iz_istore_n (n := 2) (ls2 := [(0, .ref (X.1 a0)), (1, .int x1), (2, .int r4)]) 25 [1, 2, 0] rfl (by decide) rfl ?_
      refine iz_aload_n (n := 0) 26 0 rfl rfl ?_
      refine iz_getR 27 25 h0 fl_X10_74 rfl (by decide) (by decide) rfl ?_
      refine iz_iconst (v := 4) 28 (by decide) rfl ?_
      refine iz_dup2 29 rfl rfl rfl ?_
      refine iz_iald 30 (sf_10_25 h0) rfl ?_
      refine iz_aload_n (n := 0) 31 0 rfl rfl ?_
      refine iz_getR 32 5 h0 fl_X10_23 rfl (by decide) (by decide) rfl ?_
      refine iz_iload_n (n := 2) 33 2 rfl rfl ?_
      refine iz_iald 34 (sf_10_5 h0) rfl ?_
      refine iz_iadd 35 rfl ?_
      refine iz_iast 36 (sf_10_25 h0) rfl (fun S5 => ?_)
      refine iz_aload_n (n := 0) 37 0 rfl rfl ?_
      refine iz_iload_n (n := 1) 38 1 rfl rfl ?_
      refine iz_aload_n (n := 0) 39 0 rfl rfl ?_
      refine iz_getR 40 9 h0 fl_X10_35 rfl (by decide) (by decide) rfl ?_
      refine iz_iload_n (n := 1) 41 1 rfl rfl ?_
      refine iz_iald 42 (sf_10_9 h0) rfl ?_
      refine iz_iconst (v := 1) 43 (by decide) rfl ?_
      refine iz_isub 44 rfl ?_
      refine iz_callVV (As := [.int x1, .int ((iz_g S5 (iz_rf a0 9) x1) - 1)]) (rest := []) 45 ml_X10_188 cw_X10_goes ci_X10_goes h0 (fun r9 hr9 => m_Mo_goes h0 hr9) rfl (by decide) (by decide) rfl rfl (Nat.le_of_ble_eq_true rfl) (fun S6 => ?_)
      refine iz_iload_n (n := 2) 46 2 rfl rfl ?_
      exact iz_iret 47 rfl
    · refine iz_aload_n (n := 0) 12 0 rfl rfl ?_
      refine iz_iconst (v := 2) 13 (by decide) rfl ?_
      refine iz_callVI (As := [.int 2]) (rest := []) 14 ml_X10_127 cw_X10_finding ci_X10_finding h0 (fun r9 hr9 => m_Mo_finding h0 hr9) rfl (by decide) (by decide) rfl rfl (Nat.le_of_ble_eq_true rfl) (fun r8 S7 => ?_)
      exact iz_iret 15 rfl
  · refine iz_aload_n (n := 0) 3 0 rfl rfl ?_
    refine iz_iconst (v := 1) 4 (by decide) rfl ?_
    refine iz_callVI (As := [.int 1]) (rest := []) 5 ml_X10_127 cw_X10_finding ci_X10_finding h0 (fun r9 hr9 => m_Mo_finding h0 hr9) rfl (by decide) (by decide) rfl rfl (Nat.le_of_ble_eq_true rfl) (fun r10 S9 => ?_)
    exact iz_iret 6 rfl
theorem m_Mo_take {X : iz_X} {l : Launch} {a0 : Nat} (h0 : iz_sh a0 = (10 + 3, 48)) {x1 : Int32} {S : iz_S} {r9 : Int32 × iz_S} (hr : Mo_take a0 x1 S = some r9) : iz_Mt X l 3 yX10_take cX10_take 3 (some .int) [.ref (X.1 a0), .int x1] S (iz_eI r9) :=
  iz_Mt_of (dt := tX10_take) dX10_take (by decide) hr (Nat.le_of_ble_eq_true rfl) (c_Mo_take h0 x1 S)
def Mo_move_19 (a0 : Nat) (S : iz_S) : Option (Int32 × iz_S) :=
  iz_bI (Mo_finding a0 1 S) (fun r15 S14 =>
  some (r15, S14))
def Mo_move (a0 : Nat) (x1 : Int32) (x2 : Int32) (S : iz_S) : Option (Int32 × iz_S) :=
  (iz_bI (Mo_isColumn x1 S) (fun r2 S1 =>
  if r2 = 0 then
    (Mo_move_19 a0 S1)
  else
    (iz_bI (Mo_isColumn x2 S1) (fun r4 S3 =>
    if r4 = 0 then
      (Mo_move_19 a0 S3)
    else
      (if x1 = x2 then
        (Mo_move_19 a0 S3)
      else
        (iz_ck (iz_in x1 16) (
        if (iz_g S3 (iz_rf a0 9) x1) = 0 then
          iz_bI (Mo_finding a0 2 S3) (fun r13 S12 =>
          some (r13, S12))
        else
          (iz_ck (iz_in x2 16) (
          if (iz_g S3 (iz_rf a0 9) x2) = 6 then
            iz_bI (Mo_finding a0 3 S3) (fun r11 S10 =>
            some (r11, S10))
          else
            iz_ck (iz_in x1 16) (
            iz_bI (Mo_blockAt a0 x1 ((iz_g S3 (iz_rf a0 9) x1) - 1) S3) (fun r6 S5 =>
            iz_ck (iz_in x1 16) (
            iz_bV (Mo_takeOut a0 x1 ((iz_g S5 (iz_rf a0 9) x1) - 1) S5) (fun S7 =>
            iz_bV (Mo_lay a0 r6 x2 S7) (fun S8 =>
            iz_bV (Mo_breakAll a0 S8) (fun S9 =>
            some (r6, S9))))))))))))))))
set_option maxRecDepth 10000 in
theorem c_Mo_move_19 {X : iz_X} {l : Launch} {a0 : Nat} (h0 : iz_sh a0 = (10 + 3, 48)) (S : iz_S) : iz_Y X l RX10 tX10_move 4 4 (iz_Kc X l yX10_move cX10_move 4 (some .int) 4 iz_eI) 19 [(0, .ref (X.1 a0))] [] S (Mo_move_19 a0 S) := by
  unfold Mo_move_19
  refine iz_aload_n (n := 0) 9 0 rfl rfl ?_
  refine iz_iconst (v := 1) 10 (by decide) rfl ?_
  refine iz_callVI (As := [.int 1]) (rest := []) 11 ml_X10_127 cw_X10_finding ci_X10_finding h0 (fun r9 hr9 => m_Mo_finding h0 hr9) rfl (by decide) (by decide) rfl rfl (Nat.le_of_ble_eq_true rfl) (fun r15 S14 => ?_)
  exact iz_iret 12 rfl
set_option maxRecDepth 10000 in
theorem c_Mo_move {X : iz_X} {l : Launch} {a0 : Nat} (h0 : iz_sh a0 = (10 + 3, 48)) (x1 : Int32) (x2 : Int32) (S : iz_S) : iz_Y X l RX10 tX10_move 4 4 (iz_Kc X l yX10_move cX10_move 4 (some .int) 4 iz_eI) 0 [(0, .ref (X.1 a0)), (1, .int x1), (2, .int x2)] [] S (Mo_move a0 x1 x2 S) := by
  unfold Mo_move
  refine iz_iload_n (n := 1) 0 1 rfl rfl ?_
  refine iz_callSI (As := [.int x1]) (rest := []) 1 ml_X10_194 cw_X10_isColumn ci_X10_isColumn (fun r9 hr9 => m_Mo_isColumn  hr9) rfl (by decide) rfl rfl (Nat.le_of_ble_eq_true rfl) (fun r2 S1 => ?_)
  refine iz_if_eq (tgt := 19) 2 rfl (by decide) ?_ ?_
  · exact iz_sub [0] rfl (c_Mo_move_19 h0 S1)
  · refine iz_iload_n (n := 2) 3 2 rfl rfl ?_
    refine iz_callSI (As := [.int x2]) (rest := []) 4 ml_X10_194 cw_X10_isColumn ci_X10_isColumn (fun r9 hr9 => m_Mo_isColumn  hr9) rfl (by decide) rfl rfl (Nat.le_of_ble_eq_true rfl) (fun r4 S3 => ?_)
    refine iz_if_eq (tgt := 19) 5 rfl (by decide) ?_ ?_
    · exact iz_sub [0] rfl (c_Mo_move_19 h0 S3)
    · refine iz_iload_n (n := 1) 6 1 rfl rfl ?_
      refine iz_iload_n (n := 2) 7 2 rfl rfl ?_
      refine iz_cmp_ne (tgt := 25) 8 rfl (by decide) ?_ ?_
      · refine iz_aload_n (n := 0) 13 0 rfl rfl ?_
        refine iz_getR 14 9 h0 fl_X10_35 rfl (by decide) (by decide) rfl ?_
        refine iz_iload_n (n := 1) 15 1 rfl rfl ?_
        refine iz_iald 16 (sf_10_9 h0) rfl ?_
        refine iz_if_ne (tgt := 40) 17 rfl (by decide) ?_ ?_
        · refine iz_aload_n (n := 0) 22 0 rfl rfl ?_
          refine iz_getR 23 9 h0 fl_X10_35 rfl (by decide) (by decide) rfl ?_
          refine iz_iload_n (n := 2) 24 2 rfl rfl ?_
          refine iz_iald 25 (sf_10_9 h0) rfl ?_
          refine iz_bipush (v := 6) 26 (by decide) rfl ?_
          refine iz_cmp_ne (tgt := 57) 27 rfl (by decide) ?_ ?_
          · refine iz_aload_n (n := 0) 32 0 rfl rfl ?_
            refine iz_iload_n (n := 1) 33 1 rfl rfl ?_
            refine iz_aload_n (n := 0) 34 0 rfl rfl ?_
            refine iz_getR 35 9 h0 fl_X10_35 rfl (by decide) (by decide) rfl ?_
            refine iz_iload_n (n := 1) 36 1 rfl rfl ?_
            refine iz_iald 37 (sf_10_9 h0) rfl ?_
            refine iz_iconst (v := 1) 38 (by decide) rfl ?_
            refine iz_isub 39 rfl ?_
            refine iz_callVI (As := [.int x1, .int ((iz_g S3 (iz_rf a0 9) x1) - 1)]) (rest := []) 40 ml_X10_179 cw_X10_blockAt ci_X10_blockAt h0 (fun r9 hr9 => m_Mo_blockAt h0 hr9) rfl (by decide) (by decide) rfl rfl (Nat.le_of_ble_eq_true rfl) (fun r6 S5 => ?_)
            refine iz_istore_n (n := 3) (ls2 := [(0, .ref (X.1 a0)), (1, .int x1), (2, .int x2), (3, .int r6)]) 41 [1, 2, 3, 0] rfl (by decide) rfl ?_
            refine iz_aload_n (n := 0) 42 0 rfl rfl ?_
            refine iz_iload_n (n := 1) 43 1 rfl rfl ?_
            refine iz_aload_n (n := 0) 44 0 rfl rfl ?_
            refine iz_getR 45 9 h0 fl_X10_35 rfl (by decide) (by decide) rfl ?_
            refine iz_iload_n (n := 1) 46 1 rfl rfl ?_
            refine iz_iald 47 (sf_10_9 h0) rfl ?_
            refine iz_iconst (v := 1) 48 (by decide) rfl ?_
            refine iz_isub 49 rfl ?_
            refine iz_callVV (As := [.int x1, .int ((iz_g S5 (iz_rf a0 9) x1) - 1)]) (rest := []) 50 ml_X10_182 cw_X10_takeOut ci_X10_takeOut h0 (fun r9 hr9 => m_Mo_takeOut h0 hr9) rfl (by decide) (by decide) rfl rfl (Nat.le_of_ble_eq_true rfl) (fun S7 => ?_)
            refine iz_aload_n (n := 0) 51 0 rfl rfl ?_
            refine iz_iload_n (n := 3) 52 3 rfl rfl ?_
            refine iz_iload_n (n := 2) 53 2 rfl rfl ?_
            refine iz_callVV (As := [.int r6, .int x2]) (rest := []) 54 ml_X10_197 cw_X10_lay ci_X10_lay h0 (fun r9 hr9 => m_Mo_lay h0 hr9) rfl (by decide) (by decide) rfl rfl (Nat.le_of_ble_eq_true rfl) (fun S8 => ?_)
            refine iz_aload_n (n := 0) 55 0 rfl rfl ?_
            refine iz_callVV (As := []) (rest := []) 56 ml_X10_200 cw_X10_breakAll ci_X10_breakAll h0 (fun r9 hr9 => m_Mo_breakAll h0 hr9) rfl (by decide) (by decide) rfl rfl (Nat.le_of_ble_eq_true rfl) (fun S9 => ?_)
            refine iz_iload_n (n := 3) 57 3 rfl rfl ?_
            exact iz_iret 58 rfl
          · refine iz_aload_n (n := 0) 28 0 rfl rfl ?_
            refine iz_iconst (v := 3) 29 (by decide) rfl ?_
            refine iz_callVI (As := [.int 3]) (rest := []) 30 ml_X10_127 cw_X10_finding ci_X10_finding h0 (fun r9 hr9 => m_Mo_finding h0 hr9) rfl (by decide) (by decide) rfl rfl (Nat.le_of_ble_eq_true rfl) (fun r11 S10 => ?_)
            exact iz_iret 31 rfl
        · refine iz_aload_n (n := 0) 18 0 rfl rfl ?_
          refine iz_iconst (v := 2) 19 (by decide) rfl ?_
          refine iz_callVI (As := [.int 2]) (rest := []) 20 ml_X10_127 cw_X10_finding ci_X10_finding h0 (fun r9 hr9 => m_Mo_finding h0 hr9) rfl (by decide) (by decide) rfl rfl (Nat.le_of_ble_eq_true rfl) (fun r13 S12 => ?_)
          exact iz_iret 21 rfl
      · exact iz_sub [0] rfl (c_Mo_move_19 h0 S3)
theorem m_Mo_move {X : iz_X} {l : Launch} {a0 : Nat} (h0 : iz_sh a0 = (10 + 3, 48)) {x1 : Int32} {x2 : Int32} {S : iz_S} {r9 : Int32 × iz_S} (hr : Mo_move a0 x1 x2 S = some r9) : iz_Mt X l 4 yX10_move cX10_move 4 (some .int) [.ref (X.1 a0), .int x1, .int x2] S (iz_eI r9) :=
  iz_Mt_of (dt := tX10_move) dX10_move (by decide) hr (Nat.le_of_ble_eq_true rfl) (c_Mo_move h0 x1 x2 S)
def Mo_as_17 (a0 : Nat) (S : iz_S) : Option (Int32 × iz_S) :=
  iz_bI (Mo_finding a0 1 S) (fun r6 S5 =>
  some (r6, S5))
def Mo_as_66 (a0 : Nat) (s0 : Int32) (S : iz_S) : Option (Int32 × iz_S) :=
  some (s0, S)
def Mo_as_52 (a0 : Nat) (x1 : Int32) (S : iz_S) : Option (Int32 × iz_S) :=
  iz_ck (iz_in x1 60) (
  (Mo_as_66 a0 (iz_g S (iz_rf a0 5) x1) S))
def Mo_as_61 (a0 : Nat) (S : iz_S) : Option (Int32 × iz_S) :=
  iz_bI (Mo_finding a0 5 S) (fun r8 S7 =>
  (Mo_as_66 a0 r8 S7))
def Mo_as (a0 : Nat) (x1 : Int32) (x2 : Int32) (S : iz_S) : Option (Int32 × iz_S) :=
  (iz_bI (Mo_isBlock a0 x1 S) (fun r2 S1 =>
  if r2 = 0 then
    (Mo_as_17 a0 S1)
  else
    (iz_bI (Mo_isIn x2 0 3 S1) (fun r4 S3 =>
    if r4 = 0 then
      (Mo_as_17 a0 S3)
    else
      (if x2 = 0 then
        (Mo_as_52 a0 x1 S3)
      else
        (iz_ck (iz_in x1 60) (
        if (iz_g S3 (iz_rf a0 4) x1) = x2 then
          (Mo_as_52 a0 x1 S3)
        else
          (if x2 = 1 then
            (iz_ck (iz_in x1 60) (
            if (iz_g S3 (iz_rf a0 4) x1) = 3 then
              (Mo_as_52 a0 x1 S3)
            else
              (Mo_as_61 a0 S3)))
          else
            (Mo_as_61 a0 S3)))))))))
set_option maxRecDepth 10000 in
theorem c_Mo_as_17 {X : iz_X} {l : Launch} {a0 : Nat} (h0 : iz_sh a0 = (10 + 3, 48)) (S : iz_S) : iz_Y X l RX10 tX10_as 3 1 (iz_Kc X l yX10_as cX10_as 3 (some .int) 1 iz_eI) 17 [(0, .ref (X.1 a0))] [] S (Mo_as_17 a0 S) := by
  unfold Mo_as_17
  refine iz_aload_n (n := 0) 9 0 rfl rfl ?_
  refine iz_iconst (v := 1) 10 (by decide) rfl ?_
  refine iz_callVI (As := [.int 1]) (rest := []) 11 ml_X10_127 cw_X10_finding ci_X10_finding h0 (fun r9 hr9 => m_Mo_finding h0 hr9) rfl (by decide) (by decide) rfl rfl (Nat.le_of_ble_eq_true rfl) (fun r6 S5 => ?_)
  exact iz_iret 12 rfl
set_option maxRecDepth 10000 in
theorem c_Mo_as_66 {X : iz_X} {l : Launch} {a0 : Nat} (h0 : iz_sh a0 = (10 + 3, 48)) (s0 : Int32) (S : iz_S) : iz_Y X l RX10 tX10_as 3 1 (iz_Kc X l yX10_as cX10_as 3 (some .int) 1 iz_eI) 66 [] [.int s0] S (Mo_as_66 a0 s0 S) := by
  unfold Mo_as_66
  exact iz_iret 38 rfl
set_option maxRecDepth 10000 in
theorem c_Mo_as_52 {X : iz_X} {l : Launch} {a0 : Nat} (h0 : iz_sh a0 = (10 + 3, 48)) (x1 : Int32) (S : iz_S) : iz_Y X l RX10 tX10_as 3 1 (iz_Kc X l yX10_as cX10_as 3 (some .int) 1 iz_eI) 52 [(0, .ref (X.1 a0)), (1, .int x1)] [] S (Mo_as_52 a0 x1 S) := by
  unfold Mo_as_52
  refine iz_aload_n (n := 0) 30 0 rfl rfl ?_
  refine iz_getR 31 5 h0 fl_X10_23 rfl (by decide) (by decide) rfl ?_
  refine iz_iload_n (n := 1) 32 1 rfl rfl ?_
  refine iz_iald 33 (sf_10_5 h0) rfl ?_
  refine iz_goto (tgt := 66) 34 (by decide) rfl ?_
  exact iz_sub [] rfl (c_Mo_as_66 h0 (iz_g S (iz_rf a0 5) x1) S)
set_option maxRecDepth 10000 in
theorem c_Mo_as_61 {X : iz_X} {l : Launch} {a0 : Nat} (h0 : iz_sh a0 = (10 + 3, 48)) (S : iz_S) : iz_Y X l RX10 tX10_as 3 1 (iz_Kc X l yX10_as cX10_as 3 (some .int) 1 iz_eI) 61 [(0, .ref (X.1 a0))] [] S (Mo_as_61 a0 S) := by
  unfold Mo_as_61
  refine iz_aload_n (n := 0) 35 0 rfl rfl ?_
  refine iz_iconst (v := 5) 36 (by decide) rfl ?_
  refine iz_callVI (As := [.int 5]) (rest := []) 37 ml_X10_127 cw_X10_finding ci_X10_finding h0 (fun r9 hr9 => m_Mo_finding h0 hr9) rfl (by decide) (by decide) rfl rfl (Nat.le_of_ble_eq_true rfl) (fun r8 S7 => ?_)
  exact iz_sub [] rfl (c_Mo_as_66 h0 r8 S7)
set_option maxRecDepth 10000 in
theorem c_Mo_as {X : iz_X} {l : Launch} {a0 : Nat} (h0 : iz_sh a0 = (10 + 3, 48)) (x1 : Int32) (x2 : Int32) (S : iz_S) : iz_Y X l RX10 tX10_as 3 1 (iz_Kc X l yX10_as cX10_as 3 (some .int) 1 iz_eI) 0 [(0, .ref (X.1 a0)), (1, .int x1), (2, .int x2)] [] S (Mo_as a0 x1 x2 S) := by
  unfold Mo_as
  refine iz_aload_n (n := 0) 0 0 rfl rfl ?_
  refine iz_iload_n (n := 1) 1 1 rfl rfl ?_
  refine iz_callVI (As := [.int x1]) (rest := []) 2 ml_X10_191 cw_X10_isBlock ci_X10_isBlock h0 (fun r9 hr9 => m_Mo_isBlock h0 hr9) rfl (by decide) (by decide) rfl rfl (Nat.le_of_ble_eq_true rfl) (fun r2 S1 => ?_)
  refine iz_if_eq (tgt := 17) 3 rfl (by decide) ?_ ?_
  · exact iz_sub [0] rfl (c_Mo_as_17 h0 S1)
  · refine iz_iload_n (n := 2) 4 2 rfl rfl ?_
    refine iz_iconst (v := 0) 5 (by decide) rfl ?_
    refine iz_iconst (v := 3) 6 (by decide) rfl ?_
    refine iz_callSI (As := [.int x2, .int 0, .int 3]) (rest := []) 7 ml_X10_123 cw_X10_isIn ci_X10_isIn (fun r9 hr9 => m_Mo_isIn  hr9) rfl (by decide) rfl rfl (Nat.le_of_ble_eq_true rfl) (fun r4 S3 => ?_)
    refine iz_if_ne (tgt := 23) 8 rfl (by decide) ?_ ?_
    · refine iz_iload_n (n := 2) 13 2 rfl rfl ?_
      refine iz_if_eq (tgt := 52) 14 rfl (by decide) ?_ ?_
      · exact iz_sub [0, 1] rfl (c_Mo_as_52 h0 x1 S3)
      · refine iz_aload_n (n := 0) 15 0 rfl rfl ?_
        refine iz_getR 16 4 h0 fl_X10_20 rfl (by decide) (by decide) rfl ?_
        refine iz_iload_n (n := 1) 17 1 rfl rfl ?_
        refine iz_iald 18 (sf_10_4 h0) rfl ?_
        refine iz_iload_n (n := 2) 19 2 rfl rfl ?_
        refine iz_cmp_eq (tgt := 52) 20 rfl (by decide) ?_ ?_
        · exact iz_sub [0, 1] rfl (c_Mo_as_52 h0 x1 S3)
        · refine iz_iload_n (n := 2) 21 2 rfl rfl ?_
          refine iz_iconst (v := 1) 22 (by decide) rfl ?_
          refine iz_cmp_ne (tgt := 61) 23 rfl (by decide) ?_ ?_
          · exact iz_sub [0] rfl (c_Mo_as_61 h0 S3)
          · refine iz_aload_n (n := 0) 24 0 rfl rfl ?_
            refine iz_getR 25 4 h0 fl_X10_20 rfl (by decide) (by decide) rfl ?_
            refine iz_iload_n (n := 1) 26 1 rfl rfl ?_
            refine iz_iald 27 (sf_10_4 h0) rfl ?_
            refine iz_iconst (v := 3) 28 (by decide) rfl ?_
            refine iz_cmp_ne (tgt := 61) 29 rfl (by decide) ?_ ?_
            · exact iz_sub [0] rfl (c_Mo_as_61 h0 S3)
            · exact iz_sub [0, 1] rfl (c_Mo_as_52 h0 x1 S3)
    · exact iz_sub [0] rfl (c_Mo_as_17 h0 S3)
theorem m_Mo_as {X : iz_X} {l : Launch} {a0 : Nat} (h0 : iz_sh a0 = (10 + 3, 48)) {x1 : Int32} {x2 : Int32} {S : iz_S} {r9 : Int32 × iz_S} (hr : Mo_as a0 x1 x2 S = some r9) : iz_Mt X l 1 yX10_as cX10_as 3 (some .int) [.ref (X.1 a0), .int x1, .int x2] S (iz_eI r9) :=
  iz_Mt_of (dt := tX10_as) dX10_as (by decide) hr (Nat.le_of_ble_eq_true rfl) (c_Mo_as h0 x1 x2 S)
def Mo_warmthOf_17 (a0 : Nat) (s0 : Int32) (S : iz_S) : Option (Int32 × iz_S) :=
  some (s0, S)
def Mo_warmthOf (a0 : Nat) (x1 : Int32) (S : iz_S) : Option (Int32 × iz_S) :=
  (if x1 < 100 then
    iz_ck (iz_in x1 100) (
    (Mo_warmthOf_17 a0 (iz_g S (iz_rf a0 12) x1) S))
  else
    (Mo_warmthOf_17 a0 10 S))
set_option maxRecDepth 10000 in
theorem c_Mo_warmthOf_17 {X : iz_X} {l : Launch} {a0 : Nat} (h0 : iz_sh a0 = (10 + 3, 48)) (s0 : Int32) (S : iz_S) : iz_Y X l RX10 tX10_warmthOf 2 0 (iz_Kc X l yX10_warmthOf cX10_warmthOf 2 (some .int) 0 iz_eI) 17 [] [.int s0] S (Mo_warmthOf_17 a0 s0 S) := by
  unfold Mo_warmthOf_17
  exact iz_iret 9 rfl
set_option maxRecDepth 10000 in
theorem c_Mo_warmthOf {X : iz_X} {l : Launch} {a0 : Nat} (h0 : iz_sh a0 = (10 + 3, 48)) (x1 : Int32) (S : iz_S) : iz_Y X l RX10 tX10_warmthOf 2 0 (iz_Kc X l yX10_warmthOf cX10_warmthOf 2 (some .int) 0 iz_eI) 0 [(0, .ref (X.1 a0)), (1, .int x1)] [] S (Mo_warmthOf a0 x1 S) := by
  unfold Mo_warmthOf
  refine iz_iload_n (n := 1) 0 1 rfl rfl ?_
  refine iz_bipush (v := 100) 1 (by decide) rfl ?_
  refine iz_cmp_ge (tgt := 15) 2 rfl (by decide) ?_ ?_
  · refine iz_bipush (v := 10) 8 (by decide) rfl ?_
    exact iz_sub [] rfl (c_Mo_warmthOf_17 h0 10 S)
  · refine iz_aload_n (n := 0) 3 0 rfl rfl ?_
    refine iz_getR 4 12 h0 fl_X10_44 rfl (by decide) (by decide) rfl ?_
    refine iz_iload_n (n := 1) 5 1 rfl rfl ?_
    refine iz_iald 6 (sf_10_12 h0) rfl ?_
    refine iz_goto (tgt := 17) 7 (by decide) rfl ?_
    exact iz_sub [] rfl (c_Mo_warmthOf_17 h0 (iz_g S (iz_rf a0 12) x1) S)
theorem m_Mo_warmthOf {X : iz_X} {l : Launch} {a0 : Nat} (h0 : iz_sh a0 = (10 + 3, 48)) {x1 : Int32} {S : iz_S} {r9 : Int32 × iz_S} (hr : Mo_warmthOf a0 x1 S = some r9) : iz_Mt X l 0 yX10_warmthOf cX10_warmthOf 2 (some .int) [.ref (X.1 a0), .int x1] S (iz_eI r9) :=
  iz_Mt_of (dt := tX10_warmthOf) dX10_warmthOf (by decide) hr (Nat.le_of_ble_eq_true rfl) (c_Mo_warmthOf h0 x1 S)
def Mo_meltOf_234 (a0 : Nat) (s0 : Int32) (S : iz_S) : Option (Int32 × iz_S) :=
  some (s0, S)
def Mo_meltOf_203 (a0 : Nat) (x4 : Int32) (s0 : Int32) (s1 : Int32) (S : iz_S) : Option (Int32 × iz_S) :=
  (iz_lt ((s0 * s1) / 400) (fun v3 =>
  iz_ck (iz_in x4 60) (
  if v3 < (iz_g S (iz_rf a0 5) x4) then
    (Mo_meltOf_234 a0 v3 S)
  else
    iz_ck (iz_in x4 60) (
    (Mo_meltOf_234 a0 (iz_g S (iz_rf a0 5) x4) S)))))
def Mo_meltOf_164 (a0 : Nat) (k40 : Int32 → Int32 → Int32 → Int32 → Int32 → Int32 → iz_S → Option (Int32 × iz_S)) (x1 : Int32) (x2 : Int32) (x3 : Int32) (x4 : Int32) (x5 : Int32) (x6 : Int32) (S : iz_S) : Option (Int32 × iz_S) :=
  (k40 x1 x2 x3 x4 x5 (x6 + 1) S)
def Mo_meltOf_119 (a0 : Nat) (k40 : Int32 → Int32 → Int32 → Int32 → Int32 → Int32 → iz_S → Option (Int32 × iz_S)) (x1 : Int32) (x2 : Int32) (x3 : Int32) (x4 : Int32) (x5 : Int32) (x6 : Int32) (S : iz_S) : Option (Int32 × iz_S) :=
  iz_ck (iz_in x6 4) (
  iz_lt (x5 + (x3 * ((10 : Int32) - (iz_g S (iz_rf a0 10) x6)))) (fun v11 =>
  (Mo_meltOf_164 a0 k40 x1 x2 x3 x4 v11 x6 S)))
def Mo_meltOf_96 (a0 : Nat) (k40 : Int32 → Int32 → Int32 → Int32 → Int32 → Int32 → iz_S → Option (Int32 × iz_S)) (x1 : Int32) (x2 : Int32) (x3 : Int32) (x4 : Int32) (x5 : Int32) (x6 : Int32) (x7 : Int32) (s0 : Int32) (s1 : Int32) (S : iz_S) : Option (Int32 × iz_S) :=
  (iz_lt (s0 + s1) (fun v5 =>
  iz_bI (Mo_isIn x7 0 3 S) (fun r7 S6 =>
  if r7 = 0 then
    (Mo_meltOf_119 a0 k40 x1 x2 x3 x4 x5 x6 S6)
  else
    (iz_bI (Mo_isIn v5 0 3 S6) (fun r9 S8 =>
    if r9 = 0 then
      (Mo_meltOf_119 a0 k40 x1 x2 x3 x4 x5 x6 S8)
    else
      (iz_ck (iz_in (((4 : Int32) * x7) + v5) 16) (
      if (iz_g S8 (iz_rf a0 9) (((4 : Int32) * x7) + v5)) ≤ x2 then
        iz_lt (x5 + (x3 * 10)) (fun v10 =>
        (Mo_meltOf_164 a0 k40 x1 x2 x3 x4 v10 x6 S8))
      else
        (Mo_meltOf_164 a0 k40 x1 x2 x3 x4 x5 x6 S8))))))))
def Mo_meltOf_69 (a0 : Nat) (k40 : Int32 → Int32 → Int32 → Int32 → Int32 → Int32 → iz_S → Option (Int32 × iz_S)) (x1 : Int32) (x2 : Int32) (x3 : Int32) (x4 : Int32) (x5 : Int32) (x6 : Int32) (s0 : Int32) (s1 : Int32) (S : iz_S) : Option (Int32 × iz_S) :=
  (iz_lt (s0 + s1) (fun v4 =>
  if x6 = 2 then
    (Mo_meltOf_96 a0 k40 x1 x2 x3 x4 x5 x6 v4 (x1 - x1 / 4 * 4) (-1) S)
  else
    (if x6 = 3 then
      (Mo_meltOf_96 a0 k40 x1 x2 x3 x4 x5 x6 v4 (x1 - x1 / 4 * 4) 1 S)
    else
      (Mo_meltOf_96 a0 k40 x1 x2 x3 x4 x5 x6 v4 (x1 - x1 / 4 * 4) 0 S))))
def Mo_meltOf_40b (a0 : Nat) (k40 : Int32 → Int32 → Int32 → Int32 → Int32 → Int32 → iz_S → Option (Int32 × iz_S)) (x1 : Int32) (x2 : Int32) (x3 : Int32) (x4 : Int32) (x5 : Int32) (x6 : Int32) (S : iz_S) : Option (Int32 × iz_S) :=
  (if x6 < 4 then
    (if x6 = 0 then
      (Mo_meltOf_69 a0 k40 x1 x2 x3 x4 x5 x6 (x1 / 4) (-1) S)
    else
      (if x6 = 1 then
        (Mo_meltOf_69 a0 k40 x1 x2 x3 x4 x5 x6 (x1 / 4) 1 S)
      else
        (Mo_meltOf_69 a0 k40 x1 x2 x3 x4 x5 x6 (x1 / 4) 0 S)))
  else
    (iz_ck (iz_in x4 60) (
    if (iz_g S (iz_rf a0 4) x4) = 0 then
      (Mo_meltOf_203 a0 x4 x5 4 S)
    else
      (iz_ck (iz_in x4 60) (
      if (iz_g S (iz_rf a0 4) x4) = 2 then
        (Mo_meltOf_203 a0 x4 x5 6 S)
      else
        (Mo_meltOf_203 a0 x4 x5 3 S))))))
def Mo_meltOf_40 (a0 : Nat) : Nat → Int32 → Int32 → Int32 → Int32 → Int32 → Int32 → iz_S → Option (Int32 × iz_S)
  | 0 => fun _ _ _ _ _ _ _ => none
  | n9 + 1 => Mo_meltOf_40b a0 (Mo_meltOf_40 a0 n9)
def Mo_meltOf_35 (a0 : Nat) (x1 : Int32) (x2 : Int32) (x3 : Int32) (x4 : Int32) (s0 : Int32) (S : iz_S) : Option (Int32 × iz_S) :=
  (Mo_meltOf_40 a0 iz_FU x1 x2 x3 x4 s0 0 S)
def Mo_meltOf (a0 : Nat) (x1 : Int32) (x2 : Int32) (x3 : Int32) (S : iz_S) : Option (Int32 × iz_S) :=
  (iz_bI (Mo_blockAt a0 x1 x2 S) (fun r2 S1 =>
  iz_ck (iz_in x1 16) (
  if x2 = ((iz_g S1 (iz_rf a0 9) x1) - 1) then
    iz_ck (iz_in x1 16) (
    (Mo_meltOf_35 a0 x1 x2 x3 r2 (x3 * ((10 : Int32) - (iz_g S1 (iz_rf a0 11) x1))) S1))
  else
    (Mo_meltOf_35 a0 x1 x2 x3 r2 0 S1))))
set_option maxRecDepth 10000 in
theorem c_Mo_meltOf_234 {X : iz_X} {l : Launch} {a0 : Nat} (h0 : iz_sh a0 = (10 + 3, 48)) (s0 : Int32) (S : iz_S) : iz_Y X l RX10 tX10_meltOf 9 1 (iz_Kc X l yX10_meltOf cX10_meltOf 9 (some .int) 1 iz_eI) 234 [] [.int s0] S (Mo_meltOf_234 a0 s0 S) := by
  unfold Mo_meltOf_234
  exact iz_iret 133 rfl
set_option maxRecDepth 10000 in
theorem c_Mo_meltOf_203 {X : iz_X} {l : Launch} {a0 : Nat} (h0 : iz_sh a0 = (10 + 3, 48)) (x4 : Int32) (s0 : Int32) (s1 : Int32) (S : iz_S) : iz_Y X l RX10 tX10_meltOf 9 1 (iz_Kc X l yX10_meltOf cX10_meltOf 9 (some .int) 1 iz_eI) 203 [(0, .ref (X.1 a0)), (4, .int x4)] [.int s1, .int s0] S (Mo_meltOf_203 a0 x4 s0 s1 S) := by
  unfold Mo_meltOf_203
  refine iz_imul 117 rfl ?_
  refine iz_sipush (v := 400) 118 (by decide) rfl ?_
  refine iz_idiv 119 (by decide) rfl ?_
  refine iz_let (fun v3 => ?_)
  refine iz_istore (n := 6) (ls2 := [(0, .ref (X.1 a0)), (4, .int x4), (6, .int v3)]) 120 [1, 2, 0] rfl (by decide) rfl ?_
  refine iz_iload (n := 6) 121 2 rfl rfl ?_
  refine iz_aload_n (n := 0) 122 0 rfl rfl ?_
  refine iz_getR 123 5 h0 fl_X10_23 rfl (by decide) (by decide) rfl ?_
  refine iz_iload (n := 4) 124 1 rfl rfl ?_
  refine iz_iald 125 (sf_10_5 h0) rfl ?_
  refine iz_cmp_ge (tgt := 227) 126 rfl (by decide) ?_ ?_
  · refine iz_aload_n (n := 0) 129 0 rfl rfl ?_
    refine iz_getR 130 5 h0 fl_X10_23 rfl (by decide) (by decide) rfl ?_
    refine iz_iload (n := 4) 131 1 rfl rfl ?_
    refine iz_iald 132 (sf_10_5 h0) rfl ?_
    exact iz_sub [] rfl (c_Mo_meltOf_234 h0 (iz_g S (iz_rf a0 5) x4) S)
  · refine iz_iload (n := 6) 127 2 rfl rfl ?_
    refine iz_goto (tgt := 234) 128 (by decide) rfl ?_
    exact iz_sub [] rfl (c_Mo_meltOf_234 h0 v3 S)
set_option maxRecDepth 10000 in
theorem c_Mo_meltOf_164 {X : iz_X} {l : Launch} {a0 : Nat} (h0 : iz_sh a0 = (10 + 3, 48)) {k40 : Int32 → Int32 → Int32 → Int32 → Int32 → Int32 → iz_S → Option (Int32 × iz_S)} (hk40 : ∀ (x1 : Int32) (x2 : Int32) (x3 : Int32) (x4 : Int32) (x5 : Int32) (x6 : Int32) (S : iz_S), iz_Y X l RX10 tX10_meltOf 9 1 (iz_Kc X l yX10_meltOf cX10_meltOf 9 (some .int) 1 iz_eI) 40 [(0, .ref (X.1 a0)), (1, .int x1), (2, .int x2), (3, .int x3), (4, .int x4), (5, .int x5), (6, .int x6)] [] S (k40 x1 x2 x3 x4 x5 x6 S)) (x1 : Int32) (x2 : Int32) (x3 : Int32) (x4 : Int32) (x5 : Int32) (x6 : Int32) (S : iz_S) : iz_Y X l RX10 tX10_meltOf 9 1 (iz_Kc X l yX10_meltOf cX10_meltOf 9 (some .int) 1 iz_eI) 164 [(0, .ref (X.1 a0)), (1, .int x1), (2, .int x2), (3, .int x3), (4, .int x4), (5, .int x5), (6, .int x6)] [] S (Mo_meltOf_164 a0 k40 x1 x2 x3 x4 x5 x6 S) := by
  unfold Mo_meltOf_164
  refine iz_iinc (v := (x6 + 1)) (ls2 := [(0, .ref (X.1 a0)), (1, .int x1), (2, .int x2), (3, .int x3), (4, .int x4), (5, .int x5), (6, .int (x6 + 1))]) 98 6 [1, 2, 3, 4, 5, 6, 0] rfl rfl rfl (by decide) rfl ?_
  refine iz_goto (tgt := 40) 99 (by decide) rfl ?_
  exact hk40 x1 x2 x3 x4 x5 (x6 + 1) S
set_option maxRecDepth 10000 in
theorem c_Mo_meltOf_119 {X : iz_X} {l : Launch} {a0 : Nat} (h0 : iz_sh a0 = (10 + 3, 48)) {k40 : Int32 → Int32 → Int32 → Int32 → Int32 → Int32 → iz_S → Option (Int32 × iz_S)} (hk40 : ∀ (x1 : Int32) (x2 : Int32) (x3 : Int32) (x4 : Int32) (x5 : Int32) (x6 : Int32) (S : iz_S), iz_Y X l RX10 tX10_meltOf 9 1 (iz_Kc X l yX10_meltOf cX10_meltOf 9 (some .int) 1 iz_eI) 40 [(0, .ref (X.1 a0)), (1, .int x1), (2, .int x2), (3, .int x3), (4, .int x4), (5, .int x5), (6, .int x6)] [] S (k40 x1 x2 x3 x4 x5 x6 S)) (x1 : Int32) (x2 : Int32) (x3 : Int32) (x4 : Int32) (x5 : Int32) (x6 : Int32) (S : iz_S) : iz_Y X l RX10 tX10_meltOf 9 1 (iz_Kc X l yX10_meltOf cX10_meltOf 9 (some .int) 1 iz_eI) 119 [(0, .ref (X.1 a0)), (1, .int x1), (2, .int x2), (3, .int x3), (4, .int x4), (5, .int x5), (6, .int x6)] [] S (Mo_meltOf_119 a0 k40 x1 x2 x3 x4 x5 x6 S) := by
  unfold Mo_meltOf_119
  refine iz_iload (n := 5) 70 5 rfl rfl ?_
  refine iz_iload_n (n := 3) 71 3 rfl rfl ?_
  refine iz_bipush (v := 10) 72 (by decide) rfl ?_
  refine iz_aload_n (n := 0) 73 0 rfl rfl ?_
  refine iz_getR 74 10 h0 fl_X10_38 rfl (by decide) (by decide) rfl ?_
  refine iz_iload (n := 6) 75 6 rfl rfl ?_
  refine iz_iald 76 (sf_10_10 h0) rfl ?_
  refine iz_isub 77 rfl ?_
  refine iz_imul 78 rfl ?_
  refine iz_iadd 79 rfl ?_
  refine iz_let (fun v11 => ?_)
  refine iz_istore (n := 5) (ls2 := [(0, .ref (X.1 a0)), (1, .int x1), (2, .int x2), (3, .int x3), (4, .int x4), (5, .int v11), (6, .int x6)]) 80 [1, 2, 3, 4, 5, 0, 6] rfl (by decide) rfl ?_
  refine iz_goto (tgt := 164) 81 (by decide) rfl ?_
  exact c_Mo_meltOf_164 h0 hk40 x1 x2 x3 x4 v11 x6 S
set_option maxRecDepth 10000 in
theorem c_Mo_meltOf_96 {X : iz_X} {l : Launch} {a0 : Nat} (h0 : iz_sh a0 = (10 + 3, 48)) {k40 : Int32 → Int32 → Int32 → Int32 → Int32 → Int32 → iz_S → Option (Int32 × iz_S)} (hk40 : ∀ (x1 : Int32) (x2 : Int32) (x3 : Int32) (x4 : Int32) (x5 : Int32) (x6 : Int32) (S : iz_S), iz_Y X l RX10 tX10_meltOf 9 1 (iz_Kc X l yX10_meltOf cX10_meltOf 9 (some .int) 1 iz_eI) 40 [(0, .ref (X.1 a0)), (1, .int x1), (2, .int x2), (3, .int x3), (4, .int x4), (5, .int x5), (6, .int x6)] [] S (k40 x1 x2 x3 x4 x5 x6 S)) (x1 : Int32) (x2 : Int32) (x3 : Int32) (x4 : Int32) (x5 : Int32) (x6 : Int32) (x7 : Int32) (s0 : Int32) (s1 : Int32) (S : iz_S) : iz_Y X l RX10 tX10_meltOf 9 1 (iz_Kc X l yX10_meltOf cX10_meltOf 9 (some .int) 1 iz_eI) 96 [(0, .ref (X.1 a0)), (1, .int x1), (2, .int x2), (3, .int x3), (4, .int x4), (5, .int x5), (6, .int x6), (7, .int x7)] [.int s1, .int s0] S (Mo_meltOf_96 a0 k40 x1 x2 x3 x4 x5 x6 x7 s0 s1 S) := by
  unfold Mo_meltOf_96
  refine iz_iadd 58 rfl ?_
  refine iz_let (fun v5 => ?_)
  refine iz_istore (n := 8) (ls2 := [(0, .ref (X.1 a0)), (1, .int x1), (2, .int x2), (3, .int x3), (4, .int x4), (5, .int x5), (6, .int x6), (7, .int x7), (8, .int v5)]) 59 [1, 2, 3, 4, 5, 6, 7, 8, 0] rfl (by decide) rfl ?_
  refine iz_iload (n := 7) 60 7 rfl rfl ?_
  refine iz_iconst (v := 0) 61 (by decide) rfl ?_
  refine iz_iconst (v := 3) 62 (by decide) rfl ?_
  refine iz_callSI (As := [.int x7, .int 0, .int 3]) (rest := []) 63 ml_X10_123 cw_X10_isIn ci_X10_isIn (fun r9 hr9 => m_Mo_isIn  hr9) rfl (by decide) rfl rfl (Nat.le_of_ble_eq_true rfl) (fun r7 S6 => ?_)
  refine iz_if_eq (tgt := 119) 64 rfl (by decide) ?_ ?_
  · exact iz_sub [0, 1, 2, 3, 4, 5, 6] rfl (c_Mo_meltOf_119 h0 hk40 x1 x2 x3 x4 x5 x6 S6)
  · refine iz_iload (n := 8) 65 8 rfl rfl ?_
    refine iz_iconst (v := 0) 66 (by decide) rfl ?_
    refine iz_iconst (v := 3) 67 (by decide) rfl ?_
    refine iz_callSI (As := [.int v5, .int 0, .int 3]) (rest := []) 68 ml_X10_123 cw_X10_isIn ci_X10_isIn (fun r9 hr9 => m_Mo_isIn  hr9) rfl (by decide) rfl rfl (Nat.le_of_ble_eq_true rfl) (fun r9 S8 => ?_)
    refine iz_if_ne (tgt := 139) 69 rfl (by decide) ?_ ?_
    · refine iz_aload_n (n := 0) 82 0 rfl rfl ?_
      refine iz_getR 83 9 h0 fl_X10_35 rfl (by decide) (by decide) rfl ?_
      refine iz_iconst (v := 4) 84 (by decide) rfl ?_
      refine iz_iload (n := 7) 85 7 rfl rfl ?_
      refine iz_imul 86 rfl ?_
      refine iz_iload (n := 8) 87 8 rfl rfl ?_
      refine iz_iadd 88 rfl ?_
      refine iz_iald 89 (sf_10_9 h0) rfl ?_
      refine iz_iload_n (n := 2) 90 2 rfl rfl ?_
      refine iz_cmp_gt (tgt := 164) 91 rfl (by decide) ?_ ?_
      · exact iz_sub [0, 1, 2, 3, 4, 5, 6] rfl (c_Mo_meltOf_164 h0 hk40 x1 x2 x3 x4 x5 x6 S8)
      · refine iz_iload (n := 5) 92 5 rfl rfl ?_
        refine iz_iload_n (n := 3) 93 3 rfl rfl ?_
        refine iz_bipush (v := 10) 94 (by decide) rfl ?_
        refine iz_imul 95 rfl ?_
        refine iz_iadd 96 rfl ?_
        refine iz_let (fun v10 => ?_)
        refine iz_istore (n := 5) (ls2 := [(0, .ref (X.1 a0)), (1, .int x1), (2, .int x2), (3, .int x3), (4, .int x4), (5, .int v10), (6, .int x6)]) 97 [1, 2, 3, 4, 5, 0, 6] rfl (by decide) rfl ?_
        exact c_Mo_meltOf_164 h0 hk40 x1 x2 x3 x4 v10 x6 S8
    · exact iz_sub [0, 1, 2, 3, 4, 5, 6] rfl (c_Mo_meltOf_119 h0 hk40 x1 x2 x3 x4 x5 x6 S8)
set_option maxRecDepth 10000 in
theorem c_Mo_meltOf_69 {X : iz_X} {l : Launch} {a0 : Nat} (h0 : iz_sh a0 = (10 + 3, 48)) {k40 : Int32 → Int32 → Int32 → Int32 → Int32 → Int32 → iz_S → Option (Int32 × iz_S)} (hk40 : ∀ (x1 : Int32) (x2 : Int32) (x3 : Int32) (x4 : Int32) (x5 : Int32) (x6 : Int32) (S : iz_S), iz_Y X l RX10 tX10_meltOf 9 1 (iz_Kc X l yX10_meltOf cX10_meltOf 9 (some .int) 1 iz_eI) 40 [(0, .ref (X.1 a0)), (1, .int x1), (2, .int x2), (3, .int x3), (4, .int x4), (5, .int x5), (6, .int x6)] [] S (k40 x1 x2 x3 x4 x5 x6 S)) (x1 : Int32) (x2 : Int32) (x3 : Int32) (x4 : Int32) (x5 : Int32) (x6 : Int32) (s0 : Int32) (s1 : Int32) (S : iz_S) : iz_Y X l RX10 tX10_meltOf 9 1 (iz_Kc X l yX10_meltOf cX10_meltOf 9 (some .int) 1 iz_eI) 69 [(0, .ref (X.1 a0)), (1, .int x1), (2, .int x2), (3, .int x3), (4, .int x4), (5, .int x5), (6, .int x6)] [.int s1, .int s0] S (Mo_meltOf_69 a0 k40 x1 x2 x3 x4 x5 x6 s0 s1 S) := by
  unfold Mo_meltOf_69
  refine iz_iadd 42 rfl ?_
  refine iz_let (fun v4 => ?_)
  refine iz_istore (n := 7) (ls2 := [(0, .ref (X.1 a0)), (1, .int x1), (2, .int x2), (3, .int x3), (4, .int x4), (5, .int x5), (6, .int x6), (7, .int v4)]) 43 [1, 2, 3, 4, 5, 6, 7, 0] rfl (by decide) rfl ?_
  refine iz_iload_n (n := 1) 44 1 rfl rfl ?_
  refine iz_iconst (v := 4) 45 (by decide) rfl ?_
  refine iz_irem 46 (by decide) rfl ?_
  refine iz_iload (n := 6) 47 6 rfl rfl ?_
  refine iz_iconst (v := 2) 48 (by decide) rfl ?_
  refine iz_cmp_ne (tgt := 85) 49 rfl (by decide) ?_ ?_
  · refine iz_iload (n := 6) 52 6 rfl rfl ?_
    refine iz_iconst (v := 3) 53 (by decide) rfl ?_
    refine iz_cmp_ne (tgt := 95) 54 rfl (by decide) ?_ ?_
    · refine iz_iconst (v := 0) 57 (by decide) rfl ?_
      exact c_Mo_meltOf_96 h0 hk40 x1 x2 x3 x4 x5 x6 v4 (x1 - x1 / 4 * 4) 0 S
    · refine iz_iconst (v := 1) 55 (by decide) rfl ?_
      refine iz_goto (tgt := 96) 56 (by decide) rfl ?_
      exact c_Mo_meltOf_96 h0 hk40 x1 x2 x3 x4 x5 x6 v4 (x1 - x1 / 4 * 4) 1 S
  · refine iz_iconst (v := (-1)) 50 (by decide) rfl ?_
    refine iz_goto (tgt := 96) 51 (by decide) rfl ?_
    exact c_Mo_meltOf_96 h0 hk40 x1 x2 x3 x4 x5 x6 v4 (x1 - x1 / 4 * 4) (-1) S
set_option maxRecDepth 10000 in
theorem c_Mo_meltOf_40b {X : iz_X} {l : Launch} {a0 : Nat} (h0 : iz_sh a0 = (10 + 3, 48)) {k40 : Int32 → Int32 → Int32 → Int32 → Int32 → Int32 → iz_S → Option (Int32 × iz_S)} (hk40 : ∀ (x1 : Int32) (x2 : Int32) (x3 : Int32) (x4 : Int32) (x5 : Int32) (x6 : Int32) (S : iz_S), iz_Y X l RX10 tX10_meltOf 9 1 (iz_Kc X l yX10_meltOf cX10_meltOf 9 (some .int) 1 iz_eI) 40 [(0, .ref (X.1 a0)), (1, .int x1), (2, .int x2), (3, .int x3), (4, .int x4), (5, .int x5), (6, .int x6)] [] S (k40 x1 x2 x3 x4 x5 x6 S)) (x1 : Int32) (x2 : Int32) (x3 : Int32) (x4 : Int32) (x5 : Int32) (x6 : Int32) (S : iz_S) : iz_Y X l RX10 tX10_meltOf 9 1 (iz_Kc X l yX10_meltOf cX10_meltOf 9 (some .int) 1 iz_eI) 40 [(0, .ref (X.1 a0)), (1, .int x1), (2, .int x2), (3, .int x3), (4, .int x4), (5, .int x5), (6, .int x6)] [] S (Mo_meltOf_40b a0 k40 x1 x2 x3 x4 x5 x6 S) := by
  unfold Mo_meltOf_40b
  refine iz_iload (n := 6) 26 6 rfl rfl ?_
  refine iz_iconst (v := 4) 27 (by decide) rfl ?_
  refine iz_cmp_ge (tgt := 170) 28 rfl (by decide) ?_ ?_
  · refine iz_iload (n := 5) 100 5 rfl rfl ?_
    refine iz_aload_n (n := 0) 101 0 rfl rfl ?_
    refine iz_getR 102 4 h0 fl_X10_20 rfl (by decide) (by decide) rfl ?_
    refine iz_iload (n := 4) 103 4 rfl rfl ?_
    refine iz_iald 104 (sf_10_4 h0) rfl ?_
    refine iz_if_ne (tgt := 186) 105 rfl (by decide) ?_ ?_
    · refine iz_aload_n (n := 0) 108 0 rfl rfl ?_
      refine iz_getR 109 4 h0 fl_X10_20 rfl (by decide) (by decide) rfl ?_
      refine iz_iload (n := 4) 110 4 rfl rfl ?_
      refine iz_iald 111 (sf_10_4 h0) rfl ?_
      refine iz_iconst (v := 2) 112 (by decide) rfl ?_
      refine iz_cmp_ne (tgt := 202) 113 rfl (by decide) ?_ ?_
      · refine iz_iconst (v := 3) 116 (by decide) rfl ?_
        exact iz_sub [0, 4] rfl (c_Mo_meltOf_203 h0 x4 x5 3 S)
      · refine iz_bipush (v := 6) 114 (by decide) rfl ?_
        refine iz_goto (tgt := 203) 115 (by decide) rfl ?_
        exact iz_sub [0, 4] rfl (c_Mo_meltOf_203 h0 x4 x5 6 S)
    · refine iz_iconst (v := 4) 106 (by decide) rfl ?_
      refine iz_goto (tgt := 203) 107 (by decide) rfl ?_
      exact iz_sub [0, 4] rfl (c_Mo_meltOf_203 h0 x4 x5 4 S)
  · refine iz_iload_n (n := 1) 29 1 rfl rfl ?_
    refine iz_iconst (v := 4) 30 (by decide) rfl ?_
    refine iz_idiv 31 (by decide) rfl ?_
    refine iz_iload (n := 6) 32 6 rfl rfl ?_
    refine iz_if_ne (tgt := 58) 33 rfl (by decide) ?_ ?_
    · refine iz_iload (n := 6) 36 6 rfl rfl ?_
      refine iz_iconst (v := 1) 37 (by decide) rfl ?_
      refine iz_cmp_ne (tgt := 68) 38 rfl (by decide) ?_ ?_
      · refine iz_iconst (v := 0) 41 (by decide) rfl ?_
        exact c_Mo_meltOf_69 h0 hk40 x1 x2 x3 x4 x5 x6 (x1 / 4) 0 S
      · refine iz_iconst (v := 1) 39 (by decide) rfl ?_
        refine iz_goto (tgt := 69) 40 (by decide) rfl ?_
        exact c_Mo_meltOf_69 h0 hk40 x1 x2 x3 x4 x5 x6 (x1 / 4) 1 S
    · refine iz_iconst (v := (-1)) 34 (by decide) rfl ?_
      refine iz_goto (tgt := 69) 35 (by decide) rfl ?_
      exact c_Mo_meltOf_69 h0 hk40 x1 x2 x3 x4 x5 x6 (x1 / 4) (-1) S
theorem c_Mo_meltOf_40 {X : iz_X} {l : Launch} {a0 : Nat} (h0 : iz_sh a0 = (10 + 3, 48)) : ∀ (n9 : Nat) (x1 : Int32) (x2 : Int32) (x3 : Int32) (x4 : Int32) (x5 : Int32) (x6 : Int32) (S : iz_S), iz_Y X l RX10 tX10_meltOf 9 1 (iz_Kc X l yX10_meltOf cX10_meltOf 9 (some .int) 1 iz_eI) 40 [(0, .ref (X.1 a0)), (1, .int x1), (2, .int x2), (3, .int x3), (4, .int x4), (5, .int x5), (6, .int x6)] [] S (Mo_meltOf_40 a0 n9 x1 x2 x3 x4 x5 x6 S)
  | 0 => by
    intros
    exact iz_none
  | n9 + 1 => c_Mo_meltOf_40b h0 (c_Mo_meltOf_40 h0 n9)
set_option maxRecDepth 10000 in
theorem c_Mo_meltOf_35 {X : iz_X} {l : Launch} {a0 : Nat} (h0 : iz_sh a0 = (10 + 3, 48)) (x1 : Int32) (x2 : Int32) (x3 : Int32) (x4 : Int32) (s0 : Int32) (S : iz_S) : iz_Y X l RX10 tX10_meltOf 9 1 (iz_Kc X l yX10_meltOf cX10_meltOf 9 (some .int) 1 iz_eI) 35 [(0, .ref (X.1 a0)), (1, .int x1), (2, .int x2), (3, .int x3), (4, .int x4)] [.int s0] S (Mo_meltOf_35 a0 x1 x2 x3 x4 s0 S) := by
  unfold Mo_meltOf_35
  refine iz_istore (n := 5) (ls2 := [(0, .ref (X.1 a0)), (1, .int x1), (2, .int x2), (3, .int x3), (4, .int x4), (5, .int s0)]) 23 [1, 2, 3, 4, 5, 0] rfl (by decide) rfl ?_
  refine iz_iconst (v := 0) 24 (by decide) rfl ?_
  refine iz_istore (n := 6) (ls2 := [(0, .ref (X.1 a0)), (1, .int x1), (2, .int x2), (3, .int x3), (4, .int x4), (5, .int s0), (6, .int 0)]) 25 [1, 2, 3, 4, 5, 6, 0] rfl (by decide) rfl ?_
  exact c_Mo_meltOf_40 h0 iz_FU x1 x2 x3 x4 s0 0 S
set_option maxRecDepth 10000 in
theorem c_Mo_meltOf {X : iz_X} {l : Launch} {a0 : Nat} (h0 : iz_sh a0 = (10 + 3, 48)) (x1 : Int32) (x2 : Int32) (x3 : Int32) (S : iz_S) : iz_Y X l RX10 tX10_meltOf 9 1 (iz_Kc X l yX10_meltOf cX10_meltOf 9 (some .int) 1 iz_eI) 0 [(0, .ref (X.1 a0)), (1, .int x1), (2, .int x2), (3, .int x3)] [] S (Mo_meltOf a0 x1 x2 x3 S) := by
  unfold Mo_meltOf
  refine iz_aload_n (n := 0) 0 0 rfl rfl ?_
  refine iz_iload_n (n := 1) 1 1 rfl rfl ?_
  refine iz_iload_n (n := 2) 2 2 rfl rfl ?_
  refine iz_callVI (As := [.int x1, .int x2]) (rest := []) 3 ml_X10_179 cw_X10_blockAt ci_X10_blockAt h0 (fun r9 hr9 => m_Mo_blockAt h0 hr9) rfl (by decide) (by decide) rfl rfl (Nat.le_of_ble_eq_true rfl) (fun r2 S1 => ?_)
  refine iz_istore (n := 4) (ls2 := [(0, .ref (X.1 a0)), (1, .int x1), (2, .int x2), (3, .int x3), (4, .int r2)]) 4 [1, 2, 3, 4, 0] rfl (by decide) rfl ?_
  refine iz_iload_n (n := 2) 5 2 rfl rfl ?_
  refine iz_aload_n (n := 0) 6 0 rfl rfl ?_
  refine iz_getR 7 9 h0 fl_X10_35 rfl (by decide) (by decide) rfl ?_
  refine iz_iload_n (n := 1) 8 1 rfl rfl ?_
  refine iz_iald 9 (sf_10_9 h0) rfl ?_
  refine iz_iconst (v := 1) 10 (by decide) rfl ?_
  refine iz_isub 11 rfl ?_
  refine iz_cmp_ne (tgt := 34) 12 rfl (by decide) ?_ ?_
  · refine iz_iconst (v := 0) 22 (by decide) rfl ?_
    exact c_Mo_meltOf_35 h0 x1 x2 x3 r2 0 S1
  · refine iz_iload_n (n := 3) 13 3 rfl rfl ?_
    refine iz_bipush (v := 10) 14 (by decide) rfl ?_
    refine iz_aload_n (n := 0) 15 0 rfl rfl ?_
    refine iz_getR 16 11 h0 fl_X10_41 rfl (by decide) (by decide) rfl ?_
    refine iz_iload_n (n := 1) 17 1 rfl rfl ?_
    refine iz_iald 18 (sf_10_11 h0) rfl ?_
    refine iz_isub 19 rfl ?_
    refine iz_imul 20 rfl ?_
    refine iz_goto (tgt := 35) 21 (by decide) rfl ?_
    exact c_Mo_meltOf_35 h0 x1 x2 x3 r2 (x3 * ((10 : Int32) - (iz_g S1 (iz_rf a0 11) x1))) S1
theorem m_Mo_meltOf {X : iz_X} {l : Launch} {a0 : Nat} (h0 : iz_sh a0 = (10 + 3, 48)) {x1 : Int32} {x2 : Int32} {x3 : Int32} {S : iz_S} {r9 : Int32 × iz_S} (hr : Mo_meltOf a0 x1 x2 x3 S = some r9) : iz_Mt X l 1 yX10_meltOf cX10_meltOf 9 (some .int) [.ref (X.1 a0), .int x1, .int x2, .int x3] S (iz_eI r9) :=
  iz_Mt_of (dt := tX10_meltOf) dX10_meltOf (by decide) hr (Nat.le_of_ble_eq_true rfl) (c_Mo_meltOf h0 x1 x2 x3 S)
def Mo_allMelts_12b (a0 : Nat) (k4 : Int32 → Int32 → iz_S → Option (Int32 × iz_S)) (k12 : Int32 → Int32 → Int32 → iz_S → Option (Int32 × iz_S)) (x1 : Int32) (x2 : Int32) (x3 : Int32) (S : iz_S) : Option (Int32 × iz_S) :=
  (iz_ck (iz_in x2 16) (
  if x3 < (iz_g S (iz_rf a0 9) x2) then
    iz_bI (Mo_warmthOf a0 (S.1 a0 13) S) (fun r2 S1 =>
    iz_bI (Mo_meltOf a0 x2 x3 r2 S1) (fun r4 S3 =>
    iz_lt (x1 + r4) (fun v5 =>
    (k12 v5 x2 (x3 + 1) S3))))
  else
    (k4 x1 (x2 + 1) S)))
def Mo_allMelts_12 (a0 : Nat) (k4 : Int32 → Int32 → iz_S → Option (Int32 × iz_S)) : Nat → Int32 → Int32 → Int32 → iz_S → Option (Int32 × iz_S)
  | 0 => fun _ _ _ _ => none
  | n9 + 1 => Mo_allMelts_12b a0 k4 (Mo_allMelts_12 a0 k4 n9)
def Mo_allMelts_4b (a0 : Nat) (k4 : Int32 → Int32 → iz_S → Option (Int32 × iz_S)) (x1 : Int32) (x2 : Int32) (S : iz_S) : Option (Int32 × iz_S) :=
  (if x2 < 16 then
    (Mo_allMelts_12 a0 k4 iz_FU x1 x2 0 S)
  else
    some (x1, S))
def Mo_allMelts_4 (a0 : Nat) : Nat → Int32 → Int32 → iz_S → Option (Int32 × iz_S)
  | 0 => fun _ _ _ => none
  | n9 + 1 => Mo_allMelts_4b a0 (Mo_allMelts_4 a0 n9)
def Mo_allMelts (a0 : Nat) (S : iz_S) : Option (Int32 × iz_S) :=
  (Mo_allMelts_4 a0 iz_FU 0 0 S)
set_option maxRecDepth 10000 in
theorem c_Mo_allMelts_12b {X : iz_X} {l : Launch} {a0 : Nat} (h0 : iz_sh a0 = (10 + 3, 48)) {k4 : Int32 → Int32 → iz_S → Option (Int32 × iz_S)} {k12 : Int32 → Int32 → Int32 → iz_S → Option (Int32 × iz_S)} (hk4 : ∀ (x1 : Int32) (x2 : Int32) (S : iz_S), iz_Y X l RX10 tX10_allMelts 4 2 (iz_Kc X l yX10_allMelts cX10_allMelts 4 (some .int) 2 iz_eI) 4 [(0, .ref (X.1 a0)), (1, .int x1), (2, .int x2)] [] S (k4 x1 x2 S)) (hk12 : ∀ (x1 : Int32) (x2 : Int32) (x3 : Int32) (S : iz_S), iz_Y X l RX10 tX10_allMelts 4 2 (iz_Kc X l yX10_allMelts cX10_allMelts 4 (some .int) 2 iz_eI) 12 [(0, .ref (X.1 a0)), (1, .int x1), (2, .int x2), (3, .int x3)] [] S (k12 x1 x2 x3 S)) (x1 : Int32) (x2 : Int32) (x3 : Int32) (S : iz_S) : iz_Y X l RX10 tX10_allMelts 4 2 (iz_Kc X l yX10_allMelts cX10_allMelts 4 (some .int) 2 iz_eI) 12 [(0, .ref (X.1 a0)), (1, .int x1), (2, .int x2), (3, .int x3)] [] S (Mo_allMelts_12b a0 k4 k12 x1 x2 x3 S) := by
  unfold Mo_allMelts_12b
  refine iz_iload_n (n := 3) 9 3 rfl rfl ?_
  refine iz_aload_n (n := 0) 10 0 rfl rfl ?_
  refine iz_getR 11 9 h0 fl_X10_35 rfl (by decide) (by decide) rfl ?_
  refine iz_iload_n (n := 2) 12 2 rfl rfl ?_
  refine iz_iald 13 (sf_10_9 h0) rfl ?_
  refine iz_cmp_ge (tgt := 45) 14 rfl (by decide) ?_ ?_
  · refine iz_iinc (v := (x2 + 1)) (ls2 := [(0, .ref (X.1 a0)), (1, .int x1), (2, .int (x2 + 1))]) 28 2 [1, 2, 0] rfl rfl rfl (by decide) rfl ?_
    refine iz_goto (tgt := 4) 29 (by decide) rfl ?_
    exact hk4 x1 (x2 + 1) S
  · refine iz_iload_n (n := 1) 15 1 rfl rfl ?_
    refine iz_aload_n (n := 0) 16 0 rfl rfl ?_
    refine iz_iload_n (n := 2) 17 2 rfl rfl ?_
    refine iz_iload_n (n := 3) 18 3 rfl rfl ?_
    refine iz_aload_n (n := 0) 19 0 rfl rfl ?_
    refine iz_aload_n (n := 0) 20 0 rfl rfl ?_
    refine iz_getI 21 13 h0 fl_X10_206 rfl (by decide) (by decide) rfl ?_
    refine iz_callVI (As := [.int (S.1 a0 13)]) (rest := [.int x3, .int x2, .ref (X.1 a0), .int x1]) 22 ml_X10_209 cw_X10_warmthOf ci_X10_warmthOf h0 (fun r9 hr9 => m_Mo_warmthOf h0 hr9) rfl (by decide) (by decide) rfl rfl (Nat.le_of_ble_eq_true rfl) (fun r2 S1 => ?_)
    refine iz_callVI (As := [.int x2, .int x3, .int r2]) (rest := [.int x1]) 23 ml_X10_212 cw_X10_meltOf ci_X10_meltOf h0 (fun r9 hr9 => m_Mo_meltOf h0 hr9) rfl (by decide) (by decide) rfl rfl (Nat.le_of_ble_eq_true rfl) (fun r4 S3 => ?_)
    refine iz_iadd 24 rfl ?_
    refine iz_let (fun v5 => ?_)
    refine iz_istore_n (n := 1) (ls2 := [(0, .ref (X.1 a0)), (1, .int v5), (2, .int x2), (3, .int x3)]) 25 [1, 0, 2, 3] rfl (by decide) rfl ?_
    refine iz_iinc (v := (x3 + 1)) (ls2 := [(0, .ref (X.1 a0)), (1, .int v5), (2, .int x2), (3, .int (x3 + 1))]) 26 3 [1, 2, 3, 0] rfl rfl rfl (by decide) rfl ?_
    refine iz_goto (tgt := 12) 27 (by decide) rfl ?_
    exact hk12 v5 x2 (x3 + 1) S3
theorem c_Mo_allMelts_12 {X : iz_X} {l : Launch} {a0 : Nat} (h0 : iz_sh a0 = (10 + 3, 48)) {k4 : Int32 → Int32 → iz_S → Option (Int32 × iz_S)} (hk4 : ∀ (x1 : Int32) (x2 : Int32) (S : iz_S), iz_Y X l RX10 tX10_allMelts 4 2 (iz_Kc X l yX10_allMelts cX10_allMelts 4 (some .int) 2 iz_eI) 4 [(0, .ref (X.1 a0)), (1, .int x1), (2, .int x2)] [] S (k4 x1 x2 S)) : ∀ (n9 : Nat) (x1 : Int32) (x2 : Int32) (x3 : Int32) (S : iz_S), iz_Y X l RX10 tX10_allMelts 4 2 (iz_Kc X l yX10_allMelts cX10_allMelts 4 (some .int) 2 iz_eI) 12 [(0, .ref (X.1 a0)), (1, .int x1), (2, .int x2), (3, .int x3)] [] S (Mo_allMelts_12 a0 k4 n9 x1 x2 x3 S)
  | 0 => by
    intros
    exact iz_none
  | n9 + 1 => c_Mo_allMelts_12b h0 hk4 (c_Mo_allMelts_12 h0 hk4 n9)
set_option maxRecDepth 10000 in
theorem c_Mo_allMelts_4b {X : iz_X} {l : Launch} {a0 : Nat} (h0 : iz_sh a0 = (10 + 3, 48)) {k4 : Int32 → Int32 → iz_S → Option (Int32 × iz_S)} (hk4 : ∀ (x1 : Int32) (x2 : Int32) (S : iz_S), iz_Y X l RX10 tX10_allMelts 4 2 (iz_Kc X l yX10_allMelts cX10_allMelts 4 (some .int) 2 iz_eI) 4 [(0, .ref (X.1 a0)), (1, .int x1), (2, .int x2)] [] S (k4 x1 x2 S)) (x1 : Int32) (x2 : Int32) (S : iz_S) : iz_Y X l RX10 tX10_allMelts 4 2 (iz_Kc X l yX10_allMelts cX10_allMelts 4 (some .int) 2 iz_eI) 4 [(0, .ref (X.1 a0)), (1, .int x1), (2, .int x2)] [] S (Mo_allMelts_4b a0 k4 x1 x2 S) := by
  unfold Mo_allMelts_4b
  refine iz_iload_n (n := 2) 4 2 rfl rfl ?_
  refine iz_bipush (v := 16) 5 (by decide) rfl ?_
  refine iz_cmp_ge (tgt := 51) 6 rfl (by decide) ?_ ?_
  · refine iz_iload_n (n := 1) 30 1 rfl rfl ?_
    exact iz_iret 31 rfl
  · refine iz_iconst (v := 0) 7 (by decide) rfl ?_
    refine iz_istore_n (n := 3) (ls2 := [(0, .ref (X.1 a0)), (1, .int x1), (2, .int x2), (3, .int 0)]) 8 [1, 2, 3, 0] rfl (by decide) rfl ?_
    exact c_Mo_allMelts_12 h0 hk4 iz_FU x1 x2 0 S
theorem c_Mo_allMelts_4 {X : iz_X} {l : Launch} {a0 : Nat} (h0 : iz_sh a0 = (10 + 3, 48)) : ∀ (n9 : Nat) (x1 : Int32) (x2 : Int32) (S : iz_S), iz_Y X l RX10 tX10_allMelts 4 2 (iz_Kc X l yX10_allMelts cX10_allMelts 4 (some .int) 2 iz_eI) 4 [(0, .ref (X.1 a0)), (1, .int x1), (2, .int x2)] [] S (Mo_allMelts_4 a0 n9 x1 x2 S)
  | 0 => by
    intros
    exact iz_none
  | n9 + 1 => c_Mo_allMelts_4b h0 (c_Mo_allMelts_4 h0 n9)
set_option maxRecDepth 10000 in
theorem c_Mo_allMelts {X : iz_X} {l : Launch} {a0 : Nat} (h0 : iz_sh a0 = (10 + 3, 48)) (S : iz_S) : iz_Y X l RX10 tX10_allMelts 4 2 (iz_Kc X l yX10_allMelts cX10_allMelts 4 (some .int) 2 iz_eI) 0 [(0, .ref (X.1 a0))] [] S (Mo_allMelts a0 S) := by
  unfold Mo_allMelts
  refine iz_iconst (v := 0) 0 (by decide) rfl ?_
  refine iz_istore_n (n := 1) (ls2 := [(0, .ref (X.1 a0)), (1, .int 0)]) 1 [1, 0] rfl (by decide) rfl ?_
  refine iz_iconst (v := 0) 2 (by decide) rfl ?_
  refine iz_istore_n (n := 2) (ls2 := [(0, .ref (X.1 a0)), (1, .int 0), (2, .int 0)]) 3 [1, 2, 0] rfl (by decide) rfl ?_
  exact c_Mo_allMelts_4 h0 iz_FU 0 0 S
theorem m_Mo_allMelts {X : iz_X} {l : Launch} {a0 : Nat} (h0 : iz_sh a0 = (10 + 3, 48)) {S : iz_S} {r9 : Int32 × iz_S} (hr : Mo_allMelts a0 S = some r9) : iz_Mt X l 2 yX10_allMelts cX10_allMelts 4 (some .int) [.ref (X.1 a0)] S (iz_eI r9) :=
  iz_Mt_of (dt := tX10_allMelts) dX10_allMelts (by decide) hr (Nat.le_of_ble_eq_true rfl) (c_Mo_allMelts h0 S)
def Mo_about_18 (a0 : Nat) (S : iz_S) : Option (Int32 × iz_S) :=
  iz_bI (Mo_finding a0 1 S) (fun r6 S5 =>
  some (r6, S5))
def Mo_about_177 (a0 : Nat) (s0 : Int32) (S : iz_S) : Option (Int32 × iz_S) :=
  some (s0, S)
def Mo_about_121 (a0 : Nat) (s0 : Int32) (S : iz_S) : Option (Int32 × iz_S) :=
  some (s0, S)
def Mo_about_145 (a0 : Nat) (s0 : Int32) (S : iz_S) : Option (Int32 × iz_S) :=
  some (s0, S)
def Mo_about_39 (a0 : Nat) (x1 : Int32) (x2 : Int32) (s0 : Int32) (S : iz_S) : Option (Int32 × iz_S) :=
  iz_sw x2 0 5 [
    iz_ck (iz_in x1 60) (
    some ((iz_g S (iz_rf a0 4) x1), S)),
    iz_ck (iz_in x1 60) (
    some ((iz_g S (iz_rf a0 5) x1), S)),
    iz_ck (iz_in x1 60) (
    some ((iz_g S (iz_rf a0 6) x1), S)),
    iz_ck (iz_in x1 60) (
    some ((iz_g S (iz_rf a0 7) x1), S)),
    (if s0 = 0 then
      (Mo_about_121 a0 (-1) S)
    else
      iz_bI (Mo_levelOf a0 x1 S) (fun r14 S13 =>
      (Mo_about_121 a0 r14 S13))),
    (if s0 = 0 then
      (Mo_about_145 a0 0 S)
    else
      iz_ck (iz_in x1 60) (
      iz_bI (Mo_levelOf a0 x1 S) (fun r16 S15 =>
      iz_bI (Mo_loadOf a0 (iz_g S (iz_rf a0 7) x1) r16 S15) (fun r18 S17 =>
      (Mo_about_145 a0 r18 S17)))))]
    ((if s0 = 0 then
      (Mo_about_177 a0 0 S)
    else
      iz_ck (iz_in x1 60) (
      iz_bI (Mo_levelOf a0 x1 S) (fun r8 S7 =>
      iz_bI (Mo_warmthOf a0 (S7.1 a0 13) S7) (fun r10 S9 =>
      iz_bI (Mo_meltOf a0 (iz_g S (iz_rf a0 7) x1) r8 r10 S9) (fun r12 S11 =>
      (Mo_about_177 a0 r12 S11)))))))
def Mo_about (a0 : Nat) (x1 : Int32) (x2 : Int32) (S : iz_S) : Option (Int32 × iz_S) :=
  (iz_bI (Mo_isBlock a0 x1 S) (fun r2 S1 =>
  if r2 = 0 then
    (Mo_about_18 a0 S1)
  else
    (iz_bI (Mo_isIn x2 0 6 S1) (fun r4 S3 =>
    if r4 = 0 then
      (Mo_about_18 a0 S3)
    else
      (iz_ck (iz_in x1 60) (
      if (iz_g S3 (iz_rf a0 6) x1) = 1 then
        (Mo_about_39 a0 x1 x2 1 S3)
      else
        (Mo_about_39 a0 x1 x2 0 S3)))))))
set_option maxRecDepth 10000 in
theorem c_Mo_about_18 {X : iz_X} {l : Launch} {a0 : Nat} (h0 : iz_sh a0 = (10 + 3, 48)) (S : iz_S) : iz_Y X l RX10 tX10_about 4 2 (iz_Kc X l yX10_about cX10_about 4 (some .int) 2 iz_eI) 18 [(0, .ref (X.1 a0))] [] S (Mo_about_18 a0 S) := by
  unfold Mo_about_18
  refine iz_aload_n (n := 0) 9 0 rfl rfl ?_
  refine iz_iconst (v := 1) 10 (by decide) rfl ?_
  refine iz_callVI (As := [.int 1]) (rest := []) 11 ml_X10_127 cw_X10_finding ci_X10_finding h0 (fun r9 hr9 => m_Mo_finding h0 hr9) rfl (by decide) (by decide) rfl rfl (Nat.le_of_ble_eq_true rfl) (fun r6 S5 => ?_)
  exact iz_iret 12 rfl
set_option maxRecDepth 10000 in
theorem c_Mo_about_177 {X : iz_X} {l : Launch} {a0 : Nat} (h0 : iz_sh a0 = (10 + 3, 48)) (s0 : Int32) (S : iz_S) : iz_Y X l RX10 tX10_about 4 2 (iz_Kc X l yX10_about cX10_about 4 (some .int) 2 iz_eI) 177 [] [.int s0] S (Mo_about_177 a0 s0 S) := by
  unfold Mo_about_177
  exact iz_iret 84 rfl
set_option maxRecDepth 10000 in
theorem c_Mo_about_121 {X : iz_X} {l : Launch} {a0 : Nat} (h0 : iz_sh a0 = (10 + 3, 48)) (s0 : Int32) (S : iz_S) : iz_Y X l RX10 tX10_about 4 2 (iz_Kc X l yX10_about cX10_about 4 (some .int) 2 iz_eI) 121 [] [.int s0] S (Mo_about_121 a0 s0 S) := by
  unfold Mo_about_121
  exact iz_iret 52 rfl
set_option maxRecDepth 10000 in
theorem c_Mo_about_145 {X : iz_X} {l : Launch} {a0 : Nat} (h0 : iz_sh a0 = (10 + 3, 48)) (s0 : Int32) (S : iz_S) : iz_Y X l RX10 tX10_about 4 2 (iz_Kc X l yX10_about cX10_about 4 (some .int) 2 iz_eI) 145 [] [.int s0] S (Mo_about_145 a0 s0 S) := by
  unfold Mo_about_145
  exact iz_iret 66 rfl
set_option maxRecDepth 10000 in
theorem c_Mo_about_39 {X : iz_X} {l : Launch} {a0 : Nat} (h0 : iz_sh a0 = (10 + 3, 48)) (x1 : Int32) (x2 : Int32) (s0 : Int32) (S : iz_S) : iz_Y X l RX10 tX10_about 4 2 (iz_Kc X l yX10_about cX10_about 4 (some .int) 2 iz_eI) 39 [(0, .ref (X.1 a0)), (1, .int x1), (2, .int x2)] [.int s0] S (Mo_about_39 a0 x1 x2 s0 S) := by
  unfold Mo_about_39
  refine iz_istore_n (n := 3) (ls2 := [(0, .ref (X.1 a0)), (1, .int x1), (2, .int x2), (3, .int s0)]) 22 [1, 2, 3, 0] rfl (by decide) rfl ?_
  refine iz_iload_n (n := 2) 23 2 rfl rfl ?_
  refine iz_tsw2 (dtgt := 146) 24 [80, 87, 94, 101, 108, 122] rfl (by decide) (by decide) (by decide) ?_ ⟨?_, ?_, ?_, ?_, ?_, ?_, trivial⟩
  · refine iz_iload_n (n := 3) 67 3 rfl rfl ?_
    refine iz_if_eq (tgt := 176) 68 rfl (by decide) ?_ ?_
    · refine iz_iconst (v := 0) 83 (by decide) rfl ?_
      exact iz_sub [] rfl (c_Mo_about_177 h0 0 S)
    · refine iz_aload_n (n := 0) 69 0 rfl rfl ?_
      refine iz_aload_n (n := 0) 70 0 rfl rfl ?_
      refine iz_getR 71 7 h0 fl_X10_29 rfl (by decide) (by decide) rfl ?_
      refine iz_iload_n (n := 1) 72 1 rfl rfl ?_
      refine iz_iald 73 (sf_10_7 h0) rfl ?_
      refine iz_aload_n (n := 0) 74 0 rfl rfl ?_
      refine iz_iload_n (n := 1) 75 1 rfl rfl ?_
      refine iz_callVI (As := [.int x1]) (rest := [.int (iz_g S (iz_rf a0 7) x1), .ref (X.1 a0)]) 76 ml_X10_203 cw_X10_levelOf ci_X10_levelOf h0 (fun r9 hr9 => m_Mo_levelOf h0 hr9) rfl (by decide) (by decide) rfl rfl (Nat.le_of_ble_eq_true rfl) (fun r8 S7 => ?_)
      refine iz_aload_n (n := 0) 77 0 rfl rfl ?_
      refine iz_aload_n (n := 0) 78 0 rfl rfl ?_
      refine iz_getI 79 13 h0 fl_X10_206 rfl (by decide) (by decide) rfl ?_
      refine iz_callVI (As := [.int (S7.1 a0 13)]) (rest := [.int r8, .int (iz_g S (iz_rf a0 7) x1), .ref (X.1 a0)]) 80 ml_X10_209 cw_X10_warmthOf ci_X10_warmthOf h0 (fun r9 hr9 => m_Mo_warmthOf h0 hr9) rfl (by decide) (by decide) rfl rfl (Nat.le_of_ble_eq_true rfl) (fun r10 S9 => ?_)
      refine iz_callVI (As := [.int (iz_g S (iz_rf a0 7) x1), .int r8, .int r10]) (rest := []) 81 ml_X10_212 cw_X10_meltOf ci_X10_meltOf h0 (fun r9 hr9 => m_Mo_meltOf h0 hr9) rfl (by decide) (by decide) rfl rfl (Nat.le_of_ble_eq_true rfl) (fun r12 S11 => ?_)
      refine iz_goto (tgt := 177) 82 (by decide) rfl ?_
      exact iz_sub [] rfl (c_Mo_about_177 h0 r12 S11)
  · refine iz_aload_n (n := 0) 25 0 rfl rfl ?_
    refine iz_getR 26 4 h0 fl_X10_20 rfl (by decide) (by decide) rfl ?_
    refine iz_iload_n (n := 1) 27 1 rfl rfl ?_
    refine iz_iald 28 (sf_10_4 h0) rfl ?_
    exact iz_iret 29 rfl
  · refine iz_aload_n (n := 0) 30 0 rfl rfl ?_
    refine iz_getR 31 5 h0 fl_X10_23 rfl (by decide) (by decide) rfl ?_
    refine iz_iload_n (n := 1) 32 1 rfl rfl ?_
    refine iz_iald 33 (sf_10_5 h0) rfl ?_
    exact iz_iret 34 rfl
  · refine iz_aload_n (n := 0) 35 0 rfl rfl ?_
    refine iz_getR 36 6 h0 fl_X10_26 rfl (by decide) (by decide) rfl ?_
    refine iz_iload_n (n := 1) 37 1 rfl rfl ?_
    refine iz_iald 38 (sf_10_6 h0) rfl ?_
    exact iz_iret 39 rfl
  · refine iz_aload_n (n := 0) 40 0 rfl rfl ?_
    refine iz_getR 41 7 h0 fl_X10_29 rfl (by decide) (by decide) rfl ?_
    refine iz_iload_n (n := 1) 42 1 rfl rfl ?_
    refine iz_iald 43 (sf_10_7 h0) rfl ?_
    exact iz_iret 44 rfl
  · refine iz_iload_n (n := 3) 45 3 rfl rfl ?_
    refine iz_if_eq (tgt := 120) 46 rfl (by decide) ?_ ?_
    · refine iz_iconst (v := (-1)) 51 (by decide) rfl ?_
      exact iz_sub [] rfl (c_Mo_about_121 h0 (-1) S)
    · refine iz_aload_n (n := 0) 47 0 rfl rfl ?_
      refine iz_iload_n (n := 1) 48 1 rfl rfl ?_
      refine iz_callVI (As := [.int x1]) (rest := []) 49 ml_X10_203 cw_X10_levelOf ci_X10_levelOf h0 (fun r9 hr9 => m_Mo_levelOf h0 hr9) rfl (by decide) (by decide) rfl rfl (Nat.le_of_ble_eq_true rfl) (fun r14 S13 => ?_)
      refine iz_goto (tgt := 121) 50 (by decide) rfl ?_
      exact iz_sub [] rfl (c_Mo_about_121 h0 r14 S13)
  · refine iz_iload_n (n := 3) 53 3 rfl rfl ?_
    refine iz_if_eq (tgt := 144) 54 rfl (by decide) ?_ ?_
    · refine iz_iconst (v := 0) 65 (by decide) rfl ?_
      exact iz_sub [] rfl (c_Mo_about_145 h0 0 S)
    · refine iz_aload_n (n := 0) 55 0 rfl rfl ?_
      refine iz_aload_n (n := 0) 56 0 rfl rfl ?_
      refine iz_getR 57 7 h0 fl_X10_29 rfl (by decide) (by decide) rfl ?_
      refine iz_iload_n (n := 1) 58 1 rfl rfl ?_
      refine iz_iald 59 (sf_10_7 h0) rfl ?_
      refine iz_aload_n (n := 0) 60 0 rfl rfl ?_
      refine iz_iload_n (n := 1) 61 1 rfl rfl ?_
      refine iz_callVI (As := [.int x1]) (rest := [.int (iz_g S (iz_rf a0 7) x1), .ref (X.1 a0)]) 62 ml_X10_203 cw_X10_levelOf ci_X10_levelOf h0 (fun r9 hr9 => m_Mo_levelOf h0 hr9) rfl (by decide) (by decide) rfl rfl (Nat.le_of_ble_eq_true rfl) (fun r16 S15 => ?_)
      refine iz_callVI (As := [.int (iz_g S (iz_rf a0 7) x1), .int r16]) (rest := []) 63 ml_X10_185 cw_X10_loadOf ci_X10_loadOf h0 (fun r9 hr9 => m_Mo_loadOf h0 hr9) rfl (by decide) (by decide) rfl rfl (Nat.le_of_ble_eq_true rfl) (fun r18 S17 => ?_)
      refine iz_goto (tgt := 145) 64 (by decide) rfl ?_
      exact iz_sub [] rfl (c_Mo_about_145 h0 r18 S17)
set_option maxRecDepth 10000 in
theorem c_Mo_about {X : iz_X} {l : Launch} {a0 : Nat} (h0 : iz_sh a0 = (10 + 3, 48)) (x1 : Int32) (x2 : Int32) (S : iz_S) : iz_Y X l RX10 tX10_about 4 2 (iz_Kc X l yX10_about cX10_about 4 (some .int) 2 iz_eI) 0 [(0, .ref (X.1 a0)), (1, .int x1), (2, .int x2)] [] S (Mo_about a0 x1 x2 S) := by
  unfold Mo_about
  refine iz_aload_n (n := 0) 0 0 rfl rfl ?_
  refine iz_iload_n (n := 1) 1 1 rfl rfl ?_
  refine iz_callVI (As := [.int x1]) (rest := []) 2 ml_X10_191 cw_X10_isBlock ci_X10_isBlock h0 (fun r9 hr9 => m_Mo_isBlock h0 hr9) rfl (by decide) (by decide) rfl rfl (Nat.le_of_ble_eq_true rfl) (fun r2 S1 => ?_)
  refine iz_if_eq (tgt := 18) 3 rfl (by decide) ?_ ?_
  · exact iz_sub [0] rfl (c_Mo_about_18 h0 S1)
  · refine iz_iload_n (n := 2) 4 2 rfl rfl ?_
    refine iz_iconst (v := 0) 5 (by decide) rfl ?_
    refine iz_bipush (v := 6) 6 (by decide) rfl ?_
    refine iz_callSI (As := [.int x2, .int 0, .int 6]) (rest := []) 7 ml_X10_123 cw_X10_isIn ci_X10_isIn (fun r9 hr9 => m_Mo_isIn  hr9) rfl (by decide) rfl rfl (Nat.le_of_ble_eq_true rfl) (fun r4 S3 => ?_)
    refine iz_if_ne (tgt := 24) 8 rfl (by decide) ?_ ?_
    · refine iz_aload_n (n := 0) 13 0 rfl rfl ?_
      refine iz_getR 14 6 h0 fl_X10_26 rfl (by decide) (by decide) rfl ?_
      refine iz_iload_n (n := 1) 15 1 rfl rfl ?_
      refine iz_iald 16 (sf_10_6 h0) rfl ?_
      refine iz_iconst (v := 1) 17 (by decide) rfl ?_
      refine iz_cmp_ne (tgt := 38) 18 rfl (by decide) ?_ ?_
      · refine iz_iconst (v := 0) 21 (by decide) rfl ?_
        exact c_Mo_about_39 h0 x1 x2 0 S3
      · refine iz_iconst (v := 1) 19 (by decide) rfl ?_
        refine iz_goto (tgt := 39) 20 (by decide) rfl ?_
        exact c_Mo_about_39 h0 x1 x2 1 S3
    · exact iz_sub [0] rfl (c_Mo_about_18 h0 S3)
theorem m_Mo_about {X : iz_X} {l : Launch} {a0 : Nat} (h0 : iz_sh a0 = (10 + 3, 48)) {x1 : Int32} {x2 : Int32} {S : iz_S} {r9 : Int32 × iz_S} (hr : Mo_about a0 x1 x2 S = some r9) : iz_Mt X l 2 yX10_about cX10_about 4 (some .int) [.ref (X.1 a0), .int x1, .int x2] S (iz_eI r9) :=
  iz_Mt_of (dt := tX10_about) dX10_about (by decide) hr (Nat.le_of_ble_eq_true rfl) (c_Mo_about h0 x1 x2 S)
def Mo_at_16 (a0 : Nat) (S : iz_S) : Option (Int32 × iz_S) :=
  iz_bI (Mo_finding a0 1 S) (fun r10 S9 =>
  some (r10, S9))
def Mo_at_46 (a0 : Nat) (s0 : Int32) (S : iz_S) : Option (Int32 × iz_S) :=
  some (s0, S)
def Mo_at (a0 : Nat) (x1 : Int32) (x2 : Int32) (S : iz_S) : Option (Int32 × iz_S) :=
  (iz_bI (Mo_isColumn x1 S) (fun r2 S1 =>
  if r2 = 0 then
    (Mo_at_16 a0 S1)
  else
    (iz_bI (Mo_isIn x2 0 5 S1) (fun r4 S3 =>
    if r4 = 0 then
      (Mo_at_16 a0 S3)
    else
      (iz_ck (iz_in x1 16) (
      if x2 < (iz_g S3 (iz_rf a0 9) x1) then
        iz_bI (Mo_blockAt a0 x1 x2 S3) (fun r8 S7 =>
        (Mo_at_46 a0 r8 S7))
      else
        iz_bI (Mo_finding a0 2 S3) (fun r6 S5 =>
        (Mo_at_46 a0 r6 S5))))))))
set_option maxRecDepth 10000 in
theorem c_Mo_at_16 {X : iz_X} {l : Launch} {a0 : Nat} (h0 : iz_sh a0 = (10 + 3, 48)) (S : iz_S) : iz_Y X l RX10 tX10_at 3 2 (iz_Kc X l yX10_at cX10_at 3 (some .int) 2 iz_eI) 16 [(0, .ref (X.1 a0))] [] S (Mo_at_16 a0 S) := by
  unfold Mo_at_16
  refine iz_aload_n (n := 0) 8 0 rfl rfl ?_
  refine iz_iconst (v := 1) 9 (by decide) rfl ?_
  refine iz_callVI (As := [.int 1]) (rest := []) 10 ml_X10_127 cw_X10_finding ci_X10_finding h0 (fun r9 hr9 => m_Mo_finding h0 hr9) rfl (by decide) (by decide) rfl rfl (Nat.le_of_ble_eq_true rfl) (fun r10 S9 => ?_)
  exact iz_iret 11 rfl
set_option maxRecDepth 10000 in
theorem c_Mo_at_46 {X : iz_X} {l : Launch} {a0 : Nat} (h0 : iz_sh a0 = (10 + 3, 48)) (s0 : Int32) (S : iz_S) : iz_Y X l RX10 tX10_at 3 2 (iz_Kc X l yX10_at cX10_at 3 (some .int) 2 iz_eI) 46 [] [.int s0] S (Mo_at_46 a0 s0 S) := by
  unfold Mo_at_46
  exact iz_iret 26 rfl
set_option maxRecDepth 10000 in
theorem c_Mo_at {X : iz_X} {l : Launch} {a0 : Nat} (h0 : iz_sh a0 = (10 + 3, 48)) (x1 : Int32) (x2 : Int32) (S : iz_S) : iz_Y X l RX10 tX10_at 3 2 (iz_Kc X l yX10_at cX10_at 3 (some .int) 2 iz_eI) 0 [(0, .ref (X.1 a0)), (1, .int x1), (2, .int x2)] [] S (Mo_at a0 x1 x2 S) := by
  unfold Mo_at
  refine iz_iload_n (n := 1) 0 1 rfl rfl ?_
  refine iz_callSI (As := [.int x1]) (rest := []) 1 ml_X10_194 cw_X10_isColumn ci_X10_isColumn (fun r9 hr9 => m_Mo_isColumn  hr9) rfl (by decide) rfl rfl (Nat.le_of_ble_eq_true rfl) (fun r2 S1 => ?_)
  refine iz_if_eq (tgt := 16) 2 rfl (by decide) ?_ ?_
  · exact iz_sub [0] rfl (c_Mo_at_16 h0 S1)
  · refine iz_iload_n (n := 2) 3 2 rfl rfl ?_
    refine iz_iconst (v := 0) 4 (by decide) rfl ?_
    refine iz_iconst (v := 5) 5 (by decide) rfl ?_
    refine iz_callSI (As := [.int x2, .int 0, .int 5]) (rest := []) 6 ml_X10_123 cw_X10_isIn ci_X10_isIn (fun r9 hr9 => m_Mo_isIn  hr9) rfl (by decide) rfl rfl (Nat.le_of_ble_eq_true rfl) (fun r4 S3 => ?_)
    refine iz_if_ne (tgt := 22) 7 rfl (by decide) ?_ ?_
    · refine iz_iload_n (n := 2) 12 2 rfl rfl ?_
      refine iz_aload_n (n := 0) 13 0 rfl rfl ?_
      refine iz_getR 14 9 h0 fl_X10_35 rfl (by decide) (by decide) rfl ?_
      refine iz_iload_n (n := 1) 15 1 rfl rfl ?_
      refine iz_iald 16 (sf_10_9 h0) rfl ?_
      refine iz_cmp_ge (tgt := 41) 17 rfl (by decide) ?_ ?_
      · refine iz_aload_n (n := 0) 23 0 rfl rfl ?_
        refine iz_iconst (v := 2) 24 (by decide) rfl ?_
        refine iz_callVI (As := [.int 2]) (rest := []) 25 ml_X10_127 cw_X10_finding ci_X10_finding h0 (fun r9 hr9 => m_Mo_finding h0 hr9) rfl (by decide) (by decide) rfl rfl (Nat.le_of_ble_eq_true rfl) (fun r6 S5 => ?_)
        exact iz_sub [] rfl (c_Mo_at_46 h0 r6 S5)
      · refine iz_aload_n (n := 0) 18 0 rfl rfl ?_
        refine iz_iload_n (n := 1) 19 1 rfl rfl ?_
        refine iz_iload_n (n := 2) 20 2 rfl rfl ?_
        refine iz_callVI (As := [.int x1, .int x2]) (rest := []) 21 ml_X10_179 cw_X10_blockAt ci_X10_blockAt h0 (fun r9 hr9 => m_Mo_blockAt h0 hr9) rfl (by decide) (by decide) rfl rfl (Nat.le_of_ble_eq_true rfl) (fun r8 S7 => ?_)
        refine iz_goto (tgt := 46) 22 (by decide) rfl ?_
        exact iz_sub [] rfl (c_Mo_at_46 h0 r8 S7)
    · exact iz_sub [0] rfl (c_Mo_at_16 h0 S3)
theorem m_Mo_at {X : iz_X} {l : Launch} {a0 : Nat} (h0 : iz_sh a0 = (10 + 3, 48)) {x1 : Int32} {x2 : Int32} {S : iz_S} {r9 : Int32 × iz_S} (hr : Mo_at a0 x1 x2 S = some r9) : iz_Mt X l 2 yX10_at cX10_at 3 (some .int) [.ref (X.1 a0), .int x1, .int x2] S (iz_eI r9) :=
  iz_Mt_of (dt := tX10_at) dX10_at (by decide) hr (Nat.le_of_ble_eq_true rfl) (c_Mo_at h0 x1 x2 S)
def Mo_dust_19 (a0 : Nat) (S : iz_S) : Option (Int32 × iz_S) :=
  iz_bI (Mo_finding a0 1 S) (fun r8 S7 =>
  some (r8, S7))
def Mo_dust (a0 : Nat) (x1 : Int32) (x2 : Int32) (S : iz_S) : Option (Int32 × iz_S) :=
  (iz_bI (Mo_isIn x1 0 3 S) (fun r2 S1 =>
  if r2 = 0 then
    (Mo_dust_19 a0 S1)
  else
    (iz_bI (Mo_isIn x2 0 10 S1) (fun r4 S3 =>
    if r4 = 0 then
      (Mo_dust_19 a0 S3)
    else
      iz_ck (iz_in x1 4) (
      iz_lt (iz_g S3 (iz_rf a0 10) x1) (fun v5 =>
      iz_ck (iz_in x1 4) (iz_lt (iz_s S3 (iz_rf a0 10) x1 x2) (fun S6 =>
      some (v5, S6)))))))))
set_option maxRecDepth 10000 in
theorem c_Mo_dust_19 {X : iz_X} {l : Launch} {a0 : Nat} (h0 : iz_sh a0 = (10 + 3, 48)) (S : iz_S) : iz_Y X l RX10 tX10_dust 4 1 (iz_Kc X l yX10_dust cX10_dust 4 (some .int) 1 iz_eI) 19 [(0, .ref (X.1 a0))] [] S (Mo_dust_19 a0 S) := by
  unfold Mo_dust_19
  refine iz_aload_n (n := 0) 10 0 rfl rfl ?_
  refine iz_iconst (v := 1) 11 (by decide) rfl ?_
  refine iz_callVI (As := [.int 1]) (rest := []) 12 ml_X10_127 cw_X10_finding ci_X10_finding h0 (fun r9 hr9 => m_Mo_finding h0 hr9) rfl (by decide) (by decide) rfl rfl (Nat.le_of_ble_eq_true rfl) (fun r8 S7 => ?_)
  exact iz_iret 13 rfl
set_option maxRecDepth 10000 in
theorem c_Mo_dust {X : iz_X} {l : Launch} {a0 : Nat} (h0 : iz_sh a0 = (10 + 3, 48)) (x1 : Int32) (x2 : Int32) (S : iz_S) : iz_Y X l RX10 tX10_dust 4 1 (iz_Kc X l yX10_dust cX10_dust 4 (some .int) 1 iz_eI) 0 [(0, .ref (X.1 a0)), (1, .int x1), (2, .int x2)] [] S (Mo_dust a0 x1 x2 S) := by
  unfold Mo_dust
  refine iz_iload_n (n := 1) 0 1 rfl rfl ?_
  refine iz_iconst (v := 0) 1 (by decide) rfl ?_
  refine iz_iconst (v := 3) 2 (by decide) rfl ?_
  refine iz_callSI (As := [.int x1, .int 0, .int 3]) (rest := []) 3 ml_X10_123 cw_X10_isIn ci_X10_isIn (fun r9 hr9 => m_Mo_isIn  hr9) rfl (by decide) rfl rfl (Nat.le_of_ble_eq_true rfl) (fun r2 S1 => ?_)
  refine iz_if_eq (tgt := 19) 4 rfl (by decide) ?_ ?_
  · exact iz_sub [0] rfl (c_Mo_dust_19 h0 S1)
  · refine iz_iload_n (n := 2) 5 2 rfl rfl ?_
    refine iz_iconst (v := 0) 6 (by decide) rfl ?_
    refine iz_bipush (v := 10) 7 (by decide) rfl ?_
    refine iz_callSI (As := [.int x2, .int 0, .int 10]) (rest := []) 8 ml_X10_123 cw_X10_isIn ci_X10_isIn (fun r9 hr9 => m_Mo_isIn  hr9) rfl (by decide) rfl rfl (Nat.le_of_ble_eq_true rfl) (fun r4 S3 => ?_)
    refine iz_if_ne (tgt := 25) 9 rfl (by decide) ?_ ?_
    · refine iz_aload_n (n := 0) 14 0 rfl rfl ?_
      refine iz_getR 15 10 h0 fl_X10_38 rfl (by decide) (by decide) rfl ?_
      refine iz_iload_n (n := 1) 16 1 rfl rfl ?_
      refine iz_iald 17 (sf_10_10 h0) rfl ?_
      refine iz_let (fun v5 => ?_)
      refine iz_istore_n (n := 3) (ls2 := [(0, .ref (X.1 a0)), (1, .int x1), (2, .int x2), (3, .int v5)]) 18 [1, 2, 3, 0] rfl (by decide) rfl ?_
      refine iz_aload_n (n := 0) 19 0 rfl rfl ?_
      refine iz_getR 20 10 h0 fl_X10_38 rfl (by decide) (by decide) rfl ?_
      refine iz_iload_n (n := 1) 21 1 rfl rfl ?_
      refine iz_iload_n (n := 2) 22 2 rfl rfl ?_
      refine iz_iast 23 (sf_10_10 h0) rfl (fun S6 => ?_)
      refine iz_iload_n (n := 3) 24 3 rfl rfl ?_
      exact iz_iret 25 rfl
    · exact iz_sub [0] rfl (c_Mo_dust_19 h0 S3)
theorem m_Mo_dust {X : iz_X} {l : Launch} {a0 : Nat} (h0 : iz_sh a0 = (10 + 3, 48)) {x1 : Int32} {x2 : Int32} {S : iz_S} {r9 : Int32 × iz_S} (hr : Mo_dust a0 x1 x2 S = some r9) : iz_Mt X l 1 yX10_dust cX10_dust 4 (some .int) [.ref (X.1 a0), .int x1, .int x2] S (iz_eI r9) :=
  iz_Mt_of (dt := tX10_dust) dX10_dust (by decide) hr (Nat.le_of_ble_eq_true rfl) (c_Mo_dust h0 x1 x2 S)
def Mo_cover_17 (a0 : Nat) (S : iz_S) : Option (Int32 × iz_S) :=
  iz_bI (Mo_finding a0 1 S) (fun r8 S7 =>
  some (r8, S7))
def Mo_cover (a0 : Nat) (x1 : Int32) (x2 : Int32) (S : iz_S) : Option (Int32 × iz_S) :=
  (iz_bI (Mo_isColumn x1 S) (fun r2 S1 =>
  if r2 = 0 then
    (Mo_cover_17 a0 S1)
  else
    (iz_bI (Mo_isIn x2 0 10 S1) (fun r4 S3 =>
    if r4 = 0 then
      (Mo_cover_17 a0 S3)
    else
      iz_ck (iz_in x1 16) (
      iz_lt (iz_g S3 (iz_rf a0 11) x1) (fun v5 =>
      iz_ck (iz_in x1 16) (iz_lt (iz_s S3 (iz_rf a0 11) x1 x2) (fun S6 =>
      some (v5, S6)))))))))
set_option maxRecDepth 10000 in
theorem c_Mo_cover_17 {X : iz_X} {l : Launch} {a0 : Nat} (h0 : iz_sh a0 = (10 + 3, 48)) (S : iz_S) : iz_Y X l RX10 tX10_cover 4 2 (iz_Kc X l yX10_cover cX10_cover 4 (some .int) 2 iz_eI) 17 [(0, .ref (X.1 a0))] [] S (Mo_cover_17 a0 S) := by
  unfold Mo_cover_17
  refine iz_aload_n (n := 0) 8 0 rfl rfl ?_
  refine iz_iconst (v := 1) 9 (by decide) rfl ?_
  refine iz_callVI (As := [.int 1]) (rest := []) 10 ml_X10_127 cw_X10_finding ci_X10_finding h0 (fun r9 hr9 => m_Mo_finding h0 hr9) rfl (by decide) (by decide) rfl rfl (Nat.le_of_ble_eq_true rfl) (fun r8 S7 => ?_)
  exact iz_iret 11 rfl
set_option maxRecDepth 10000 in
theorem c_Mo_cover {X : iz_X} {l : Launch} {a0 : Nat} (h0 : iz_sh a0 = (10 + 3, 48)) (x1 : Int32) (x2 : Int32) (S : iz_S) : iz_Y X l RX10 tX10_cover 4 2 (iz_Kc X l yX10_cover cX10_cover 4 (some .int) 2 iz_eI) 0 [(0, .ref (X.1 a0)), (1, .int x1), (2, .int x2)] [] S (Mo_cover a0 x1 x2 S) := by
  unfold Mo_cover
  refine iz_iload_n (n := 1) 0 1 rfl rfl ?_
  refine iz_callSI (As := [.int x1]) (rest := []) 1 ml_X10_194 cw_X10_isColumn ci_X10_isColumn (fun r9 hr9 => m_Mo_isColumn  hr9) rfl (by decide) rfl rfl (Nat.le_of_ble_eq_true rfl) (fun r2 S1 => ?_)
  refine iz_if_eq (tgt := 17) 2 rfl (by decide) ?_ ?_
  · exact iz_sub [0] rfl (c_Mo_cover_17 h0 S1)
  · refine iz_iload_n (n := 2) 3 2 rfl rfl ?_
    refine iz_iconst (v := 0) 4 (by decide) rfl ?_
    refine iz_bipush (v := 10) 5 (by decide) rfl ?_
    refine iz_callSI (As := [.int x2, .int 0, .int 10]) (rest := []) 6 ml_X10_123 cw_X10_isIn ci_X10_isIn (fun r9 hr9 => m_Mo_isIn  hr9) rfl (by decide) rfl rfl (Nat.le_of_ble_eq_true rfl) (fun r4 S3 => ?_)
    refine iz_if_ne (tgt := 23) 7 rfl (by decide) ?_ ?_
    · refine iz_aload_n (n := 0) 12 0 rfl rfl ?_
      refine iz_getR 13 11 h0 fl_X10_41 rfl (by decide) (by decide) rfl ?_
      refine iz_iload_n (n := 1) 14 1 rfl rfl ?_
      refine iz_iald 15 (sf_10_11 h0) rfl ?_
      refine iz_let (fun v5 => ?_)
      refine iz_istore_n (n := 3) (ls2 := [(0, .ref (X.1 a0)), (1, .int x1), (2, .int x2), (3, .int v5)]) 16 [1, 2, 3, 0] rfl (by decide) rfl ?_
      refine iz_aload_n (n := 0) 17 0 rfl rfl ?_
      refine iz_getR 18 11 h0 fl_X10_41 rfl (by decide) (by decide) rfl ?_
      refine iz_iload_n (n := 1) 19 1 rfl rfl ?_
      refine iz_iload_n (n := 2) 20 2 rfl rfl ?_
      refine iz_iast 21 (sf_10_11 h0) rfl (fun S6 => ?_)
      refine iz_iload_n (n := 3) 22 3 rfl rfl ?_
      exact iz_iret 23 rfl
    · exact iz_sub [0] rfl (c_Mo_cover_17 h0 S3)
theorem m_Mo_cover {X : iz_X} {l : Launch} {a0 : Nat} (h0 : iz_sh a0 = (10 + 3, 48)) {x1 : Int32} {x2 : Int32} {S : iz_S} {r9 : Int32 × iz_S} (hr : Mo_cover a0 x1 x2 S = some r9) : iz_Mt X l 2 yX10_cover cX10_cover 4 (some .int) [.ref (X.1 a0), .int x1, .int x2] S (iz_eI r9) :=
  iz_Mt_of (dt := tX10_cover) dX10_cover (by decide) hr (Nat.le_of_ble_eq_true rfl) (c_Mo_cover h0 x1 x2 S)
def Mo_warmth_20 (a0 : Nat) (S : iz_S) : Option (Int32 × iz_S) :=
  iz_bI (Mo_finding a0 1 S) (fun r8 S7 =>
  some (r8, S7))
def Mo_warmth (a0 : Nat) (x1 : Int32) (x2 : Int32) (S : iz_S) : Option (Int32 × iz_S) :=
  (iz_bI (Mo_isIn x1 0 99 S) (fun r2 S1 =>
  if r2 = 0 then
    (Mo_warmth_20 a0 S1)
  else
    (iz_bI (Mo_isIn x2 0 40 S1) (fun r4 S3 =>
    if r4 = 0 then
      (Mo_warmth_20 a0 S3)
    else
      iz_ck (iz_in x1 100) (
      iz_lt (iz_g S3 (iz_rf a0 12) x1) (fun v5 =>
      iz_ck (iz_in x1 100) (iz_lt (iz_s S3 (iz_rf a0 12) x1 x2) (fun S6 =>
      some (v5, S6)))))))))
set_option maxRecDepth 10000 in
theorem c_Mo_warmth_20 {X : iz_X} {l : Launch} {a0 : Nat} (h0 : iz_sh a0 = (10 + 3, 48)) (S : iz_S) : iz_Y X l RX10 tX10_warmth 4 1 (iz_Kc X l yX10_warmth cX10_warmth 4 (some .int) 1 iz_eI) 20 [(0, .ref (X.1 a0))] [] S (Mo_warmth_20 a0 S) := by
  unfold Mo_warmth_20
  refine iz_aload_n (n := 0) 10 0 rfl rfl ?_
  refine iz_iconst (v := 1) 11 (by decide) rfl ?_
  refine iz_callVI (As := [.int 1]) (rest := []) 12 ml_X10_127 cw_X10_finding ci_X10_finding h0 (fun r9 hr9 => m_Mo_finding h0 hr9) rfl (by decide) (by decide) rfl rfl (Nat.le_of_ble_eq_true rfl) (fun r8 S7 => ?_)
  exact iz_iret 13 rfl
set_option maxRecDepth 10000 in
theorem c_Mo_warmth {X : iz_X} {l : Launch} {a0 : Nat} (h0 : iz_sh a0 = (10 + 3, 48)) (x1 : Int32) (x2 : Int32) (S : iz_S) : iz_Y X l RX10 tX10_warmth 4 1 (iz_Kc X l yX10_warmth cX10_warmth 4 (some .int) 1 iz_eI) 0 [(0, .ref (X.1 a0)), (1, .int x1), (2, .int x2)] [] S (Mo_warmth a0 x1 x2 S) := by
  unfold Mo_warmth
  refine iz_iload_n (n := 1) 0 1 rfl rfl ?_
  refine iz_iconst (v := 0) 1 (by decide) rfl ?_
  refine iz_bipush (v := 99) 2 (by decide) rfl ?_
  refine iz_callSI (As := [.int x1, .int 0, .int 99]) (rest := []) 3 ml_X10_123 cw_X10_isIn ci_X10_isIn (fun r9 hr9 => m_Mo_isIn  hr9) rfl (by decide) rfl rfl (Nat.le_of_ble_eq_true rfl) (fun r2 S1 => ?_)
  refine iz_if_eq (tgt := 20) 4 rfl (by decide) ?_ ?_
  · exact iz_sub [0] rfl (c_Mo_warmth_20 h0 S1)
  · refine iz_iload_n (n := 2) 5 2 rfl rfl ?_
    refine iz_iconst (v := 0) 6 (by decide) rfl ?_
    refine iz_bipush (v := 40) 7 (by decide) rfl ?_
    refine iz_callSI (As := [.int x2, .int 0, .int 40]) (rest := []) 8 ml_X10_123 cw_X10_isIn ci_X10_isIn (fun r9 hr9 => m_Mo_isIn  hr9) rfl (by decide) rfl rfl (Nat.le_of_ble_eq_true rfl) (fun r4 S3 => ?_)
    refine iz_if_ne (tgt := 26) 9 rfl (by decide) ?_ ?_
    · refine iz_aload_n (n := 0) 14 0 rfl rfl ?_
      refine iz_getR 15 12 h0 fl_X10_44 rfl (by decide) (by decide) rfl ?_
      refine iz_iload_n (n := 1) 16 1 rfl rfl ?_
      refine iz_iald 17 (sf_10_12 h0) rfl ?_
      refine iz_let (fun v5 => ?_)
      refine iz_istore_n (n := 3) (ls2 := [(0, .ref (X.1 a0)), (1, .int x1), (2, .int x2), (3, .int v5)]) 18 [1, 2, 3, 0] rfl (by decide) rfl ?_
      refine iz_aload_n (n := 0) 19 0 rfl rfl ?_
      refine iz_getR 20 12 h0 fl_X10_44 rfl (by decide) (by decide) rfl ?_
      refine iz_iload_n (n := 1) 21 1 rfl rfl ?_
      refine iz_iload_n (n := 2) 22 2 rfl rfl ?_
      refine iz_iast 23 (sf_10_12 h0) rfl (fun S6 => ?_)
      refine iz_iload_n (n := 3) 24 3 rfl rfl ?_
      exact iz_iret 25 rfl
    · exact iz_sub [0] rfl (c_Mo_warmth_20 h0 S3)
theorem m_Mo_warmth {X : iz_X} {l : Launch} {a0 : Nat} (h0 : iz_sh a0 = (10 + 3, 48)) {x1 : Int32} {x2 : Int32} {S : iz_S} {r9 : Int32 × iz_S} (hr : Mo_warmth a0 x1 x2 S = some r9) : iz_Mt X l 1 yX10_warmth cX10_warmth 4 (some .int) [.ref (X.1 a0), .int x1, .int x2] S (iz_eI r9) :=
  iz_Mt_of (dt := tX10_warmth) dX10_warmth (by decide) hr (Nat.le_of_ble_eq_true rfl) (c_Mo_warmth h0 x1 x2 S)
def Mo_melts (a0 : Nat) (S : iz_S) : Option (Int32 × iz_S) :=
  iz_bI (Mo_allMelts a0 S) (fun r2 S1 =>
  some (r2, S1))
set_option maxRecDepth 10000 in
theorem c_Mo_melts {X : iz_X} {l : Launch} {a0 : Nat} (h0 : iz_sh a0 = (10 + 3, 48)) (S : iz_S) : iz_Y X l RX10 tX10_melts 1 3 (iz_Kc X l yX10_melts cX10_melts 1 (some .int) 3 iz_eI) 0 [(0, .ref (X.1 a0))] [] S (Mo_melts a0 S) := by
  unfold Mo_melts
  refine iz_aload_n (n := 0) 0 0 rfl rfl ?_
  refine iz_callVI (As := []) (rest := []) 1 ml_X10_216 cw_X10_allMelts ci_X10_allMelts h0 (fun r9 hr9 => m_Mo_allMelts h0 hr9) rfl (by decide) (by decide) rfl rfl (Nat.le_of_ble_eq_true rfl) (fun r2 S1 => ?_)
  exact iz_iret 2 rfl
theorem m_Mo_melts {X : iz_X} {l : Launch} {a0 : Nat} (h0 : iz_sh a0 = (10 + 3, 48)) {S : iz_S} {r9 : Int32 × iz_S} (hr : Mo_melts a0 S = some r9) : iz_Mt X l 3 yX10_melts cX10_melts 1 (some .int) [.ref (X.1 a0)] S (iz_eI r9) :=
  iz_Mt_of (dt := tX10_melts) dX10_melts (by decide) hr (Nat.le_of_ble_eq_true rfl) (c_Mo_melts h0 S)
def Mo_weekGoes_145 (a0 : Nat) (k61 : Int32 → iz_S → Option iz_S) (k76 : Int32 → Int32 → iz_S → Option iz_S) (x2 : Int32) (x3 : Int32) (S : iz_S) : Option iz_S :=
  (k76 x2 (x3 + (-1)) S)
def Mo_weekGoes_76b (a0 : Nat) (k61 : Int32 → iz_S → Option iz_S) (k76 : Int32 → Int32 → iz_S → Option iz_S) (x2 : Int32) (x3 : Int32) (S : iz_S) : Option iz_S :=
  (if x3 < 0 then
    (k61 (x2 + 1) S)
  else
    (iz_bI (Mo_blockAt a0 x2 x3 S) (fun r10 S9 =>
    iz_ck (iz_in r10 60) (
    iz_ck (iz_in (((6 : Int32) * x2) + x3) 96) (
    iz_ck (iz_in r10 60) (iz_lt (iz_s S9 (iz_rf a0 5) r10 ((iz_g S9 (iz_rf a0 5) r10) - (iz_g S9 (iz_rf a0 37) (((6 : Int32) * x2) + x3)))) (fun S11 =>
    iz_ck (iz_in 1 6) (
    iz_ck (iz_in (((6 : Int32) * x2) + x3) 96) (
    iz_ck (iz_in 1 6) (iz_lt (iz_s S11 (iz_rf a0 25) 1 ((iz_g S11 (iz_rf a0 25) 1) + (iz_g S11 (iz_rf a0 37) (((6 : Int32) * x2) + x3)))) (fun S12 =>
    iz_ck (iz_in r10 60) (
    if (iz_g S12 (iz_rf a0 5) r10) = 0 then
      iz_bV (Mo_goes a0 x2 x3 S12) (fun S13 =>
      (Mo_weekGoes_145 a0 k61 k76 x2 x3 S13))
    else
      (Mo_weekGoes_145 a0 k61 k76 x2 x3 S12)))))))))))))
def Mo_weekGoes_76 (a0 : Nat) (k61 : Int32 → iz_S → Option iz_S) : Nat → Int32 → Int32 → iz_S → Option iz_S
  | 0 => fun _ _ _ => none
  | n9 + 1 => Mo_weekGoes_76b a0 k61 (Mo_weekGoes_76 a0 k61 n9)
def Mo_weekGoes_61b (a0 : Nat) (k61 : Int32 → iz_S → Option iz_S) (x2 : Int32) (S : iz_S) : Option iz_S :=
  (if x2 < 16 then
    iz_ck (iz_in x2 16) (
    iz_lt ((iz_g S (iz_rf a0 9) x2) - 1) (fun v5 =>
    (Mo_weekGoes_76 a0 k61 iz_FU x2 v5 S)))
  else
    iz_bV (Mo_breakAll a0 S) (fun S3 =>
    iz_lt (iz_up S3 a0 13 ((S3.1 a0 13) + 1)) (fun S4 =>
    some S4)))
def Mo_weekGoes_61 (a0 : Nat) : Nat → Int32 → iz_S → Option iz_S
  | 0 => fun _ _ => none
  | n9 + 1 => Mo_weekGoes_61b a0 (Mo_weekGoes_61 a0 n9)
def Mo_weekGoes_19b (a0 : Nat) (k11 : Int32 → Int32 → iz_S → Option iz_S) (k19 : Int32 → Int32 → Int32 → iz_S → Option iz_S) (x1 : Int32) (x2 : Int32) (x3 : Int32) (S : iz_S) : Option iz_S :=
  (iz_ck (iz_in x2 16) (
  if x3 < (iz_g S (iz_rf a0 9) x2) then
    iz_bI (Mo_meltOf a0 x2 x3 x1 S) (fun r7 S6 =>
    iz_ck (iz_in (((6 : Int32) * x2) + x3) 96) (iz_lt (iz_s S6 (iz_rf a0 37) (((6 : Int32) * x2) + x3) r7) (fun S8 =>
    (k19 x1 x2 (x3 + 1) S8))))
  else
    (k11 x1 (x2 + 1) S)))
def Mo_weekGoes_19 (a0 : Nat) (k11 : Int32 → Int32 → iz_S → Option iz_S) : Nat → Int32 → Int32 → Int32 → iz_S → Option iz_S
  | 0 => fun _ _ _ _ => none
  | n9 + 1 => Mo_weekGoes_19b a0 k11 (Mo_weekGoes_19 a0 k11 n9)
def Mo_weekGoes_11b (a0 : Nat) (k11 : Int32 → Int32 → iz_S → Option iz_S) (x1 : Int32) (x2 : Int32) (S : iz_S) : Option iz_S :=
  (if x2 < 16 then
    (Mo_weekGoes_19 a0 k11 iz_FU x1 x2 0 S)
  else
    (Mo_weekGoes_61 a0 iz_FU 0 S))
def Mo_weekGoes_11 (a0 : Nat) : Nat → Int32 → Int32 → iz_S → Option iz_S
  | 0 => fun _ _ _ => none
  | n9 + 1 => Mo_weekGoes_11b a0 (Mo_weekGoes_11 a0 n9)
def Mo_weekGoes (a0 : Nat) (S : iz_S) : Option iz_S :=
  iz_bI (Mo_warmthOf a0 (S.1 a0 13) S) (fun r2 S1 =>
  (Mo_weekGoes_11 a0 iz_FU r2 0 S1))
set_option maxRecDepth 10000 in
theorem c_Mo_weekGoes_145 {X : iz_X} {l : Launch} {a0 : Nat} (h0 : iz_sh a0 = (10 + 3, 48)) {k61 : Int32 → iz_S → Option iz_S} {k76 : Int32 → Int32 → iz_S → Option iz_S} (hk61 : ∀ (x2 : Int32) (S : iz_S), iz_Y X l RX10 tX10_weekGoes 5 4 (iz_Kc X l yX10_weekGoes cX10_weekGoes 5 none 4 iz_eV) 61 [(0, .ref (X.1 a0)), (2, .int x2)] [] S (k61 x2 S)) (hk76 : ∀ (x2 : Int32) (x3 : Int32) (S : iz_S), iz_Y X l RX10 tX10_weekGoes 5 4 (iz_Kc X l yX10_weekGoes cX10_weekGoes 5 none 4 iz_eV) 76 [(0, .ref (X.1 a0)), (2, .int x2), (3, .int x3)] [] S (k76 x2 x3 S)) (x2 : Int32) (x3 : Int32) (S : iz_S) : iz_Y X l RX10 tX10_weekGoes 5 4 (iz_Kc X l yX10_weekGoes cX10_weekGoes 5 none 4 iz_eV) 145 [(0, .ref (X.1 a0)), (2, .int x2), (3, .int x3)] [] S (Mo_weekGoes_145 a0 k61 k76 x2 x3 S) := by
  unfold Mo_weekGoes_145
  refine iz_iinc (v := (x3 + (-1))) (ls2 := [(0, .ref (X.1 a0)), (2, .int x2), (3, .int (x3 + (-1)))]) 93 2 [1, 2, 0] rfl rfl rfl (by decide) rfl ?_
  refine iz_goto (tgt := 76) 94 (by decide) rfl ?_
  exact hk76 x2 (x3 + (-1)) S
set_option maxRecDepth 10000 in
theorem c_Mo_weekGoes_76b {X : iz_X} {l : Launch} {a0 : Nat} (h0 : iz_sh a0 = (10 + 3, 48)) {k61 : Int32 → iz_S → Option iz_S} {k76 : Int32 → Int32 → iz_S → Option iz_S} (hk61 : ∀ (x2 : Int32) (S : iz_S), iz_Y X l RX10 tX10_weekGoes 5 4 (iz_Kc X l yX10_weekGoes cX10_weekGoes 5 none 4 iz_eV) 61 [(0, .ref (X.1 a0)), (2, .int x2)] [] S (k61 x2 S)) (hk76 : ∀ (x2 : Int32) (x3 : Int32) (S : iz_S), iz_Y X l RX10 tX10_weekGoes 5 4 (iz_Kc X l yX10_weekGoes cX10_weekGoes 5 none 4 iz_eV) 76 [(0, .ref (X.1 a0)), (2, .int x2), (3, .int x3)] [] S (k76 x2 x3 S)) (x2 : Int32) (x3 : Int32) (S : iz_S) : iz_Y X l RX10 tX10_weekGoes 5 4 (iz_Kc X l yX10_weekGoes cX10_weekGoes 5 none 4 iz_eV) 76 [(0, .ref (X.1 a0)), (2, .int x2), (3, .int x3)] [] S (Mo_weekGoes_76b a0 k61 k76 x2 x3 S) := by
  unfold Mo_weekGoes_76b
  refine iz_iload_n (n := 3) 47 2 rfl rfl ?_
  refine iz_if_lt (tgt := 151) 48 rfl (by decide) ?_ ?_
  · refine iz_iinc (v := (x2 + 1)) (ls2 := [(0, .ref (X.1 a0)), (2, .int (x2 + 1))]) 95 1 [1, 0] rfl rfl rfl (by decide) rfl ?_
    refine iz_goto (tgt := 61) 96 (by decide) rfl ?_
    exact hk61 (x2 + 1) S
  · refine iz_aload_n (n := 0) 49 0 rfl rfl ?_
    refine iz_iload_n (n := 2) 50 1 rfl rfl ?_
    refine iz_iload_n (n := 3) 51 2 rfl rfl ?_
    refine iz_callVI (As := [.int x2, .int x3]) (rest := []) 52 ml_X10_179 cw_X10_blockAt ci_X10_blockAt h0 (fun r9 hr9 => m_Mo_blockAt h0 hr9) rfl (by decide) (by decide) rfl rfl (Nat.le_of_ble_eq_true rfl) (fun r10 S9 => ?_)
    refine iz_istore (n := 4) (ls2 := [(0, .ref (X.1 a0)), (2, .int x2), (3, .int x3), (4, .int r10)]) 53 [1, 2, 3, 0] rfl (by decide) rfl ?_
    refine iz_aload_n (n := 0) 54 0 rfl rfl ?_
    refine iz_getR 55 5 h0 fl_X10_23 rfl (by decide) (by decide) rfl ?_
    refine iz_iload (n := 4) 56 3 rfl rfl ?_
    refine iz_dup2 57 rfl rfl rfl ?_
    refine iz_iald 58 (sf_10_5 h0) rfl ?_
    refine iz_aload_n (n := 0) 59 0 rfl rfl ?_
    refine iz_getR 60 37 h0 fl_X10_101 rfl (by decide) (by decide) rfl ?_
    refine iz_bipush (v := 6) 61 (by decide) rfl ?_
    refine iz_iload_n (n := 2) 62 1 rfl rfl ?_
    refine iz_imul 63 rfl ?_
    refine iz_iload_n (n := 3) 64 2 rfl rfl ?_
    refine iz_iadd 65 rfl ?_
    refine iz_iald 66 (sf_10_37 h0) rfl ?_
    refine iz_isub 67 rfl ?_
    refine iz_iast 68 (sf_10_5 h0) rfl (fun S11 => ?_)
    refine iz_aload_n (n := 0) 69 0 rfl rfl ?_
    refine iz_getR 70 25 h0 fl_X10_74 rfl (by decide) (by decide) rfl ?_
    refine iz_iconst (v := 1) 71 (by decide) rfl ?_
    refine iz_dup2 72 rfl rfl rfl ?_
    refine iz_iald 73 (sf_10_25 h0) rfl ?_
    refine iz_aload_n (n := 0) 74 0 rfl rfl ?_
    refine iz_getR 75 37 h0 fl_X10_101 rfl (by decide) (by decide) rfl ?_
    refine iz_bipush (v := 6) 76 (by decide) rfl ?_
    refine iz_iload_n (n := 2) 77 1 rfl rfl ?_
    refine iz_imul 78 rfl ?_
    refine iz_iload_n (n := 3) 79 2 rfl rfl ?_
    refine iz_iadd 80 rfl ?_
    refine iz_iald 81 (sf_10_37 h0) rfl ?_
    refine iz_iadd 82 rfl ?_
    refine iz_iast 83 (sf_10_25 h0) rfl (fun S12 => ?_)
    refine iz_aload_n (n := 0) 84 0 rfl rfl ?_
    refine iz_getR 85 5 h0 fl_X10_23 rfl (by decide) (by decide) rfl ?_
    refine iz_iload (n := 4) 86 3 rfl rfl ?_
    refine iz_iald 87 (sf_10_5 h0) rfl ?_
    refine iz_if_ne (tgt := 145) 88 rfl (by decide) ?_ ?_
    · exact iz_sub [0, 1, 2] rfl (c_Mo_weekGoes_145 h0 hk61 hk76 x2 x3 S12)
    · refine iz_aload_n (n := 0) 89 0 rfl rfl ?_
      refine iz_iload_n (n := 2) 90 1 rfl rfl ?_
      refine iz_iload_n (n := 3) 91 2 rfl rfl ?_
      refine iz_callVV (As := [.int x2, .int x3]) (rest := []) 92 ml_X10_188 cw_X10_goes ci_X10_goes h0 (fun r9 hr9 => m_Mo_goes h0 hr9) rfl (by decide) (by decide) rfl rfl (Nat.le_of_ble_eq_true rfl) (fun S13 => ?_)
      exact iz_sub [0, 1, 2] rfl (c_Mo_weekGoes_145 h0 hk61 hk76 x2 x3 S13)
theorem c_Mo_weekGoes_76 {X : iz_X} {l : Launch} {a0 : Nat} (h0 : iz_sh a0 = (10 + 3, 48)) {k61 : Int32 → iz_S → Option iz_S} (hk61 : ∀ (x2 : Int32) (S : iz_S), iz_Y X l RX10 tX10_weekGoes 5 4 (iz_Kc X l yX10_weekGoes cX10_weekGoes 5 none 4 iz_eV) 61 [(0, .ref (X.1 a0)), (2, .int x2)] [] S (k61 x2 S)) : ∀ (n9 : Nat) (x2 : Int32) (x3 : Int32) (S : iz_S), iz_Y X l RX10 tX10_weekGoes 5 4 (iz_Kc X l yX10_weekGoes cX10_weekGoes 5 none 4 iz_eV) 76 [(0, .ref (X.1 a0)), (2, .int x2), (3, .int x3)] [] S (Mo_weekGoes_76 a0 k61 n9 x2 x3 S)
  | 0 => by
    intros
    exact iz_none
  | n9 + 1 => c_Mo_weekGoes_76b h0 hk61 (c_Mo_weekGoes_76 h0 hk61 n9)
set_option maxRecDepth 10000 in
theorem c_Mo_weekGoes_61b {X : iz_X} {l : Launch} {a0 : Nat} (h0 : iz_sh a0 = (10 + 3, 48)) {k61 : Int32 → iz_S → Option iz_S} (hk61 : ∀ (x2 : Int32) (S : iz_S), iz_Y X l RX10 tX10_weekGoes 5 4 (iz_Kc X l yX10_weekGoes cX10_weekGoes 5 none 4 iz_eV) 61 [(0, .ref (X.1 a0)), (2, .int x2)] [] S (k61 x2 S)) (x2 : Int32) (S : iz_S) : iz_Y X l RX10 tX10_weekGoes 5 4 (iz_Kc X l yX10_weekGoes cX10_weekGoes 5 none 4 iz_eV) 61 [(0, .ref (X.1 a0)), (2, .int x2)] [] S (Mo_weekGoes_61b a0 k61 x2 S) := by
  unfold Mo_weekGoes_61b
  refine iz_iload_n (n := 2) 37 1 rfl rfl ?_
  refine iz_bipush (v := 16) 38 (by decide) rfl ?_
  refine iz_cmp_ge (tgt := 157) 39 rfl (by decide) ?_ ?_
  · refine iz_aload_n (n := 0) 97 0 rfl rfl ?_
    refine iz_callVV (As := []) (rest := []) 98 ml_X10_200 cw_X10_breakAll ci_X10_breakAll h0 (fun r9 hr9 => m_Mo_breakAll h0 hr9) rfl (by decide) (by decide) rfl rfl (Nat.le_of_ble_eq_true rfl) (fun S3 => ?_)
    refine iz_aload_n (n := 0) 99 0 rfl rfl ?_
    refine iz_dup 100 rfl rfl ?_
    refine iz_getI 101 13 h0 fl_X10_206 rfl (by decide) (by decide) rfl ?_
    refine iz_iconst (v := 1) 102 (by decide) rfl ?_
    refine iz_iadd 103 rfl ?_
    refine iz_putI 104 13 h0 fl_X10_206 rfl (by decide) (by decide) rfl (fun S4 => ?_)
    exact iz_vret 105 rfl
  · refine iz_aload_n (n := 0) 40 0 rfl rfl ?_
    refine iz_getR 41 9 h0 fl_X10_35 rfl (by decide) (by decide) rfl ?_
    refine iz_iload_n (n := 2) 42 1 rfl rfl ?_
    refine iz_iald 43 (sf_10_9 h0) rfl ?_
    refine iz_iconst (v := 1) 44 (by decide) rfl ?_
    refine iz_isub 45 rfl ?_
    refine iz_let (fun v5 => ?_)
    refine iz_istore_n (n := 3) (ls2 := [(0, .ref (X.1 a0)), (2, .int x2), (3, .int v5)]) 46 [1, 2, 0] rfl (by decide) rfl ?_
    exact c_Mo_weekGoes_76 h0 hk61 iz_FU x2 v5 S
theorem c_Mo_weekGoes_61 {X : iz_X} {l : Launch} {a0 : Nat} (h0 : iz_sh a0 = (10 + 3, 48)) : ∀ (n9 : Nat) (x2 : Int32) (S : iz_S), iz_Y X l RX10 tX10_weekGoes 5 4 (iz_Kc X l yX10_weekGoes cX10_weekGoes 5 none 4 iz_eV) 61 [(0, .ref (X.1 a0)), (2, .int x2)] [] S (Mo_weekGoes_61 a0 n9 x2 S)
  | 0 => by
    intros
    exact iz_none
  | n9 + 1 => c_Mo_weekGoes_61b h0 (c_Mo_weekGoes_61 h0 n9)
set_option maxRecDepth 10000 in
theorem c_Mo_weekGoes_19b {X : iz_X} {l : Launch} {a0 : Nat} (h0 : iz_sh a0 = (10 + 3, 48)) {k11 : Int32 → Int32 → iz_S → Option iz_S} {k19 : Int32 → Int32 → Int32 → iz_S → Option iz_S} (hk11 : ∀ (x1 : Int32) (x2 : Int32) (S : iz_S), iz_Y X l RX10 tX10_weekGoes 5 4 (iz_Kc X l yX10_weekGoes cX10_weekGoes 5 none 4 iz_eV) 11 [(0, .ref (X.1 a0)), (1, .int x1), (2, .int x2)] [] S (k11 x1 x2 S)) (hk19 : ∀ (x1 : Int32) (x2 : Int32) (x3 : Int32) (S : iz_S), iz_Y X l RX10 tX10_weekGoes 5 4 (iz_Kc X l yX10_weekGoes cX10_weekGoes 5 none 4 iz_eV) 19 [(0, .ref (X.1 a0)), (1, .int x1), (2, .int x2), (3, .int x3)] [] S (k19 x1 x2 x3 S)) (x1 : Int32) (x2 : Int32) (x3 : Int32) (S : iz_S) : iz_Y X l RX10 tX10_weekGoes 5 4 (iz_Kc X l yX10_weekGoes cX10_weekGoes 5 none 4 iz_eV) 19 [(0, .ref (X.1 a0)), (1, .int x1), (2, .int x2), (3, .int x3)] [] S (Mo_weekGoes_19b a0 k11 k19 x1 x2 x3 S) := by
  unfold Mo_weekGoes_19b
  refine iz_iload_n (n := 3) 12 3 rfl rfl ?_
  refine iz_aload_n (n := 0) 13 0 rfl rfl ?_
  refine iz_getR 14 9 h0 fl_X10_35 rfl (by decide) (by decide) rfl ?_
  refine iz_iload_n (n := 2) 15 2 rfl rfl ?_
  refine iz_iald 16 (sf_10_9 h0) rfl ?_
  refine iz_cmp_ge (tgt := 53) 17 rfl (by decide) ?_ ?_
  · refine iz_iinc (v := (x2 + 1)) (ls2 := [(0, .ref (X.1 a0)), (1, .int x1), (2, .int (x2 + 1))]) 33 2 [1, 2, 0] rfl rfl rfl (by decide) rfl ?_
    refine iz_goto (tgt := 11) 34 (by decide) rfl ?_
    exact hk11 x1 (x2 + 1) S
  · refine iz_aload_n (n := 0) 18 0 rfl rfl ?_
    refine iz_getR 19 37 h0 fl_X10_101 rfl (by decide) (by decide) rfl ?_
    refine iz_bipush (v := 6) 20 (by decide) rfl ?_
    refine iz_iload_n (n := 2) 21 2 rfl rfl ?_
    refine iz_imul 22 rfl ?_
    refine iz_iload_n (n := 3) 23 3 rfl rfl ?_
    refine iz_iadd 24 rfl ?_
    refine iz_aload_n (n := 0) 25 0 rfl rfl ?_
    refine iz_iload_n (n := 2) 26 2 rfl rfl ?_
    refine iz_iload_n (n := 3) 27 3 rfl rfl ?_
    refine iz_iload_n (n := 1) 28 1 rfl rfl ?_
    refine iz_callVI (As := [.int x2, .int x3, .int x1]) (rest := [.int (((6 : Int32) * x2) + x3), .ref (X.1 (iz_rf a0 37))]) 29 ml_X10_212 cw_X10_meltOf ci_X10_meltOf h0 (fun r9 hr9 => m_Mo_meltOf h0 hr9) rfl (by decide) (by decide) rfl rfl (Nat.le_of_ble_eq_true rfl) (fun r7 S6 => ?_)
    refine iz_iast 30 (sf_10_37 h0) rfl (fun S8 => ?_)
    refine iz_iinc (v := (x3 + 1)) (ls2 := [(0, .ref (X.1 a0)), (1, .int x1), (2, .int x2), (3, .int (x3 + 1))]) 31 3 [1, 2, 3, 0] rfl rfl rfl (by decide) rfl ?_
    refine iz_goto (tgt := 19) 32 (by decide) rfl ?_
    exact hk19 x1 x2 (x3 + 1) S8
theorem c_Mo_weekGoes_19 {X : iz_X} {l : Launch} {a0 : Nat} (h0 : iz_sh a0 = (10 + 3, 48)) {k11 : Int32 → Int32 → iz_S → Option iz_S} (hk11 : ∀ (x1 : Int32) (x2 : Int32) (S : iz_S), iz_Y X l RX10 tX10_weekGoes 5 4 (iz_Kc X l yX10_weekGoes cX10_weekGoes 5 none 4 iz_eV) 11 [(0, .ref (X.1 a0)), (1, .int x1), (2, .int x2)] [] S (k11 x1 x2 S)) : ∀ (n9 : Nat) (x1 : Int32) (x2 : Int32) (x3 : Int32) (S : iz_S), iz_Y X l RX10 tX10_weekGoes 5 4 (iz_Kc X l yX10_weekGoes cX10_weekGoes 5 none 4 iz_eV) 19 [(0, .ref (X.1 a0)), (1, .int x1), (2, .int x2), (3, .int x3)] [] S (Mo_weekGoes_19 a0 k11 n9 x1 x2 x3 S)
  | 0 => by
    intros
    exact iz_none
  | n9 + 1 => c_Mo_weekGoes_19b h0 hk11 (c_Mo_weekGoes_19 h0 hk11 n9)
set_option maxRecDepth 10000 in
theorem c_Mo_weekGoes_11b {X : iz_X} {l : Launch} {a0 : Nat} (h0 : iz_sh a0 = (10 + 3, 48)) {k11 : Int32 → Int32 → iz_S → Option iz_S} (hk11 : ∀ (x1 : Int32) (x2 : Int32) (S : iz_S), iz_Y X l RX10 tX10_weekGoes 5 4 (iz_Kc X l yX10_weekGoes cX10_weekGoes 5 none 4 iz_eV) 11 [(0, .ref (X.1 a0)), (1, .int x1), (2, .int x2)] [] S (k11 x1 x2 S)) (x1 : Int32) (x2 : Int32) (S : iz_S) : iz_Y X l RX10 tX10_weekGoes 5 4 (iz_Kc X l yX10_weekGoes cX10_weekGoes 5 none 4 iz_eV) 11 [(0, .ref (X.1 a0)), (1, .int x1), (2, .int x2)] [] S (Mo_weekGoes_11b a0 k11 x1 x2 S) := by
  unfold Mo_weekGoes_11b
  refine iz_iload_n (n := 2) 7 2 rfl rfl ?_
  refine iz_bipush (v := 16) 8 (by decide) rfl ?_
  refine iz_cmp_ge (tgt := 59) 9 rfl (by decide) ?_ ?_
  · refine iz_iconst (v := 0) 35 (by decide) rfl ?_
    refine iz_istore_n (n := 2) (ls2 := [(0, .ref (X.1 a0)), (2, .int 0)]) 36 [1, 0] rfl (by decide) rfl ?_
    exact c_Mo_weekGoes_61 h0 iz_FU 0 S
  · refine iz_iconst (v := 0) 10 (by decide) rfl ?_
    refine iz_istore_n (n := 3) (ls2 := [(0, .ref (X.1 a0)), (1, .int x1), (2, .int x2), (3, .int 0)]) 11 [1, 2, 3, 0] rfl (by decide) rfl ?_
    exact c_Mo_weekGoes_19 h0 hk11 iz_FU x1 x2 0 S
theorem c_Mo_weekGoes_11 {X : iz_X} {l : Launch} {a0 : Nat} (h0 : iz_sh a0 = (10 + 3, 48)) : ∀ (n9 : Nat) (x1 : Int32) (x2 : Int32) (S : iz_S), iz_Y X l RX10 tX10_weekGoes 5 4 (iz_Kc X l yX10_weekGoes cX10_weekGoes 5 none 4 iz_eV) 11 [(0, .ref (X.1 a0)), (1, .int x1), (2, .int x2)] [] S (Mo_weekGoes_11 a0 n9 x1 x2 S)
  | 0 => by
    intros
    exact iz_none
  | n9 + 1 => c_Mo_weekGoes_11b h0 (c_Mo_weekGoes_11 h0 n9)
set_option maxRecDepth 10000 in
theorem c_Mo_weekGoes {X : iz_X} {l : Launch} {a0 : Nat} (h0 : iz_sh a0 = (10 + 3, 48)) (S : iz_S) : iz_Y X l RX10 tX10_weekGoes 5 4 (iz_Kc X l yX10_weekGoes cX10_weekGoes 5 none 4 iz_eV) 0 [(0, .ref (X.1 a0))] [] S (Mo_weekGoes a0 S) := by
  unfold Mo_weekGoes
  refine iz_aload_n (n := 0) 0 0 rfl rfl ?_
  refine iz_aload_n (n := 0) 1 0 rfl rfl ?_
  refine iz_getI 2 13 h0 fl_X10_206 rfl (by decide) (by decide) rfl ?_
  refine iz_callVI (As := [.int (S.1 a0 13)]) (rest := []) 3 ml_X10_209 cw_X10_warmthOf ci_X10_warmthOf h0 (fun r9 hr9 => m_Mo_warmthOf h0 hr9) rfl (by decide) (by decide) rfl rfl (Nat.le_of_ble_eq_true rfl) (fun r2 S1 => ?_)
  refine iz_istore_n (n := 1) (ls2 := [(0, .ref (X.1 a0)), (1, .int r2)]) 4 [1, 0] rfl (by decide) rfl ?_
  refine iz_iconst (v := 0) 5 (by decide) rfl ?_
  refine iz_istore_n (n := 2) (ls2 := [(0, .ref (X.1 a0)), (1, .int r2), (2, .int 0)]) 6 [1, 2, 0] rfl (by decide) rfl ?_
  exact c_Mo_weekGoes_11 h0 iz_FU r2 0 S1
theorem m_Mo_weekGoes {X : iz_X} {l : Launch} {a0 : Nat} (h0 : iz_sh a0 = (10 + 3, 48)) {S : iz_S} {r9 : iz_S} (hr : Mo_weekGoes a0 S = some r9) : iz_Mt X l 4 yX10_weekGoes cX10_weekGoes 5 none [.ref (X.1 a0)] S (iz_eV r9) :=
  iz_Mt_of (dt := tX10_weekGoes) dX10_weekGoes (by decide) hr (Nat.le_of_ble_eq_true rfl) (c_Mo_weekGoes h0 S)
def Mo_allWeight_12b (a0 : Nat) (k4 : Int32 → Int32 → iz_S → Option (Int32 × iz_S)) (k12 : Int32 → Int32 → Int32 → iz_S → Option (Int32 × iz_S)) (x1 : Int32) (x2 : Int32) (x3 : Int32) (S : iz_S) : Option (Int32 × iz_S) :=
  (iz_ck (iz_in x2 16) (
  if x3 < (iz_g S (iz_rf a0 9) x2) then
    iz_bI (Mo_blockAt a0 x2 x3 S) (fun r2 S1 =>
    iz_ck (iz_in r2 60) (
    iz_lt (x1 + (iz_g S1 (iz_rf a0 5) r2)) (fun v3 =>
    (k12 v3 x2 (x3 + 1) S1))))
  else
    (k4 x1 (x2 + 1) S)))
def Mo_allWeight_12 (a0 : Nat) (k4 : Int32 → Int32 → iz_S → Option (Int32 × iz_S)) : Nat → Int32 → Int32 → Int32 → iz_S → Option (Int32 × iz_S)
  | 0 => fun _ _ _ _ => none
  | n9 + 1 => Mo_allWeight_12b a0 k4 (Mo_allWeight_12 a0 k4 n9)
def Mo_allWeight_4b (a0 : Nat) (k4 : Int32 → Int32 → iz_S → Option (Int32 × iz_S)) (x1 : Int32) (x2 : Int32) (S : iz_S) : Option (Int32 × iz_S) :=
  (if x2 < 16 then
    (Mo_allWeight_12 a0 k4 iz_FU x1 x2 0 S)
  else
    some (x1, S))
def Mo_allWeight_4 (a0 : Nat) : Nat → Int32 → Int32 → iz_S → Option (Int32 × iz_S)
  | 0 => fun _ _ _ => none
  | n9 + 1 => Mo_allWeight_4b a0 (Mo_allWeight_4 a0 n9)
def Mo_allWeight (a0 : Nat) (S : iz_S) : Option (Int32 × iz_S) :=
  (Mo_allWeight_4 a0 iz_FU 0 0 S)
set_option maxRecDepth 10000 in
theorem c_Mo_allWeight_12b {X : iz_X} {l : Launch} {a0 : Nat} (h0 : iz_sh a0 = (10 + 3, 48)) {k4 : Int32 → Int32 → iz_S → Option (Int32 × iz_S)} {k12 : Int32 → Int32 → Int32 → iz_S → Option (Int32 × iz_S)} (hk4 : ∀ (x1 : Int32) (x2 : Int32) (S : iz_S), iz_Y X l RX10 tX10_allWeight 4 1 (iz_Kc X l yX10_allWeight cX10_allWeight 4 (some .int) 1 iz_eI) 4 [(0, .ref (X.1 a0)), (1, .int x1), (2, .int x2)] [] S (k4 x1 x2 S)) (hk12 : ∀ (x1 : Int32) (x2 : Int32) (x3 : Int32) (S : iz_S), iz_Y X l RX10 tX10_allWeight 4 1 (iz_Kc X l yX10_allWeight cX10_allWeight 4 (some .int) 1 iz_eI) 12 [(0, .ref (X.1 a0)), (1, .int x1), (2, .int x2), (3, .int x3)] [] S (k12 x1 x2 x3 S)) (x1 : Int32) (x2 : Int32) (x3 : Int32) (S : iz_S) : iz_Y X l RX10 tX10_allWeight 4 1 (iz_Kc X l yX10_allWeight cX10_allWeight 4 (some .int) 1 iz_eI) 12 [(0, .ref (X.1 a0)), (1, .int x1), (2, .int x2), (3, .int x3)] [] S (Mo_allWeight_12b a0 k4 k12 x1 x2 x3 S) := by
  unfold Mo_allWeight_12b
  refine iz_iload_n (n := 3) 9 3 rfl rfl ?_
  refine iz_aload_n (n := 0) 10 0 rfl rfl ?_
  refine iz_getR 11 9 h0 fl_X10_35 rfl (by decide) (by decide) rfl ?_
  refine iz_iload_n (n := 2) 12 2 rfl rfl ?_
  refine iz_iald 13 (sf_10_9 h0) rfl ?_
  refine iz_cmp_ge (tgt := 42) 14 rfl (by decide) ?_ ?_
  · refine iz_iinc (v := (x2 + 1)) (ls2 := [(0, .ref (X.1 a0)), (1, .int x1), (2, .int (x2 + 1))]) 27 2 [1, 2, 0] rfl rfl rfl (by decide) rfl ?_
    refine iz_goto (tgt := 4) 28 (by decide) rfl ?_
    exact hk4 x1 (x2 + 1) S
  · refine iz_iload_n (n := 1) 15 1 rfl rfl ?_
    refine iz_aload_n (n := 0) 16 0 rfl rfl ?_
    refine iz_getR 17 5 h0 fl_X10_23 rfl (by decide) (by decide) rfl ?_
    refine iz_aload_n (n := 0) 18 0 rfl rfl ?_
    refine iz_iload_n (n := 2) 19 2 rfl rfl ?_
    refine iz_iload_n (n := 3) 20 3 rfl rfl ?_
    refine iz_callVI (As := [.int x2, .int x3]) (rest := [.ref (X.1 (iz_rf a0 5)), .int x1]) 21 ml_X10_179 cw_X10_blockAt ci_X10_blockAt h0 (fun r9 hr9 => m_Mo_blockAt h0 hr9) rfl (by decide) (by decide) rfl rfl (Nat.le_of_ble_eq_true rfl) (fun r2 S1 => ?_)
    refine iz_iald 22 (sf_10_5 h0) rfl ?_
    refine iz_iadd 23 rfl ?_
    refine iz_let (fun v3 => ?_)
    refine iz_istore_n (n := 1) (ls2 := [(0, .ref (X.1 a0)), (1, .int v3), (2, .int x2), (3, .int x3)]) 24 [1, 0, 2, 3] rfl (by decide) rfl ?_
    refine iz_iinc (v := (x3 + 1)) (ls2 := [(0, .ref (X.1 a0)), (1, .int v3), (2, .int x2), (3, .int (x3 + 1))]) 25 3 [1, 2, 3, 0] rfl rfl rfl (by decide) rfl ?_
    refine iz_goto (tgt := 12) 26 (by decide) rfl ?_
    exact hk12 v3 x2 (x3 + 1) S1
theorem c_Mo_allWeight_12 {X : iz_X} {l : Launch} {a0 : Nat} (h0 : iz_sh a0 = (10 + 3, 48)) {k4 : Int32 → Int32 → iz_S → Option (Int32 × iz_S)} (hk4 : ∀ (x1 : Int32) (x2 : Int32) (S : iz_S), iz_Y X l RX10 tX10_allWeight 4 1 (iz_Kc X l yX10_allWeight cX10_allWeight 4 (some .int) 1 iz_eI) 4 [(0, .ref (X.1 a0)), (1, .int x1), (2, .int x2)] [] S (k4 x1 x2 S)) : ∀ (n9 : Nat) (x1 : Int32) (x2 : Int32) (x3 : Int32) (S : iz_S), iz_Y X l RX10 tX10_allWeight 4 1 (iz_Kc X l yX10_allWeight cX10_allWeight 4 (some .int) 1 iz_eI) 12 [(0, .ref (X.1 a0)), (1, .int x1), (2, .int x2), (3, .int x3)] [] S (Mo_allWeight_12 a0 k4 n9 x1 x2 x3 S)
  | 0 => by
    intros
    exact iz_none
  | n9 + 1 => c_Mo_allWeight_12b h0 hk4 (c_Mo_allWeight_12 h0 hk4 n9)
set_option maxRecDepth 10000 in
theorem c_Mo_allWeight_4b {X : iz_X} {l : Launch} {a0 : Nat} (h0 : iz_sh a0 = (10 + 3, 48)) {k4 : Int32 → Int32 → iz_S → Option (Int32 × iz_S)} (hk4 : ∀ (x1 : Int32) (x2 : Int32) (S : iz_S), iz_Y X l RX10 tX10_allWeight 4 1 (iz_Kc X l yX10_allWeight cX10_allWeight 4 (some .int) 1 iz_eI) 4 [(0, .ref (X.1 a0)), (1, .int x1), (2, .int x2)] [] S (k4 x1 x2 S)) (x1 : Int32) (x2 : Int32) (S : iz_S) : iz_Y X l RX10 tX10_allWeight 4 1 (iz_Kc X l yX10_allWeight cX10_allWeight 4 (some .int) 1 iz_eI) 4 [(0, .ref (X.1 a0)), (1, .int x1), (2, .int x2)] [] S (Mo_allWeight_4b a0 k4 x1 x2 S) := by
  unfold Mo_allWeight_4b
  refine iz_iload_n (n := 2) 4 2 rfl rfl ?_
  refine iz_bipush (v := 16) 5 (by decide) rfl ?_
  refine iz_cmp_ge (tgt := 48) 6 rfl (by decide) ?_ ?_
  · refine iz_iload_n (n := 1) 29 1 rfl rfl ?_
    exact iz_iret 30 rfl
  · refine iz_iconst (v := 0) 7 (by decide) rfl ?_
    refine iz_istore_n (n := 3) (ls2 := [(0, .ref (X.1 a0)), (1, .int x1), (2, .int x2), (3, .int 0)]) 8 [1, 2, 3, 0] rfl (by decide) rfl ?_
    exact c_Mo_allWeight_12 h0 hk4 iz_FU x1 x2 0 S
theorem c_Mo_allWeight_4 {X : iz_X} {l : Launch} {a0 : Nat} (h0 : iz_sh a0 = (10 + 3, 48)) : ∀ (n9 : Nat) (x1 : Int32) (x2 : Int32) (S : iz_S), iz_Y X l RX10 tX10_allWeight 4 1 (iz_Kc X l yX10_allWeight cX10_allWeight 4 (some .int) 1 iz_eI) 4 [(0, .ref (X.1 a0)), (1, .int x1), (2, .int x2)] [] S (Mo_allWeight_4 a0 n9 x1 x2 S)
  | 0 => by
    intros
    exact iz_none
  | n9 + 1 => c_Mo_allWeight_4b h0 (c_Mo_allWeight_4 h0 n9)
set_option maxRecDepth 10000 in
theorem c_Mo_allWeight {X : iz_X} {l : Launch} {a0 : Nat} (h0 : iz_sh a0 = (10 + 3, 48)) (S : iz_S) : iz_Y X l RX10 tX10_allWeight 4 1 (iz_Kc X l yX10_allWeight cX10_allWeight 4 (some .int) 1 iz_eI) 0 [(0, .ref (X.1 a0))] [] S (Mo_allWeight a0 S) := by
  unfold Mo_allWeight
  refine iz_iconst (v := 0) 0 (by decide) rfl ?_
  refine iz_istore_n (n := 1) (ls2 := [(0, .ref (X.1 a0)), (1, .int 0)]) 1 [1, 0] rfl (by decide) rfl ?_
  refine iz_iconst (v := 0) 2 (by decide) rfl ?_
  refine iz_istore_n (n := 2) (ls2 := [(0, .ref (X.1 a0)), (1, .int 0), (2, .int 0)]) 3 [1, 2, 0] rfl (by decide) rfl ?_
  exact c_Mo_allWeight_4 h0 iz_FU 0 0 S
theorem m_Mo_allWeight {X : iz_X} {l : Launch} {a0 : Nat} (h0 : iz_sh a0 = (10 + 3, 48)) {S : iz_S} {r9 : Int32 × iz_S} (hr : Mo_allWeight a0 S = some r9) : iz_Mt X l 1 yX10_allWeight cX10_allWeight 4 (some .int) [.ref (X.1 a0)] S (iz_eI r9) :=
  iz_Mt_of (dt := tX10_allWeight) dX10_allWeight (by decide) hr (Nat.le_of_ble_eq_true rfl) (c_Mo_allWeight h0 S)
def Mo_weeks_35b (a0 : Nat) (k35 : Int32 → Int32 → iz_S → Option (Int32 × iz_S)) (x1 : Int32) (x2 : Int32) (S : iz_S) : Option (Int32 × iz_S) :=
  (if x2 < x1 then
    iz_bV (Mo_weekGoes a0 S) (fun S9 =>
    (k35 x1 (x2 + 1) S9))
  else
    iz_bI (Mo_allWeight a0 S) (fun r8 S7 =>
    some (r8, S7)))
def Mo_weeks_35 (a0 : Nat) : Nat → Int32 → Int32 → iz_S → Option (Int32 × iz_S)
  | 0 => fun _ _ _ => none
  | n9 + 1 => Mo_weeks_35b a0 (Mo_weeks_35 a0 n9)
def Mo_weeks (a0 : Nat) (x1 : Int32) (S : iz_S) : Option (Int32 × iz_S) :=
  (iz_bI (Mo_isIn x1 1 20 S) (fun r2 S1 =>
  if r2 = 0 then
    iz_bI (Mo_finding a0 1 S1) (fun r6 S5 =>
    some (r6, S5))
  else
    (if ((S1.1 a0 13) + x1) ≤ 100 then
      (Mo_weeks_35 a0 iz_FU x1 0 S1)
    else
      iz_bI (Mo_finding a0 4 S1) (fun r4 S3 =>
      some (r4, S3)))))
set_option maxRecDepth 10000 in
theorem c_Mo_weeks_35b {X : iz_X} {l : Launch} {a0 : Nat} (h0 : iz_sh a0 = (10 + 3, 48)) {k35 : Int32 → Int32 → iz_S → Option (Int32 × iz_S)} (hk35 : ∀ (x1 : Int32) (x2 : Int32) (S : iz_S), iz_Y X l RX10 tX10_weeks 3 5 (iz_Kc X l yX10_weeks cX10_weeks 3 (some .int) 5 iz_eI) 35 [(0, .ref (X.1 a0)), (1, .int x1), (2, .int x2)] [] S (k35 x1 x2 S)) (x1 : Int32) (x2 : Int32) (S : iz_S) : iz_Y X l RX10 tX10_weeks 3 5 (iz_Kc X l yX10_weeks cX10_weeks 3 (some .int) 5 iz_eI) 35 [(0, .ref (X.1 a0)), (1, .int x1), (2, .int x2)] [] S (Mo_weeks_35b a0 k35 x1 x2 S) := by
  unfold Mo_weeks_35b
  refine iz_iload_n (n := 2) 21 2 rfl rfl ?_
  refine iz_iload_n (n := 1) 22 1 rfl rfl ?_
  refine iz_cmp_ge (tgt := 50) 23 rfl (by decide) ?_ ?_
  · refine iz_aload_n (n := 0) 28 0 rfl rfl ?_
    refine iz_callVI (As := []) (rest := []) 29 ml_X10_223 cw_X10_allWeight ci_X10_allWeight h0 (fun r9 hr9 => m_Mo_allWeight h0 hr9) rfl (by decide) (by decide) rfl rfl (Nat.le_of_ble_eq_true rfl) (fun r8 S7 => ?_)
    exact iz_iret 30 rfl
  · refine iz_aload_n (n := 0) 24 0 rfl rfl ?_
    refine iz_callVV (As := []) (rest := []) 25 ml_X10_220 cw_X10_weekGoes ci_X10_weekGoes h0 (fun r9 hr9 => m_Mo_weekGoes h0 hr9) rfl (by decide) (by decide) rfl rfl (Nat.le_of_ble_eq_true rfl) (fun S9 => ?_)
    refine iz_iinc (v := (x2 + 1)) (ls2 := [(0, .ref (X.1 a0)), (1, .int x1), (2, .int (x2 + 1))]) 26 2 [1, 2, 0] rfl rfl rfl (by decide) rfl ?_
    refine iz_goto (tgt := 35) 27 (by decide) rfl ?_
    exact hk35 x1 (x2 + 1) S9
theorem c_Mo_weeks_35 {X : iz_X} {l : Launch} {a0 : Nat} (h0 : iz_sh a0 = (10 + 3, 48)) : ∀ (n9 : Nat) (x1 : Int32) (x2 : Int32) (S : iz_S), iz_Y X l RX10 tX10_weeks 3 5 (iz_Kc X l yX10_weeks cX10_weeks 3 (some .int) 5 iz_eI) 35 [(0, .ref (X.1 a0)), (1, .int x1), (2, .int x2)] [] S (Mo_weeks_35 a0 n9 x1 x2 S)
  | 0 => by
    intros
    exact iz_none
  | n9 + 1 => c_Mo_weeks_35b h0 (c_Mo_weeks_35 h0 n9)
set_option maxRecDepth 10000 in
theorem c_Mo_weeks {X : iz_X} {l : Launch} {a0 : Nat} (h0 : iz_sh a0 = (10 + 3, 48)) (x1 : Int32) (S : iz_S) : iz_Y X l RX10 tX10_weeks 3 5 (iz_Kc X l yX10_weeks cX10_weeks 3 (some .int) 5 iz_eI) 0 [(0, .ref (X.1 a0)), (1, .int x1)] [] S (Mo_weeks a0 x1 S) := by
  unfold Mo_weeks
  refine iz_iload_n (n := 1) 0 1 rfl rfl ?_
  refine iz_iconst (v := 1) 1 (by decide) rfl ?_
  refine iz_bipush (v := 20) 2 (by decide) rfl ?_
  refine iz_callSI (As := [.int x1, .int 1, .int 20]) (rest := []) 3 ml_X10_123 cw_X10_isIn ci_X10_isIn (fun r9 hr9 => m_Mo_isIn  hr9) rfl (by decide) rfl rfl (Nat.le_of_ble_eq_true rfl) (fun r2 S1 => ?_)
  refine iz_if_ne (tgt := 16) 4 rfl (by decide) ?_ ?_
  · refine iz_aload_n (n := 0) 9 0 rfl rfl ?_
    refine iz_getI 10 13 h0 fl_X10_206 rfl (by decide) (by decide) rfl ?_
    refine iz_iload_n (n := 1) 11 1 rfl rfl ?_
    refine iz_iadd 12 rfl ?_
    refine iz_bipush (v := 100) 13 (by decide) rfl ?_
    refine iz_cmp_le (tgt := 33) 14 rfl (by decide) ?_ ?_
    · refine iz_iconst (v := 0) 19 (by decide) rfl ?_
      refine iz_istore_n (n := 2) (ls2 := [(0, .ref (X.1 a0)), (1, .int x1), (2, .int 0)]) 20 [1, 2, 0] rfl (by decide) rfl ?_
      exact c_Mo_weeks_35 h0 iz_FU x1 0 S1
    · refine iz_aload_n (n := 0) 15 0 rfl rfl ?_
      refine iz_iconst (v := 4) 16 (by decide) rfl ?_
      refine iz_callVI (As := [.int 4]) (rest := []) 17 ml_X10_127 cw_X10_finding ci_X10_finding h0 (fun r9 hr9 => m_Mo_finding h0 hr9) rfl (by decide) (by decide) rfl rfl (Nat.le_of_ble_eq_true rfl) (fun r4 S3 => ?_)
      exact iz_iret 18 rfl
  · refine iz_aload_n (n := 0) 5 0 rfl rfl ?_
    refine iz_iconst (v := 1) 6 (by decide) rfl ?_
    refine iz_callVI (As := [.int 1]) (rest := []) 7 ml_X10_127 cw_X10_finding ci_X10_finding h0 (fun r9 hr9 => m_Mo_finding h0 hr9) rfl (by decide) (by decide) rfl rfl (Nat.le_of_ble_eq_true rfl) (fun r6 S5 => ?_)
    exact iz_iret 8 rfl
theorem m_Mo_weeks {X : iz_X} {l : Launch} {a0 : Nat} (h0 : iz_sh a0 = (10 + 3, 48)) {x1 : Int32} {S : iz_S} {r9 : Int32 × iz_S} (hr : Mo_weeks a0 x1 S = some r9) : iz_Mt X l 5 yX10_weeks cX10_weeks 3 (some .int) [.ref (X.1 a0), .int x1] S (iz_eI r9) :=
  iz_Mt_of (dt := tX10_weeks) dX10_weeks (by decide) hr (Nat.le_of_ble_eq_true rfl) (c_Mo_weeks h0 x1 S)
def Mo_lays_39 (a0 : Nat) (a1 : Nat) (k2 : Int32 → Int32 → iz_S → Option iz_S) (x2 : Int32) (x3 : Int32) (S : iz_S) : Option iz_S :=
  iz_lt (iz_up S a0 39 ((S.1 a0 39) + 1)) (fun S3 =>
  (k2 x2 (x3 + 1) S3))
def Mo_lays_2b (a0 : Nat) (a1 : Nat) (k2 : Int32 → Int32 → iz_S → Option iz_S) (x2 : Int32) (x3 : Int32) (S : iz_S) : Option iz_S :=
  (if x3 < (Int32.ofNat (iz_sh a1).2) then
    (if x2 = 0 then
      iz_ck (iz_in (S.1 a0 39) 320) (
      iz_ck (iz_in x3 (iz_sh a1).2) (iz_lt (iz_s S a1 x3 (iz_g S (iz_rf a0 38) (S.1 a0 39))) (fun S1 =>
      (Mo_lays_39 a0 a1 k2 x2 x3 S1))))
    else
      iz_ck (iz_in x3 (iz_sh a1).2) (
      iz_ck (iz_in (S.1 a0 39) 320) (iz_lt (iz_s S (iz_rf a0 38) (S.1 a0 39) (iz_g S a1 x3)) (fun S2 =>
      (Mo_lays_39 a0 a1 k2 x2 x3 S2)))))
  else
    some S)
def Mo_lays_2 (a0 : Nat) (a1 : Nat) : Nat → Int32 → Int32 → iz_S → Option iz_S
  | 0 => fun _ _ _ => none
  | n9 + 1 => Mo_lays_2b a0 a1 (Mo_lays_2 a0 a1 n9)
def Mo_lays (a0 : Nat) (a1 : Nat) (x2 : Int32) (S : iz_S) : Option iz_S :=
  (Mo_lays_2 a0 a1 iz_FU x2 0 S)
set_option maxRecDepth 10000 in
theorem c_Mo_lays_39 {X : iz_X} {l : Launch} {a0 : Nat} (h0 : iz_sh a0 = (10 + 3, 48)) {a1 : Nat} (h1 : iz_sh a1 = (0, (iz_sh a1).2)) {k2 : Int32 → Int32 → iz_S → Option iz_S} (hk2 : ∀ (x2 : Int32) (x3 : Int32) (S : iz_S), iz_Y X l RX10 tX10_lays 4 0 (iz_Kc X l yX10_lays cX10_lays 4 none 0 iz_eV) 2 [(0, .ref (X.1 a0)), (1, .ref (X.1 a1)), (2, .int x2), (3, .int x3)] [] S (k2 x2 x3 S)) (x2 : Int32) (x3 : Int32) (S : iz_S) : iz_Y X l RX10 tX10_lays 4 0 (iz_Kc X l yX10_lays cX10_lays 4 none 0 iz_eV) 39 [(0, .ref (X.1 a0)), (1, .ref (X.1 a1)), (2, .int x2), (3, .int x3)] [] S (Mo_lays_39 a0 a1 k2 x2 x3 S) := by
  unfold Mo_lays_39
  refine iz_aload_n (n := 0) 25 0 rfl rfl ?_
  refine iz_dup 26 rfl rfl ?_
  refine iz_getI 27 39 h0 fl_X10_226 rfl (by decide) (by decide) rfl ?_
  refine iz_iconst (v := 1) 28 (by decide) rfl ?_
  refine iz_iadd 29 rfl ?_
  refine iz_putI 30 39 h0 fl_X10_226 rfl (by decide) (by decide) rfl (fun S3 => ?_)
  refine iz_iinc (v := (x3 + 1)) (ls2 := [(0, .ref (X.1 a0)), (1, .ref (X.1 a1)), (2, .int x2), (3, .int (x3 + 1))]) 31 3 [1, 2, 3, 0] rfl rfl rfl (by decide) rfl ?_
  refine iz_goto (tgt := 2) 32 (by decide) rfl ?_
  exact hk2 x2 (x3 + 1) S3
set_option maxRecDepth 10000 in
theorem c_Mo_lays_2b {X : iz_X} {l : Launch} {a0 : Nat} (h0 : iz_sh a0 = (10 + 3, 48)) {a1 : Nat} (h1 : iz_sh a1 = (0, (iz_sh a1).2)) {k2 : Int32 → Int32 → iz_S → Option iz_S} (hk2 : ∀ (x2 : Int32) (x3 : Int32) (S : iz_S), iz_Y X l RX10 tX10_lays 4 0 (iz_Kc X l yX10_lays cX10_lays 4 none 0 iz_eV) 2 [(0, .ref (X.1 a0)), (1, .ref (X.1 a1)), (2, .int x2), (3, .int x3)] [] S (k2 x2 x3 S)) (x2 : Int32) (x3 : Int32) (S : iz_S) : iz_Y X l RX10 tX10_lays 4 0 (iz_Kc X l yX10_lays cX10_lays 4 none 0 iz_eV) 2 [(0, .ref (X.1 a0)), (1, .ref (X.1 a1)), (2, .int x2), (3, .int x3)] [] S (Mo_lays_2b a0 a1 k2 x2 x3 S) := by
  unfold Mo_lays_2b
  refine iz_iload_n (n := 3) 2 3 rfl rfl ?_
  refine iz_aload_n (n := 1) 3 1 rfl rfl ?_
  refine iz_alen 4 h1 rfl ?_
  refine iz_cmp_ge (tgt := 55) 5 rfl (by decide) ?_ ?_
  · exact iz_vret 33 rfl
  · refine iz_iload_n (n := 2) 6 2 rfl rfl ?_
    refine iz_if_eq (tgt := 27) 7 rfl (by decide) ?_ ?_
    · refine iz_aload_n (n := 1) 17 1 rfl rfl ?_
      refine iz_iload_n (n := 3) 18 3 rfl rfl ?_
      refine iz_aload_n (n := 0) 19 0 rfl rfl ?_
      refine iz_getR 20 38 h0 fl_X10_104 rfl (by decide) (by decide) rfl ?_
      refine iz_aload_n (n := 0) 21 0 rfl rfl ?_
      refine iz_getI 22 39 h0 fl_X10_226 rfl (by decide) (by decide) rfl ?_
      refine iz_iald 23 (sf_10_38 h0) rfl ?_
      refine iz_iast 24 h1 rfl (fun S1 => ?_)
      exact c_Mo_lays_39 h0 h1 hk2 x2 x3 S1
    · refine iz_aload_n (n := 0) 8 0 rfl rfl ?_
      refine iz_getR 9 38 h0 fl_X10_104 rfl (by decide) (by decide) rfl ?_
      refine iz_aload_n (n := 0) 10 0 rfl rfl ?_
      refine iz_getI 11 39 h0 fl_X10_226 rfl (by decide) (by decide) rfl ?_
      refine iz_aload_n (n := 1) 12 1 rfl rfl ?_
      refine iz_iload_n (n := 3) 13 3 rfl rfl ?_
      refine iz_iald 14 h1 rfl ?_
      refine iz_iast 15 (sf_10_38 h0) rfl (fun S2 => ?_)
      refine iz_goto (tgt := 39) 16 (by decide) rfl ?_
      exact c_Mo_lays_39 h0 h1 hk2 x2 x3 S2
theorem c_Mo_lays_2 {X : iz_X} {l : Launch} {a0 : Nat} (h0 : iz_sh a0 = (10 + 3, 48)) {a1 : Nat} (h1 : iz_sh a1 = (0, (iz_sh a1).2)) : ∀ (n9 : Nat) (x2 : Int32) (x3 : Int32) (S : iz_S), iz_Y X l RX10 tX10_lays 4 0 (iz_Kc X l yX10_lays cX10_lays 4 none 0 iz_eV) 2 [(0, .ref (X.1 a0)), (1, .ref (X.1 a1)), (2, .int x2), (3, .int x3)] [] S (Mo_lays_2 a0 a1 n9 x2 x3 S)
  | 0 => by
    intros
    exact iz_none
  | n9 + 1 => c_Mo_lays_2b h0 h1 (c_Mo_lays_2 h0 h1 n9)
set_option maxRecDepth 10000 in
theorem c_Mo_lays {X : iz_X} {l : Launch} {a0 : Nat} (h0 : iz_sh a0 = (10 + 3, 48)) {a1 : Nat} (h1 : iz_sh a1 = (0, (iz_sh a1).2)) (x2 : Int32) (S : iz_S) : iz_Y X l RX10 tX10_lays 4 0 (iz_Kc X l yX10_lays cX10_lays 4 none 0 iz_eV) 0 [(0, .ref (X.1 a0)), (1, .ref (X.1 a1)), (2, .int x2)] [] S (Mo_lays a0 a1 x2 S) := by
  unfold Mo_lays
  refine iz_iconst (v := 0) 0 (by decide) rfl ?_
  refine iz_istore_n (n := 3) (ls2 := [(0, .ref (X.1 a0)), (1, .ref (X.1 a1)), (2, .int x2), (3, .int 0)]) 1 [1, 2, 3, 0] rfl (by decide) rfl ?_
  exact c_Mo_lays_2 h0 h1 iz_FU x2 0 S
theorem m_Mo_lays {X : iz_X} {l : Launch} {a0 : Nat} (h0 : iz_sh a0 = (10 + 3, 48)) {a1 : Nat} (h1 : iz_sh a1 = (0, (iz_sh a1).2)) {x2 : Int32} {S : iz_S} {r9 : iz_S} (hr : Mo_lays a0 a1 x2 S = some r9) : iz_Mt X l 0 yX10_lays cX10_lays 4 none [.ref (X.1 a0), .ref (X.1 a1), .int x2] S (iz_eV r9) :=
  iz_Mt_of (dt := tX10_lays) dX10_lays (by decide) hr (Nat.le_of_ble_eq_true rfl) (c_Mo_lays h0 h1 x2 S)
def Mo_layAside_82 (a0 : Nat) (S : iz_S) : Option iz_S :=
  some S
def Mo_layAside (a0 : Nat) (x1 : Int32) (S : iz_S) : Option iz_S :=
  (iz_lt (iz_up S a0 39 0) (fun S1 =>
  iz_bV (Mo_lays a0 (iz_rf a0 5) x1 S1) (fun S2 =>
  iz_bV (Mo_lays a0 (iz_rf a0 6) x1 S2) (fun S3 =>
  iz_bV (Mo_lays a0 (iz_rf a0 7) x1 S3) (fun S4 =>
  iz_bV (Mo_lays a0 (iz_rf a0 8) x1 S4) (fun S5 =>
  iz_bV (Mo_lays a0 (iz_rf a0 9) x1 S5) (fun S6 =>
  iz_bV (Mo_lays a0 (iz_rf a0 25) x1 S6) (fun S7 =>
  if x1 = 0 then
    iz_lt (iz_up S7 a0 13 (S7.1 a0 40)) (fun S8 =>
    (Mo_layAside_82 a0 S8))
  else
    iz_lt (iz_up S7 a0 40 (S7.1 a0 13)) (fun S9 =>
    (Mo_layAside_82 a0 S9))))))))))
set_option maxRecDepth 10000 in
theorem c_Mo_layAside_82 {X : iz_X} {l : Launch} {a0 : Nat} (h0 : iz_sh a0 = (10 + 3, 48)) (S : iz_S) : iz_Y X l RX10 tX10_layAside 2 1 (iz_Kc X l yX10_layAside cX10_layAside 2 none 1 iz_eV) 82 [] [] S (Mo_layAside_82 a0 S) := by
  unfold Mo_layAside_82
  exact iz_vret 44 rfl
set_option maxRecDepth 10000 in
theorem c_Mo_layAside {X : iz_X} {l : Launch} {a0 : Nat} (h0 : iz_sh a0 = (10 + 3, 48)) (x1 : Int32) (S : iz_S) : iz_Y X l RX10 tX10_layAside 2 1 (iz_Kc X l yX10_layAside cX10_layAside 2 none 1 iz_eV) 0 [(0, .ref (X.1 a0)), (1, .int x1)] [] S (Mo_layAside a0 x1 S) := by
  unfold Mo_layAside
  refine iz_aload_n (n := 0) 0 0 rfl rfl ?_
  refine iz_iconst (v := 0) 1 (by decide) rfl ?_
  refine iz_putI 2 39 h0 fl_X10_226 rfl (by decide) (by decide) rfl (fun S1 => ?_)
  refine iz_aload_n (n := 0) 3 0 rfl rfl ?_
  refine iz_aload_n (n := 0) 4 0 rfl rfl ?_
  refine iz_getR 5 5 h0 fl_X10_23 rfl (by decide) (by decide) rfl ?_
  refine iz_iload_n (n := 1) 6 1 rfl rfl ?_
  refine iz_callVV (As := [.ref (X.1 (iz_rf a0 5)), .int x1]) (rest := []) 7 ml_X10_229 cw_X10_lays ci_X10_lays h0 (fun r9 hr9 => m_Mo_lays h0 (iz_shI (sf_10_5 h0)) hr9) rfl (by decide) (by decide) rfl rfl (Nat.le_of_ble_eq_true rfl) (fun S2 => ?_)
  refine iz_aload_n (n := 0) 8 0 rfl rfl ?_
  refine iz_aload_n (n := 0) 9 0 rfl rfl ?_
  refine iz_getR 10 6 h0 fl_X10_26 rfl (by decide) (by decide) rfl ?_
  refine iz_iload_n (n := 1) 11 1 rfl rfl ?_
  refine iz_callVV (As := [.ref (X.1 (iz_rf a0 6)), .int x1]) (rest := []) 12 ml_X10_229 cw_X10_lays ci_X10_lays h0 (fun r9 hr9 => m_Mo_lays h0 (iz_shI (sf_10_6 h0)) hr9) rfl (by decide) (by decide) rfl rfl (Nat.le_of_ble_eq_true rfl) (fun S3 => ?_)
  refine iz_aload_n (n := 0) 13 0 rfl rfl ?_
  refine iz_aload_n (n := 0) 14 0 rfl rfl ?_
  refine iz_getR 15 7 h0 fl_X10_29 rfl (by decide) (by decide) rfl ?_
  refine iz_iload_n (n := 1) 16 1 rfl rfl ?_
  refine iz_callVV (As := [.ref (X.1 (iz_rf a0 7)), .int x1]) (rest := []) 17 ml_X10_229 cw_X10_lays ci_X10_lays h0 (fun r9 hr9 => m_Mo_lays h0 (iz_shI (sf_10_7 h0)) hr9) rfl (by decide) (by decide) rfl rfl (Nat.le_of_ble_eq_true rfl) (fun S4 => ?_)
  refine iz_aload_n (n := 0) 18 0 rfl rfl ?_
  refine iz_aload_n (n := 0) 19 0 rfl rfl ?_
  refine iz_getR 20 8 h0 fl_X10_32 rfl (by decide) (by decide) rfl ?_
  refine iz_iload_n (n := 1) 21 1 rfl rfl ?_
  refine iz_callVV (As := [.ref (X.1 (iz_rf a0 8)), .int x1]) (rest := []) 22 ml_X10_229 cw_X10_lays ci_X10_lays h0 (fun r9 hr9 => m_Mo_lays h0 (iz_shI (sf_10_8 h0)) hr9) rfl (by decide) (by decide) rfl rfl (Nat.le_of_ble_eq_true rfl) (fun S5 => ?_)
  refine iz_aload_n (n := 0) 23 0 rfl rfl ?_
  refine iz_aload_n (n := 0) 24 0 rfl rfl ?_
  refine iz_getR 25 9 h0 fl_X10_35 rfl (by decide) (by decide) rfl ?_
  refine iz_iload_n (n := 1) 26 1 rfl rfl ?_
  refine iz_callVV (As := [.ref (X.1 (iz_rf a0 9)), .int x1]) (rest := []) 27 ml_X10_229 cw_X10_lays ci_X10_lays h0 (fun r9 hr9 => m_Mo_lays h0 (iz_shI (sf_10_9 h0)) hr9) rfl (by decide) (by decide) rfl rfl (Nat.le_of_ble_eq_true rfl) (fun S6 => ?_)
  refine iz_aload_n (n := 0) 28 0 rfl rfl ?_
  refine iz_aload_n (n := 0) 29 0 rfl rfl ?_
  refine iz_getR 30 25 h0 fl_X10_74 rfl (by decide) (by decide) rfl ?_
  refine iz_iload_n (n := 1) 31 1 rfl rfl ?_
  refine iz_callVV (As := [.ref (X.1 (iz_rf a0 25)), .int x1]) (rest := []) 32 ml_X10_229 cw_X10_lays ci_X10_lays h0 (fun r9 hr9 => m_Mo_lays h0 (iz_shI (sf_10_25 h0)) hr9) rfl (by decide) (by decide) rfl rfl (Nat.le_of_ble_eq_true rfl) (fun S7 => ?_)
  refine iz_iload_n (n := 1) 33 1 rfl rfl ?_
  refine iz_if_eq (tgt := 74) 34 rfl (by decide) ?_ ?_
  · refine iz_aload_n (n := 0) 40 0 rfl rfl ?_
    refine iz_aload_n (n := 0) 41 0 rfl rfl ?_
    refine iz_getI 42 40 h0 fl_X10_233 rfl (by decide) (by decide) rfl ?_
    refine iz_putI 43 13 h0 fl_X10_206 rfl (by decide) (by decide) rfl (fun S8 => ?_)
    exact iz_sub [] rfl (c_Mo_layAside_82 h0 S8)
  · refine iz_aload_n (n := 0) 35 0 rfl rfl ?_
    refine iz_aload_n (n := 0) 36 0 rfl rfl ?_
    refine iz_getI 37 13 h0 fl_X10_206 rfl (by decide) (by decide) rfl ?_
    refine iz_putI 38 40 h0 fl_X10_233 rfl (by decide) (by decide) rfl (fun S9 => ?_)
    refine iz_goto (tgt := 82) 39 (by decide) rfl ?_
    exact iz_sub [] rfl (c_Mo_layAside_82 h0 S9)
theorem m_Mo_layAside {X : iz_X} {l : Launch} {a0 : Nat} (h0 : iz_sh a0 = (10 + 3, 48)) {x1 : Int32} {S : iz_S} {r9 : iz_S} (hr : Mo_layAside a0 x1 S = some r9) : iz_Mt X l 1 yX10_layAside cX10_layAside 2 none [.ref (X.1 a0), .int x1] S (iz_eV r9) :=
  iz_Mt_of (dt := tX10_layAside) dX10_layAside (by decide) hr (Nat.le_of_ble_eq_true rfl) (c_Mo_layAside h0 x1 S)
def Mo_after_23b (a0 : Nat) (k23 : Int32 → Int32 → iz_S → Option (Int32 × iz_S)) (x1 : Int32) (x2 : Int32) (S : iz_S) : Option (Int32 × iz_S) :=
  (if x2 < x1 then
    iz_bV (Mo_weekGoes a0 S) (fun S9 =>
    (k23 x1 (x2 + 1) S9))
  else
    iz_bI (Mo_allWeight a0 S) (fun r7 S6 =>
    iz_bV (Mo_layAside a0 0 S6) (fun S8 =>
    some (r7, S8))))
def Mo_after_23 (a0 : Nat) : Nat → Int32 → Int32 → iz_S → Option (Int32 × iz_S)
  | 0 => fun _ _ _ => none
  | n9 + 1 => Mo_after_23b a0 (Mo_after_23 a0 n9)
def Mo_after (a0 : Nat) (x1 : Int32) (S : iz_S) : Option (Int32 × iz_S) :=
  (iz_bI (Mo_isIn x1 0 20 S) (fun r2 S1 =>
  if r2 = 0 then
    iz_bI (Mo_finding a0 1 S1) (fun r5 S4 =>
    some (r5, S4))
  else
    iz_bV (Mo_layAside a0 1 S1) (fun S3 =>
    (Mo_after_23 a0 iz_FU x1 0 S3))))
set_option maxRecDepth 10000 in
theorem c_Mo_after_23b {X : iz_X} {l : Launch} {a0 : Nat} (h0 : iz_sh a0 = (10 + 3, 48)) {k23 : Int32 → Int32 → iz_S → Option (Int32 × iz_S)} (hk23 : ∀ (x1 : Int32) (x2 : Int32) (S : iz_S), iz_Y X l RX10 tX10_after 3 5 (iz_Kc X l yX10_after cX10_after 3 (some .int) 5 iz_eI) 23 [(0, .ref (X.1 a0)), (1, .int x1), (2, .int x2)] [] S (k23 x1 x2 S)) (x1 : Int32) (x2 : Int32) (S : iz_S) : iz_Y X l RX10 tX10_after 3 5 (iz_Kc X l yX10_after cX10_after 3 (some .int) 5 iz_eI) 23 [(0, .ref (X.1 a0)), (1, .int x1), (2, .int x2)] [] S (Mo_after_23b a0 k23 x1 x2 S) := by
  unfold Mo_after_23b
  refine iz_iload_n (n := 2) 14 2 rfl rfl ?_
  refine iz_iload_n (n := 1) 15 1 rfl rfl ?_
  refine iz_cmp_ge (tgt := 38) 16 rfl (by decide) ?_ ?_
  · refine iz_aload_n (n := 0) 21 0 rfl rfl ?_
    refine iz_callVI (As := []) (rest := []) 22 ml_X10_223 cw_X10_allWeight ci_X10_allWeight h0 (fun r9 hr9 => m_Mo_allWeight h0 hr9) rfl (by decide) (by decide) rfl rfl (Nat.le_of_ble_eq_true rfl) (fun r7 S6 => ?_)
    refine iz_istore_n (n := 2) (ls2 := [(0, .ref (X.1 a0)), (2, .int r7)]) 23 [1, 0] rfl (by decide) rfl ?_
    refine iz_aload_n (n := 0) 24 0 rfl rfl ?_
    refine iz_iconst (v := 0) 25 (by decide) rfl ?_
    refine iz_callVV (As := [.int 0]) (rest := []) 26 ml_X10_236 cw_X10_layAside ci_X10_layAside h0 (fun r9 hr9 => m_Mo_layAside h0 hr9) rfl (by decide) (by decide) rfl rfl (Nat.le_of_ble_eq_true rfl) (fun S8 => ?_)
    refine iz_iload_n (n := 2) 27 1 rfl rfl ?_
    exact iz_iret 28 rfl
  · refine iz_aload_n (n := 0) 17 0 rfl rfl ?_
    refine iz_callVV (As := []) (rest := []) 18 ml_X10_220 cw_X10_weekGoes ci_X10_weekGoes h0 (fun r9 hr9 => m_Mo_weekGoes h0 hr9) rfl (by decide) (by decide) rfl rfl (Nat.le_of_ble_eq_true rfl) (fun S9 => ?_)
    refine iz_iinc (v := (x2 + 1)) (ls2 := [(0, .ref (X.1 a0)), (1, .int x1), (2, .int (x2 + 1))]) 19 2 [1, 2, 0] rfl rfl rfl (by decide) rfl ?_
    refine iz_goto (tgt := 23) 20 (by decide) rfl ?_
    exact hk23 x1 (x2 + 1) S9
theorem c_Mo_after_23 {X : iz_X} {l : Launch} {a0 : Nat} (h0 : iz_sh a0 = (10 + 3, 48)) : ∀ (n9 : Nat) (x1 : Int32) (x2 : Int32) (S : iz_S), iz_Y X l RX10 tX10_after 3 5 (iz_Kc X l yX10_after cX10_after 3 (some .int) 5 iz_eI) 23 [(0, .ref (X.1 a0)), (1, .int x1), (2, .int x2)] [] S (Mo_after_23 a0 n9 x1 x2 S)
  | 0 => by
    intros
    exact iz_none
  | n9 + 1 => c_Mo_after_23b h0 (c_Mo_after_23 h0 n9)
set_option maxRecDepth 10000 in
theorem c_Mo_after {X : iz_X} {l : Launch} {a0 : Nat} (h0 : iz_sh a0 = (10 + 3, 48)) (x1 : Int32) (S : iz_S) : iz_Y X l RX10 tX10_after 3 5 (iz_Kc X l yX10_after cX10_after 3 (some .int) 5 iz_eI) 0 [(0, .ref (X.1 a0)), (1, .int x1)] [] S (Mo_after a0 x1 S) := by
  unfold Mo_after
  refine iz_iload_n (n := 1) 0 1 rfl rfl ?_
  refine iz_iconst (v := 0) 1 (by decide) rfl ?_
  refine iz_bipush (v := 20) 2 (by decide) rfl ?_
  refine iz_callSI (As := [.int x1, .int 0, .int 20]) (rest := []) 3 ml_X10_123 cw_X10_isIn ci_X10_isIn (fun r9 hr9 => m_Mo_isIn  hr9) rfl (by decide) rfl rfl (Nat.le_of_ble_eq_true rfl) (fun r2 S1 => ?_)
  refine iz_if_ne (tgt := 16) 4 rfl (by decide) ?_ ?_
  · refine iz_aload_n (n := 0) 9 0 rfl rfl ?_
    refine iz_iconst (v := 1) 10 (by decide) rfl ?_
    refine iz_callVV (As := [.int 1]) (rest := []) 11 ml_X10_236 cw_X10_layAside ci_X10_layAside h0 (fun r9 hr9 => m_Mo_layAside h0 hr9) rfl (by decide) (by decide) rfl rfl (Nat.le_of_ble_eq_true rfl) (fun S3 => ?_)
    refine iz_iconst (v := 0) 12 (by decide) rfl ?_
    refine iz_istore_n (n := 2) (ls2 := [(0, .ref (X.1 a0)), (1, .int x1), (2, .int 0)]) 13 [1, 2, 0] rfl (by decide) rfl ?_
    exact c_Mo_after_23 h0 iz_FU x1 0 S3
  · refine iz_aload_n (n := 0) 5 0 rfl rfl ?_
    refine iz_iconst (v := 1) 6 (by decide) rfl ?_
    refine iz_callVI (As := [.int 1]) (rest := []) 7 ml_X10_127 cw_X10_finding ci_X10_finding h0 (fun r9 hr9 => m_Mo_finding h0 hr9) rfl (by decide) (by decide) rfl rfl (Nat.le_of_ble_eq_true rfl) (fun r5 S4 => ?_)
    exact iz_iret 8 rfl
theorem m_Mo_after {X : iz_X} {l : Launch} {a0 : Nat} (h0 : iz_sh a0 = (10 + 3, 48)) {x1 : Int32} {S : iz_S} {r9 : Int32 × iz_S} (hr : Mo_after a0 x1 S = some r9) : iz_Mt X l 5 yX10_after cX10_after 3 (some .int) [.ref (X.1 a0), .int x1] S (iz_eI r9) :=
  iz_Mt_of (dt := tX10_after) dX10_after (by decide) hr (Nat.le_of_ble_eq_true rfl) (c_Mo_after h0 x1 S)
def Mo_lasts_79 (a0 : Nat) (s0 : Int32) (S : iz_S) : Option (Int32 × iz_S) :=
  some (s0, S)
def Mo_lasts_60 (a0 : Nat) (x2 : Int32) (s0 : Int32) (S : iz_S) : Option (Int32 × iz_S) :=
  (iz_bV (Mo_layAside a0 0 S) (fun S11 =>
  if s0 = 0 then
    iz_bI (Mo_finding a0 2 S11) (fun r13 S12 =>
    (Mo_lasts_79 a0 r13 S12))
  else
    (Mo_lasts_79 a0 x2 S11)))
def Mo_lasts_47 (a0 : Nat) (x1 : Int32) (x2 : Int32) (S : iz_S) : Option (Int32 × iz_S) :=
  (iz_bI (Mo_allWeight a0 S) (fun r10 S9 =>
  if r10 < x1 then
    (Mo_lasts_60 a0 x2 1 S9)
  else
    (Mo_lasts_60 a0 x2 0 S9)))
def Mo_lasts_23b (a0 : Nat) (k23 : Int32 → Int32 → iz_S → Option (Int32 × iz_S)) (x1 : Int32) (x2 : Int32) (S : iz_S) : Option (Int32 × iz_S) :=
  (if x2 < 20 then
    (iz_bI (Mo_allWeight a0 S) (fun r7 S6 =>
    if r7 < x1 then
      (Mo_lasts_47 a0 x1 x2 S6)
    else
      iz_bV (Mo_weekGoes a0 S6) (fun S8 =>
      (k23 x1 (x2 + 1) S8))))
  else
    (Mo_lasts_47 a0 x1 x2 S))
def Mo_lasts_23 (a0 : Nat) : Nat → Int32 → Int32 → iz_S → Option (Int32 × iz_S)
  | 0 => fun _ _ _ => none
  | n9 + 1 => Mo_lasts_23b a0 (Mo_lasts_23 a0 n9)
def Mo_lasts (a0 : Nat) (x1 : Int32) (S : iz_S) : Option (Int32 × iz_S) :=
  (iz_bI (Mo_isIn x1 1 100000 S) (fun r2 S1 =>
  if r2 = 0 then
    iz_bI (Mo_finding a0 1 S1) (fun r5 S4 =>
    some (r5, S4))
  else
    iz_bV (Mo_layAside a0 1 S1) (fun S3 =>
    (Mo_lasts_23 a0 iz_FU x1 0 S3))))
set_option maxRecDepth 10000 in
theorem c_Mo_lasts_79 {X : iz_X} {l : Launch} {a0 : Nat} (h0 : iz_sh a0 = (10 + 3, 48)) (s0 : Int32) (S : iz_S) : iz_Y X l RX10 tX10_lasts 4 5 (iz_Kc X l yX10_lasts cX10_lasts 4 (some .int) 5 iz_eI) 79 [] [.int s0] S (Mo_lasts_79 a0 s0 S) := by
  unfold Mo_lasts_79
  exact iz_iret 43 rfl
set_option maxRecDepth 10000 in
theorem c_Mo_lasts_60 {X : iz_X} {l : Launch} {a0 : Nat} (h0 : iz_sh a0 = (10 + 3, 48)) (x2 : Int32) (s0 : Int32) (S : iz_S) : iz_Y X l RX10 tX10_lasts 4 5 (iz_Kc X l yX10_lasts cX10_lasts 4 (some .int) 5 iz_eI) 60 [(0, .ref (X.1 a0)), (2, .int x2)] [.int s0] S (Mo_lasts_60 a0 x2 s0 S) := by
  unfold Mo_lasts_60
  refine iz_istore_n (n := 3) (ls2 := [(0, .ref (X.1 a0)), (2, .int x2), (3, .int s0)]) 32 [1, 2, 0] rfl (by decide) rfl ?_
  refine iz_aload_n (n := 0) 33 0 rfl rfl ?_
  refine iz_iconst (v := 0) 34 (by decide) rfl ?_
  refine iz_callVV (As := [.int 0]) (rest := []) 35 ml_X10_236 cw_X10_layAside ci_X10_layAside h0 (fun r9 hr9 => m_Mo_layAside h0 hr9) rfl (by decide) (by decide) rfl rfl (Nat.le_of_ble_eq_true rfl) (fun S11 => ?_)
  refine iz_iload_n (n := 3) 36 2 rfl rfl ?_
  refine iz_if_eq (tgt := 74) 37 rfl (by decide) ?_ ?_
  · refine iz_aload_n (n := 0) 40 0 rfl rfl ?_
    refine iz_iconst (v := 2) 41 (by decide) rfl ?_
    refine iz_callVI (As := [.int 2]) (rest := []) 42 ml_X10_127 cw_X10_finding ci_X10_finding h0 (fun r9 hr9 => m_Mo_finding h0 hr9) rfl (by decide) (by decide) rfl rfl (Nat.le_of_ble_eq_true rfl) (fun r13 S12 => ?_)
    exact iz_sub [] rfl (c_Mo_lasts_79 h0 r13 S12)
  · refine iz_iload_n (n := 2) 38 1 rfl rfl ?_
    refine iz_goto (tgt := 79) 39 (by decide) rfl ?_
    exact iz_sub [] rfl (c_Mo_lasts_79 h0 x2 S11)
set_option maxRecDepth 10000 in
theorem c_Mo_lasts_47 {X : iz_X} {l : Launch} {a0 : Nat} (h0 : iz_sh a0 = (10 + 3, 48)) (x1 : Int32) (x2 : Int32) (S : iz_S) : iz_Y X l RX10 tX10_lasts 4 5 (iz_Kc X l yX10_lasts cX10_lasts 4 (some .int) 5 iz_eI) 47 [(0, .ref (X.1 a0)), (1, .int x1), (2, .int x2)] [] S (Mo_lasts_47 a0 x1 x2 S) := by
  unfold Mo_lasts_47
  refine iz_aload_n (n := 0) 25 0 rfl rfl ?_
  refine iz_callVI (As := []) (rest := []) 26 ml_X10_223 cw_X10_allWeight ci_X10_allWeight h0 (fun r9 hr9 => m_Mo_allWeight h0 hr9) rfl (by decide) (by decide) rfl rfl (Nat.le_of_ble_eq_true rfl) (fun r10 S9 => ?_)
  refine iz_iload_n (n := 1) 27 1 rfl rfl ?_
  refine iz_cmp_ge (tgt := 59) 28 rfl (by decide) ?_ ?_
  · refine iz_iconst (v := 0) 31 (by decide) rfl ?_
    exact iz_sub [0, 2] rfl (c_Mo_lasts_60 h0 x2 0 S9)
  · refine iz_iconst (v := 1) 29 (by decide) rfl ?_
    refine iz_goto (tgt := 60) 30 (by decide) rfl ?_
    exact iz_sub [0, 2] rfl (c_Mo_lasts_60 h0 x2 1 S9)
set_option maxRecDepth 10000 in
theorem c_Mo_lasts_23b {X : iz_X} {l : Launch} {a0 : Nat} (h0 : iz_sh a0 = (10 + 3, 48)) {k23 : Int32 → Int32 → iz_S → Option (Int32 × iz_S)} (hk23 : ∀ (x1 : Int32) (x2 : Int32) (S : iz_S), iz_Y X l RX10 tX10_lasts 4 5 (iz_Kc X l yX10_lasts cX10_lasts 4 (some .int) 5 iz_eI) 23 [(0, .ref (X.1 a0)), (1, .int x1), (2, .int x2)] [] S (k23 x1 x2 S)) (x1 : Int32) (x2 : Int32) (S : iz_S) : iz_Y X l RX10 tX10_lasts 4 5 (iz_Kc X l yX10_lasts cX10_lasts 4 (some .int) 5 iz_eI) 23 [(0, .ref (X.1 a0)), (1, .int x1), (2, .int x2)] [] S (Mo_lasts_23b a0 k23 x1 x2 S) := by
  unfold Mo_lasts_23b
  refine iz_iload_n (n := 2) 14 2 rfl rfl ?_
  refine iz_bipush (v := 20) 15 (by decide) rfl ?_
  refine iz_cmp_ge (tgt := 47) 16 rfl (by decide) ?_ ?_
  · exact c_Mo_lasts_47 h0 x1 x2 S
  · refine iz_aload_n (n := 0) 17 0 rfl rfl ?_
    refine iz_callVI (As := []) (rest := []) 18 ml_X10_223 cw_X10_allWeight ci_X10_allWeight h0 (fun r9 hr9 => m_Mo_allWeight h0 hr9) rfl (by decide) (by decide) rfl rfl (Nat.le_of_ble_eq_true rfl) (fun r7 S6 => ?_)
    refine iz_iload_n (n := 1) 19 1 rfl rfl ?_
    refine iz_cmp_lt (tgt := 47) 20 rfl (by decide) ?_ ?_
    · exact c_Mo_lasts_47 h0 x1 x2 S6
    · refine iz_aload_n (n := 0) 21 0 rfl rfl ?_
      refine iz_callVV (As := []) (rest := []) 22 ml_X10_220 cw_X10_weekGoes ci_X10_weekGoes h0 (fun r9 hr9 => m_Mo_weekGoes h0 hr9) rfl (by decide) (by decide) rfl rfl (Nat.le_of_ble_eq_true rfl) (fun S8 => ?_)
      refine iz_iinc (v := (x2 + 1)) (ls2 := [(0, .ref (X.1 a0)), (1, .int x1), (2, .int (x2 + 1))]) 23 2 [1, 2, 0] rfl rfl rfl (by decide) rfl ?_
      refine iz_goto (tgt := 23) 24 (by decide) rfl ?_
      exact hk23 x1 (x2 + 1) S8
theorem c_Mo_lasts_23 {X : iz_X} {l : Launch} {a0 : Nat} (h0 : iz_sh a0 = (10 + 3, 48)) : ∀ (n9 : Nat) (x1 : Int32) (x2 : Int32) (S : iz_S), iz_Y X l RX10 tX10_lasts 4 5 (iz_Kc X l yX10_lasts cX10_lasts 4 (some .int) 5 iz_eI) 23 [(0, .ref (X.1 a0)), (1, .int x1), (2, .int x2)] [] S (Mo_lasts_23 a0 n9 x1 x2 S)
  | 0 => by
    intros
    exact iz_none
  | n9 + 1 => c_Mo_lasts_23b h0 (c_Mo_lasts_23 h0 n9)
set_option maxRecDepth 10000 in
theorem c_Mo_lasts {X : iz_X} {l : Launch} {a0 : Nat} (h0 : iz_sh a0 = (10 + 3, 48)) (x1 : Int32) (S : iz_S) : iz_Y X l RX10 tX10_lasts 4 5 (iz_Kc X l yX10_lasts cX10_lasts 4 (some .int) 5 iz_eI) 0 [(0, .ref (X.1 a0)), (1, .int x1)] [] S (Mo_lasts a0 x1 S) := by
  unfold Mo_lasts
  refine iz_iload_n (n := 1) 0 1 rfl rfl ?_
  refine iz_iconst (v := 1) 1 (by decide) rfl ?_
  refine iz_ldc 2 kc_X10_240 rfl ?_
  refine iz_callSI (As := [.int x1, .int 1, .int 100000]) (rest := []) 3 ml_X10_123 cw_X10_isIn ci_X10_isIn (fun r9 hr9 => m_Mo_isIn  hr9) rfl (by decide) rfl rfl (Nat.le_of_ble_eq_true rfl) (fun r2 S1 => ?_)
  refine iz_if_ne (tgt := 16) 4 rfl (by decide) ?_ ?_
  · refine iz_aload_n (n := 0) 9 0 rfl rfl ?_
    refine iz_iconst (v := 1) 10 (by decide) rfl ?_
    refine iz_callVV (As := [.int 1]) (rest := []) 11 ml_X10_236 cw_X10_layAside ci_X10_layAside h0 (fun r9 hr9 => m_Mo_layAside h0 hr9) rfl (by decide) (by decide) rfl rfl (Nat.le_of_ble_eq_true rfl) (fun S3 => ?_)
    refine iz_iconst (v := 0) 12 (by decide) rfl ?_
    refine iz_istore_n (n := 2) (ls2 := [(0, .ref (X.1 a0)), (1, .int x1), (2, .int 0)]) 13 [1, 2, 0] rfl (by decide) rfl ?_
    exact c_Mo_lasts_23 h0 iz_FU x1 0 S3
  · refine iz_aload_n (n := 0) 5 0 rfl rfl ?_
    refine iz_iconst (v := 1) 6 (by decide) rfl ?_
    refine iz_callVI (As := [.int 1]) (rest := []) 7 ml_X10_127 cw_X10_finding ci_X10_finding h0 (fun r9 hr9 => m_Mo_finding h0 hr9) rfl (by decide) (by decide) rfl rfl (Nat.le_of_ble_eq_true rfl) (fun r5 S4 => ?_)
    exact iz_iret 8 rfl
theorem m_Mo_lasts {X : iz_X} {l : Launch} {a0 : Nat} (h0 : iz_sh a0 = (10 + 3, 48)) {x1 : Int32} {S : iz_S} {r9 : Int32 × iz_S} (hr : Mo_lasts a0 x1 S = some r9) : iz_Mt X l 5 yX10_lasts cX10_lasts 4 (some .int) [.ref (X.1 a0), .int x1] S (iz_eI r9) :=
  iz_Mt_of (dt := tX10_lasts) dX10_lasts (by decide) hr (Nat.le_of_ble_eq_true rfl) (c_Mo_lasts h0 x1 S)
def Mo_findDust_168b (a0 : Nat) (k168 : Int32 → Int32 → iz_S → Option (Int32 × iz_S)) (x2 : Int32) (x4 : Int32) (S : iz_S) : Option (Int32 × iz_S) :=
  (if x4 < 4 then
    iz_ck (iz_in x4 4) (
    iz_ck (iz_in x4 4) (iz_lt (iz_s S (iz_rf a0 10) x4 (iz_g S (iz_rf a0 41) x4)) (fun S2 =>
    (k168 x2 (x4 + 1) S2))))
  else
    some (x2, S))
def Mo_findDust_168 (a0 : Nat) : Nat → Int32 → Int32 → iz_S → Option (Int32 × iz_S)
  | 0 => fun _ _ _ => none
  | n9 + 1 => Mo_findDust_168b a0 (Mo_findDust_168 a0 n9)
def Mo_findDust_159 (a0 : Nat) (k34 : Int32 → Int32 → Int32 → Int32 → iz_S → Option (Int32 × iz_S)) (x1 : Int32) (x2 : Int32) (x3 : Int32) (x4 : Int32) (S : iz_S) : Option (Int32 × iz_S) :=
  (k34 x1 x2 x3 (x4 + 1) S)
def Mo_findDust_133b (a0 : Nat) (k34 : Int32 → Int32 → Int32 → Int32 → iz_S → Option (Int32 × iz_S)) (k133 : Int32 → Int32 → Int32 → Int32 → Int32 → iz_S → Option (Int32 × iz_S)) (x1 : Int32) (x2 : Int32) (x3 : Int32) (x4 : Int32) (x8 : Int32) (S : iz_S) : Option (Int32 × iz_S) :=
  (if x8 < 4 then
    iz_ck (iz_in x8 4) (
    iz_ck (iz_in x8 4) (iz_lt (iz_s S (iz_rf a0 42) x8 (iz_g S (iz_rf a0 10) x8)) (fun S8 =>
    (k133 x1 x2 x3 x4 (x8 + 1) S8))))
  else
    (Mo_findDust_159 a0 k34 x1 x2 x3 x4 S))
def Mo_findDust_133 (a0 : Nat) (k34 : Int32 → Int32 → Int32 → Int32 → iz_S → Option (Int32 × iz_S)) : Nat → Int32 → Int32 → Int32 → Int32 → Int32 → iz_S → Option (Int32 × iz_S)
  | 0 => fun _ _ _ _ _ _ => none
  | n9 + 1 => Mo_findDust_133b a0 k34 (Mo_findDust_133 a0 k34 n9)
def Mo_findDust_124 (a0 : Nat) (k34 : Int32 → Int32 → Int32 → Int32 → iz_S → Option (Int32 × iz_S)) (x1 : Int32) (x4 : Int32) (x6 : Int32) (x7 : Int32) (S : iz_S) : Option (Int32 × iz_S) :=
  (Mo_findDust_133 a0 k34 iz_FU x1 x7 x6 x4 0 S)
def Mo_findDust_52b (a0 : Nat) (k34 : Int32 → Int32 → Int32 → Int32 → iz_S → Option (Int32 × iz_S)) (k52 : Int32 → Int32 → Int32 → Int32 → Int32 → Int32 → Int32 → iz_S → Option (Int32 × iz_S)) (x1 : Int32) (x2 : Int32) (x3 : Int32) (x4 : Int32) (x5 : Int32) (x6 : Int32) (x7 : Int32) (S : iz_S) : Option (Int32 × iz_S) :=
  (if x7 < 0 then
    (if x6 ≤ x1 then
      (iz_bI (Mo_allMelts a0 S) (fun r4 S3 =>
      if r4 < x2 then
        (Mo_findDust_124 a0 k34 x1 x4 x6 r4 S3)
      else
        (if r4 = x2 then
          (if x6 < x3 then
            (Mo_findDust_124 a0 k34 x1 x4 x6 r4 S3)
          else
            (Mo_findDust_159 a0 k34 x1 x2 x3 x4 S3))
        else
          (Mo_findDust_159 a0 k34 x1 x2 x3 x4 S3))))
    else
      (Mo_findDust_159 a0 k34 x1 x2 x3 x4 S))
  else
    iz_ck (iz_in x7 4) (iz_lt (iz_s S (iz_rf a0 10) x7 (x5 - x5 / 11 * 11)) (fun S5 =>
    iz_lt (x5 / 11) (fun v6 =>
    iz_ck (iz_in x7 4) (
    iz_lt (x6 + (iz_g S5 (iz_rf a0 10) x7)) (fun v7 =>
    (k52 x1 x2 x3 x4 v6 v7 (x7 + (-1)) S5)))))))
def Mo_findDust_52 (a0 : Nat) (k34 : Int32 → Int32 → Int32 → Int32 → iz_S → Option (Int32 × iz_S)) : Nat → Int32 → Int32 → Int32 → Int32 → Int32 → Int32 → Int32 → iz_S → Option (Int32 × iz_S)
  | 0 => fun _ _ _ _ _ _ _ _ => none
  | n9 + 1 => Mo_findDust_52b a0 k34 (Mo_findDust_52 a0 k34 n9)
def Mo_findDust_34b (a0 : Nat) (k34 : Int32 → Int32 → Int32 → Int32 → iz_S → Option (Int32 × iz_S)) (x1 : Int32) (x2 : Int32) (x3 : Int32) (x4 : Int32) (S : iz_S) : Option (Int32 × iz_S) :=
  (if x4 < 14641 then
    (Mo_findDust_52 a0 k34 iz_FU x1 x2 x3 x4 x4 0 3 S)
  else
    (Mo_findDust_168 a0 iz_FU x2 0 S))
def Mo_findDust_34 (a0 : Nat) : Nat → Int32 → Int32 → Int32 → Int32 → iz_S → Option (Int32 × iz_S)
  | 0 => fun _ _ _ _ _ => none
  | n9 + 1 => Mo_findDust_34b a0 (Mo_findDust_34 a0 n9)
def Mo_findDust_2b (a0 : Nat) (k2 : Int32 → Int32 → iz_S → Option (Int32 × iz_S)) (x1 : Int32) (x2 : Int32) (S : iz_S) : Option (Int32 × iz_S) :=
  (if x2 < 4 then
    iz_ck (iz_in x2 4) (
    iz_ck (iz_in x2 4) (iz_lt (iz_s S (iz_rf a0 41) x2 (iz_g S (iz_rf a0 10) x2)) (fun S1 =>
    (k2 x1 (x2 + 1) S1))))
  else
    (Mo_findDust_34 a0 iz_FU x1 1000000 1000000 0 S))
def Mo_findDust_2 (a0 : Nat) : Nat → Int32 → Int32 → iz_S → Option (Int32 × iz_S)
  | 0 => fun _ _ _ => none
  | n9 + 1 => Mo_findDust_2b a0 (Mo_findDust_2 a0 n9)
def Mo_findDust (a0 : Nat) (x1 : Int32) (S : iz_S) : Option (Int32 × iz_S) :=
  (Mo_findDust_2 a0 iz_FU x1 0 S)
set_option maxRecDepth 10000 in
theorem c_Mo_findDust_168b {X : iz_X} {l : Launch} {a0 : Nat} (h0 : iz_sh a0 = (10 + 3, 48)) {k168 : Int32 → Int32 → iz_S → Option (Int32 × iz_S)} (hk168 : ∀ (x2 : Int32) (x4 : Int32) (S : iz_S), iz_Y X l RX10 tX10_findDust 9 3 (iz_Kc X l yX10_findDust cX10_findDust 9 (some .int) 3 iz_eI) 168 [(0, .ref (X.1 a0)), (2, .int x2), (4, .int x4)] [] S (k168 x2 x4 S)) (x2 : Int32) (x4 : Int32) (S : iz_S) : iz_Y X l RX10 tX10_findDust 9 3 (iz_Kc X l yX10_findDust cX10_findDust 9 (some .int) 3 iz_eI) 168 [(0, .ref (X.1 a0)), (2, .int x2), (4, .int x4)] [] S (Mo_findDust_168b a0 k168 x2 x4 S) := by
  unfold Mo_findDust_168b
  refine iz_iload (n := 4) 90 2 rfl rfl ?_
  refine iz_iconst (v := 4) 91 (by decide) rfl ?_
  refine iz_cmp_ge (tgt := 194) 92 rfl (by decide) ?_ ?_
  · refine iz_iload_n (n := 2) 103 1 rfl rfl ?_
    exact iz_iret 104 rfl
  · refine iz_aload_n (n := 0) 93 0 rfl rfl ?_
    refine iz_getR 94 10 h0 fl_X10_38 rfl (by decide) (by decide) rfl ?_
    refine iz_iload (n := 4) 95 2 rfl rfl ?_
    refine iz_aload_n (n := 0) 96 0 rfl rfl ?_
    refine iz_getR 97 41 h0 fl_X10_107 rfl (by decide) (by decide) rfl ?_
    refine iz_iload (n := 4) 98 2 rfl rfl ?_
    refine iz_iald 99 (sf_10_41 h0) rfl ?_
    refine iz_iast 100 (sf_10_10 h0) rfl (fun S2 => ?_)
    refine iz_iinc (v := (x4 + 1)) (ls2 := [(0, .ref (X.1 a0)), (2, .int x2), (4, .int (x4 + 1))]) 101 2 [1, 2, 0] rfl rfl rfl (by decide) rfl ?_
    refine iz_goto (tgt := 168) 102 (by decide) rfl ?_
    exact hk168 x2 (x4 + 1) S2
theorem c_Mo_findDust_168 {X : iz_X} {l : Launch} {a0 : Nat} (h0 : iz_sh a0 = (10 + 3, 48)) : ∀ (n9 : Nat) (x2 : Int32) (x4 : Int32) (S : iz_S), iz_Y X l RX10 tX10_findDust 9 3 (iz_Kc X l yX10_findDust cX10_findDust 9 (some .int) 3 iz_eI) 168 [(0, .ref (X.1 a0)), (2, .int x2), (4, .int x4)] [] S (Mo_findDust_168 a0 n9 x2 x4 S)
  | 0 => by
    intros
    exact iz_none
  | n9 + 1 => c_Mo_findDust_168b h0 (c_Mo_findDust_168 h0 n9)
set_option maxRecDepth 10000 in
theorem c_Mo_findDust_159 {X : iz_X} {l : Launch} {a0 : Nat} (h0 : iz_sh a0 = (10 + 3, 48)) {k34 : Int32 → Int32 → Int32 → Int32 → iz_S → Option (Int32 × iz_S)} (hk34 : ∀ (x1 : Int32) (x2 : Int32) (x3 : Int32) (x4 : Int32) (S : iz_S), iz_Y X l RX10 tX10_findDust 9 3 (iz_Kc X l yX10_findDust cX10_findDust 9 (some .int) 3 iz_eI) 34 [(0, .ref (X.1 a0)), (1, .int x1), (2, .int x2), (3, .int x3), (4, .int x4)] [] S (k34 x1 x2 x3 x4 S)) (x1 : Int32) (x2 : Int32) (x3 : Int32) (x4 : Int32) (S : iz_S) : iz_Y X l RX10 tX10_findDust 9 3 (iz_Kc X l yX10_findDust cX10_findDust 9 (some .int) 3 iz_eI) 159 [(0, .ref (X.1 a0)), (1, .int x1), (2, .int x2), (3, .int x3), (4, .int x4)] [] S (Mo_findDust_159 a0 k34 x1 x2 x3 x4 S) := by
  unfold Mo_findDust_159
  refine iz_iinc (v := (x4 + 1)) (ls2 := [(0, .ref (X.1 a0)), (1, .int x1), (2, .int x2), (3, .int x3), (4, .int (x4 + 1))]) 86 4 [1, 2, 3, 4, 0] rfl rfl rfl (by decide) rfl ?_
  refine iz_goto (tgt := 34) 87 (by decide) rfl ?_
  exact hk34 x1 x2 x3 (x4 + 1) S
set_option maxRecDepth 10000 in
theorem c_Mo_findDust_133b {X : iz_X} {l : Launch} {a0 : Nat} (h0 : iz_sh a0 = (10 + 3, 48)) {k34 : Int32 → Int32 → Int32 → Int32 → iz_S → Option (Int32 × iz_S)} {k133 : Int32 → Int32 → Int32 → Int32 → Int32 → iz_S → Option (Int32 × iz_S)} (hk34 : ∀ (x1 : Int32) (x2 : Int32) (x3 : Int32) (x4 : Int32) (S : iz_S), iz_Y X l RX10 tX10_findDust 9 3 (iz_Kc X l yX10_findDust cX10_findDust 9 (some .int) 3 iz_eI) 34 [(0, .ref (X.1 a0)), (1, .int x1), (2, .int x2), (3, .int x3), (4, .int x4)] [] S (k34 x1 x2 x3 x4 S)) (hk133 : ∀ (x1 : Int32) (x2 : Int32) (x3 : Int32) (x4 : Int32) (x8 : Int32) (S : iz_S), iz_Y X l RX10 tX10_findDust 9 3 (iz_Kc X l yX10_findDust cX10_findDust 9 (some .int) 3 iz_eI) 133 [(0, .ref (X.1 a0)), (1, .int x1), (2, .int x2), (3, .int x3), (4, .int x4), (8, .int x8)] [] S (k133 x1 x2 x3 x4 x8 S)) (x1 : Int32) (x2 : Int32) (x3 : Int32) (x4 : Int32) (x8 : Int32) (S : iz_S) : iz_Y X l RX10 tX10_findDust 9 3 (iz_Kc X l yX10_findDust cX10_findDust 9 (some .int) 3 iz_eI) 133 [(0, .ref (X.1 a0)), (1, .int x1), (2, .int x2), (3, .int x3), (4, .int x4), (8, .int x8)] [] S (Mo_findDust_133b a0 k34 k133 x1 x2 x3 x4 x8 S) := by
  unfold Mo_findDust_133b
  refine iz_iload (n := 8) 73 5 rfl rfl ?_
  refine iz_iconst (v := 4) 74 (by decide) rfl ?_
  refine iz_cmp_ge (tgt := 159) 75 rfl (by decide) ?_ ?_
  · exact iz_sub [0, 1, 2, 3, 4] rfl (c_Mo_findDust_159 h0 hk34 x1 x2 x3 x4 S)
  · refine iz_aload_n (n := 0) 76 0 rfl rfl ?_
    refine iz_getR 77 42 h0 fl_X10_110 rfl (by decide) (by decide) rfl ?_
    refine iz_iload (n := 8) 78 5 rfl rfl ?_
    refine iz_aload_n (n := 0) 79 0 rfl rfl ?_
    refine iz_getR 80 10 h0 fl_X10_38 rfl (by decide) (by decide) rfl ?_
    refine iz_iload (n := 8) 81 5 rfl rfl ?_
    refine iz_iald 82 (sf_10_10 h0) rfl ?_
    refine iz_iast 83 (sf_10_42 h0) rfl (fun S8 => ?_)
    refine iz_iinc (v := (x8 + 1)) (ls2 := [(0, .ref (X.1 a0)), (1, .int x1), (2, .int x2), (3, .int x3), (4, .int x4), (8, .int (x8 + 1))]) 84 5 [1, 2, 3, 4, 5, 0] rfl rfl rfl (by decide) rfl ?_
    refine iz_goto (tgt := 133) 85 (by decide) rfl ?_
    exact hk133 x1 x2 x3 x4 (x8 + 1) S8
theorem c_Mo_findDust_133 {X : iz_X} {l : Launch} {a0 : Nat} (h0 : iz_sh a0 = (10 + 3, 48)) {k34 : Int32 → Int32 → Int32 → Int32 → iz_S → Option (Int32 × iz_S)} (hk34 : ∀ (x1 : Int32) (x2 : Int32) (x3 : Int32) (x4 : Int32) (S : iz_S), iz_Y X l RX10 tX10_findDust 9 3 (iz_Kc X l yX10_findDust cX10_findDust 9 (some .int) 3 iz_eI) 34 [(0, .ref (X.1 a0)), (1, .int x1), (2, .int x2), (3, .int x3), (4, .int x4)] [] S (k34 x1 x2 x3 x4 S)) : ∀ (n9 : Nat) (x1 : Int32) (x2 : Int32) (x3 : Int32) (x4 : Int32) (x8 : Int32) (S : iz_S), iz_Y X l RX10 tX10_findDust 9 3 (iz_Kc X l yX10_findDust cX10_findDust 9 (some .int) 3 iz_eI) 133 [(0, .ref (X.1 a0)), (1, .int x1), (2, .int x2), (3, .int x3), (4, .int x4), (8, .int x8)] [] S (Mo_findDust_133 a0 k34 n9 x1 x2 x3 x4 x8 S)
  | 0 => by
    intros
    exact iz_none
  | n9 + 1 => c_Mo_findDust_133b h0 hk34 (c_Mo_findDust_133 h0 hk34 n9)
set_option maxRecDepth 10000 in
theorem c_Mo_findDust_124 {X : iz_X} {l : Launch} {a0 : Nat} (h0 : iz_sh a0 = (10 + 3, 48)) {k34 : Int32 → Int32 → Int32 → Int32 → iz_S → Option (Int32 × iz_S)} (hk34 : ∀ (x1 : Int32) (x2 : Int32) (x3 : Int32) (x4 : Int32) (S : iz_S), iz_Y X l RX10 tX10_findDust 9 3 (iz_Kc X l yX10_findDust cX10_findDust 9 (some .int) 3 iz_eI) 34 [(0, .ref (X.1 a0)), (1, .int x1), (2, .int x2), (3, .int x3), (4, .int x4)] [] S (k34 x1 x2 x3 x4 S)) (x1 : Int32) (x4 : Int32) (x6 : Int32) (x7 : Int32) (S : iz_S) : iz_Y X l RX10 tX10_findDust 9 3 (iz_Kc X l yX10_findDust cX10_findDust 9 (some .int) 3 iz_eI) 124 [(0, .ref (X.1 a0)), (1, .int x1), (4, .int x4), (6, .int x6), (7, .int x7)] [] S (Mo_findDust_124 a0 k34 x1 x4 x6 x7 S) := by
  unfold Mo_findDust_124
  refine iz_iload (n := 7) 67 4 rfl rfl ?_
  refine iz_istore_n (n := 2) (ls2 := [(0, .ref (X.1 a0)), (1, .int x1), (2, .int x7), (4, .int x4), (6, .int x6)]) 68 [1, 2, 0, 3, 4] rfl (by decide) rfl ?_
  refine iz_iload (n := 6) 69 4 rfl rfl ?_
  refine iz_istore_n (n := 3) (ls2 := [(0, .ref (X.1 a0)), (1, .int x1), (2, .int x7), (3, .int x6), (4, .int x4)]) 70 [1, 2, 3, 0, 4] rfl (by decide) rfl ?_
  refine iz_iconst (v := 0) 71 (by decide) rfl ?_
  refine iz_istore (n := 8) (ls2 := [(0, .ref (X.1 a0)), (1, .int x1), (2, .int x7), (3, .int x6), (4, .int x4), (8, .int 0)]) 72 [1, 2, 3, 4, 5, 0] rfl (by decide) rfl ?_
  exact c_Mo_findDust_133 h0 hk34 iz_FU x1 x7 x6 x4 0 S
set_option maxRecDepth 10000 in
theorem c_Mo_findDust_52b {X : iz_X} {l : Launch} {a0 : Nat} (h0 : iz_sh a0 = (10 + 3, 48)) {k34 : Int32 → Int32 → Int32 → Int32 → iz_S → Option (Int32 × iz_S)} {k52 : Int32 → Int32 → Int32 → Int32 → Int32 → Int32 → Int32 → iz_S → Option (Int32 × iz_S)} (hk34 : ∀ (x1 : Int32) (x2 : Int32) (x3 : Int32) (x4 : Int32) (S : iz_S), iz_Y X l RX10 tX10_findDust 9 3 (iz_Kc X l yX10_findDust cX10_findDust 9 (some .int) 3 iz_eI) 34 [(0, .ref (X.1 a0)), (1, .int x1), (2, .int x2), (3, .int x3), (4, .int x4)] [] S (k34 x1 x2 x3 x4 S)) (hk52 : ∀ (x1 : Int32) (x2 : Int32) (x3 : Int32) (x4 : Int32) (x5 : Int32) (x6 : Int32) (x7 : Int32) (S : iz_S), iz_Y X l RX10 tX10_findDust 9 3 (iz_Kc X l yX10_findDust cX10_findDust 9 (some .int) 3 iz_eI) 52 [(0, .ref (X.1 a0)), (1, .int x1), (2, .int x2), (3, .int x3), (4, .int x4), (5, .int x5), (6, .int x6), (7, .int x7)] [] S (k52 x1 x2 x3 x4 x5 x6 x7 S)) (x1 : Int32) (x2 : Int32) (x3 : Int32) (x4 : Int32) (x5 : Int32) (x6 : Int32) (x7 : Int32) (S : iz_S) : iz_Y X l RX10 tX10_findDust 9 3 (iz_Kc X l yX10_findDust cX10_findDust 9 (some .int) 3 iz_eI) 52 [(0, .ref (X.1 a0)), (1, .int x1), (2, .int x2), (3, .int x3), (4, .int x4), (5, .int x5), (6, .int x6), (7, .int x7)] [] S (Mo_findDust_52b a0 k34 k52 x1 x2 x3 x4 x5 x6 x7 S) := by
  unfold Mo_findDust_52b
  refine iz_iload (n := 7) 30 7 rfl rfl ?_
  refine iz_if_lt (tgt := 94) 31 rfl (by decide) ?_ ?_
  · refine iz_iload (n := 6) 52 6 rfl rfl ?_
    refine iz_iload_n (n := 1) 53 1 rfl rfl ?_
    refine iz_cmp_gt (tgt := 159) 54 rfl (by decide) ?_ ?_
    · exact iz_sub [0, 1, 2, 3, 4] rfl (c_Mo_findDust_159 h0 hk34 x1 x2 x3 x4 S)
    · refine iz_aload_n (n := 0) 55 0 rfl rfl ?_
      refine iz_callVI (As := []) (rest := []) 56 ml_X10_216 cw_X10_allMelts ci_X10_allMelts h0 (fun r9 hr9 => m_Mo_allMelts h0 hr9) rfl (by decide) (by decide) rfl rfl (Nat.le_of_ble_eq_true rfl) (fun r4 S3 => ?_)
      refine iz_istore (n := 7) (ls2 := [(0, .ref (X.1 a0)), (1, .int x1), (2, .int x2), (3, .int x3), (4, .int x4), (6, .int x6), (7, .int r4)]) 57 [1, 2, 3, 4, 5, 7, 0] rfl (by decide) rfl ?_
      refine iz_iload (n := 7) 58 6 rfl rfl ?_
      refine iz_iload_n (n := 2) 59 2 rfl rfl ?_
      refine iz_cmp_lt (tgt := 124) 60 rfl (by decide) ?_ ?_
      · exact iz_sub [0, 1, 4, 5, 6] rfl (c_Mo_findDust_124 h0 hk34 x1 x4 x6 r4 S3)
      · refine iz_iload (n := 7) 61 6 rfl rfl ?_
        refine iz_iload_n (n := 2) 62 2 rfl rfl ?_
        refine iz_cmp_ne (tgt := 159) 63 rfl (by decide) ?_ ?_
        · exact iz_sub [0, 1, 2, 3, 4] rfl (c_Mo_findDust_159 h0 hk34 x1 x2 x3 x4 S3)
        · refine iz_iload (n := 6) 64 5 rfl rfl ?_
          refine iz_iload_n (n := 3) 65 3 rfl rfl ?_
          refine iz_cmp_ge (tgt := 159) 66 rfl (by decide) ?_ ?_
          · exact iz_sub [0, 1, 2, 3, 4] rfl (c_Mo_findDust_159 h0 hk34 x1 x2 x3 x4 S3)
          · exact iz_sub [0, 1, 4, 5, 6] rfl (c_Mo_findDust_124 h0 hk34 x1 x4 x6 r4 S3)
  · refine iz_aload_n (n := 0) 32 0 rfl rfl ?_
    refine iz_getR 33 10 h0 fl_X10_38 rfl (by decide) (by decide) rfl ?_
    refine iz_iload (n := 7) 34 7 rfl rfl ?_
    refine iz_iload (n := 5) 35 5 rfl rfl ?_
    refine iz_bipush (v := 11) 36 (by decide) rfl ?_
    refine iz_irem 37 (by decide) rfl ?_
    refine iz_iast 38 (sf_10_10 h0) rfl (fun S5 => ?_)
    refine iz_iload (n := 5) 39 5 rfl rfl ?_
    refine iz_bipush (v := 11) 40 (by decide) rfl ?_
    refine iz_idiv 41 (by decide) rfl ?_
    refine iz_let (fun v6 => ?_)
    refine iz_istore (n := 5) (ls2 := [(0, .ref (X.1 a0)), (1, .int x1), (2, .int x2), (3, .int x3), (4, .int x4), (5, .int v6), (6, .int x6), (7, .int x7)]) 42 [1, 2, 3, 4, 5, 0, 6, 7] rfl (by decide) rfl ?_
    refine iz_iload (n := 6) 43 6 rfl rfl ?_
    refine iz_aload_n (n := 0) 44 0 rfl rfl ?_
    refine iz_getR 45 10 h0 fl_X10_38 rfl (by decide) (by decide) rfl ?_
    refine iz_iload (n := 7) 46 7 rfl rfl ?_
    refine iz_iald 47 (sf_10_10 h0) rfl ?_
    refine iz_iadd 48 rfl ?_
    refine iz_let (fun v7 => ?_)
    refine iz_istore (n := 6) (ls2 := [(0, .ref (X.1 a0)), (1, .int x1), (2, .int x2), (3, .int x3), (4, .int x4), (5, .int v6), (6, .int v7), (7, .int x7)]) 49 [1, 2, 3, 4, 5, 6, 0, 7] rfl (by decide) rfl ?_
    refine iz_iinc (v := (x7 + (-1))) (ls2 := [(0, .ref (X.1 a0)), (1, .int x1), (2, .int x2), (3, .int x3), (4, .int x4), (5, .int v6), (6, .int v7), (7, .int (x7 + (-1)))]) 50 7 [1, 2, 3, 4, 5, 6, 7, 0] rfl rfl rfl (by decide) rfl ?_
    refine iz_goto (tgt := 52) 51 (by decide) rfl ?_
    exact hk52 x1 x2 x3 x4 v6 v7 (x7 + (-1)) S5
theorem c_Mo_findDust_52 {X : iz_X} {l : Launch} {a0 : Nat} (h0 : iz_sh a0 = (10 + 3, 48)) {k34 : Int32 → Int32 → Int32 → Int32 → iz_S → Option (Int32 × iz_S)} (hk34 : ∀ (x1 : Int32) (x2 : Int32) (x3 : Int32) (x4 : Int32) (S : iz_S), iz_Y X l RX10 tX10_findDust 9 3 (iz_Kc X l yX10_findDust cX10_findDust 9 (some .int) 3 iz_eI) 34 [(0, .ref (X.1 a0)), (1, .int x1), (2, .int x2), (3, .int x3), (4, .int x4)] [] S (k34 x1 x2 x3 x4 S)) : ∀ (n9 : Nat) (x1 : Int32) (x2 : Int32) (x3 : Int32) (x4 : Int32) (x5 : Int32) (x6 : Int32) (x7 : Int32) (S : iz_S), iz_Y X l RX10 tX10_findDust 9 3 (iz_Kc X l yX10_findDust cX10_findDust 9 (some .int) 3 iz_eI) 52 [(0, .ref (X.1 a0)), (1, .int x1), (2, .int x2), (3, .int x3), (4, .int x4), (5, .int x5), (6, .int x6), (7, .int x7)] [] S (Mo_findDust_52 a0 k34 n9 x1 x2 x3 x4 x5 x6 x7 S)
  | 0 => by
    intros
    exact iz_none
  | n9 + 1 => c_Mo_findDust_52b h0 hk34 (c_Mo_findDust_52 h0 hk34 n9)
set_option maxRecDepth 10000 in
theorem c_Mo_findDust_34b {X : iz_X} {l : Launch} {a0 : Nat} (h0 : iz_sh a0 = (10 + 3, 48)) {k34 : Int32 → Int32 → Int32 → Int32 → iz_S → Option (Int32 × iz_S)} (hk34 : ∀ (x1 : Int32) (x2 : Int32) (x3 : Int32) (x4 : Int32) (S : iz_S), iz_Y X l RX10 tX10_findDust 9 3 (iz_Kc X l yX10_findDust cX10_findDust 9 (some .int) 3 iz_eI) 34 [(0, .ref (X.1 a0)), (1, .int x1), (2, .int x2), (3, .int x3), (4, .int x4)] [] S (k34 x1 x2 x3 x4 S)) (x1 : Int32) (x2 : Int32) (x3 : Int32) (x4 : Int32) (S : iz_S) : iz_Y X l RX10 tX10_findDust 9 3 (iz_Kc X l yX10_findDust cX10_findDust 9 (some .int) 3 iz_eI) 34 [(0, .ref (X.1 a0)), (1, .int x1), (2, .int x2), (3, .int x3), (4, .int x4)] [] S (Mo_findDust_34b a0 k34 x1 x2 x3 x4 S) := by
  unfold Mo_findDust_34b
  refine iz_iload (n := 4) 21 4 rfl rfl ?_
  refine iz_sipush (v := 14641) 22 (by decide) rfl ?_
  refine iz_cmp_ge (tgt := 165) 23 rfl (by decide) ?_ ?_
  · refine iz_iconst (v := 0) 88 (by decide) rfl ?_
    refine iz_istore (n := 4) (ls2 := [(0, .ref (X.1 a0)), (2, .int x2), (4, .int 0)]) 89 [1, 3, 0] rfl (by decide) rfl ?_
    exact c_Mo_findDust_168 h0 iz_FU x2 0 S
  · refine iz_iload (n := 4) 24 4 rfl rfl ?_
    refine iz_istore (n := 5) (ls2 := [(0, .ref (X.1 a0)), (1, .int x1), (2, .int x2), (3, .int x3), (4, .int x4), (5, .int x4)]) 25 [1, 2, 3, 4, 5, 0] rfl (by decide) rfl ?_
    refine iz_iconst (v := 0) 26 (by decide) rfl ?_
    refine iz_istore (n := 6) (ls2 := [(0, .ref (X.1 a0)), (1, .int x1), (2, .int x2), (3, .int x3), (4, .int x4), (5, .int x4), (6, .int 0)]) 27 [1, 2, 3, 4, 5, 6, 0] rfl (by decide) rfl ?_
    refine iz_iconst (v := 3) 28 (by decide) rfl ?_
    refine iz_istore (n := 7) (ls2 := [(0, .ref (X.1 a0)), (1, .int x1), (2, .int x2), (3, .int x3), (4, .int x4), (5, .int x4), (6, .int 0), (7, .int 3)]) 29 [1, 2, 3, 4, 5, 6, 7, 0] rfl (by decide) rfl ?_
    exact c_Mo_findDust_52 h0 hk34 iz_FU x1 x2 x3 x4 x4 0 3 S
theorem c_Mo_findDust_34 {X : iz_X} {l : Launch} {a0 : Nat} (h0 : iz_sh a0 = (10 + 3, 48)) : ∀ (n9 : Nat) (x1 : Int32) (x2 : Int32) (x3 : Int32) (x4 : Int32) (S : iz_S), iz_Y X l RX10 tX10_findDust 9 3 (iz_Kc X l yX10_findDust cX10_findDust 9 (some .int) 3 iz_eI) 34 [(0, .ref (X.1 a0)), (1, .int x1), (2, .int x2), (3, .int x3), (4, .int x4)] [] S (Mo_findDust_34 a0 n9 x1 x2 x3 x4 S)
  | 0 => by
    intros
    exact iz_none
  | n9 + 1 => c_Mo_findDust_34b h0 (c_Mo_findDust_34 h0 n9)
set_option maxRecDepth 10000 in
theorem c_Mo_findDust_2b {X : iz_X} {l : Launch} {a0 : Nat} (h0 : iz_sh a0 = (10 + 3, 48)) {k2 : Int32 → Int32 → iz_S → Option (Int32 × iz_S)} (hk2 : ∀ (x1 : Int32) (x2 : Int32) (S : iz_S), iz_Y X l RX10 tX10_findDust 9 3 (iz_Kc X l yX10_findDust cX10_findDust 9 (some .int) 3 iz_eI) 2 [(0, .ref (X.1 a0)), (1, .int x1), (2, .int x2)] [] S (k2 x1 x2 S)) (x1 : Int32) (x2 : Int32) (S : iz_S) : iz_Y X l RX10 tX10_findDust 9 3 (iz_Kc X l yX10_findDust cX10_findDust 9 (some .int) 3 iz_eI) 2 [(0, .ref (X.1 a0)), (1, .int x1), (2, .int x2)] [] S (Mo_findDust_2b a0 k2 x1 x2 S) := by
  unfold Mo_findDust_2b
  refine iz_iload_n (n := 2) 2 2 rfl rfl ?_
  refine iz_iconst (v := 4) 3 (by decide) rfl ?_
  refine iz_cmp_ge (tgt := 25) 4 rfl (by decide) ?_ ?_
  · refine iz_ldc 15 kc_X10_241 rfl ?_
    refine iz_istore_n (n := 2) (ls2 := [(0, .ref (X.1 a0)), (1, .int x1), (2, .int 1000000)]) 16 [1, 2, 0] rfl (by decide) rfl ?_
    refine iz_ldc 17 kc_X10_241 rfl ?_
    refine iz_istore_n (n := 3) (ls2 := [(0, .ref (X.1 a0)), (1, .int x1), (2, .int 1000000), (3, .int 1000000)]) 18 [1, 2, 3, 0] rfl (by decide) rfl ?_
    refine iz_iconst (v := 0) 19 (by decide) rfl ?_
    refine iz_istore (n := 4) (ls2 := [(0, .ref (X.1 a0)), (1, .int x1), (2, .int 1000000), (3, .int 1000000), (4, .int 0)]) 20 [1, 2, 3, 4, 0] rfl (by decide) rfl ?_
    exact c_Mo_findDust_34 h0 iz_FU x1 1000000 1000000 0 S
  · refine iz_aload_n (n := 0) 5 0 rfl rfl ?_
    refine iz_getR 6 41 h0 fl_X10_107 rfl (by decide) (by decide) rfl ?_
    refine iz_iload_n (n := 2) 7 2 rfl rfl ?_
    refine iz_aload_n (n := 0) 8 0 rfl rfl ?_
    refine iz_getR 9 10 h0 fl_X10_38 rfl (by decide) (by decide) rfl ?_
    refine iz_iload_n (n := 2) 10 2 rfl rfl ?_
    refine iz_iald 11 (sf_10_10 h0) rfl ?_
    refine iz_iast 12 (sf_10_41 h0) rfl (fun S1 => ?_)
    refine iz_iinc (v := (x2 + 1)) (ls2 := [(0, .ref (X.1 a0)), (1, .int x1), (2, .int (x2 + 1))]) 13 2 [1, 2, 0] rfl rfl rfl (by decide) rfl ?_
    refine iz_goto (tgt := 2) 14 (by decide) rfl ?_
    exact hk2 x1 (x2 + 1) S1
theorem c_Mo_findDust_2 {X : iz_X} {l : Launch} {a0 : Nat} (h0 : iz_sh a0 = (10 + 3, 48)) : ∀ (n9 : Nat) (x1 : Int32) (x2 : Int32) (S : iz_S), iz_Y X l RX10 tX10_findDust 9 3 (iz_Kc X l yX10_findDust cX10_findDust 9 (some .int) 3 iz_eI) 2 [(0, .ref (X.1 a0)), (1, .int x1), (2, .int x2)] [] S (Mo_findDust_2 a0 n9 x1 x2 S)
  | 0 => by
    intros
    exact iz_none
  | n9 + 1 => c_Mo_findDust_2b h0 (c_Mo_findDust_2 h0 n9)
set_option maxRecDepth 10000 in
theorem c_Mo_findDust {X : iz_X} {l : Launch} {a0 : Nat} (h0 : iz_sh a0 = (10 + 3, 48)) (x1 : Int32) (S : iz_S) : iz_Y X l RX10 tX10_findDust 9 3 (iz_Kc X l yX10_findDust cX10_findDust 9 (some .int) 3 iz_eI) 0 [(0, .ref (X.1 a0)), (1, .int x1)] [] S (Mo_findDust a0 x1 S) := by
  unfold Mo_findDust
  refine iz_iconst (v := 0) 0 (by decide) rfl ?_
  refine iz_istore_n (n := 2) (ls2 := [(0, .ref (X.1 a0)), (1, .int x1), (2, .int 0)]) 1 [1, 2, 0] rfl (by decide) rfl ?_
  exact c_Mo_findDust_2 h0 iz_FU x1 0 S
theorem m_Mo_findDust {X : iz_X} {l : Launch} {a0 : Nat} (h0 : iz_sh a0 = (10 + 3, 48)) {x1 : Int32} {S : iz_S} {r9 : Int32 × iz_S} (hr : Mo_findDust a0 x1 S = some r9) : iz_Mt X l 3 yX10_findDust cX10_findDust 9 (some .int) [.ref (X.1 a0), .int x1] S (iz_eI r9) :=
  iz_Mt_of (dt := tX10_findDust) dX10_findDust (by decide) hr (Nat.le_of_ble_eq_true rfl) (c_Mo_findDust h0 x1 S)
def Mo_best_19 (a0 : Nat) (S : iz_S) : Option (Int32 × iz_S) :=
  iz_bI (Mo_finding a0 1 S) (fun r8 S7 =>
  some (r8, S7))
def Mo_best_47 (a0 : Nat) (s0 : Int32) (S : iz_S) : Option (Int32 × iz_S) :=
  some (s0, S)
def Mo_best (a0 : Nat) (x1 : Int32) (x2 : Int32) (S : iz_S) : Option (Int32 × iz_S) :=
  (iz_bI (Mo_isIn x1 0 40 S) (fun r2 S1 =>
  if r2 = 0 then
    (Mo_best_19 a0 S1)
  else
    (iz_bI (Mo_isIn x2 0 4 S1) (fun r4 S3 =>
    if r4 = 0 then
      (Mo_best_19 a0 S3)
    else
      (iz_bI (Mo_findDust a0 x1 S3) (fun r6 S5 =>
      if x2 = 0 then
        (Mo_best_47 a0 r6 S5)
      else
        iz_ck (iz_in (x2 - 1) 4) (
        (Mo_best_47 a0 (iz_g S5 (iz_rf a0 42) (x2 - 1)) S5))))))))
set_option maxRecDepth 10000 in
theorem c_Mo_best_19 {X : iz_X} {l : Launch} {a0 : Nat} (h0 : iz_sh a0 = (10 + 3, 48)) (S : iz_S) : iz_Y X l RX10 tX10_best 4 4 (iz_Kc X l yX10_best cX10_best 4 (some .int) 4 iz_eI) 19 [(0, .ref (X.1 a0))] [] S (Mo_best_19 a0 S) := by
  unfold Mo_best_19
  refine iz_aload_n (n := 0) 10 0 rfl rfl ?_
  refine iz_iconst (v := 1) 11 (by decide) rfl ?_
  refine iz_callVI (As := [.int 1]) (rest := []) 12 ml_X10_127 cw_X10_finding ci_X10_finding h0 (fun r9 hr9 => m_Mo_finding h0 hr9) rfl (by decide) (by decide) rfl rfl (Nat.le_of_ble_eq_true rfl) (fun r8 S7 => ?_)
  exact iz_iret 13 rfl
set_option maxRecDepth 10000 in
theorem c_Mo_best_47 {X : iz_X} {l : Launch} {a0 : Nat} (h0 : iz_sh a0 = (10 + 3, 48)) (s0 : Int32) (S : iz_S) : iz_Y X l RX10 tX10_best 4 4 (iz_Kc X l yX10_best cX10_best 4 (some .int) 4 iz_eI) 47 [] [.int s0] S (Mo_best_47 a0 s0 S) := by
  unfold Mo_best_47
  exact iz_iret 28 rfl
set_option maxRecDepth 10000 in
theorem c_Mo_best {X : iz_X} {l : Launch} {a0 : Nat} (h0 : iz_sh a0 = (10 + 3, 48)) (x1 : Int32) (x2 : Int32) (S : iz_S) : iz_Y X l RX10 tX10_best 4 4 (iz_Kc X l yX10_best cX10_best 4 (some .int) 4 iz_eI) 0 [(0, .ref (X.1 a0)), (1, .int x1), (2, .int x2)] [] S (Mo_best a0 x1 x2 S) := by
  unfold Mo_best
  refine iz_iload_n (n := 1) 0 1 rfl rfl ?_
  refine iz_iconst (v := 0) 1 (by decide) rfl ?_
  refine iz_bipush (v := 40) 2 (by decide) rfl ?_
  refine iz_callSI (As := [.int x1, .int 0, .int 40]) (rest := []) 3 ml_X10_123 cw_X10_isIn ci_X10_isIn (fun r9 hr9 => m_Mo_isIn  hr9) rfl (by decide) rfl rfl (Nat.le_of_ble_eq_true rfl) (fun r2 S1 => ?_)
  refine iz_if_eq (tgt := 19) 4 rfl (by decide) ?_ ?_
  · exact iz_sub [0] rfl (c_Mo_best_19 h0 S1)
  · refine iz_iload_n (n := 2) 5 2 rfl rfl ?_
    refine iz_iconst (v := 0) 6 (by decide) rfl ?_
    refine iz_iconst (v := 4) 7 (by decide) rfl ?_
    refine iz_callSI (As := [.int x2, .int 0, .int 4]) (rest := []) 8 ml_X10_123 cw_X10_isIn ci_X10_isIn (fun r9 hr9 => m_Mo_isIn  hr9) rfl (by decide) rfl rfl (Nat.le_of_ble_eq_true rfl) (fun r4 S3 => ?_)
    refine iz_if_ne (tgt := 25) 9 rfl (by decide) ?_ ?_
    · refine iz_aload_n (n := 0) 14 0 rfl rfl ?_
      refine iz_iload_n (n := 1) 15 1 rfl rfl ?_
      refine iz_callVI (As := [.int x1]) (rest := []) 16 ml_X10_242 cw_X10_findDust ci_X10_findDust h0 (fun r9 hr9 => m_Mo_findDust h0 hr9) rfl (by decide) (by decide) rfl rfl (Nat.le_of_ble_eq_true rfl) (fun r6 S5 => ?_)
      refine iz_istore_n (n := 3) (ls2 := [(0, .ref (X.1 a0)), (2, .int x2), (3, .int r6)]) 17 [1, 3, 0] rfl (by decide) rfl ?_
      refine iz_iload_n (n := 2) 18 1 rfl rfl ?_
      refine iz_if_ne (tgt := 39) 19 rfl (by decide) ?_ ?_
      · refine iz_aload_n (n := 0) 22 0 rfl rfl ?_
        refine iz_getR 23 42 h0 fl_X10_110 rfl (by decide) (by decide) rfl ?_
        refine iz_iload_n (n := 2) 24 1 rfl rfl ?_
        refine iz_iconst (v := 1) 25 (by decide) rfl ?_
        refine iz_isub 26 rfl ?_
        refine iz_iald 27 (sf_10_42 h0) rfl ?_
        exact iz_sub [] rfl (c_Mo_best_47 h0 (iz_g S5 (iz_rf a0 42) (x2 - 1)) S5)
      · refine iz_iload_n (n := 3) 20 2 rfl rfl ?_
        refine iz_goto (tgt := 47) 21 (by decide) rfl ?_
        exact iz_sub [] rfl (c_Mo_best_47 h0 r6 S5)
    · exact iz_sub [0] rfl (c_Mo_best_19 h0 S3)
theorem m_Mo_best {X : iz_X} {l : Launch} {a0 : Nat} (h0 : iz_sh a0 = (10 + 3, 48)) {x1 : Int32} {x2 : Int32} {S : iz_S} {r9 : Int32 × iz_S} (hr : Mo_best a0 x1 x2 S = some r9) : iz_Mt X l 4 yX10_best cX10_best 4 (some .int) [.ref (X.1 a0), .int x1, .int x2] S (iz_eI r9) :=
  iz_Mt_of (dt := tX10_best) dX10_best (by decide) hr (Nat.le_of_ble_eq_true rfl) (c_Mo_best h0 x1 x2 S)
def Mo_order_53 (a0 : Nat) (S : iz_S) : Option (Int32 × iz_S) :=
  iz_bI (Mo_finding a0 1 S) (fun r20 S19 =>
  some (r20, S19))
def Mo_order (a0 : Nat) (x1 : Int32) (x2 : Int32) (x3 : Int32) (x4 : Int32) (x5 : Int32) (S : iz_S) : Option (Int32 × iz_S) :=
  (iz_bI (Mo_isIn x1 0 2 S) (fun r2 S1 =>
  if r2 = 0 then
    (Mo_order_53 a0 S1)
  else
    (iz_bI (Mo_isIn x2 1 2000 S1) (fun r4 S3 =>
    if r4 = 0 then
      (Mo_order_53 a0 S3)
    else
      (iz_bI (Mo_isIn x3 0 100 S3) (fun r6 S5 =>
      if r6 = 0 then
        (Mo_order_53 a0 S5)
      else
        (iz_bI (Mo_isIn x4 0 20 S5) (fun r8 S7 =>
        if r8 = 0 then
          (Mo_order_53 a0 S7)
        else
          (iz_bI (Mo_isIn x5 1 1000 S7) (fun r10 S9 =>
          if r10 = 0 then
            (Mo_order_53 a0 S9)
          else
            (if (S9.1 a0 14) = 10 then
              iz_bI (Mo_finding a0 4 S9) (fun r18 S17 =>
              some (r18, S17))
            else
              iz_ck (iz_in (S9.1 a0 14) 10) (iz_lt (iz_s S9 (iz_rf a0 15) (S9.1 a0 14) x1) (fun S11 =>
              iz_ck (iz_in (S11.1 a0 14) 10) (iz_lt (iz_s S11 (iz_rf a0 16) (S11.1 a0 14) x2) (fun S12 =>
              iz_ck (iz_in (S12.1 a0 14) 10) (iz_lt (iz_s S12 (iz_rf a0 17) (S12.1 a0 14) x3) (fun S13 =>
              iz_ck (iz_in (S13.1 a0 14) 10) (iz_lt (iz_s S13 (iz_rf a0 18) (S13.1 a0 14) x4) (fun S14 =>
              iz_ck (iz_in (S14.1 a0 14) 10) (iz_lt (iz_s S14 (iz_rf a0 19) (S14.1 a0 14) x5) (fun S15 =>
              iz_lt (iz_up S15 a0 14 ((S15.1 a0 14) + 1)) (fun S16 =>
              some (((S16.1 a0 14) - 1), S16)))))))))))))))))))))))
set_option maxRecDepth 10000 in
theorem c_Mo_order_53 {X : iz_X} {l : Launch} {a0 : Nat} (h0 : iz_sh a0 = (10 + 3, 48)) (S : iz_S) : iz_Y X l RX10 tX10_order 6 1 (iz_Kc X l yX10_order cX10_order 6 (some .int) 1 iz_eI) 53 [(0, .ref (X.1 a0))] [] S (Mo_order_53 a0 S) := by
  unfold Mo_order_53
  refine iz_aload_n (n := 0) 25 0 rfl rfl ?_
  refine iz_iconst (v := 1) 26 (by decide) rfl ?_
  refine iz_callVI (As := [.int 1]) (rest := []) 27 ml_X10_127 cw_X10_finding ci_X10_finding h0 (fun r9 hr9 => m_Mo_finding h0 hr9) rfl (by decide) (by decide) rfl rfl (Nat.le_of_ble_eq_true rfl) (fun r20 S19 => ?_)
  exact iz_iret 28 rfl
set_option maxRecDepth 10000 in
theorem c_Mo_order {X : iz_X} {l : Launch} {a0 : Nat} (h0 : iz_sh a0 = (10 + 3, 48)) (x1 : Int32) (x2 : Int32) (x3 : Int32) (x4 : Int32) (x5 : Int32) (S : iz_S) : iz_Y X l RX10 tX10_order 6 1 (iz_Kc X l yX10_order cX10_order 6 (some .int) 1 iz_eI) 0 [(0, .ref (X.1 a0)), (1, .int x1), (2, .int x2), (3, .int x3), (4, .int x4), (5, .int x5)] [] S (Mo_order a0 x1 x2 x3 x4 x5 S) := by
  unfold Mo_order
  refine iz_iload_n (n := 1) 0 1 rfl rfl ?_
  refine iz_iconst (v := 0) 1 (by decide) rfl ?_
  refine iz_iconst (v := 2) 2 (by decide) rfl ?_
  refine iz_callSI (As := [.int x1, .int 0, .int 2]) (rest := []) 3 ml_X10_123 cw_X10_isIn ci_X10_isIn (fun r9 hr9 => m_Mo_isIn  hr9) rfl (by decide) rfl rfl (Nat.le_of_ble_eq_true rfl) (fun r2 S1 => ?_)
  refine iz_if_eq (tgt := 53) 4 rfl (by decide) ?_ ?_
  · exact iz_sub [0] rfl (c_Mo_order_53 h0 S1)
  · refine iz_iload_n (n := 2) 5 2 rfl rfl ?_
    refine iz_iconst (v := 1) 6 (by decide) rfl ?_
    refine iz_sipush (v := 2000) 7 (by decide) rfl ?_
    refine iz_callSI (As := [.int x2, .int 1, .int 2000]) (rest := []) 8 ml_X10_123 cw_X10_isIn ci_X10_isIn (fun r9 hr9 => m_Mo_isIn  hr9) rfl (by decide) rfl rfl (Nat.le_of_ble_eq_true rfl) (fun r4 S3 => ?_)
    refine iz_if_eq (tgt := 53) 9 rfl (by decide) ?_ ?_
    · exact iz_sub [0] rfl (c_Mo_order_53 h0 S3)
    · refine iz_iload_n (n := 3) 10 3 rfl rfl ?_
      refine iz_iconst (v := 0) 11 (by decide) rfl ?_
      refine iz_bipush (v := 100) 12 (by decide) rfl ?_
      refine iz_callSI (As := [.int x3, .int 0, .int 100]) (rest := []) 13 ml_X10_123 cw_X10_isIn ci_X10_isIn (fun r9 hr9 => m_Mo_isIn  hr9) rfl (by decide) rfl rfl (Nat.le_of_ble_eq_true rfl) (fun r6 S5 => ?_)
      refine iz_if_eq (tgt := 53) 14 rfl (by decide) ?_ ?_
      · exact iz_sub [0] rfl (c_Mo_order_53 h0 S5)
      · refine iz_iload (n := 4) 15 4 rfl rfl ?_
        refine iz_iconst (v := 0) 16 (by decide) rfl ?_
        refine iz_bipush (v := 20) 17 (by decide) rfl ?_
        refine iz_callSI (As := [.int x4, .int 0, .int 20]) (rest := []) 18 ml_X10_123 cw_X10_isIn ci_X10_isIn (fun r9 hr9 => m_Mo_isIn  hr9) rfl (by decide) rfl rfl (Nat.le_of_ble_eq_true rfl) (fun r8 S7 => ?_)
        refine iz_if_eq (tgt := 53) 19 rfl (by decide) ?_ ?_
        · exact iz_sub [0] rfl (c_Mo_order_53 h0 S7)
        · refine iz_iload (n := 5) 20 5 rfl rfl ?_
          refine iz_iconst (v := 1) 21 (by decide) rfl ?_
          refine iz_sipush (v := 1000) 22 (by decide) rfl ?_
          refine iz_callSI (As := [.int x5, .int 1, .int 1000]) (rest := []) 23 ml_X10_123 cw_X10_isIn ci_X10_isIn (fun r9 hr9 => m_Mo_isIn  hr9) rfl (by decide) rfl rfl (Nat.le_of_ble_eq_true rfl) (fun r10 S9 => ?_)
          refine iz_if_ne (tgt := 59) 24 rfl (by decide) ?_ ?_
          · refine iz_aload_n (n := 0) 29 0 rfl rfl ?_
            refine iz_getI 30 14 h0 fl_X10_245 rfl (by decide) (by decide) rfl ?_
            refine iz_bipush (v := 10) 31 (by decide) rfl ?_
            refine iz_cmp_ne (tgt := 74) 32 rfl (by decide) ?_ ?_
            · refine iz_aload_n (n := 0) 37 0 rfl rfl ?_
              refine iz_getR 38 15 h0 fl_X10_47 rfl (by decide) (by decide) rfl ?_
              refine iz_aload_n (n := 0) 39 0 rfl rfl ?_
              refine iz_getI 40 14 h0 fl_X10_245 rfl (by decide) (by decide) rfl ?_
              refine iz_iload_n (n := 1) 41 1 rfl rfl ?_
              refine iz_iast 42 (sf_10_15 h0) rfl (fun S11 => ?_)
              refine iz_aload_n (n := 0) 43 0 rfl rfl ?_
              refine iz_getR 44 16 h0 fl_X10_50 rfl (by decide) (by decide) rfl ?_
              refine iz_aload_n (n := 0) 45 0 rfl rfl ?_
              refine iz_getI 46 14 h0 fl_X10_245 rfl (by decide) (by decide) rfl ?_
              refine iz_iload_n (n := 2) 47 2 rfl rfl ?_
              refine iz_iast 48 (sf_10_16 h0) rfl (fun S12 => ?_)
              refine iz_aload_n (n := 0) 49 0 rfl rfl ?_
              refine iz_getR 50 17 h0 fl_X10_53 rfl (by decide) (by decide) rfl ?_
              refine iz_aload_n (n := 0) 51 0 rfl rfl ?_
              refine iz_getI 52 14 h0 fl_X10_245 rfl (by decide) (by decide) rfl ?_
              refine iz_iload_n (n := 3) 53 3 rfl rfl ?_
              refine iz_iast 54 (sf_10_17 h0) rfl (fun S13 => ?_)
              refine iz_aload_n (n := 0) 55 0 rfl rfl ?_
              refine iz_getR 56 18 h0 fl_X10_56 rfl (by decide) (by decide) rfl ?_
              refine iz_aload_n (n := 0) 57 0 rfl rfl ?_
              refine iz_getI 58 14 h0 fl_X10_245 rfl (by decide) (by decide) rfl ?_
              refine iz_iload (n := 4) 59 4 rfl rfl ?_
              refine iz_iast 60 (sf_10_18 h0) rfl (fun S14 => ?_)
              refine iz_aload_n (n := 0) 61 0 rfl rfl ?_
              refine iz_getR 62 19 h0 fl_X10_59 rfl (by decide) (by decide) rfl ?_
              refine iz_aload_n (n := 0) 63 0 rfl rfl ?_
              refine iz_getI 64 14 h0 fl_X10_245 rfl (by decide) (by decide) rfl ?_
              refine iz_iload (n := 5) 65 5 rfl rfl ?_
              refine iz_iast 66 (sf_10_19 h0) rfl (fun S15 => ?_)
              refine iz_aload_n (n := 0) 67 0 rfl rfl ?_
              refine iz_dup 68 rfl rfl ?_
              refine iz_getI 69 14 h0 fl_X10_245 rfl (by decide) (by decide) rfl ?_
              refine iz_iconst (v := 1) 70 (by decide) rfl ?_
              refine iz_iadd 71 rfl ?_
              refine iz_putI 72 14 h0 fl_X10_245 rfl (by decide) (by decide) rfl (fun S16 => ?_)
              refine iz_aload_n (n := 0) 73 0 rfl rfl ?_
              refine iz_getI 74 14 h0 fl_X10_245 rfl (by decide) (by decide) rfl ?_
              refine iz_iconst (v := 1) 75 (by decide) rfl ?_
              refine iz_isub 76 rfl ?_
              exact iz_iret 77 rfl
            · refine iz_aload_n (n := 0) 33 0 rfl rfl ?_
              refine iz_iconst (v := 4) 34 (by decide) rfl ?_
              refine iz_callVI (As := [.int 4]) (rest := []) 35 ml_X10_127 cw_X10_finding ci_X10_finding h0 (fun r9 hr9 => m_Mo_finding h0 hr9) rfl (by decide) (by decide) rfl rfl (Nat.le_of_ble_eq_true rfl) (fun r18 S17 => ?_)
              exact iz_iret 36 rfl
          · exact iz_sub [0] rfl (c_Mo_order_53 h0 S9)
theorem m_Mo_order {X : iz_X} {l : Launch} {a0 : Nat} (h0 : iz_sh a0 = (10 + 3, 48)) {x1 : Int32} {x2 : Int32} {x3 : Int32} {x4 : Int32} {x5 : Int32} {S : iz_S} {r9 : Int32 × iz_S} (hr : Mo_order a0 x1 x2 x3 x4 x5 S = some r9) : iz_Mt X l 1 yX10_order cX10_order 6 (some .int) [.ref (X.1 a0), .int x1, .int x2, .int x3, .int x4, .int x5] S (iz_eI r9) :=
  iz_Mt_of (dt := tX10_order) dX10_order (by decide) hr (Nat.le_of_ble_eq_true rfl) (c_Mo_order h0 x1 x2 x3 x4 x5 S)
def Mo_comesOf_35 (a0 : Nat) (s0 : Int32) (S : iz_S) : Option (Int32 × iz_S) :=
  some (s0, S)
def Mo_comesOf (a0 : Nat) (x1 : Int32) (x2 : Int32) (S : iz_S) : Option (Int32 × iz_S) :=
  (iz_ck (iz_in x2 60) (
  iz_ck (iz_in x1 10) (
  iz_bI (Mo_warmthOf a0 (S.1 a0 13) S) (fun r2 S1 =>
  iz_lt ((iz_g S (iz_rf a0 5) x2) - (((iz_g S (iz_rf a0 18) x1) * r2) / 10)) (fun v3 =>
  if v3 < 0 then
    (Mo_comesOf_35 a0 0 S1)
  else
    (Mo_comesOf_35 a0 v3 S1))))))
set_option maxRecDepth 10000 in
theorem c_Mo_comesOf_35 {X : iz_X} {l : Launch} {a0 : Nat} (h0 : iz_sh a0 = (10 + 3, 48)) (s0 : Int32) (S : iz_S) : iz_Y X l RX10 tX10_comesOf 4 1 (iz_Kc X l yX10_comesOf cX10_comesOf 4 (some .int) 1 iz_eI) 35 [] [.int s0] S (Mo_comesOf_35 a0 s0 S) := by
  unfold Mo_comesOf_35
  exact iz_iret 22 rfl
set_option maxRecDepth 10000 in
theorem c_Mo_comesOf {X : iz_X} {l : Launch} {a0 : Nat} (h0 : iz_sh a0 = (10 + 3, 48)) (x1 : Int32) (x2 : Int32) (S : iz_S) : iz_Y X l RX10 tX10_comesOf 4 1 (iz_Kc X l yX10_comesOf cX10_comesOf 4 (some .int) 1 iz_eI) 0 [(0, .ref (X.1 a0)), (1, .int x1), (2, .int x2)] [] S (Mo_comesOf a0 x1 x2 S) := by
  unfold Mo_comesOf
  refine iz_aload_n (n := 0) 0 0 rfl rfl ?_
  refine iz_getR 1 5 h0 fl_X10_23 rfl (by decide) (by decide) rfl ?_
  refine iz_iload_n (n := 2) 2 2 rfl rfl ?_
  refine iz_iald 3 (sf_10_5 h0) rfl ?_
  refine iz_aload_n (n := 0) 4 0 rfl rfl ?_
  refine iz_getR 5 18 h0 fl_X10_56 rfl (by decide) (by decide) rfl ?_
  refine iz_iload_n (n := 1) 6 1 rfl rfl ?_
  refine iz_iald 7 (sf_10_18 h0) rfl ?_
  refine iz_aload_n (n := 0) 8 0 rfl rfl ?_
  refine iz_aload_n (n := 0) 9 0 rfl rfl ?_
  refine iz_getI 10 13 h0 fl_X10_206 rfl (by decide) (by decide) rfl ?_
  refine iz_callVI (As := [.int (S.1 a0 13)]) (rest := [.int (iz_g S (iz_rf a0 18) x1), .int (iz_g S (iz_rf a0 5) x2)]) 11 ml_X10_209 cw_X10_warmthOf ci_X10_warmthOf h0 (fun r9 hr9 => m_Mo_warmthOf h0 hr9) rfl (by decide) (by decide) rfl rfl (Nat.le_of_ble_eq_true rfl) (fun r2 S1 => ?_)
  refine iz_imul 12 rfl ?_
  refine iz_bipush (v := 10) 13 (by decide) rfl ?_
  refine iz_idiv 14 (by decide) rfl ?_
  refine iz_isub 15 rfl ?_
  refine iz_let (fun v3 => ?_)
  refine iz_istore_n (n := 3) (ls2 := [(3, .int v3)]) 16 [0] rfl (by decide) rfl ?_
  refine iz_iload_n (n := 3) 17 0 rfl rfl ?_
  refine iz_if_ge (tgt := 34) 18 rfl (by decide) ?_ ?_
  · refine iz_iload_n (n := 3) 21 0 rfl rfl ?_
    exact iz_sub [] rfl (c_Mo_comesOf_35 h0 v3 S1)
  · refine iz_iconst (v := 0) 19 (by decide) rfl ?_
    refine iz_goto (tgt := 35) 20 (by decide) rfl ?_
    exact iz_sub [] rfl (c_Mo_comesOf_35 h0 0 S1)
theorem m_Mo_comesOf {X : iz_X} {l : Launch} {a0 : Nat} (h0 : iz_sh a0 = (10 + 3, 48)) {x1 : Int32} {x2 : Int32} {S : iz_S} {r9 : Int32 × iz_S} (hr : Mo_comesOf a0 x1 x2 S = some r9) : iz_Mt X l 1 yX10_comesOf cX10_comesOf 4 (some .int) [.ref (X.1 a0), .int x1, .int x2] S (iz_eI r9) :=
  iz_Mt_of (dt := tX10_comesOf) dX10_comesOf (by decide) hr (Nat.le_of_ble_eq_true rfl) (c_Mo_comesOf h0 x1 x2 S)
def Mo_isOfGrade_54 (a0 : Nat) (s0 : Int32) (S : iz_S) : Option (Int32 × iz_S) :=
  iz_ck (decide (iz_nb s0 = s0)) (some (s0, S))
def Mo_isOfGrade_49 (a0 : Nat) (S : iz_S) : Option (Int32 × iz_S) :=
  (Mo_isOfGrade_54 a0 1 S)
def Mo_isOfGrade_29 (a0 : Nat) (x2 : Int32) (S : iz_S) : Option (Int32 × iz_S) :=
  (iz_ck (iz_in x2 60) (
  if (iz_g S (iz_rf a0 4) x2) = 1 then
    (Mo_isOfGrade_49 a0 S)
  else
    (iz_ck (iz_in x2 60) (
    if (iz_g S (iz_rf a0 4) x2) = 3 then
      (Mo_isOfGrade_49 a0 S)
    else
      (Mo_isOfGrade_54 a0 0 S)))))
def Mo_isOfGrade (a0 : Nat) (x1 : Int32) (x2 : Int32) (S : iz_S) : Option (Int32 × iz_S) :=
  (iz_ck (iz_in x1 10) (
  if (iz_g S (iz_rf a0 15) x1) = 0 then
    (Mo_isOfGrade_49 a0 S)
  else
    (iz_ck (iz_in x1 10) (
    if (iz_g S (iz_rf a0 15) x1) = 1 then
      (iz_ck (iz_in x2 60) (
      if (iz_g S (iz_rf a0 4) x2) = 2 then
        (Mo_isOfGrade_29 a0 x2 S)
      else
        (Mo_isOfGrade_49 a0 S)))
    else
      (Mo_isOfGrade_29 a0 x2 S)))))
set_option maxRecDepth 10000 in
theorem c_Mo_isOfGrade_54 {X : iz_X} {l : Launch} {a0 : Nat} (h0 : iz_sh a0 = (10 + 3, 48)) (s0 : Int32) (S : iz_S) : iz_Y X l RX10 tX10_isOfGrade 3 0 (iz_Kc X l yX10_isOfGrade cX10_isOfGrade 3 (some .boolean) 0 iz_eI) 54 [] [.int s0] S (Mo_isOfGrade_54 a0 s0 S) := by
  unfold Mo_isOfGrade_54
  exact iz_zret 32 rfl
set_option maxRecDepth 10000 in
theorem c_Mo_isOfGrade_49 {X : iz_X} {l : Launch} {a0 : Nat} (h0 : iz_sh a0 = (10 + 3, 48)) (S : iz_S) : iz_Y X l RX10 tX10_isOfGrade 3 0 (iz_Kc X l yX10_isOfGrade cX10_isOfGrade 3 (some .boolean) 0 iz_eI) 49 [] [] S (Mo_isOfGrade_49 a0 S) := by
  unfold Mo_isOfGrade_49
  refine iz_iconst (v := 1) 29 (by decide) rfl ?_
  refine iz_goto (tgt := 54) 30 (by decide) rfl ?_
  exact c_Mo_isOfGrade_54 h0 1 S
set_option maxRecDepth 10000 in
theorem c_Mo_isOfGrade_29 {X : iz_X} {l : Launch} {a0 : Nat} (h0 : iz_sh a0 = (10 + 3, 48)) (x2 : Int32) (S : iz_S) : iz_Y X l RX10 tX10_isOfGrade 3 0 (iz_Kc X l yX10_isOfGrade cX10_isOfGrade 3 (some .boolean) 0 iz_eI) 29 [(0, .ref (X.1 a0)), (2, .int x2)] [] S (Mo_isOfGrade_29 a0 x2 S) := by
  unfold Mo_isOfGrade_29
  refine iz_aload_n (n := 0) 17 0 rfl rfl ?_
  refine iz_getR 18 4 h0 fl_X10_20 rfl (by decide) (by decide) rfl ?_
  refine iz_iload_n (n := 2) 19 1 rfl rfl ?_
  refine iz_iald 20 (sf_10_4 h0) rfl ?_
  refine iz_iconst (v := 1) 21 (by decide) rfl ?_
  refine iz_cmp_eq (tgt := 49) 22 rfl (by decide) ?_ ?_
  · exact iz_sub [] rfl (c_Mo_isOfGrade_49 h0 S)
  · refine iz_aload_n (n := 0) 23 0 rfl rfl ?_
    refine iz_getR 24 4 h0 fl_X10_20 rfl (by decide) (by decide) rfl ?_
    refine iz_iload_n (n := 2) 25 1 rfl rfl ?_
    refine iz_iald 26 (sf_10_4 h0) rfl ?_
    refine iz_iconst (v := 3) 27 (by decide) rfl ?_
    refine iz_cmp_ne (tgt := 53) 28 rfl (by decide) ?_ ?_
    · refine iz_iconst (v := 0) 31 (by decide) rfl ?_
      exact iz_sub [] rfl (c_Mo_isOfGrade_54 h0 0 S)
    · exact iz_sub [] rfl (c_Mo_isOfGrade_49 h0 S)
set_option maxRecDepth 10000 in
theorem c_Mo_isOfGrade {X : iz_X} {l : Launch} {a0 : Nat} (h0 : iz_sh a0 = (10 + 3, 48)) (x1 : Int32) (x2 : Int32) (S : iz_S) : iz_Y X l RX10 tX10_isOfGrade 3 0 (iz_Kc X l yX10_isOfGrade cX10_isOfGrade 3 (some .boolean) 0 iz_eI) 0 [(0, .ref (X.1 a0)), (1, .int x1), (2, .int x2)] [] S (Mo_isOfGrade a0 x1 x2 S) := by
  unfold Mo_isOfGrade
  refine iz_aload_n (n := 0) 0 0 rfl rfl ?_
  refine iz_getR 1 15 h0 fl_X10_47 rfl (by decide) (by decide) rfl ?_
  refine iz_iload_n (n := 1) 2 1 rfl rfl ?_
  refine iz_iald 3 (sf_10_15 h0) rfl ?_
  refine iz_if_eq (tgt := 49) 4 rfl (by decide) ?_ ?_
  · exact iz_sub [] rfl (c_Mo_isOfGrade_49 h0 S)
  · refine iz_aload_n (n := 0) 5 0 rfl rfl ?_
    refine iz_getR 6 15 h0 fl_X10_47 rfl (by decide) (by decide) rfl ?_
    refine iz_iload_n (n := 1) 7 1 rfl rfl ?_
    refine iz_iald 8 (sf_10_15 h0) rfl ?_
    refine iz_iconst (v := 1) 9 (by decide) rfl ?_
    refine iz_cmp_ne (tgt := 29) 10 rfl (by decide) ?_ ?_
    · exact iz_sub [0, 2] rfl (c_Mo_isOfGrade_29 h0 x2 S)
    · refine iz_aload_n (n := 0) 11 0 rfl rfl ?_
      refine iz_getR 12 4 h0 fl_X10_20 rfl (by decide) (by decide) rfl ?_
      refine iz_iload_n (n := 2) 13 2 rfl rfl ?_
      refine iz_iald 14 (sf_10_4 h0) rfl ?_
      refine iz_iconst (v := 2) 15 (by decide) rfl ?_
      refine iz_cmp_ne (tgt := 49) 16 rfl (by decide) ?_ ?_
      · exact iz_sub [] rfl (c_Mo_isOfGrade_49 h0 S)
      · exact iz_sub [0, 2] rfl (c_Mo_isOfGrade_29 h0 x2 S)
theorem m_Mo_isOfGrade {X : iz_X} {l : Launch} {a0 : Nat} (h0 : iz_sh a0 = (10 + 3, 48)) {x1 : Int32} {x2 : Int32} {S : iz_S} {r9 : Int32 × iz_S} (hr : Mo_isOfGrade a0 x1 x2 S = some r9) : iz_Mt X l 0 yX10_isOfGrade cX10_isOfGrade 3 (some .boolean) [.ref (X.1 a0), .int x1, .int x2] S (iz_eI r9) :=
  iz_Mt_of (dt := tX10_isOfGrade) dX10_isOfGrade (by decide) hr (Nat.le_of_ble_eq_true rfl) (c_Mo_isOfGrade h0 x1 x2 S)
def Mo_whyNot_84 (a0 : Nat) (s0 : Int32) (S : iz_S) : Option (Int32 × iz_S) :=
  some (s0, S)
def Mo_whyNot (a0 : Nat) (x1 : Int32) (x2 : Int32) (S : iz_S) : Option (Int32 × iz_S) :=
  (iz_ck (iz_in x1 10) (
  if (iz_g S (iz_rf a0 20) x1) = 0 then
    (iz_ck (iz_in x1 10) (
    if (S.1 a0 13) ≤ (iz_g S (iz_rf a0 17) x1) then
      (iz_ck (iz_in x2 16) (
      if (iz_g S (iz_rf a0 9) x2) = 0 then
        some (3, S)
      else
        (iz_ck (iz_in x2 16) (
        iz_bI (Mo_blockAt a0 x2 ((iz_g S (iz_rf a0 9) x2) - 1) S) (fun r2 S1 =>
        iz_bI (Mo_isOfGrade a0 x1 r2 S1) (fun r4 S3 =>
        if r4 = 0 then
          (Mo_whyNot_84 a0 4 S3)
        else
          (iz_bI (Mo_comesOf a0 x1 r2 S3) (fun r6 S5 =>
          iz_ck (iz_in x1 10) (
          if r6 < (iz_g S5 (iz_rf a0 16) x1) then
            (Mo_whyNot_84 a0 5 S5)
          else
            (Mo_whyNot_84 a0 0 S5))))))))))
    else
      some (2, S)))
  else
    some (1, S)))
set_option maxRecDepth 10000 in
theorem c_Mo_whyNot_84 {X : iz_X} {l : Launch} {a0 : Nat} (h0 : iz_sh a0 = (10 + 3, 48)) (s0 : Int32) (S : iz_S) : iz_Y X l RX10 tX10_whyNot 4 2 (iz_Kc X l yX10_whyNot cX10_whyNot 4 (some .int) 2 iz_eI) 84 [] [.int s0] S (Mo_whyNot_84 a0 s0 S) := by
  unfold Mo_whyNot_84
  exact iz_iret 52 rfl
set_option maxRecDepth 10000 in
theorem c_Mo_whyNot {X : iz_X} {l : Launch} {a0 : Nat} (h0 : iz_sh a0 = (10 + 3, 48)) (x1 : Int32) (x2 : Int32) (S : iz_S) : iz_Y X l RX10 tX10_whyNot 4 2 (iz_Kc X l yX10_whyNot cX10_whyNot 4 (some .int) 2 iz_eI) 0 [(0, .ref (X.1 a0)), (1, .int x1), (2, .int x2)] [] S (Mo_whyNot a0 x1 x2 S) := by
  unfold Mo_whyNot
  refine iz_aload_n (n := 0) 0 0 rfl rfl ?_
  refine iz_getR 1 20 h0 fl_X10_62 rfl (by decide) (by decide) rfl ?_
  refine iz_iload_n (n := 1) 2 1 rfl rfl ?_
  refine iz_bald 3 (sf_10_20 h0) rfl ?_
  refine iz_if_eq (tgt := 11) 4 rfl (by decide) ?_ ?_
  · refine iz_aload_n (n := 0) 7 0 rfl rfl ?_
    refine iz_getI 8 13 h0 fl_X10_206 rfl (by decide) (by decide) rfl ?_
    refine iz_aload_n (n := 0) 9 0 rfl rfl ?_
    refine iz_getR 10 17 h0 fl_X10_53 rfl (by decide) (by decide) rfl ?_
    refine iz_iload_n (n := 1) 11 1 rfl rfl ?_
    refine iz_iald 12 (sf_10_17 h0) rfl ?_
    refine iz_cmp_le (tgt := 26) 13 rfl (by decide) ?_ ?_
    · refine iz_aload_n (n := 0) 16 0 rfl rfl ?_
      refine iz_getR 17 9 h0 fl_X10_35 rfl (by decide) (by decide) rfl ?_
      refine iz_iload_n (n := 2) 18 2 rfl rfl ?_
      refine iz_iald 19 (sf_10_9 h0) rfl ?_
      refine iz_if_ne (tgt := 37) 20 rfl (by decide) ?_ ?_
      · refine iz_aload_n (n := 0) 23 0 rfl rfl ?_
        refine iz_iload_n (n := 2) 24 2 rfl rfl ?_
        refine iz_aload_n (n := 0) 25 0 rfl rfl ?_
        refine iz_getR 26 9 h0 fl_X10_35 rfl (by decide) (by decide) rfl ?_
        refine iz_iload_n (n := 2) 27 2 rfl rfl ?_
        refine iz_iald 28 (sf_10_9 h0) rfl ?_
        refine iz_iconst (v := 1) 29 (by decide) rfl ?_
        refine iz_isub 30 rfl ?_
        refine iz_callVI (As := [.int x2, .int ((iz_g S (iz_rf a0 9) x2) - 1)]) (rest := []) 31 ml_X10_179 cw_X10_blockAt ci_X10_blockAt h0 (fun r9 hr9 => m_Mo_blockAt h0 hr9) rfl (by decide) (by decide) rfl rfl (Nat.le_of_ble_eq_true rfl) (fun r2 S1 => ?_)
        refine iz_istore_n (n := 3) (ls2 := [(0, .ref (X.1 a0)), (1, .int x1), (3, .int r2)]) 32 [1, 2, 0] rfl (by decide) rfl ?_
        refine iz_aload_n (n := 0) 33 0 rfl rfl ?_
        refine iz_iload_n (n := 1) 34 1 rfl rfl ?_
        refine iz_iload_n (n := 3) 35 2 rfl rfl ?_
        refine iz_callVI (As := [.int x1, .int r2]) (rest := []) 36 ml_X10_248 cw_X10_isOfGrade ci_X10_isOfGrade h0 (fun r9 hr9 => m_Mo_isOfGrade h0 hr9) rfl (by decide) (by decide) rfl rfl (Nat.le_of_ble_eq_true rfl) (fun r4 S3 => ?_)
        refine iz_if_ne (tgt := 64) 37 rfl (by decide) ?_ ?_
        · refine iz_aload_n (n := 0) 40 0 rfl rfl ?_
          refine iz_iload_n (n := 1) 41 1 rfl rfl ?_
          refine iz_iload_n (n := 3) 42 2 rfl rfl ?_
          refine iz_callVI (As := [.int x1, .int r2]) (rest := []) 43 ml_X10_251 cw_X10_comesOf ci_X10_comesOf h0 (fun r9 hr9 => m_Mo_comesOf h0 hr9) rfl (by decide) (by decide) rfl rfl (Nat.le_of_ble_eq_true rfl) (fun r6 S5 => ?_)
          refine iz_aload_n (n := 0) 44 0 rfl rfl ?_
          refine iz_getR 45 16 h0 fl_X10_50 rfl (by decide) (by decide) rfl ?_
          refine iz_iload_n (n := 1) 46 1 rfl rfl ?_
          refine iz_iald 47 (sf_10_16 h0) rfl ?_
          refine iz_cmp_ge (tgt := 83) 48 rfl (by decide) ?_ ?_
          · refine iz_iconst (v := 0) 51 (by decide) rfl ?_
            exact iz_sub [] rfl (c_Mo_whyNot_84 h0 0 S5)
          · refine iz_iconst (v := 5) 49 (by decide) rfl ?_
            refine iz_goto (tgt := 84) 50 (by decide) rfl ?_
            exact iz_sub [] rfl (c_Mo_whyNot_84 h0 5 S5)
        · refine iz_iconst (v := 4) 38 (by decide) rfl ?_
          refine iz_goto (tgt := 84) 39 (by decide) rfl ?_
          exact iz_sub [] rfl (c_Mo_whyNot_84 h0 4 S3)
      · refine iz_iconst (v := 3) 21 (by decide) rfl ?_
        exact iz_iret 22 rfl
    · refine iz_iconst (v := 2) 14 (by decide) rfl ?_
      exact iz_iret 15 rfl
  · refine iz_iconst (v := 1) 5 (by decide) rfl ?_
    exact iz_iret 6 rfl
theorem m_Mo_whyNot {X : iz_X} {l : Launch} {a0 : Nat} (h0 : iz_sh a0 = (10 + 3, 48)) {x1 : Int32} {x2 : Int32} {S : iz_S} {r9 : Int32 × iz_S} (hr : Mo_whyNot a0 x1 x2 S = some r9) : iz_Mt X l 2 yX10_whyNot cX10_whyNot 4 (some .int) [.ref (X.1 a0), .int x1, .int x2] S (iz_eI r9) :=
  iz_Mt_of (dt := tX10_whyNot) dX10_whyNot (by decide) hr (Nat.le_of_ble_eq_true rfl) (c_Mo_whyNot h0 x1 x2 S)
def Mo_isOrder_17 (a0 : Nat) (s0 : Int32) (S : iz_S) : Option (Int32 × iz_S) :=
  iz_ck (decide (iz_nb s0 = s0)) (some (s0, S))
def Mo_isOrder_16 (a0 : Nat) (S : iz_S) : Option (Int32 × iz_S) :=
  (Mo_isOrder_17 a0 0 S)
def Mo_isOrder (a0 : Nat) (x1 : Int32) (S : iz_S) : Option (Int32 × iz_S) :=
  (if x1 < 0 then
    (Mo_isOrder_16 a0 S)
  else
    (if x1 < (S.1 a0 14) then
      (Mo_isOrder_17 a0 1 S)
    else
      (Mo_isOrder_16 a0 S)))
set_option maxRecDepth 10000 in
theorem c_Mo_isOrder_17 {X : iz_X} {l : Launch} {a0 : Nat} (h0 : iz_sh a0 = (10 + 3, 48)) (s0 : Int32) (S : iz_S) : iz_Y X l RX10 tX10_isOrder 2 0 (iz_Kc X l yX10_isOrder cX10_isOrder 2 (some .boolean) 0 iz_eI) 17 [] [.int s0] S (Mo_isOrder_17 a0 s0 S) := by
  unfold Mo_isOrder_17
  exact iz_zret 9 rfl
set_option maxRecDepth 10000 in
theorem c_Mo_isOrder_16 {X : iz_X} {l : Launch} {a0 : Nat} (h0 : iz_sh a0 = (10 + 3, 48)) (S : iz_S) : iz_Y X l RX10 tX10_isOrder 2 0 (iz_Kc X l yX10_isOrder cX10_isOrder 2 (some .boolean) 0 iz_eI) 16 [] [] S (Mo_isOrder_16 a0 S) := by
  unfold Mo_isOrder_16
  refine iz_iconst (v := 0) 8 (by decide) rfl ?_
  exact c_Mo_isOrder_17 h0 0 S
set_option maxRecDepth 10000 in
theorem c_Mo_isOrder {X : iz_X} {l : Launch} {a0 : Nat} (h0 : iz_sh a0 = (10 + 3, 48)) (x1 : Int32) (S : iz_S) : iz_Y X l RX10 tX10_isOrder 2 0 (iz_Kc X l yX10_isOrder cX10_isOrder 2 (some .boolean) 0 iz_eI) 0 [(0, .ref (X.1 a0)), (1, .int x1)] [] S (Mo_isOrder a0 x1 S) := by
  unfold Mo_isOrder
  refine iz_iload_n (n := 1) 0 1 rfl rfl ?_
  refine iz_if_lt (tgt := 16) 1 rfl (by decide) ?_ ?_
  · exact iz_sub [] rfl (c_Mo_isOrder_16 h0 S)
  · refine iz_iload_n (n := 1) 2 1 rfl rfl ?_
    refine iz_aload_n (n := 0) 3 0 rfl rfl ?_
    refine iz_getI 4 14 h0 fl_X10_245 rfl (by decide) (by decide) rfl ?_
    refine iz_cmp_ge (tgt := 16) 5 rfl (by decide) ?_ ?_
    · exact iz_sub [] rfl (c_Mo_isOrder_16 h0 S)
    · refine iz_iconst (v := 1) 6 (by decide) rfl ?_
      refine iz_goto (tgt := 17) 7 (by decide) rfl ?_
      exact iz_sub [] rfl (c_Mo_isOrder_17 h0 1 S)
theorem m_Mo_isOrder {X : iz_X} {l : Launch} {a0 : Nat} (h0 : iz_sh a0 = (10 + 3, 48)) {x1 : Int32} {S : iz_S} {r9 : Int32 × iz_S} (hr : Mo_isOrder a0 x1 S = some r9) : iz_Mt X l 0 yX10_isOrder cX10_isOrder 2 (some .boolean) [.ref (X.1 a0), .int x1] S (iz_eI r9) :=
  iz_Mt_of (dt := tX10_isOrder) dX10_isOrder (by decide) hr (Nat.le_of_ble_eq_true rfl) (c_Mo_isOrder h0 x1 S)
def Mo_why_29 (a0 : Nat) (s0 : Int32) (S : iz_S) : Option (Int32 × iz_S) :=
  some (s0, S)
def Mo_why_24 (a0 : Nat) (S : iz_S) : Option (Int32 × iz_S) :=
  iz_bI (Mo_finding a0 1 S) (fun r8 S7 =>
  (Mo_why_29 a0 r8 S7))
def Mo_why (a0 : Nat) (x1 : Int32) (x2 : Int32) (S : iz_S) : Option (Int32 × iz_S) :=
  (iz_bI (Mo_isOrder a0 x1 S) (fun r2 S1 =>
  if r2 = 0 then
    (Mo_why_24 a0 S1)
  else
    (iz_bI (Mo_isColumn x2 S1) (fun r4 S3 =>
    if r4 = 0 then
      (Mo_why_24 a0 S3)
    else
      iz_bI (Mo_whyNot a0 x1 x2 S3) (fun r6 S5 =>
      (Mo_why_29 a0 r6 S5))))))
set_option maxRecDepth 10000 in
theorem c_Mo_why_29 {X : iz_X} {l : Launch} {a0 : Nat} (h0 : iz_sh a0 = (10 + 3, 48)) (s0 : Int32) (S : iz_S) : iz_Y X l RX10 tX10_why 3 3 (iz_Kc X l yX10_why cX10_why 3 (some .int) 3 iz_eI) 29 [] [.int s0] S (Mo_why_29 a0 s0 S) := by
  unfold Mo_why_29
  exact iz_iret 15 rfl
set_option maxRecDepth 10000 in
theorem c_Mo_why_24 {X : iz_X} {l : Launch} {a0 : Nat} (h0 : iz_sh a0 = (10 + 3, 48)) (S : iz_S) : iz_Y X l RX10 tX10_why 3 3 (iz_Kc X l yX10_why cX10_why 3 (some .int) 3 iz_eI) 24 [(0, .ref (X.1 a0))] [] S (Mo_why_24 a0 S) := by
  unfold Mo_why_24
  refine iz_aload_n (n := 0) 12 0 rfl rfl ?_
  refine iz_iconst (v := 1) 13 (by decide) rfl ?_
  refine iz_callVI (As := [.int 1]) (rest := []) 14 ml_X10_127 cw_X10_finding ci_X10_finding h0 (fun r9 hr9 => m_Mo_finding h0 hr9) rfl (by decide) (by decide) rfl rfl (Nat.le_of_ble_eq_true rfl) (fun r8 S7 => ?_)
  exact iz_sub [] rfl (c_Mo_why_29 h0 r8 S7)
set_option maxRecDepth 10000 in
theorem c_Mo_why {X : iz_X} {l : Launch} {a0 : Nat} (h0 : iz_sh a0 = (10 + 3, 48)) (x1 : Int32) (x2 : Int32) (S : iz_S) : iz_Y X l RX10 tX10_why 3 3 (iz_Kc X l yX10_why cX10_why 3 (some .int) 3 iz_eI) 0 [(0, .ref (X.1 a0)), (1, .int x1), (2, .int x2)] [] S (Mo_why a0 x1 x2 S) := by
  unfold Mo_why
  refine iz_aload_n (n := 0) 0 0 rfl rfl ?_
  refine iz_iload_n (n := 1) 1 1 rfl rfl ?_
  refine iz_callVI (As := [.int x1]) (rest := []) 2 ml_X10_254 cw_X10_isOrder ci_X10_isOrder h0 (fun r9 hr9 => m_Mo_isOrder h0 hr9) rfl (by decide) (by decide) rfl rfl (Nat.le_of_ble_eq_true rfl) (fun r2 S1 => ?_)
  refine iz_if_eq (tgt := 24) 3 rfl (by decide) ?_ ?_
  · exact iz_sub [0] rfl (c_Mo_why_24 h0 S1)
  · refine iz_iload_n (n := 2) 4 2 rfl rfl ?_
    refine iz_callSI (As := [.int x2]) (rest := []) 5 ml_X10_194 cw_X10_isColumn ci_X10_isColumn (fun r9 hr9 => m_Mo_isColumn  hr9) rfl (by decide) rfl rfl (Nat.le_of_ble_eq_true rfl) (fun r4 S3 => ?_)
    refine iz_if_eq (tgt := 24) 6 rfl (by decide) ?_ ?_
    · exact iz_sub [0] rfl (c_Mo_why_24 h0 S3)
    · refine iz_aload_n (n := 0) 7 0 rfl rfl ?_
      refine iz_iload_n (n := 1) 8 1 rfl rfl ?_
      refine iz_iload_n (n := 2) 9 2 rfl rfl ?_
      refine iz_callVI (As := [.int x1, .int x2]) (rest := []) 10 ml_X10_257 cw_X10_whyNot ci_X10_whyNot h0 (fun r9 hr9 => m_Mo_whyNot h0 hr9) rfl (by decide) (by decide) rfl rfl (Nat.le_of_ble_eq_true rfl) (fun r6 S5 => ?_)
      refine iz_goto (tgt := 29) 11 (by decide) rfl ?_
      exact iz_sub [] rfl (c_Mo_why_29 h0 r6 S5)
theorem m_Mo_why {X : iz_X} {l : Launch} {a0 : Nat} (h0 : iz_sh a0 = (10 + 3, 48)) {x1 : Int32} {x2 : Int32} {S : iz_S} {r9 : Int32 × iz_S} (hr : Mo_why a0 x1 x2 S = some r9) : iz_Mt X l 3 yX10_why cX10_why 3 (some .int) [.ref (X.1 a0), .int x1, .int x2] S (iz_eI r9) :=
  iz_Mt_of (dt := tX10_why) dX10_why (by decide) hr (Nat.le_of_ble_eq_true rfl) (c_Mo_why h0 x1 x2 S)
def Mo_serve_15 (a0 : Nat) (S : iz_S) : Option (Int32 × iz_S) :=
  iz_bI (Mo_finding a0 1 S) (fun r19 S18 =>
  some (r19, S18))
def Mo_serve (a0 : Nat) (x1 : Int32) (x2 : Int32) (S : iz_S) : Option (Int32 × iz_S) :=
  (iz_bI (Mo_isOrder a0 x1 S) (fun r2 S1 =>
  if r2 = 0 then
    (Mo_serve_15 a0 S1)
  else
    (iz_bI (Mo_isColumn x2 S1) (fun r4 S3 =>
    if r4 = 0 then
      (Mo_serve_15 a0 S3)
    else
      (iz_bI (Mo_whyNot a0 x1 x2 S3) (fun r6 S5 =>
      if r6 = 0 then
        iz_ck (iz_in x2 16) (
        iz_bI (Mo_blockAt a0 x2 ((iz_g S5 (iz_rf a0 9) x2) - 1) S5) (fun r8 S7 =>
        iz_bI (Mo_comesOf a0 x1 r8 S7) (fun r10 S9 =>
        iz_ck (iz_in 3 6) (
        iz_ck (iz_in 3 6) (iz_lt (iz_s S9 (iz_rf a0 25) 3 ((iz_g S9 (iz_rf a0 25) 3) + r10)) (fun S11 =>
        iz_ck (iz_in 1 6) (
        iz_ck (iz_in r8 60) (
        iz_ck (iz_in 1 6) (iz_lt (iz_s S11 (iz_rf a0 25) 1 ((iz_g S11 (iz_rf a0 25) 1) + ((iz_g S11 (iz_rf a0 5) r8) - r10))) (fun S12 =>
        iz_ck (iz_in 5 6) (
        iz_ck (iz_in x1 10) (
        iz_ck (iz_in 5 6) (iz_lt (iz_s S12 (iz_rf a0 25) 5 ((iz_g S12 (iz_rf a0 25) 5) + (iz_g S12 (iz_rf a0 19) x1))) (fun S13 =>
        iz_ck (iz_in x1 10) (iz_lt (iz_s S13 (iz_rf a0 20) x1 (iz_nb 1)) (fun S14 =>
        iz_ck (iz_in x2 16) (
        iz_bV (Mo_goes a0 x2 ((iz_g S14 (iz_rf a0 9) x2) - 1) S14) (fun S15 =>
        some (r10, S15)))))))))))))))))))
      else
        iz_bI (Mo_finding a0 3 S5) (fun r17 S16 =>
        some (r17, S16))))))))
set_option maxRecDepth 10000 in
theorem c_Mo_serve_15 {X : iz_X} {l : Launch} {a0 : Nat} (h0 : iz_sh a0 = (10 + 3, 48)) (S : iz_S) : iz_Y X l RX10 tX10_serve 5 3 (iz_Kc X l yX10_serve cX10_serve 5 (some .int) 3 iz_eI) 15 [(0, .ref (X.1 a0))] [] S (Mo_serve_15 a0 S) := by
  unfold Mo_serve_15
  refine iz_aload_n (n := 0) 7 0 rfl rfl ?_
  refine iz_iconst (v := 1) 8 (by decide) rfl ?_
  refine iz_callVI (As := [.int 1]) (rest := []) 9 ml_X10_127 cw_X10_finding ci_X10_finding h0 (fun r9 hr9 => m_Mo_finding h0 hr9) rfl (by decide) (by decide) rfl rfl (Nat.le_of_ble_eq_true rfl) (fun r19 S18 => ?_)
  exact iz_iret 10 rfl
set_option maxRecDepth 10000 in
theorem c_Mo_serve {X : iz_X} {l : Launch} {a0 : Nat} (h0 : iz_sh a0 = (10 + 3, 48)) (x1 : Int32) (x2 : Int32) (S : iz_S) : iz_Y X l RX10 tX10_serve 5 3 (iz_Kc X l yX10_serve cX10_serve 5 (some .int) 3 iz_eI) 0 [(0, .ref (X.1 a0)), (1, .int x1), (2, .int x2)] [] S (Mo_serve a0 x1 x2 S) := by
  unfold Mo_serve
  refine iz_aload_n (n := 0) 0 0 rfl rfl ?_
  refine iz_iload_n (n := 1) 1 1 rfl rfl ?_
  refine iz_callVI (As := [.int x1]) (rest := []) 2 ml_X10_254 cw_X10_isOrder ci_X10_isOrder h0 (fun r9 hr9 => m_Mo_isOrder h0 hr9) rfl (by decide) (by decide) rfl rfl (Nat.le_of_ble_eq_true rfl) (fun r2 S1 => ?_)
  refine iz_if_eq (tgt := 15) 3 rfl (by decide) ?_ ?_
  · exact iz_sub [0] rfl (c_Mo_serve_15 h0 S1)
  · refine iz_iload_n (n := 2) 4 2 rfl rfl ?_
    refine iz_callSI (As := [.int x2]) (rest := []) 5 ml_X10_194 cw_X10_isColumn ci_X10_isColumn (fun r9 hr9 => m_Mo_isColumn  hr9) rfl (by decide) rfl rfl (Nat.le_of_ble_eq_true rfl) (fun r4 S3 => ?_)
    refine iz_if_ne (tgt := 21) 6 rfl (by decide) ?_ ?_
    · refine iz_aload_n (n := 0) 11 0 rfl rfl ?_
      refine iz_iload_n (n := 1) 12 1 rfl rfl ?_
      refine iz_iload_n (n := 2) 13 2 rfl rfl ?_
      refine iz_callVI (As := [.int x1, .int x2]) (rest := []) 14 ml_X10_257 cw_X10_whyNot ci_X10_whyNot h0 (fun r9 hr9 => m_Mo_whyNot h0 hr9) rfl (by decide) (by decide) rfl rfl (Nat.le_of_ble_eq_true rfl) (fun r6 S5 => ?_)
      refine iz_if_eq (tgt := 36) 15 rfl (by decide) ?_ ?_
      · refine iz_aload_n (n := 0) 20 0 rfl rfl ?_
        refine iz_iload_n (n := 2) 21 2 rfl rfl ?_
        refine iz_aload_n (n := 0) 22 0 rfl rfl ?_
        refine iz_getR 23 9 h0 fl_X10_35 rfl (by decide) (by decide) rfl ?_
        refine iz_iload_n (n := 2) 24 2 rfl rfl ?_
        refine iz_iald 25 (sf_10_9 h0) rfl ?_
        refine iz_iconst (v := 1) 26 (by decide) rfl ?_
        refine iz_isub 27 rfl ?_
        refine iz_callVI (As := [.int x2, .int ((iz_g S5 (iz_rf a0 9) x2) - 1)]) (rest := []) 28 ml_X10_179 cw_X10_blockAt ci_X10_blockAt h0 (fun r9 hr9 => m_Mo_blockAt h0 hr9) rfl (by decide) (by decide) rfl rfl (Nat.le_of_ble_eq_true rfl) (fun r8 S7 => ?_)
        refine iz_istore_n (n := 3) (ls2 := [(0, .ref (X.1 a0)), (1, .int x1), (2, .int x2), (3, .int r8)]) 29 [1, 2, 3, 0] rfl (by decide) rfl ?_
        refine iz_aload_n (n := 0) 30 0 rfl rfl ?_
        refine iz_iload_n (n := 1) 31 1 rfl rfl ?_
        refine iz_iload_n (n := 3) 32 3 rfl rfl ?_
        refine iz_callVI (As := [.int x1, .int r8]) (rest := []) 33 ml_X10_251 cw_X10_comesOf ci_X10_comesOf h0 (fun r9 hr9 => m_Mo_comesOf h0 hr9) rfl (by decide) (by decide) rfl rfl (Nat.le_of_ble_eq_true rfl) (fun r10 S9 => ?_)
        refine iz_istore (n := 4) (ls2 := [(0, .ref (X.1 a0)), (1, .int x1), (2, .int x2), (3, .int r8), (4, .int r10)]) 34 [1, 2, 3, 4, 0] rfl (by decide) rfl ?_
        refine iz_aload_n (n := 0) 35 0 rfl rfl ?_
        refine iz_getR 36 25 h0 fl_X10_74 rfl (by decide) (by decide) rfl ?_
        refine iz_iconst (v := 3) 37 (by decide) rfl ?_
        refine iz_dup2 38 rfl rfl rfl ?_
        refine iz_iald 39 (sf_10_25 h0) rfl ?_
        refine iz_iload (n := 4) 40 4 rfl rfl ?_
        refine iz_iadd 41 rfl ?_
        refine iz_iast 42 (sf_10_25 h0) rfl (fun S11 => ?_)
        refine iz_aload_n (n := 0) 43 0 rfl rfl ?_
        refine iz_getR 44 25 h0 fl_X10_74 rfl (by decide) (by decide) rfl ?_
        refine iz_iconst (v := 1) 45 (by decide) rfl ?_
        refine iz_dup2 46 rfl rfl rfl ?_
        refine iz_iald 47 (sf_10_25 h0) rfl ?_
        refine iz_aload_n (n := 0) 48 0 rfl rfl ?_
        refine iz_getR 49 5 h0 fl_X10_23 rfl (by decide) (by decide) rfl ?_
        refine iz_iload_n (n := 3) 50 3 rfl rfl ?_
        refine iz_iald 51 (sf_10_5 h0) rfl ?_
        refine iz_iload (n := 4) 52 4 rfl rfl ?_
        refine iz_isub 53 rfl ?_
        refine iz_iadd 54 rfl ?_
        refine iz_iast 55 (sf_10_25 h0) rfl (fun S12 => ?_)
        refine iz_aload_n (n := 0) 56 0 rfl rfl ?_
        refine iz_getR 57 25 h0 fl_X10_74 rfl (by decide) (by decide) rfl ?_
        refine iz_iconst (v := 5) 58 (by decide) rfl ?_
        refine iz_dup2 59 rfl rfl rfl ?_
        refine iz_iald 60 (sf_10_25 h0) rfl ?_
        refine iz_aload_n (n := 0) 61 0 rfl rfl ?_
        refine iz_getR 62 19 h0 fl_X10_59 rfl (by decide) (by decide) rfl ?_
        refine iz_iload_n (n := 1) 63 1 rfl rfl ?_
        refine iz_iald 64 (sf_10_19 h0) rfl ?_
        refine iz_iadd 65 rfl ?_
        refine iz_iast 66 (sf_10_25 h0) rfl (fun S13 => ?_)
        refine iz_aload_n (n := 0) 67 0 rfl rfl ?_
        refine iz_getR 68 20 h0 fl_X10_62 rfl (by decide) (by decide) rfl ?_
        refine iz_iload_n (n := 1) 69 1 rfl rfl ?_
        refine iz_iconst (v := 1) 70 (by decide) rfl ?_
        refine iz_bast 71 (sf_10_20 h0) rfl (fun S14 => ?_)
        refine iz_aload_n (n := 0) 72 0 rfl rfl ?_
        refine iz_iload_n (n := 2) 73 2 rfl rfl ?_
        refine iz_aload_n (n := 0) 74 0 rfl rfl ?_
        refine iz_getR 75 9 h0 fl_X10_35 rfl (by decide) (by decide) rfl ?_
        refine iz_iload_n (n := 2) 76 2 rfl rfl ?_
        refine iz_iald 77 (sf_10_9 h0) rfl ?_
        refine iz_iconst (v := 1) 78 (by decide) rfl ?_
        refine iz_isub 79 rfl ?_
        refine iz_callVV (As := [.int x2, .int ((iz_g S14 (iz_rf a0 9) x2) - 1)]) (rest := []) 80 ml_X10_188 cw_X10_goes ci_X10_goes h0 (fun r9 hr9 => m_Mo_goes h0 hr9) rfl (by decide) (by decide) rfl rfl (Nat.le_of_ble_eq_true rfl) (fun S15 => ?_)
        refine iz_iload (n := 4) 81 4 rfl rfl ?_
        exact iz_iret 82 rfl
      · refine iz_aload_n (n := 0) 16 0 rfl rfl ?_
        refine iz_iconst (v := 3) 17 (by decide) rfl ?_
        refine iz_callVI (As := [.int 3]) (rest := []) 18 ml_X10_127 cw_X10_finding ci_X10_finding h0 (fun r9 hr9 => m_Mo_finding h0 hr9) rfl (by decide) (by decide) rfl rfl (Nat.le_of_ble_eq_true rfl) (fun r17 S16 => ?_)
        exact iz_iret 19 rfl
    · exact iz_sub [0] rfl (c_Mo_serve_15 h0 S3)
theorem m_Mo_serve {X : iz_X} {l : Launch} {a0 : Nat} (h0 : iz_sh a0 = (10 + 3, 48)) {x1 : Int32} {x2 : Int32} {S : iz_S} {r9 : Int32 × iz_S} (hr : Mo_serve a0 x1 x2 S = some r9) : iz_Mt X l 3 yX10_serve cX10_serve 5 (some .int) [.ref (X.1 a0), .int x1, .int x2] S (iz_eI r9) :=
  iz_Mt_of (dt := tX10_serve) dX10_serve (by decide) hr (Nat.le_of_ble_eq_true rfl) (c_Mo_serve h0 x1 x2 S)
def Mo_trySales_191 (a0 : Nat) (rc : Nat → Int32 → Int32 → iz_S → Option iz_S) (S : iz_S) : Option iz_S :=
  some S
def Mo_trySales_179 (a0 : Nat) (rc : Nat → Int32 → Int32 → iz_S → Option iz_S) (k63 : Int32 → Int32 → Int32 → iz_S → Option iz_S) (k79 : Int32 → Int32 → Int32 → Int32 → iz_S → Option iz_S) (x1 : Int32) (x2 : Int32) (x3 : Int32) (x4 : Int32) (S : iz_S) : Option iz_S :=
  (k79 x1 x2 x3 (x4 + 1) S)
def Mo_trySales_79b (a0 : Nat) (rc : Nat → Int32 → Int32 → iz_S → Option iz_S) (k63 : Int32 → Int32 → Int32 → iz_S → Option iz_S) (k79 : Int32 → Int32 → Int32 → Int32 → iz_S → Option iz_S) (x1 : Int32) (x2 : Int32) (x3 : Int32) (x4 : Int32) (S : iz_S) : Option iz_S :=
  (if x4 < (S.1 a0 32) then
    (iz_ck (iz_in x4 6) (
    iz_lt (iz_g S (iz_rf a0 31) x4) (fun v4 =>
    iz_bI (Mo_whyNot a0 x3 v4 S) (fun r6 S5 =>
    if r6 = 0 then
      iz_ck (iz_in ((2 : Int32) * x1) 8) (iz_lt (iz_s S5 (iz_rf a0 43) ((2 : Int32) * x1) x3) (fun S7 =>
      iz_ck (iz_in (((2 : Int32) * x1) + 1) 8) (iz_lt (iz_s S7 (iz_rf a0 43) (((2 : Int32) * x1) + 1) v4) (fun S8 =>
      iz_ck (iz_in x3 10) (iz_lt (iz_s S8 (iz_rf a0 20) x3 (iz_nb 1)) (fun S9 =>
      iz_ck (iz_in v4 16) (
      iz_ck (iz_in v4 16) (iz_lt (iz_s S9 (iz_rf a0 9) v4 ((iz_g S9 (iz_rf a0 9) v4) - 1)) (fun S10 =>
      iz_ck (iz_in x3 10) (
      iz_bV (rc a0 (x1 + 1) (x2 + (iz_g S10 (iz_rf a0 19) x3)) S10) (fun S11 =>
      iz_ck (iz_in v4 16) (
      iz_ck (iz_in v4 16) (iz_lt (iz_s S11 (iz_rf a0 9) v4 ((iz_g S11 (iz_rf a0 9) v4) + 1)) (fun S12 =>
      iz_ck (iz_in x3 10) (iz_lt (iz_s S12 (iz_rf a0 20) x3 (iz_nb 0)) (fun S13 =>
      (Mo_trySales_179 a0 rc k63 k79 x1 x2 x3 x4 S13)))))))))))))))))
    else
      (Mo_trySales_179 a0 rc k63 k79 x1 x2 x3 x4 S5)))))
  else
    (k63 x1 x2 (x3 + 1) S))
def Mo_trySales_79 (a0 : Nat) (rc : Nat → Int32 → Int32 → iz_S → Option iz_S) (k63 : Int32 → Int32 → Int32 → iz_S → Option iz_S) : Nat → Int32 → Int32 → Int32 → Int32 → iz_S → Option iz_S
  | 0 => fun _ _ _ _ _ => none
  | n9 + 1 => Mo_trySales_79b a0 rc k63 (Mo_trySales_79 a0 rc k63 n9)
def Mo_trySales_63b (a0 : Nat) (rc : Nat → Int32 → Int32 → iz_S → Option iz_S) (k63 : Int32 → Int32 → Int32 → iz_S → Option iz_S) (x1 : Int32) (x2 : Int32) (x3 : Int32) (S : iz_S) : Option iz_S :=
  (if x3 < (S.1 a0 14) then
    (if x1 < 4 then
      (Mo_trySales_79 a0 rc k63 iz_FU x1 x2 x3 0 S)
    else
      (Mo_trySales_191 a0 rc S))
  else
    (Mo_trySales_191 a0 rc S))
def Mo_trySales_63 (a0 : Nat) (rc : Nat → Int32 → Int32 → iz_S → Option iz_S) : Nat → Int32 → Int32 → Int32 → iz_S → Option iz_S
  | 0 => fun _ _ _ _ => none
  | n9 + 1 => Mo_trySales_63b a0 rc (Mo_trySales_63 a0 rc n9)
def Mo_trySales_61 (a0 : Nat) (rc : Nat → Int32 → Int32 → iz_S → Option iz_S) (x1 : Int32) (x2 : Int32) (S : iz_S) : Option iz_S :=
  (Mo_trySales_63 a0 rc iz_FU x1 x2 0 S)
def Mo_trySales_36b (a0 : Nat) (rc : Nat → Int32 → Int32 → iz_S → Option iz_S) (k36 : Int32 → Int32 → Int32 → iz_S → Option iz_S) (x1 : Int32) (x2 : Int32) (x3 : Int32) (S : iz_S) : Option iz_S :=
  (if x3 < ((2 : Int32) * x1) then
    iz_ck (iz_in x3 8) (
    iz_ck (iz_in x3 8) (iz_lt (iz_s S (iz_rf a0 44) x3 (iz_g S (iz_rf a0 43) x3)) (fun S3 =>
    (k36 x1 x2 (x3 + 1) S3))))
  else
    (Mo_trySales_61 a0 rc x1 x2 S))
def Mo_trySales_36 (a0 : Nat) (rc : Nat → Int32 → Int32 → iz_S → Option iz_S) : Nat → Int32 → Int32 → Int32 → iz_S → Option iz_S
  | 0 => fun _ _ _ _ => none
  | n9 + 1 => Mo_trySales_36b a0 rc (Mo_trySales_36 a0 rc n9)
def Mo_trySales_24 (a0 : Nat) (rc : Nat → Int32 → Int32 → iz_S → Option iz_S) (x1 : Int32) (x2 : Int32) (S : iz_S) : Option iz_S :=
  iz_lt (iz_up S a0 46 x2) (fun S1 =>
  iz_lt (iz_up S1 a0 45 x1) (fun S2 =>
  (Mo_trySales_36 a0 rc iz_FU x1 x2 0 S2)))
def Mo_trySales_b (a0 : Nat) (rc : Nat → Int32 → Int32 → iz_S → Option iz_S) (x1 : Int32) (x2 : Int32) (S : iz_S) : Option iz_S :=
  (if x2 ≤ (S.1 a0 46) then
    (if x2 = (S.1 a0 46) then
      (if x1 < (S.1 a0 45) then
        (Mo_trySales_24 a0 rc x1 x2 S)
      else
        (Mo_trySales_61 a0 rc x1 x2 S))
    else
      (Mo_trySales_61 a0 rc x1 x2 S))
  else
    (Mo_trySales_24 a0 rc x1 x2 S))
def Mo_trySales : Nat → Nat → Int32 → Int32 → iz_S → Option iz_S
  | 0 => fun _ _ _ _ => none
  | n9 + 1 => fun a0 x1 x2 S => Mo_trySales_b a0 (Mo_trySales n9) x1 x2 S
set_option maxRecDepth 10000 in
theorem c_Mo_trySales_191 {X : iz_X} {l : Launch} {a0 : Nat} (h0 : iz_sh a0 = (10 + 3, 48)) {rc : Nat → Int32 → Int32 → iz_S → Option iz_S} {d0 : Nat} (hrc : ∀ {a0 : Nat} (_ : iz_sh a0 = (10 + 3, 48)) (x1 : Int32) (x2 : Int32) (S : iz_S) r9, rc a0 x1 x2 S = some r9 → iz_Mt X l d0 yX10_trySales cX10_trySales 6 none [.ref (X.1 a0), .int x1, .int x2] S (iz_eV r9))  {d : Nat} (hd0 : d = d0 + 1) (hd9 : 3 ≤ d0) (S : iz_S) : iz_Y X l RX10 tX10_trySales 6 d (iz_Kc X l yX10_trySales cX10_trySales 6 none d iz_eV) 191 [] [] S (Mo_trySales_191 a0 rc S) := by
  unfold Mo_trySales_191
  subst hd0
  exact iz_vret 117 rfl
set_option maxRecDepth 10000 in
theorem c_Mo_trySales_179 {X : iz_X} {l : Launch} {a0 : Nat} (h0 : iz_sh a0 = (10 + 3, 48)) {rc : Nat → Int32 → Int32 → iz_S → Option iz_S} {d0 : Nat} (hrc : ∀ {a0 : Nat} (_ : iz_sh a0 = (10 + 3, 48)) (x1 : Int32) (x2 : Int32) (S : iz_S) r9, rc a0 x1 x2 S = some r9 → iz_Mt X l d0 yX10_trySales cX10_trySales 6 none [.ref (X.1 a0), .int x1, .int x2] S (iz_eV r9))  {d : Nat} (hd0 : d = d0 + 1) (hd9 : 3 ≤ d0) {k63 : Int32 → Int32 → Int32 → iz_S → Option iz_S} {k79 : Int32 → Int32 → Int32 → Int32 → iz_S → Option iz_S} (hk63 : ∀ (x1 : Int32) (x2 : Int32) (x3 : Int32) (S : iz_S), iz_Y X l RX10 tX10_trySales 6 d (iz_Kc X l yX10_trySales cX10_trySales 6 none d iz_eV) 63 [(0, .ref (X.1 a0)), (1, .int x1), (2, .int x2), (3, .int x3)] [] S (k63 x1 x2 x3 S)) (hk79 : ∀ (x1 : Int32) (x2 : Int32) (x3 : Int32) (x4 : Int32) (S : iz_S), iz_Y X l RX10 tX10_trySales 6 d (iz_Kc X l yX10_trySales cX10_trySales 6 none d iz_eV) 79 [(0, .ref (X.1 a0)), (1, .int x1), (2, .int x2), (3, .int x3), (4, .int x4)] [] S (k79 x1 x2 x3 x4 S)) (x1 : Int32) (x2 : Int32) (x3 : Int32) (x4 : Int32) (S : iz_S) : iz_Y X l RX10 tX10_trySales 6 d (iz_Kc X l yX10_trySales cX10_trySales 6 none d iz_eV) 179 [(0, .ref (X.1 a0)), (1, .int x1), (2, .int x2), (3, .int x3), (4, .int x4)] [] S (Mo_trySales_179 a0 rc k63 k79 x1 x2 x3 x4 S) := by
  unfold Mo_trySales_179
  subst hd0
  refine iz_iinc (v := (x4 + 1)) (ls2 := [(0, .ref (X.1 a0)), (1, .int x1), (2, .int x2), (3, .int x3), (4, .int (x4 + 1))]) 113 4 [1, 2, 3, 4, 0] rfl rfl rfl (by decide) rfl ?_
  refine iz_goto (tgt := 79) 114 (by decide) rfl ?_
  exact hk79 x1 x2 x3 (x4 + 1) S
set_option maxRecDepth 10000 in
theorem c_Mo_trySales_79b {X : iz_X} {l : Launch} {a0 : Nat} (h0 : iz_sh a0 = (10 + 3, 48)) {rc : Nat → Int32 → Int32 → iz_S → Option iz_S} {d0 : Nat} (hrc : ∀ {a0 : Nat} (_ : iz_sh a0 = (10 + 3, 48)) (x1 : Int32) (x2 : Int32) (S : iz_S) r9, rc a0 x1 x2 S = some r9 → iz_Mt X l d0 yX10_trySales cX10_trySales 6 none [.ref (X.1 a0), .int x1, .int x2] S (iz_eV r9))  {d : Nat} (hd0 : d = d0 + 1) (hd9 : 3 ≤ d0) {k63 : Int32 → Int32 → Int32 → iz_S → Option iz_S} {k79 : Int32 → Int32 → Int32 → Int32 → iz_S → Option iz_S} (hk63 : ∀ (x1 : Int32) (x2 : Int32) (x3 : Int32) (S : iz_S), iz_Y X l RX10 tX10_trySales 6 d (iz_Kc X l yX10_trySales cX10_trySales 6 none d iz_eV) 63 [(0, .ref (X.1 a0)), (1, .int x1), (2, .int x2), (3, .int x3)] [] S (k63 x1 x2 x3 S)) (hk79 : ∀ (x1 : Int32) (x2 : Int32) (x3 : Int32) (x4 : Int32) (S : iz_S), iz_Y X l RX10 tX10_trySales 6 d (iz_Kc X l yX10_trySales cX10_trySales 6 none d iz_eV) 79 [(0, .ref (X.1 a0)), (1, .int x1), (2, .int x2), (3, .int x3), (4, .int x4)] [] S (k79 x1 x2 x3 x4 S)) (x1 : Int32) (x2 : Int32) (x3 : Int32) (x4 : Int32) (S : iz_S) : iz_Y X l RX10 tX10_trySales 6 d (iz_Kc X l yX10_trySales cX10_trySales 6 none d iz_eV) 79 [(0, .ref (X.1 a0)), (1, .int x1), (2, .int x2), (3, .int x3), (4, .int x4)] [] S (Mo_trySales_79b a0 rc k63 k79 x1 x2 x3 x4 S) := by
  unfold Mo_trySales_79b
  subst hd0
  refine iz_iload (n := 4) 46 4 rfl rfl ?_
  refine iz_aload_n (n := 0) 47 0 rfl rfl ?_
  refine iz_getI 48 32 h0 fl_X10_170 rfl (by decide) (by decide) rfl ?_
  refine iz_cmp_ge (tgt := 185) 49 rfl (by decide) ?_ ?_
  · refine iz_iinc (v := (x3 + 1)) (ls2 := [(0, .ref (X.1 a0)), (1, .int x1), (2, .int x2), (3, .int (x3 + 1))]) 115 3 [1, 2, 3, 0] rfl rfl rfl (by decide) rfl ?_
    refine iz_goto (tgt := 63) 116 (by decide) rfl ?_
    exact hk63 x1 x2 (x3 + 1) S
  · refine iz_aload_n (n := 0) 50 0 rfl rfl ?_
    refine iz_getR 51 31 h0 fl_X10_89 rfl (by decide) (by decide) rfl ?_
    refine iz_iload (n := 4) 52 4 rfl rfl ?_
    refine iz_iald 53 (sf_10_31 h0) rfl ?_
    refine iz_let (fun v4 => ?_)
    refine iz_istore (n := 5) (ls2 := [(0, .ref (X.1 a0)), (1, .int x1), (2, .int x2), (3, .int x3), (4, .int x4), (5, .int v4)]) 54 [1, 2, 3, 4, 5, 0] rfl (by decide) rfl ?_
    refine iz_aload_n (n := 0) 55 0 rfl rfl ?_
    refine iz_iload_n (n := 3) 56 3 rfl rfl ?_
    refine iz_iload (n := 5) 57 5 rfl rfl ?_
    refine iz_callVI (As := [.int x3, .int v4]) (rest := []) 58 ml_X10_257 cw_X10_whyNot ci_X10_whyNot h0 (fun r9 hr9 => m_Mo_whyNot h0 hr9) rfl (by decide) (by omega) rfl rfl (Nat.le_of_ble_eq_true rfl) (fun r6 S5 => ?_)
    refine iz_if_ne (tgt := 179) 59 rfl (by decide) ?_ ?_
    · exact iz_sub [0, 1, 2, 3, 4] rfl (c_Mo_trySales_179 h0 hrc rfl hd9 hk63 hk79 x1 x2 x3 x4 S5)
    · refine iz_aload_n (n := 0) 60 0 rfl rfl ?_
      refine iz_getR 61 43 h0 fl_X10_113 rfl (by decide) (by decide) rfl ?_
      refine iz_iconst (v := 2) 62 (by decide) rfl ?_
      refine iz_iload_n (n := 1) 63 1 rfl rfl ?_
      refine iz_imul 64 rfl ?_
      refine iz_iload_n (n := 3) 65 3 rfl rfl ?_
      refine iz_iast 66 (sf_10_43 h0) rfl (fun S7 => ?_)
      refine iz_aload_n (n := 0) 67 0 rfl rfl ?_
      refine iz_getR 68 43 h0 fl_X10_113 rfl (by decide) (by decide) rfl ?_
      refine iz_iconst (v := 2) 69 (by decide) rfl ?_
      refine iz_iload_n (n := 1) 70 1 rfl rfl ?_
      refine iz_imul 71 rfl ?_
      refine iz_iconst (v := 1) 72 (by decide) rfl ?_
      refine iz_iadd 73 rfl ?_
      refine iz_iload (n := 5) 74 5 rfl rfl ?_
      refine iz_iast 75 (sf_10_43 h0) rfl (fun S8 => ?_)
      refine iz_aload_n (n := 0) 76 0 rfl rfl ?_
      refine iz_getR 77 20 h0 fl_X10_62 rfl (by decide) (by decide) rfl ?_
      refine iz_iload_n (n := 3) 78 3 rfl rfl ?_
      refine iz_iconst (v := 1) 79 (by decide) rfl ?_
      refine iz_bast 80 (sf_10_20 h0) rfl (fun S9 => ?_)
      refine iz_aload_n (n := 0) 81 0 rfl rfl ?_
      refine iz_getR 82 9 h0 fl_X10_35 rfl (by decide) (by decide) rfl ?_
      refine iz_iload (n := 5) 83 5 rfl rfl ?_
      refine iz_dup2 84 rfl rfl rfl ?_
      refine iz_iald 85 (sf_10_9 h0) rfl ?_
      refine iz_iconst (v := 1) 86 (by decide) rfl ?_
      refine iz_isub 87 rfl ?_
      refine iz_iast 88 (sf_10_9 h0) rfl (fun S10 => ?_)
      refine iz_aload_n (n := 0) 89 0 rfl rfl ?_
      refine iz_iload_n (n := 1) 90 1 rfl rfl ?_
      refine iz_iconst (v := 1) 91 (by decide) rfl ?_
      refine iz_iadd 92 rfl ?_
      refine iz_iload_n (n := 2) 93 2 rfl rfl ?_
      refine iz_aload_n (n := 0) 94 0 rfl rfl ?_
      refine iz_getR 95 19 h0 fl_X10_59 rfl (by decide) (by decide) rfl ?_
      refine iz_iload_n (n := 3) 96 3 rfl rfl ?_
      refine iz_iald 97 (sf_10_19 h0) rfl ?_
      refine iz_iadd 98 rfl ?_
      refine iz_callVV (As := [.int (x1 + 1), .int (x2 + (iz_g S10 (iz_rf a0 19) x3))]) (rest := []) 99 ml_X10_266 cw_X10_trySales ci_X10_trySales h0 (fun r9 hr9 => hrc h0 (x1 + 1) (x2 + (iz_g S10 (iz_rf a0 19) x3)) S10 r9 hr9) rfl (by decide) (Nat.le_refl _) rfl rfl (Nat.le_of_ble_eq_true rfl) (fun S11 => ?_)
      refine iz_aload_n (n := 0) 100 0 rfl rfl ?_
      refine iz_getR 101 9 h0 fl_X10_35 rfl (by decide) (by decide) rfl ?_
      refine iz_iload (n := 5) 102 5 rfl rfl ?_
      refine iz_dup2 103 rfl rfl rfl ?_
      refine iz_iald 104 (sf_10_9 h0) rfl ?_
      refine iz_iconst (v := 1) 105 (by decide) rfl ?_
      refine iz_iadd 106 rfl ?_
      refine iz_iast 107 (sf_10_9 h0) rfl (fun S12 => ?_)
      refine iz_aload_n (n := 0) 108 0 rfl rfl ?_
      refine iz_getR 109 20 h0 fl_X10_62 rfl (by decide) (by decide) rfl ?_
      refine iz_iload_n (n := 3) 110 3 rfl rfl ?_
      refine iz_iconst (v := 0) 111 (by decide) rfl ?_
      refine iz_bast 112 (sf_10_20 h0) rfl (fun S13 => ?_)
      exact iz_sub [0, 1, 2, 3, 4] rfl (c_Mo_trySales_179 h0 hrc rfl hd9 hk63 hk79 x1 x2 x3 x4 S13)
theorem c_Mo_trySales_79 {X : iz_X} {l : Launch} {a0 : Nat} (h0 : iz_sh a0 = (10 + 3, 48)) {rc : Nat → Int32 → Int32 → iz_S → Option iz_S} {d0 : Nat} (hrc : ∀ {a0 : Nat} (_ : iz_sh a0 = (10 + 3, 48)) (x1 : Int32) (x2 : Int32) (S : iz_S) r9, rc a0 x1 x2 S = some r9 → iz_Mt X l d0 yX10_trySales cX10_trySales 6 none [.ref (X.1 a0), .int x1, .int x2] S (iz_eV r9))  {d : Nat} (hd0 : d = d0 + 1) (hd9 : 3 ≤ d0) {k63 : Int32 → Int32 → Int32 → iz_S → Option iz_S} (hk63 : ∀ (x1 : Int32) (x2 : Int32) (x3 : Int32) (S : iz_S), iz_Y X l RX10 tX10_trySales 6 d (iz_Kc X l yX10_trySales cX10_trySales 6 none d iz_eV) 63 [(0, .ref (X.1 a0)), (1, .int x1), (2, .int x2), (3, .int x3)] [] S (k63 x1 x2 x3 S)) : ∀ (n9 : Nat) (x1 : Int32) (x2 : Int32) (x3 : Int32) (x4 : Int32) (S : iz_S), iz_Y X l RX10 tX10_trySales 6 d (iz_Kc X l yX10_trySales cX10_trySales 6 none d iz_eV) 79 [(0, .ref (X.1 a0)), (1, .int x1), (2, .int x2), (3, .int x3), (4, .int x4)] [] S (Mo_trySales_79 a0 rc k63 n9 x1 x2 x3 x4 S)
  | 0 => by
    intros
    exact iz_none
  | n9 + 1 => c_Mo_trySales_79b h0 hrc hd0 hd9 hk63 (c_Mo_trySales_79 h0 hrc hd0 hd9 hk63 n9)
set_option maxRecDepth 10000 in
theorem c_Mo_trySales_63b {X : iz_X} {l : Launch} {a0 : Nat} (h0 : iz_sh a0 = (10 + 3, 48)) {rc : Nat → Int32 → Int32 → iz_S → Option iz_S} {d0 : Nat} (hrc : ∀ {a0 : Nat} (_ : iz_sh a0 = (10 + 3, 48)) (x1 : Int32) (x2 : Int32) (S : iz_S) r9, rc a0 x1 x2 S = some r9 → iz_Mt X l d0 yX10_trySales cX10_trySales 6 none [.ref (X.1 a0), .int x1, .int x2] S (iz_eV r9))  {d : Nat} (hd0 : d = d0 + 1) (hd9 : 3 ≤ d0) {k63 : Int32 → Int32 → Int32 → iz_S → Option iz_S} (hk63 : ∀ (x1 : Int32) (x2 : Int32) (x3 : Int32) (S : iz_S), iz_Y X l RX10 tX10_trySales 6 d (iz_Kc X l yX10_trySales cX10_trySales 6 none d iz_eV) 63 [(0, .ref (X.1 a0)), (1, .int x1), (2, .int x2), (3, .int x3)] [] S (k63 x1 x2 x3 S)) (x1 : Int32) (x2 : Int32) (x3 : Int32) (S : iz_S) : iz_Y X l RX10 tX10_trySales 6 d (iz_Kc X l yX10_trySales cX10_trySales 6 none d iz_eV) 63 [(0, .ref (X.1 a0)), (1, .int x1), (2, .int x2), (3, .int x3)] [] S (Mo_trySales_63b a0 rc k63 x1 x2 x3 S) := by
  unfold Mo_trySales_63b
  subst hd0
  refine iz_iload_n (n := 3) 37 3 rfl rfl ?_
  refine iz_aload_n (n := 0) 38 0 rfl rfl ?_
  refine iz_getI 39 14 h0 fl_X10_245 rfl (by decide) (by decide) rfl ?_
  refine iz_cmp_ge (tgt := 191) 40 rfl (by decide) ?_ ?_
  · exact iz_sub [] rfl (c_Mo_trySales_191 h0 hrc rfl hd9 S)
  · refine iz_iload_n (n := 1) 41 1 rfl rfl ?_
    refine iz_iconst (v := 4) 42 (by decide) rfl ?_
    refine iz_cmp_ge (tgt := 191) 43 rfl (by decide) ?_ ?_
    · exact iz_sub [] rfl (c_Mo_trySales_191 h0 hrc rfl hd9 S)
    · refine iz_iconst (v := 0) 44 (by decide) rfl ?_
      refine iz_istore (n := 4) (ls2 := [(0, .ref (X.1 a0)), (1, .int x1), (2, .int x2), (3, .int x3), (4, .int 0)]) 45 [1, 2, 3, 4, 0] rfl (by decide) rfl ?_
      exact c_Mo_trySales_79 h0 hrc rfl hd9 hk63 iz_FU x1 x2 x3 0 S
theorem c_Mo_trySales_63 {X : iz_X} {l : Launch} {a0 : Nat} (h0 : iz_sh a0 = (10 + 3, 48)) {rc : Nat → Int32 → Int32 → iz_S → Option iz_S} {d0 : Nat} (hrc : ∀ {a0 : Nat} (_ : iz_sh a0 = (10 + 3, 48)) (x1 : Int32) (x2 : Int32) (S : iz_S) r9, rc a0 x1 x2 S = some r9 → iz_Mt X l d0 yX10_trySales cX10_trySales 6 none [.ref (X.1 a0), .int x1, .int x2] S (iz_eV r9))  {d : Nat} (hd0 : d = d0 + 1) (hd9 : 3 ≤ d0) : ∀ (n9 : Nat) (x1 : Int32) (x2 : Int32) (x3 : Int32) (S : iz_S), iz_Y X l RX10 tX10_trySales 6 d (iz_Kc X l yX10_trySales cX10_trySales 6 none d iz_eV) 63 [(0, .ref (X.1 a0)), (1, .int x1), (2, .int x2), (3, .int x3)] [] S (Mo_trySales_63 a0 rc n9 x1 x2 x3 S)
  | 0 => by
    intros
    exact iz_none
  | n9 + 1 => c_Mo_trySales_63b h0 hrc hd0 hd9 (c_Mo_trySales_63 h0 hrc hd0 hd9 n9)
set_option maxRecDepth 10000 in
theorem c_Mo_trySales_61 {X : iz_X} {l : Launch} {a0 : Nat} (h0 : iz_sh a0 = (10 + 3, 48)) {rc : Nat → Int32 → Int32 → iz_S → Option iz_S} {d0 : Nat} (hrc : ∀ {a0 : Nat} (_ : iz_sh a0 = (10 + 3, 48)) (x1 : Int32) (x2 : Int32) (S : iz_S) r9, rc a0 x1 x2 S = some r9 → iz_Mt X l d0 yX10_trySales cX10_trySales 6 none [.ref (X.1 a0), .int x1, .int x2] S (iz_eV r9))  {d : Nat} (hd0 : d = d0 + 1) (hd9 : 3 ≤ d0) (x1 : Int32) (x2 : Int32) (S : iz_S) : iz_Y X l RX10 tX10_trySales 6 d (iz_Kc X l yX10_trySales cX10_trySales 6 none d iz_eV) 61 [(0, .ref (X.1 a0)), (1, .int x1), (2, .int x2)] [] S (Mo_trySales_61 a0 rc x1 x2 S) := by
  unfold Mo_trySales_61
  subst hd0
  refine iz_iconst (v := 0) 35 (by decide) rfl ?_
  refine iz_istore_n (n := 3) (ls2 := [(0, .ref (X.1 a0)), (1, .int x1), (2, .int x2), (3, .int 0)]) 36 [1, 2, 3, 0] rfl (by decide) rfl ?_
  exact c_Mo_trySales_63 h0 hrc rfl hd9 iz_FU x1 x2 0 S
set_option maxRecDepth 10000 in
theorem c_Mo_trySales_36b {X : iz_X} {l : Launch} {a0 : Nat} (h0 : iz_sh a0 = (10 + 3, 48)) {rc : Nat → Int32 → Int32 → iz_S → Option iz_S} {d0 : Nat} (hrc : ∀ {a0 : Nat} (_ : iz_sh a0 = (10 + 3, 48)) (x1 : Int32) (x2 : Int32) (S : iz_S) r9, rc a0 x1 x2 S = some r9 → iz_Mt X l d0 yX10_trySales cX10_trySales 6 none [.ref (X.1 a0), .int x1, .int x2] S (iz_eV r9))  {d : Nat} (hd0 : d = d0 + 1) (hd9 : 3 ≤ d0) {k36 : Int32 → Int32 → Int32 → iz_S → Option iz_S} (hk36 : ∀ (x1 : Int32) (x2 : Int32) (x3 : Int32) (S : iz_S), iz_Y X l RX10 tX10_trySales 6 d (iz_Kc X l yX10_trySales cX10_trySales 6 none d iz_eV) 36 [(0, .ref (X.1 a0)), (1, .int x1), (2, .int x2), (3, .int x3)] [] S (k36 x1 x2 x3 S)) (x1 : Int32) (x2 : Int32) (x3 : Int32) (S : iz_S) : iz_Y X l RX10 tX10_trySales 6 d (iz_Kc X l yX10_trySales cX10_trySales 6 none d iz_eV) 36 [(0, .ref (X.1 a0)), (1, .int x1), (2, .int x2), (3, .int x3)] [] S (Mo_trySales_36b a0 rc k36 x1 x2 x3 S) := by
  unfold Mo_trySales_36b
  subst hd0
  refine iz_iload_n (n := 3) 20 3 rfl rfl ?_
  refine iz_iconst (v := 2) 21 (by decide) rfl ?_
  refine iz_iload_n (n := 1) 22 1 rfl rfl ?_
  refine iz_imul 23 rfl ?_
  refine iz_cmp_ge (tgt := 61) 24 rfl (by decide) ?_ ?_
  · exact iz_sub [0, 1, 2] rfl (c_Mo_trySales_61 h0 hrc rfl hd9 x1 x2 S)
  · refine iz_aload_n (n := 0) 25 0 rfl rfl ?_
    refine iz_getR 26 44 h0 fl_X10_116 rfl (by decide) (by decide) rfl ?_
    refine iz_iload_n (n := 3) 27 3 rfl rfl ?_
    refine iz_aload_n (n := 0) 28 0 rfl rfl ?_
    refine iz_getR 29 43 h0 fl_X10_113 rfl (by decide) (by decide) rfl ?_
    refine iz_iload_n (n := 3) 30 3 rfl rfl ?_
    refine iz_iald 31 (sf_10_43 h0) rfl ?_
    refine iz_iast 32 (sf_10_44 h0) rfl (fun S3 => ?_)
    refine iz_iinc (v := (x3 + 1)) (ls2 := [(0, .ref (X.1 a0)), (1, .int x1), (2, .int x2), (3, .int (x3 + 1))]) 33 3 [1, 2, 3, 0] rfl rfl rfl (by decide) rfl ?_
    refine iz_goto (tgt := 36) 34 (by decide) rfl ?_
    exact hk36 x1 x2 (x3 + 1) S3
theorem c_Mo_trySales_36 {X : iz_X} {l : Launch} {a0 : Nat} (h0 : iz_sh a0 = (10 + 3, 48)) {rc : Nat → Int32 → Int32 → iz_S → Option iz_S} {d0 : Nat} (hrc : ∀ {a0 : Nat} (_ : iz_sh a0 = (10 + 3, 48)) (x1 : Int32) (x2 : Int32) (S : iz_S) r9, rc a0 x1 x2 S = some r9 → iz_Mt X l d0 yX10_trySales cX10_trySales 6 none [.ref (X.1 a0), .int x1, .int x2] S (iz_eV r9))  {d : Nat} (hd0 : d = d0 + 1) (hd9 : 3 ≤ d0) : ∀ (n9 : Nat) (x1 : Int32) (x2 : Int32) (x3 : Int32) (S : iz_S), iz_Y X l RX10 tX10_trySales 6 d (iz_Kc X l yX10_trySales cX10_trySales 6 none d iz_eV) 36 [(0, .ref (X.1 a0)), (1, .int x1), (2, .int x2), (3, .int x3)] [] S (Mo_trySales_36 a0 rc n9 x1 x2 x3 S)
  | 0 => by
    intros
    exact iz_none
  | n9 + 1 => c_Mo_trySales_36b h0 hrc hd0 hd9 (c_Mo_trySales_36 h0 hrc hd0 hd9 n9)
set_option maxRecDepth 10000 in
theorem c_Mo_trySales_24 {X : iz_X} {l : Launch} {a0 : Nat} (h0 : iz_sh a0 = (10 + 3, 48)) {rc : Nat → Int32 → Int32 → iz_S → Option iz_S} {d0 : Nat} (hrc : ∀ {a0 : Nat} (_ : iz_sh a0 = (10 + 3, 48)) (x1 : Int32) (x2 : Int32) (S : iz_S) r9, rc a0 x1 x2 S = some r9 → iz_Mt X l d0 yX10_trySales cX10_trySales 6 none [.ref (X.1 a0), .int x1, .int x2] S (iz_eV r9))  {d : Nat} (hd0 : d = d0 + 1) (hd9 : 3 ≤ d0) (x1 : Int32) (x2 : Int32) (S : iz_S) : iz_Y X l RX10 tX10_trySales 6 d (iz_Kc X l yX10_trySales cX10_trySales 6 none d iz_eV) 24 [(0, .ref (X.1 a0)), (1, .int x1), (2, .int x2)] [] S (Mo_trySales_24 a0 rc x1 x2 S) := by
  unfold Mo_trySales_24
  subst hd0
  refine iz_aload_n (n := 0) 12 0 rfl rfl ?_
  refine iz_iload_n (n := 2) 13 2 rfl rfl ?_
  refine iz_putI 14 46 h0 fl_X10_260 rfl (by decide) (by decide) rfl (fun S1 => ?_)
  refine iz_aload_n (n := 0) 15 0 rfl rfl ?_
  refine iz_iload_n (n := 1) 16 1 rfl rfl ?_
  refine iz_putI 17 45 h0 fl_X10_263 rfl (by decide) (by decide) rfl (fun S2 => ?_)
  refine iz_iconst (v := 0) 18 (by decide) rfl ?_
  refine iz_istore_n (n := 3) (ls2 := [(0, .ref (X.1 a0)), (1, .int x1), (2, .int x2), (3, .int 0)]) 19 [1, 2, 3, 0] rfl (by decide) rfl ?_
  exact c_Mo_trySales_36 h0 hrc rfl hd9 iz_FU x1 x2 0 S2
set_option maxRecDepth 10000 in
theorem c_Mo_trySales_b {X : iz_X} {l : Launch} {a0 : Nat} (h0 : iz_sh a0 = (10 + 3, 48)) {rc : Nat → Int32 → Int32 → iz_S → Option iz_S} {d0 : Nat} (hrc : ∀ {a0 : Nat} (_ : iz_sh a0 = (10 + 3, 48)) (x1 : Int32) (x2 : Int32) (S : iz_S) r9, rc a0 x1 x2 S = some r9 → iz_Mt X l d0 yX10_trySales cX10_trySales 6 none [.ref (X.1 a0), .int x1, .int x2] S (iz_eV r9))  {d : Nat} (hd0 : d = d0 + 1) (hd9 : 3 ≤ d0) (x1 : Int32) (x2 : Int32) (S : iz_S) : iz_Y X l RX10 tX10_trySales 6 d (iz_Kc X l yX10_trySales cX10_trySales 6 none d iz_eV) 0 [(0, .ref (X.1 a0)), (1, .int x1), (2, .int x2)] [] S (Mo_trySales_b a0 rc x1 x2 S) := by
  unfold Mo_trySales_b
  subst hd0
  refine iz_iload_n (n := 2) 0 2 rfl rfl ?_
  refine iz_aload_n (n := 0) 1 0 rfl rfl ?_
  refine iz_getI 2 46 h0 fl_X10_260 rfl (by decide) (by decide) rfl ?_
  refine iz_cmp_gt (tgt := 24) 3 rfl (by decide) ?_ ?_
  · exact c_Mo_trySales_24 h0 hrc rfl hd9 x1 x2 S
  · refine iz_iload_n (n := 2) 4 2 rfl rfl ?_
    refine iz_aload_n (n := 0) 5 0 rfl rfl ?_
    refine iz_getI 6 46 h0 fl_X10_260 rfl (by decide) (by decide) rfl ?_
    refine iz_cmp_ne (tgt := 61) 7 rfl (by decide) ?_ ?_
    · exact c_Mo_trySales_61 h0 hrc rfl hd9 x1 x2 S
    · refine iz_iload_n (n := 1) 8 1 rfl rfl ?_
      refine iz_aload_n (n := 0) 9 0 rfl rfl ?_
      refine iz_getI 10 45 h0 fl_X10_263 rfl (by decide) (by decide) rfl ?_
      refine iz_cmp_ge (tgt := 61) 11 rfl (by decide) ?_ ?_
      · exact c_Mo_trySales_61 h0 hrc rfl hd9 x1 x2 S
      · exact c_Mo_trySales_24 h0 hrc rfl hd9 x1 x2 S
theorem m_Mo_trySales_n {X : iz_X} {l : Launch} : ∀ (n9 : Nat) {a0 : Nat} (_ : iz_sh a0 = (10 + 3, 48)) (x1 : Int32) (x2 : Int32) (S : iz_S) (r9 : iz_S), Mo_trySales n9 a0 x1 x2 S = some r9 → iz_Mt X l (3 + n9) yX10_trySales cX10_trySales 6 none [.ref (X.1 a0), .int x1, .int x2] S (iz_eV r9)
  | 0 => by
    intros
    rename_i h
    cases h
  | n9 + 1 => by
    intro  h0  x1 x2 S r9 hr
    exact iz_Mt_of (dt := tX10_trySales) dX10_trySales (by decide) hr (Nat.le_of_ble_eq_true rfl) (c_Mo_trySales_b h0 (fun {a0} h0  x1 x2 S r9 hr => m_Mo_trySales_n n9 h0  x1 x2 S r9 hr) rfl (by omega) x1 x2 S)
theorem m_Mo_trySales {X : iz_X} {l : Launch} {a0 : Nat} (h0 : iz_sh a0 = (10 + 3, 48)) {x1 : Int32} {x2 : Int32} {S : iz_S} {r9 : iz_S} (hr : Mo_trySales 10 a0 x1 x2 S = some r9) : iz_Mt X l 13 yX10_trySales cX10_trySales 6 none [.ref (X.1 a0), .int x1, .int x2] S (iz_eV r9) :=
  m_Mo_trySales_n 10 h0 x1 x2 S r9 hr
def Mo_sales_192 (a0 : Nat) (s0 : Int32) (S : iz_S) : Option (Int32 × iz_S) :=
  some (s0, S)
def Mo_sales_163 (a0 : Nat) (s0 : Int32) (S : iz_S) : Option (Int32 × iz_S) :=
  some (s0, S)
def Mo_sales_112 (a0 : Nat) (x1 : Int32) (x2 : Int32) (x3 : Int32) (S : iz_S) : Option (Int32 × iz_S) :=
  (if x3 = 0 then
    iz_bI (Mo_finding a0 3 S) (fun r16 S15 =>
    some (r16, S15))
  else
    (iz_lt (iz_up S a0 32 x2) (fun S9 =>
    iz_lt (iz_up S9 a0 46 0) (fun S10 =>
    iz_lt (iz_up S10 a0 45 0) (fun S11 =>
    iz_bV (Mo_trySales 10 a0 0 0 S11) (fun S12 =>
    if x1 < 2 then
      (if x1 = 0 then
        (Mo_sales_163 a0 (S12.1 a0 46) S12)
      else
        (Mo_sales_163 a0 (S12.1 a0 45) S12))
    else
      (if (x1 - 2) < ((2 : Int32) * (S12.1 a0 45)) then
        iz_ck (iz_in (x1 - 2) 8) (
        (Mo_sales_192 a0 (iz_g S12 (iz_rf a0 44) (x1 - 2)) S12))
      else
        iz_bI (Mo_finding a0 2 S12) (fun r14 S13 =>
        (Mo_sales_192 a0 r14 S13)))))))))
def Mo_sales_84 (a0 : Nat) (k30 : Int32 → Int32 → Int32 → Int32 → iz_S → Option (Int32 × iz_S)) (k54 : Int32 → Int32 → Int32 → Int32 → Int32 → iz_S → Option (Int32 × iz_S)) (x1 : Int32) (x2 : Int32) (x4 : Int32) (x5 : Int32) (s0 : Int32) (s1 : Int32) (S : iz_S) : Option (Int32 × iz_S) :=
  iz_lt (s0 &&& s1) (fun v18 =>
  (k54 x1 x2 v18 x4 (x5 + 1) S))
def Mo_sales_54b (a0 : Nat) (k30 : Int32 → Int32 → Int32 → Int32 → iz_S → Option (Int32 × iz_S)) (k54 : Int32 → Int32 → Int32 → Int32 → Int32 → iz_S → Option (Int32 × iz_S)) (x1 : Int32) (x2 : Int32) (x3 : Int32) (x4 : Int32) (x5 : Int32) (S : iz_S) : Option (Int32 × iz_S) :=
  (if x5 < x4 then
    (iz_ck (iz_in x5 16) (
    iz_ck (iz_in x4 16) (
    if (iz_g S (iz_rf a0 27) x5) = (iz_g S (iz_rf a0 27) x4) then
      (Mo_sales_84 a0 k30 k54 x1 x2 x4 x5 x3 0 S)
    else
      (Mo_sales_84 a0 k30 k54 x1 x2 x4 x5 x3 1 S))))
  else
    iz_ck (iz_in x4 16) (
    iz_ck (iz_in x4 6) (iz_lt (iz_s S (iz_rf a0 31) x4 (iz_g S (iz_rf a0 27) x4)) (fun S17 =>
    (k30 x1 x2 x3 (x4 + 1) S17)))))
def Mo_sales_54 (a0 : Nat) (k30 : Int32 → Int32 → Int32 → Int32 → iz_S → Option (Int32 × iz_S)) : Nat → Int32 → Int32 → Int32 → Int32 → Int32 → iz_S → Option (Int32 × iz_S)
  | 0 => fun _ _ _ _ _ _ => none
  | n9 + 1 => Mo_sales_54b a0 k30 (Mo_sales_54 a0 k30 n9)
def Mo_sales_30b (a0 : Nat) (k30 : Int32 → Int32 → Int32 → Int32 → iz_S → Option (Int32 × iz_S)) (x1 : Int32) (x2 : Int32) (x3 : Int32) (x4 : Int32) (S : iz_S) : Option (Int32 × iz_S) :=
  (if x4 < x2 then
    (if x3 = 0 then
      (Mo_sales_112 a0 x1 x2 x3 S)
    else
      iz_ck (iz_in x4 16) (
      iz_bI (Mo_isColumn (iz_g S (iz_rf a0 27) x4) S) (fun r8 S7 =>
      (Mo_sales_54 a0 k30 iz_FU x1 x2 r8 x4 0 S7))))
  else
    (Mo_sales_112 a0 x1 x2 x3 S))
def Mo_sales_30 (a0 : Nat) : Nat → Int32 → Int32 → Int32 → Int32 → iz_S → Option (Int32 × iz_S)
  | 0 => fun _ _ _ _ _ => none
  | n9 + 1 => Mo_sales_30b a0 (Mo_sales_30 a0 n9)
def Mo_sales (a0 : Nat) (x1 : Int32) (S : iz_S) : Option (Int32 × iz_S) :=
  (if x1 < 0 then
    iz_bI (Mo_finding a0 1 S) (fun r6 S5 =>
    some (r6, S5))
  else
    iz_lt (S.1 a0 26) (fun v1 =>
    iz_lt (iz_up S a0 26 0) (fun S2 =>
    iz_bI (Mo_isIn v1 1 3 S2) (fun r4 S3 =>
    (Mo_sales_30 a0 iz_FU x1 v1 r4 0 S3)))))
set_option maxRecDepth 10000 in
theorem c_Mo_sales_192 {X : iz_X} {l : Launch} {a0 : Nat} (h0 : iz_sh a0 = (10 + 3, 48)) (s0 : Int32) (S : iz_S) : iz_Y X l RX10 tX10_sales 6 14 (iz_Kc X l yX10_sales cX10_sales 6 (some .int) 14 iz_eI) 192 [] [.int s0] S (Mo_sales_192 a0 s0 S) := by
  unfold Mo_sales_192
  exact iz_iret 110 rfl
set_option maxRecDepth 10000 in
theorem c_Mo_sales_163 {X : iz_X} {l : Launch} {a0 : Nat} (h0 : iz_sh a0 = (10 + 3, 48)) (s0 : Int32) (S : iz_S) : iz_Y X l RX10 tX10_sales 6 14 (iz_Kc X l yX10_sales cX10_sales 6 (some .int) 14 iz_eI) 163 [] [.int s0] S (Mo_sales_163 a0 s0 S) := by
  unfold Mo_sales_163
  exact iz_iret 91 rfl
set_option maxRecDepth 10000 in
theorem c_Mo_sales_112 {X : iz_X} {l : Launch} {a0 : Nat} (h0 : iz_sh a0 = (10 + 3, 48)) (x1 : Int32) (x2 : Int32) (x3 : Int32) (S : iz_S) : iz_Y X l RX10 tX10_sales 6 14 (iz_Kc X l yX10_sales cX10_sales 6 (some .int) 14 iz_eI) 112 [(0, .ref (X.1 a0)), (1, .int x1), (2, .int x2), (3, .int x3)] [] S (Mo_sales_112 a0 x1 x2 x3 S) := by
  unfold Mo_sales_112
  refine iz_iload_n (n := 3) 62 3 rfl rfl ?_
  refine iz_if_ne (tgt := 122) 63 rfl (by decide) ?_ ?_
  · refine iz_aload_n (n := 0) 68 0 rfl rfl ?_
    refine iz_iload_n (n := 2) 69 2 rfl rfl ?_
    refine iz_putI 70 32 h0 fl_X10_170 rfl (by decide) (by decide) rfl (fun S9 => ?_)
    refine iz_aload_n (n := 0) 71 0 rfl rfl ?_
    refine iz_iconst (v := 0) 72 (by decide) rfl ?_
    refine iz_putI 73 46 h0 fl_X10_260 rfl (by decide) (by decide) rfl (fun S10 => ?_)
    refine iz_aload_n (n := 0) 74 0 rfl rfl ?_
    refine iz_iconst (v := 0) 75 (by decide) rfl ?_
    refine iz_putI 76 45 h0 fl_X10_263 rfl (by decide) (by decide) rfl (fun S11 => ?_)
    refine iz_aload_n (n := 0) 77 0 rfl rfl ?_
    refine iz_iconst (v := 0) 78 (by decide) rfl ?_
    refine iz_iconst (v := 0) 79 (by decide) rfl ?_
    refine iz_callVV (As := [.int 0, .int 0]) (rest := []) 80 ml_X10_266 cw_X10_trySales ci_X10_trySales h0 (fun r9 hr9 => m_Mo_trySales h0 hr9) rfl (by decide) (by decide) rfl rfl (Nat.le_of_ble_eq_true rfl) (fun S12 => ?_)
    refine iz_iload_n (n := 1) 81 1 rfl rfl ?_
    refine iz_iconst (v := 2) 82 (by decide) rfl ?_
    refine iz_cmp_ge (tgt := 164) 83 rfl (by decide) ?_ ?_
    · refine iz_iload_n (n := 1) 92 1 rfl rfl ?_
      refine iz_iconst (v := 2) 93 (by decide) rfl ?_
      refine iz_isub 94 rfl ?_
      refine iz_iconst (v := 2) 95 (by decide) rfl ?_
      refine iz_aload_n (n := 0) 96 0 rfl rfl ?_
      refine iz_getI 97 45 h0 fl_X10_263 rfl (by decide) (by decide) rfl ?_
      refine iz_imul 98 rfl ?_
      refine iz_cmp_ge (tgt := 187) 99 rfl (by decide) ?_ ?_
      · refine iz_aload_n (n := 0) 107 0 rfl rfl ?_
        refine iz_iconst (v := 2) 108 (by decide) rfl ?_
        refine iz_callVI (As := [.int 2]) (rest := []) 109 ml_X10_127 cw_X10_finding ci_X10_finding h0 (fun r9 hr9 => m_Mo_finding h0 hr9) rfl (by decide) (by decide) rfl rfl (Nat.le_of_ble_eq_true rfl) (fun r14 S13 => ?_)
        exact iz_sub [] rfl (c_Mo_sales_192 h0 r14 S13)
      · refine iz_aload_n (n := 0) 100 0 rfl rfl ?_
        refine iz_getR 101 44 h0 fl_X10_116 rfl (by decide) (by decide) rfl ?_
        refine iz_iload_n (n := 1) 102 1 rfl rfl ?_
        refine iz_iconst (v := 2) 103 (by decide) rfl ?_
        refine iz_isub 104 rfl ?_
        refine iz_iald 105 (sf_10_44 h0) rfl ?_
        refine iz_goto (tgt := 192) 106 (by decide) rfl ?_
        exact iz_sub [] rfl (c_Mo_sales_192 h0 (iz_g S12 (iz_rf a0 44) (x1 - 2)) S12)
    · refine iz_iload_n (n := 1) 84 1 rfl rfl ?_
      refine iz_if_ne (tgt := 159) 85 rfl (by decide) ?_ ?_
      · refine iz_aload_n (n := 0) 89 0 rfl rfl ?_
        refine iz_getI 90 45 h0 fl_X10_263 rfl (by decide) (by decide) rfl ?_
        exact iz_sub [] rfl (c_Mo_sales_163 h0 (S12.1 a0 45) S12)
      · refine iz_aload_n (n := 0) 86 0 rfl rfl ?_
        refine iz_getI 87 46 h0 fl_X10_260 rfl (by decide) (by decide) rfl ?_
        refine iz_goto (tgt := 163) 88 (by decide) rfl ?_
        exact iz_sub [] rfl (c_Mo_sales_163 h0 (S12.1 a0 46) S12)
  · refine iz_aload_n (n := 0) 64 0 rfl rfl ?_
    refine iz_iconst (v := 3) 65 (by decide) rfl ?_
    refine iz_callVI (As := [.int 3]) (rest := []) 66 ml_X10_127 cw_X10_finding ci_X10_finding h0 (fun r9 hr9 => m_Mo_finding h0 hr9) rfl (by decide) (by decide) rfl rfl (Nat.le_of_ble_eq_true rfl) (fun r16 S15 => ?_)
    exact iz_iret 67 rfl
set_option maxRecDepth 10000 in
theorem c_Mo_sales_84 {X : iz_X} {l : Launch} {a0 : Nat} (h0 : iz_sh a0 = (10 + 3, 48)) {k30 : Int32 → Int32 → Int32 → Int32 → iz_S → Option (Int32 × iz_S)} {k54 : Int32 → Int32 → Int32 → Int32 → Int32 → iz_S → Option (Int32 × iz_S)} (hk30 : ∀ (x1 : Int32) (x2 : Int32) (x3 : Int32) (x4 : Int32) (S : iz_S), iz_Y X l RX10 tX10_sales 6 14 (iz_Kc X l yX10_sales cX10_sales 6 (some .int) 14 iz_eI) 30 [(0, .ref (X.1 a0)), (1, .int x1), (2, .int x2), (3, .int x3), (4, .int x4)] [] S (k30 x1 x2 x3 x4 S)) (hk54 : ∀ (x1 : Int32) (x2 : Int32) (x3 : Int32) (x4 : Int32) (x5 : Int32) (S : iz_S), iz_Y X l RX10 tX10_sales 6 14 (iz_Kc X l yX10_sales cX10_sales 6 (some .int) 14 iz_eI) 54 [(0, .ref (X.1 a0)), (1, .int x1), (2, .int x2), (3, .int x3), (4, .int x4), (5, .int x5)] [] S (k54 x1 x2 x3 x4 x5 S)) (x1 : Int32) (x2 : Int32) (x4 : Int32) (x5 : Int32) (s0 : Int32) (s1 : Int32) (S : iz_S) : iz_Y X l RX10 tX10_sales 6 14 (iz_Kc X l yX10_sales cX10_sales 6 (some .int) 14 iz_eI) 84 [(0, .ref (X.1 a0)), (1, .int x1), (2, .int x2), (4, .int x4), (5, .int x5)] [.int s1, .int s0] S (Mo_sales_84 a0 k30 k54 x1 x2 x4 x5 s0 s1 S) := by
  unfold Mo_sales_84
  refine iz_iand 48 rfl ?_
  refine iz_let (fun v18 => ?_)
  refine iz_istore_n (n := 3) (ls2 := [(0, .ref (X.1 a0)), (1, .int x1), (2, .int x2), (3, .int v18), (4, .int x4), (5, .int x5)]) 49 [1, 2, 3, 0, 4, 5] rfl (by decide) rfl ?_
  refine iz_iinc (v := (x5 + 1)) (ls2 := [(0, .ref (X.1 a0)), (1, .int x1), (2, .int x2), (3, .int v18), (4, .int x4), (5, .int (x5 + 1))]) 50 5 [1, 2, 3, 4, 5, 0] rfl rfl rfl (by decide) rfl ?_
  refine iz_goto (tgt := 54) 51 (by decide) rfl ?_
  exact hk54 x1 x2 v18 x4 (x5 + 1) S
set_option maxRecDepth 10000 in
theorem c_Mo_sales_54b {X : iz_X} {l : Launch} {a0 : Nat} (h0 : iz_sh a0 = (10 + 3, 48)) {k30 : Int32 → Int32 → Int32 → Int32 → iz_S → Option (Int32 × iz_S)} {k54 : Int32 → Int32 → Int32 → Int32 → Int32 → iz_S → Option (Int32 × iz_S)} (hk30 : ∀ (x1 : Int32) (x2 : Int32) (x3 : Int32) (x4 : Int32) (S : iz_S), iz_Y X l RX10 tX10_sales 6 14 (iz_Kc X l yX10_sales cX10_sales 6 (some .int) 14 iz_eI) 30 [(0, .ref (X.1 a0)), (1, .int x1), (2, .int x2), (3, .int x3), (4, .int x4)] [] S (k30 x1 x2 x3 x4 S)) (hk54 : ∀ (x1 : Int32) (x2 : Int32) (x3 : Int32) (x4 : Int32) (x5 : Int32) (S : iz_S), iz_Y X l RX10 tX10_sales 6 14 (iz_Kc X l yX10_sales cX10_sales 6 (some .int) 14 iz_eI) 54 [(0, .ref (X.1 a0)), (1, .int x1), (2, .int x2), (3, .int x3), (4, .int x4), (5, .int x5)] [] S (k54 x1 x2 x3 x4 x5 S)) (x1 : Int32) (x2 : Int32) (x3 : Int32) (x4 : Int32) (x5 : Int32) (S : iz_S) : iz_Y X l RX10 tX10_sales 6 14 (iz_Kc X l yX10_sales cX10_sales 6 (some .int) 14 iz_eI) 54 [(0, .ref (X.1 a0)), (1, .int x1), (2, .int x2), (3, .int x3), (4, .int x4), (5, .int x5)] [] S (Mo_sales_54b a0 k30 k54 x1 x2 x3 x4 x5 S) := by
  unfold Mo_sales_54b
  refine iz_iload (n := 5) 32 5 rfl rfl ?_
  refine iz_iload (n := 4) 33 4 rfl rfl ?_
  refine iz_cmp_ge (tgt := 92) 34 rfl (by decide) ?_ ?_
  · refine iz_aload_n (n := 0) 52 0 rfl rfl ?_
    refine iz_getR 53 31 h0 fl_X10_89 rfl (by decide) (by decide) rfl ?_
    refine iz_iload (n := 4) 54 4 rfl rfl ?_
    refine iz_aload_n (n := 0) 55 0 rfl rfl ?_
    refine iz_getR 56 27 h0 fl_X10_77 rfl (by decide) (by decide) rfl ?_
    refine iz_iload (n := 4) 57 4 rfl rfl ?_
    refine iz_iald 58 (sf_10_27 h0) rfl ?_
    refine iz_iast 59 (sf_10_31 h0) rfl (fun S17 => ?_)
    refine iz_iinc (v := (x4 + 1)) (ls2 := [(0, .ref (X.1 a0)), (1, .int x1), (2, .int x2), (3, .int x3), (4, .int (x4 + 1))]) 60 4 [1, 2, 3, 4, 0] rfl rfl rfl (by decide) rfl ?_
    refine iz_goto (tgt := 30) 61 (by decide) rfl ?_
    exact hk30 x1 x2 x3 (x4 + 1) S17
  · refine iz_iload_n (n := 3) 35 3 rfl rfl ?_
    refine iz_aload_n (n := 0) 36 0 rfl rfl ?_
    refine iz_getR 37 27 h0 fl_X10_77 rfl (by decide) (by decide) rfl ?_
    refine iz_iload (n := 5) 38 5 rfl rfl ?_
    refine iz_iald 39 (sf_10_27 h0) rfl ?_
    refine iz_aload_n (n := 0) 40 0 rfl rfl ?_
    refine iz_getR 41 27 h0 fl_X10_77 rfl (by decide) (by decide) rfl ?_
    refine iz_iload (n := 4) 42 4 rfl rfl ?_
    refine iz_iald 43 (sf_10_27 h0) rfl ?_
    refine iz_cmp_eq (tgt := 83) 44 rfl (by decide) ?_ ?_
    · refine iz_iconst (v := 0) 47 (by decide) rfl ?_
      exact iz_sub [0, 1, 2, 4, 5] rfl (c_Mo_sales_84 h0 hk30 hk54 x1 x2 x4 x5 x3 0 S)
    · refine iz_iconst (v := 1) 45 (by decide) rfl ?_
      refine iz_goto (tgt := 84) 46 (by decide) rfl ?_
      exact iz_sub [0, 1, 2, 4, 5] rfl (c_Mo_sales_84 h0 hk30 hk54 x1 x2 x4 x5 x3 1 S)
theorem c_Mo_sales_54 {X : iz_X} {l : Launch} {a0 : Nat} (h0 : iz_sh a0 = (10 + 3, 48)) {k30 : Int32 → Int32 → Int32 → Int32 → iz_S → Option (Int32 × iz_S)} (hk30 : ∀ (x1 : Int32) (x2 : Int32) (x3 : Int32) (x4 : Int32) (S : iz_S), iz_Y X l RX10 tX10_sales 6 14 (iz_Kc X l yX10_sales cX10_sales 6 (some .int) 14 iz_eI) 30 [(0, .ref (X.1 a0)), (1, .int x1), (2, .int x2), (3, .int x3), (4, .int x4)] [] S (k30 x1 x2 x3 x4 S)) : ∀ (n9 : Nat) (x1 : Int32) (x2 : Int32) (x3 : Int32) (x4 : Int32) (x5 : Int32) (S : iz_S), iz_Y X l RX10 tX10_sales 6 14 (iz_Kc X l yX10_sales cX10_sales 6 (some .int) 14 iz_eI) 54 [(0, .ref (X.1 a0)), (1, .int x1), (2, .int x2), (3, .int x3), (4, .int x4), (5, .int x5)] [] S (Mo_sales_54 a0 k30 n9 x1 x2 x3 x4 x5 S)
  | 0 => by
    intros
    exact iz_none
  | n9 + 1 => c_Mo_sales_54b h0 hk30 (c_Mo_sales_54 h0 hk30 n9)
set_option maxRecDepth 10000 in
theorem c_Mo_sales_30b {X : iz_X} {l : Launch} {a0 : Nat} (h0 : iz_sh a0 = (10 + 3, 48)) {k30 : Int32 → Int32 → Int32 → Int32 → iz_S → Option (Int32 × iz_S)} (hk30 : ∀ (x1 : Int32) (x2 : Int32) (x3 : Int32) (x4 : Int32) (S : iz_S), iz_Y X l RX10 tX10_sales 6 14 (iz_Kc X l yX10_sales cX10_sales 6 (some .int) 14 iz_eI) 30 [(0, .ref (X.1 a0)), (1, .int x1), (2, .int x2), (3, .int x3), (4, .int x4)] [] S (k30 x1 x2 x3 x4 S)) (x1 : Int32) (x2 : Int32) (x3 : Int32) (x4 : Int32) (S : iz_S) : iz_Y X l RX10 tX10_sales 6 14 (iz_Kc X l yX10_sales cX10_sales 6 (some .int) 14 iz_eI) 30 [(0, .ref (X.1 a0)), (1, .int x1), (2, .int x2), (3, .int x3), (4, .int x4)] [] S (Mo_sales_30b a0 k30 x1 x2 x3 x4 S) := by
  unfold Mo_sales_30b
  refine iz_iload (n := 4) 19 4 rfl rfl ?_
  refine iz_iload_n (n := 2) 20 2 rfl rfl ?_
  refine iz_cmp_ge (tgt := 112) 21 rfl (by decide) ?_ ?_
  · exact iz_sub [0, 1, 2, 3] rfl (c_Mo_sales_112 h0 x1 x2 x3 S)
  · refine iz_iload_n (n := 3) 22 3 rfl rfl ?_
    refine iz_if_eq (tgt := 112) 23 rfl (by decide) ?_ ?_
    · exact iz_sub [0, 1, 2, 3] rfl (c_Mo_sales_112 h0 x1 x2 x3 S)
    · refine iz_aload_n (n := 0) 24 0 rfl rfl ?_
      refine iz_getR 25 27 h0 fl_X10_77 rfl (by decide) (by decide) rfl ?_
      refine iz_iload (n := 4) 26 4 rfl rfl ?_
      refine iz_iald 27 (sf_10_27 h0) rfl ?_
      refine iz_callSI (As := [.int (iz_g S (iz_rf a0 27) x4)]) (rest := []) 28 ml_X10_194 cw_X10_isColumn ci_X10_isColumn (fun r9 hr9 => m_Mo_isColumn  hr9) rfl (by decide) rfl rfl (Nat.le_of_ble_eq_true rfl) (fun r8 S7 => ?_)
      refine iz_istore_n (n := 3) (ls2 := [(0, .ref (X.1 a0)), (1, .int x1), (2, .int x2), (3, .int r8), (4, .int x4)]) 29 [1, 2, 3, 0, 4] rfl (by decide) rfl ?_
      refine iz_iconst (v := 0) 30 (by decide) rfl ?_
      refine iz_istore (n := 5) (ls2 := [(0, .ref (X.1 a0)), (1, .int x1), (2, .int x2), (3, .int r8), (4, .int x4), (5, .int 0)]) 31 [1, 2, 3, 4, 5, 0] rfl (by decide) rfl ?_
      exact c_Mo_sales_54 h0 hk30 iz_FU x1 x2 r8 x4 0 S7
theorem c_Mo_sales_30 {X : iz_X} {l : Launch} {a0 : Nat} (h0 : iz_sh a0 = (10 + 3, 48)) : ∀ (n9 : Nat) (x1 : Int32) (x2 : Int32) (x3 : Int32) (x4 : Int32) (S : iz_S), iz_Y X l RX10 tX10_sales 6 14 (iz_Kc X l yX10_sales cX10_sales 6 (some .int) 14 iz_eI) 30 [(0, .ref (X.1 a0)), (1, .int x1), (2, .int x2), (3, .int x3), (4, .int x4)] [] S (Mo_sales_30 a0 n9 x1 x2 x3 x4 S)
  | 0 => by
    intros
    exact iz_none
  | n9 + 1 => c_Mo_sales_30b h0 (c_Mo_sales_30 h0 n9)
set_option maxRecDepth 10000 in
theorem c_Mo_sales {X : iz_X} {l : Launch} {a0 : Nat} (h0 : iz_sh a0 = (10 + 3, 48)) (x1 : Int32) (S : iz_S) : iz_Y X l RX10 tX10_sales 6 14 (iz_Kc X l yX10_sales cX10_sales 6 (some .int) 14 iz_eI) 0 [(0, .ref (X.1 a0)), (1, .int x1)] [] S (Mo_sales a0 x1 S) := by
  unfold Mo_sales
  refine iz_iload_n (n := 1) 0 1 rfl rfl ?_
  refine iz_if_ge (tgt := 10) 1 rfl (by decide) ?_ ?_
  · refine iz_aload_n (n := 0) 6 0 rfl rfl ?_
    refine iz_getI 7 26 h0 fl_X10_176 rfl (by decide) (by decide) rfl ?_
    refine iz_let (fun v1 => ?_)
    refine iz_istore_n (n := 2) (ls2 := [(0, .ref (X.1 a0)), (1, .int x1), (2, .int v1)]) 8 [1, 2, 0] rfl (by decide) rfl ?_
    refine iz_aload_n (n := 0) 9 0 rfl rfl ?_
    refine iz_iconst (v := 0) 10 (by decide) rfl ?_
    refine iz_putI 11 26 h0 fl_X10_176 rfl (by decide) (by decide) rfl (fun S2 => ?_)
    refine iz_iload_n (n := 2) 12 2 rfl rfl ?_
    refine iz_iconst (v := 1) 13 (by decide) rfl ?_
    refine iz_iconst (v := 3) 14 (by decide) rfl ?_
    refine iz_callSI (As := [.int v1, .int 1, .int 3]) (rest := []) 15 ml_X10_123 cw_X10_isIn ci_X10_isIn (fun r9 hr9 => m_Mo_isIn  hr9) rfl (by decide) rfl rfl (Nat.le_of_ble_eq_true rfl) (fun r4 S3 => ?_)
    refine iz_istore_n (n := 3) (ls2 := [(0, .ref (X.1 a0)), (1, .int x1), (2, .int v1), (3, .int r4)]) 16 [1, 2, 3, 0] rfl (by decide) rfl ?_
    refine iz_iconst (v := 0) 17 (by decide) rfl ?_
    refine iz_istore (n := 4) (ls2 := [(0, .ref (X.1 a0)), (1, .int x1), (2, .int v1), (3, .int r4), (4, .int 0)]) 18 [1, 2, 3, 4, 0] rfl (by decide) rfl ?_
    exact c_Mo_sales_30 h0 iz_FU x1 v1 r4 0 S3
  · refine iz_aload_n (n := 0) 2 0 rfl rfl ?_
    refine iz_iconst (v := 1) 3 (by decide) rfl ?_
    refine iz_callVI (As := [.int 1]) (rest := []) 4 ml_X10_127 cw_X10_finding ci_X10_finding h0 (fun r9 hr9 => m_Mo_finding h0 hr9) rfl (by decide) (by decide) rfl rfl (Nat.le_of_ble_eq_true rfl) (fun r6 S5 => ?_)
    exact iz_iret 5 rfl
theorem m_Mo_sales {X : iz_X} {l : Launch} {a0 : Nat} (h0 : iz_sh a0 = (10 + 3, 48)) {x1 : Int32} {S : iz_S} {r9 : Int32 × iz_S} (hr : Mo_sales a0 x1 S = some r9) : iz_Mt X l 14 yX10_sales cX10_sales 6 (some .int) [.ref (X.1 a0), .int x1] S (iz_eI r9) :=
  iz_Mt_of (dt := tX10_sales) dX10_sales (by decide) hr (Nat.le_of_ble_eq_true rfl) (c_Mo_sales h0 x1 S)
def Mo_isStation_35 (s0 : Int32) (S : iz_S) : Option (Int32 × iz_S) :=
  iz_ck (decide (iz_nb s0 = s0)) (some (s0, S))
def Mo_isStation_34 (S : iz_S) : Option (Int32 × iz_S) :=
  (Mo_isStation_35 0 S)
def Mo_isStation (x0 : Int32) (x1 : Int32) (x2 : Int32) (S : iz_S) : Option (Int32 × iz_S) :=
  (iz_bI (Mo_isIn x0 1 100 S) (fun r2 S1 =>
  if r2 = 0 then
    (Mo_isStation_34 S1)
  else
    (iz_bI (Mo_isIn x1 0 60 S1) (fun r4 S3 =>
    if r4 = 0 then
      (Mo_isStation_34 S3)
    else
      (iz_bI (Mo_isIn x2 0 30 S3) (fun r6 S5 =>
      if r6 = 0 then
        (Mo_isStation_34 S5)
      else
        (Mo_isStation_35 1 S5)))))))
set_option maxRecDepth 10000 in
theorem c_Mo_isStation_35 {X : iz_X} {l : Launch} (s0 : Int32) (S : iz_S) : iz_Y X l RX10 tX10_isStation 3 1 (iz_Kc X l yX10_isStation cX10_isStation 3 (some .boolean) 1 iz_eI) 35 [] [.int s0] S (Mo_isStation_35 s0 S) := by
  unfold Mo_isStation_35
  exact iz_zret 18 rfl
set_option maxRecDepth 10000 in
theorem c_Mo_isStation_34 {X : iz_X} {l : Launch} (S : iz_S) : iz_Y X l RX10 tX10_isStation 3 1 (iz_Kc X l yX10_isStation cX10_isStation 3 (some .boolean) 1 iz_eI) 34 [] [] S (Mo_isStation_34 S) := by
  unfold Mo_isStation_34
  refine iz_iconst (v := 0) 17 (by decide) rfl ?_
  exact c_Mo_isStation_35 0 S
set_option maxRecDepth 10000 in
theorem c_Mo_isStation {X : iz_X} {l : Launch} (x0 : Int32) (x1 : Int32) (x2 : Int32) (S : iz_S) : iz_Y X l RX10 tX10_isStation 3 1 (iz_Kc X l yX10_isStation cX10_isStation 3 (some .boolean) 1 iz_eI) 0 [(0, .int x0), (1, .int x1), (2, .int x2)] [] S (Mo_isStation x0 x1 x2 S) := by
  unfold Mo_isStation
  refine iz_iload_n (n := 0) 0 0 rfl rfl ?_
  refine iz_iconst (v := 1) 1 (by decide) rfl ?_
  refine iz_bipush (v := 100) 2 (by decide) rfl ?_
  refine iz_callSI (As := [.int x0, .int 1, .int 100]) (rest := []) 3 ml_X10_123 cw_X10_isIn ci_X10_isIn (fun r9 hr9 => m_Mo_isIn  hr9) rfl (by decide) rfl rfl (Nat.le_of_ble_eq_true rfl) (fun r2 S1 => ?_)
  refine iz_if_eq (tgt := 34) 4 rfl (by decide) ?_ ?_
  · exact iz_sub [] rfl (c_Mo_isStation_34 S1)
  · refine iz_iload_n (n := 1) 5 1 rfl rfl ?_
    refine iz_iconst (v := 0) 6 (by decide) rfl ?_
    refine iz_bipush (v := 60) 7 (by decide) rfl ?_
    refine iz_callSI (As := [.int x1, .int 0, .int 60]) (rest := []) 8 ml_X10_123 cw_X10_isIn ci_X10_isIn (fun r9 hr9 => m_Mo_isIn  hr9) rfl (by decide) rfl rfl (Nat.le_of_ble_eq_true rfl) (fun r4 S3 => ?_)
    refine iz_if_eq (tgt := 34) 9 rfl (by decide) ?_ ?_
    · exact iz_sub [] rfl (c_Mo_isStation_34 S3)
    · refine iz_iload_n (n := 2) 10 2 rfl rfl ?_
      refine iz_iconst (v := 0) 11 (by decide) rfl ?_
      refine iz_bipush (v := 30) 12 (by decide) rfl ?_
      refine iz_callSI (As := [.int x2, .int 0, .int 30]) (rest := []) 13 ml_X10_123 cw_X10_isIn ci_X10_isIn (fun r9 hr9 => m_Mo_isIn  hr9) rfl (by decide) rfl rfl (Nat.le_of_ble_eq_true rfl) (fun r6 S5 => ?_)
      refine iz_if_eq (tgt := 34) 14 rfl (by decide) ?_ ?_
      · exact iz_sub [] rfl (c_Mo_isStation_34 S5)
      · refine iz_iconst (v := 1) 15 (by decide) rfl ?_
        refine iz_goto (tgt := 35) 16 (by decide) rfl ?_
        exact iz_sub [] rfl (c_Mo_isStation_35 1 S5)
theorem m_Mo_isStation {X : iz_X} {l : Launch} {x0 : Int32} {x1 : Int32} {x2 : Int32} {S : iz_S} {r9 : Int32 × iz_S} (hr : Mo_isStation x0 x1 x2 S = some r9) : iz_Mt X l 1 yX10_isStation cX10_isStation 3 (some .boolean) [.int x0, .int x1, .int x2] S (iz_eI r9) :=
  iz_Mt_of (dt := tX10_isStation) dX10_isStation (by decide) hr (Nat.le_of_ble_eq_true rfl) (c_Mo_isStation x0 x1 x2 S)
def Mo_tellStation (a0 : Nat) (x1 : Int32) (x2 : Int32) (x3 : Int32) (x4 : Int32) (S : iz_S) : Option iz_S :=
  iz_ck (iz_in x1 9) (iz_lt (iz_s S (iz_rf a0 22) x1 x2) (fun S1 =>
  iz_ck (iz_in x1 9) (iz_lt (iz_s S1 (iz_rf a0 23) x1 x3) (fun S2 =>
  iz_ck (iz_in x1 9) (iz_lt (iz_s S2 (iz_rf a0 24) x1 x4) (fun S3 =>
  some S3))))))
set_option maxRecDepth 10000 in
theorem c_Mo_tellStation {X : iz_X} {l : Launch} {a0 : Nat} (h0 : iz_sh a0 = (10 + 3, 48)) (x1 : Int32) (x2 : Int32) (x3 : Int32) (x4 : Int32) (S : iz_S) : iz_Y X l RX10 tX10_tellStation 5 0 (iz_Kc X l yX10_tellStation cX10_tellStation 5 none 0 iz_eV) 0 [(0, .ref (X.1 a0)), (1, .int x1), (2, .int x2), (3, .int x3), (4, .int x4)] [] S (Mo_tellStation a0 x1 x2 x3 x4 S) := by
  unfold Mo_tellStation
  refine iz_aload_n (n := 0) 0 0 rfl rfl ?_
  refine iz_getR 1 22 h0 fl_X10_65 rfl (by decide) (by decide) rfl ?_
  refine iz_iload_n (n := 1) 2 1 rfl rfl ?_
  refine iz_iload_n (n := 2) 3 2 rfl rfl ?_
  refine iz_iast 4 (sf_10_22 h0) rfl (fun S1 => ?_)
  refine iz_aload_n (n := 0) 5 0 rfl rfl ?_
  refine iz_getR 6 23 h0 fl_X10_68 rfl (by decide) (by decide) rfl ?_
  refine iz_iload_n (n := 1) 7 1 rfl rfl ?_
  refine iz_iload_n (n := 3) 8 3 rfl rfl ?_
  refine iz_iast 9 (sf_10_23 h0) rfl (fun S2 => ?_)
  refine iz_aload_n (n := 0) 10 0 rfl rfl ?_
  refine iz_getR 11 24 h0 fl_X10_71 rfl (by decide) (by decide) rfl ?_
  refine iz_iload_n (n := 1) 12 1 rfl rfl ?_
  refine iz_iload (n := 4) 13 4 rfl rfl ?_
  refine iz_iast 14 (sf_10_24 h0) rfl (fun S3 => ?_)
  exact iz_vret 15 rfl
theorem m_Mo_tellStation {X : iz_X} {l : Launch} {a0 : Nat} (h0 : iz_sh a0 = (10 + 3, 48)) {x1 : Int32} {x2 : Int32} {x3 : Int32} {x4 : Int32} {S : iz_S} {r9 : iz_S} (hr : Mo_tellStation a0 x1 x2 x3 x4 S = some r9) : iz_Mt X l 0 yX10_tellStation cX10_tellStation 5 none [.ref (X.1 a0), .int x1, .int x2, .int x3, .int x4] S (iz_eV r9) :=
  iz_Mt_of (dt := tX10_tellStation) dX10_tellStation (by decide) hr (Nat.le_of_ble_eq_true rfl) (c_Mo_tellStation h0 x1 x2 x3 x4 S)
def Mo_station (a0 : Nat) (x1 : Int32) (x2 : Int32) (x3 : Int32) (S : iz_S) : Option (Int32 × iz_S) :=
  (iz_bI (Mo_isStation x1 x2 x3 S) (fun r2 S1 =>
  if r2 = 0 then
    iz_bI (Mo_finding a0 1 S1) (fun r8 S7 =>
    some (r8, S7))
  else
    (if (S1.1 a0 21) = 9 then
      iz_bI (Mo_finding a0 4 S1) (fun r6 S5 =>
      some (r6, S5))
    else
      iz_bV (Mo_tellStation a0 (S1.1 a0 21) x1 x2 x3 S1) (fun S3 =>
      iz_lt (iz_up S3 a0 21 ((S3.1 a0 21) + 1)) (fun S4 =>
      some ((S4.1 a0 21), S4))))))
set_option maxRecDepth 10000 in
theorem c_Mo_station {X : iz_X} {l : Launch} {a0 : Nat} (h0 : iz_sh a0 = (10 + 3, 48)) (x1 : Int32) (x2 : Int32) (x3 : Int32) (S : iz_S) : iz_Y X l RX10 tX10_station 4 2 (iz_Kc X l yX10_station cX10_station 4 (some .int) 2 iz_eI) 0 [(0, .ref (X.1 a0)), (1, .int x1), (2, .int x2), (3, .int x3)] [] S (Mo_station a0 x1 x2 x3 S) := by
  unfold Mo_station
  refine iz_iload_n (n := 1) 0 1 rfl rfl ?_
  refine iz_iload_n (n := 2) 1 2 rfl rfl ?_
  refine iz_iload_n (n := 3) 2 3 rfl rfl ?_
  refine iz_callSI (As := [.int x1, .int x2, .int x3]) (rest := []) 3 ml_X10_269 cw_X10_isStation ci_X10_isStation (fun r9 hr9 => m_Mo_isStation  hr9) rfl (by decide) rfl rfl (Nat.le_of_ble_eq_true rfl) (fun r2 S1 => ?_)
  refine iz_if_ne (tgt := 15) 4 rfl (by decide) ?_ ?_
  · refine iz_aload_n (n := 0) 9 0 rfl rfl ?_
    refine iz_getI 10 21 h0 fl_X10_272 rfl (by decide) (by decide) rfl ?_
    refine iz_bipush (v := 9) 11 (by decide) rfl ?_
    refine iz_cmp_ne (tgt := 30) 12 rfl (by decide) ?_ ?_
    · refine iz_aload_n (n := 0) 17 0 rfl rfl ?_
      refine iz_aload_n (n := 0) 18 0 rfl rfl ?_
      refine iz_getI 19 21 h0 fl_X10_272 rfl (by decide) (by decide) rfl ?_
      refine iz_iload_n (n := 1) 20 1 rfl rfl ?_
      refine iz_iload_n (n := 2) 21 2 rfl rfl ?_
      refine iz_iload_n (n := 3) 22 3 rfl rfl ?_
      refine iz_callVV (As := [.int (S1.1 a0 21), .int x1, .int x2, .int x3]) (rest := []) 23 ml_X10_275 cw_X10_tellStation ci_X10_tellStation h0 (fun r9 hr9 => m_Mo_tellStation h0 hr9) rfl (by decide) (by decide) rfl rfl (Nat.le_of_ble_eq_true rfl) (fun S3 => ?_)
      refine iz_aload_n (n := 0) 24 0 rfl rfl ?_
      refine iz_dup 25 rfl rfl ?_
      refine iz_getI 26 21 h0 fl_X10_272 rfl (by decide) (by decide) rfl ?_
      refine iz_iconst (v := 1) 27 (by decide) rfl ?_
      refine iz_iadd 28 rfl ?_
      refine iz_putI 29 21 h0 fl_X10_272 rfl (by decide) (by decide) rfl (fun S4 => ?_)
      refine iz_aload_n (n := 0) 30 0 rfl rfl ?_
      refine iz_getI 31 21 h0 fl_X10_272 rfl (by decide) (by decide) rfl ?_
      exact iz_iret 32 rfl
    · refine iz_aload_n (n := 0) 13 0 rfl rfl ?_
      refine iz_iconst (v := 4) 14 (by decide) rfl ?_
      refine iz_callVI (As := [.int 4]) (rest := []) 15 ml_X10_127 cw_X10_finding ci_X10_finding h0 (fun r9 hr9 => m_Mo_finding h0 hr9) rfl (by decide) (by decide) rfl rfl (Nat.le_of_ble_eq_true rfl) (fun r6 S5 => ?_)
      exact iz_iret 16 rfl
  · refine iz_aload_n (n := 0) 5 0 rfl rfl ?_
    refine iz_iconst (v := 1) 6 (by decide) rfl ?_
    refine iz_callVI (As := [.int 1]) (rest := []) 7 ml_X10_127 cw_X10_finding ci_X10_finding h0 (fun r9 hr9 => m_Mo_finding h0 hr9) rfl (by decide) (by decide) rfl rfl (Nat.le_of_ble_eq_true rfl) (fun r8 S7 => ?_)
    exact iz_iret 8 rfl
theorem m_Mo_station {X : iz_X} {l : Launch} {a0 : Nat} (h0 : iz_sh a0 = (10 + 3, 48)) {x1 : Int32} {x2 : Int32} {x3 : Int32} {S : iz_S} {r9 : Int32 × iz_S} (hr : Mo_station a0 x1 x2 x3 S = some r9) : iz_Mt X l 2 yX10_station cX10_station 4 (some .int) [.ref (X.1 a0), .int x1, .int x2, .int x3] S (iz_eI r9) :=
  iz_Mt_of (dt := tX10_station) dX10_station (by decide) hr (Nat.le_of_ble_eq_true rfl) (c_Mo_station h0 x1 x2 x3 S)
def Mo_change_22 (a0 : Nat) (S : iz_S) : Option (Int32 × iz_S) :=
  iz_bI (Mo_finding a0 1 S) (fun r6 S5 =>
  some (r6, S5))
def Mo_change (a0 : Nat) (x1 : Int32) (x2 : Int32) (x3 : Int32) (x4 : Int32) (S : iz_S) : Option (Int32 × iz_S) :=
  (if x1 < 0 then
    (Mo_change_22 a0 S)
  else
    (if x1 < (S.1 a0 21) then
      (iz_bI (Mo_isStation x2 x3 x4 S) (fun r2 S1 =>
      if r2 = 0 then
        (Mo_change_22 a0 S1)
      else
        iz_ck (iz_in x1 9) (
        iz_lt (iz_g S1 (iz_rf a0 23) x1) (fun v3 =>
        iz_bV (Mo_tellStation a0 x1 x2 x3 x4 S1) (fun S4 =>
        some (v3, S4))))))
    else
      (Mo_change_22 a0 S)))
set_option maxRecDepth 10000 in
theorem c_Mo_change_22 {X : iz_X} {l : Launch} {a0 : Nat} (h0 : iz_sh a0 = (10 + 3, 48)) (S : iz_S) : iz_Y X l RX10 tX10_change 6 2 (iz_Kc X l yX10_change cX10_change 6 (some .int) 2 iz_eI) 22 [(0, .ref (X.1 a0))] [] S (Mo_change_22 a0 S) := by
  unfold Mo_change_22
  refine iz_aload_n (n := 0) 11 0 rfl rfl ?_
  refine iz_iconst (v := 1) 12 (by decide) rfl ?_
  refine iz_callVI (As := [.int 1]) (rest := []) 13 ml_X10_127 cw_X10_finding ci_X10_finding h0 (fun r9 hr9 => m_Mo_finding h0 hr9) rfl (by decide) (by decide) rfl rfl (Nat.le_of_ble_eq_true rfl) (fun r6 S5 => ?_)
  exact iz_iret 14 rfl
set_option maxRecDepth 10000 in
theorem c_Mo_change {X : iz_X} {l : Launch} {a0 : Nat} (h0 : iz_sh a0 = (10 + 3, 48)) (x1 : Int32) (x2 : Int32) (x3 : Int32) (x4 : Int32) (S : iz_S) : iz_Y X l RX10 tX10_change 6 2 (iz_Kc X l yX10_change cX10_change 6 (some .int) 2 iz_eI) 0 [(0, .ref (X.1 a0)), (1, .int x1), (2, .int x2), (3, .int x3), (4, .int x4)] [] S (Mo_change a0 x1 x2 x3 x4 S) := by
  unfold Mo_change
  refine iz_iload_n (n := 1) 0 1 rfl rfl ?_
  refine iz_if_lt (tgt := 22) 1 rfl (by decide) ?_ ?_
  · exact iz_sub [0] rfl (c_Mo_change_22 h0 S)
  · refine iz_iload_n (n := 1) 2 1 rfl rfl ?_
    refine iz_aload_n (n := 0) 3 0 rfl rfl ?_
    refine iz_getI 4 21 h0 fl_X10_272 rfl (by decide) (by decide) rfl ?_
    refine iz_cmp_ge (tgt := 22) 5 rfl (by decide) ?_ ?_
    · exact iz_sub [0] rfl (c_Mo_change_22 h0 S)
    · refine iz_iload_n (n := 2) 6 2 rfl rfl ?_
      refine iz_iload_n (n := 3) 7 3 rfl rfl ?_
      refine iz_iload (n := 4) 8 4 rfl rfl ?_
      refine iz_callSI (As := [.int x2, .int x3, .int x4]) (rest := []) 9 ml_X10_269 cw_X10_isStation ci_X10_isStation (fun r9 hr9 => m_Mo_isStation  hr9) rfl (by decide) rfl rfl (Nat.le_of_ble_eq_true rfl) (fun r2 S1 => ?_)
      refine iz_if_ne (tgt := 28) 10 rfl (by decide) ?_ ?_
      · refine iz_aload_n (n := 0) 15 0 rfl rfl ?_
        refine iz_getR 16 23 h0 fl_X10_68 rfl (by decide) (by decide) rfl ?_
        refine iz_iload_n (n := 1) 17 1 rfl rfl ?_
        refine iz_iald 18 (sf_10_23 h0) rfl ?_
        refine iz_let (fun v3 => ?_)
        refine iz_istore (n := 5) (ls2 := [(0, .ref (X.1 a0)), (1, .int x1), (2, .int x2), (3, .int x3), (4, .int x4), (5, .int v3)]) 19 [1, 2, 3, 4, 5, 0] rfl (by decide) rfl ?_
        refine iz_aload_n (n := 0) 20 0 rfl rfl ?_
        refine iz_iload_n (n := 1) 21 1 rfl rfl ?_
        refine iz_iload_n (n := 2) 22 2 rfl rfl ?_
        refine iz_iload_n (n := 3) 23 3 rfl rfl ?_
        refine iz_iload (n := 4) 24 4 rfl rfl ?_
        refine iz_callVV (As := [.int x1, .int x2, .int x3, .int x4]) (rest := []) 25 ml_X10_275 cw_X10_tellStation ci_X10_tellStation h0 (fun r9 hr9 => m_Mo_tellStation h0 hr9) rfl (by decide) (by decide) rfl rfl (Nat.le_of_ble_eq_true rfl) (fun S4 => ?_)
        refine iz_iload (n := 5) 26 5 rfl rfl ?_
        exact iz_iret 27 rfl
      · exact iz_sub [0] rfl (c_Mo_change_22 h0 S1)
theorem m_Mo_change {X : iz_X} {l : Launch} {a0 : Nat} (h0 : iz_sh a0 = (10 + 3, 48)) {x1 : Int32} {x2 : Int32} {x3 : Int32} {x4 : Int32} {S : iz_S} {r9 : Int32 × iz_S} (hr : Mo_change a0 x1 x2 x3 x4 S = some r9) : iz_Mt X l 2 yX10_change cX10_change 6 (some .int) [.ref (X.1 a0), .int x1, .int x2, .int x3, .int x4] S (iz_eI r9) :=
  iz_Mt_of (dt := tX10_change) dX10_change (by decide) hr (Nat.le_of_ble_eq_true rfl) (c_Mo_change h0 x1 x2 x3 x4 S)
def Mo_costOf_54 (a0 : Nat) (S : iz_S) : Option (Int32 × iz_S) :=
  some (1000000, S)
def Mo_costOf (a0 : Nat) (x1 : Int32) (x2 : Int32) (x3 : Int32) (x4 : Int32) (S : iz_S) : Option (Int32 × iz_S) :=
  (iz_ck (iz_in x1 9) (
  iz_lt ((x2 + x3) - (iz_g S (iz_rf a0 24) x1)) (fun v1 =>
  iz_ck (iz_in x1 9) (
  if x3 ≤ (iz_g S (iz_rf a0 23) x1) then
    (if (x2 + x3) ≤ x4 then
      (if v1 < 0 then
        (Mo_costOf_54 a0 S)
      else
        (iz_ck (iz_in (((61 : Int32) * (x1 + 1)) + v1) 549) (
        if (iz_g S (iz_rf a0 47) (((61 : Int32) * (x1 + 1)) + v1)) = 1000000 then
          (Mo_costOf_54 a0 S)
        else
          iz_ck (iz_in x1 9) (
          iz_ck (iz_in (((61 : Int32) * (x1 + 1)) + v1) 549) (
          some (((x3 * (iz_g S (iz_rf a0 22) x1)) + (iz_g S (iz_rf a0 47) (((61 : Int32) * (x1 + 1)) + v1))), S))))))
    else
      (Mo_costOf_54 a0 S))
  else
    (Mo_costOf_54 a0 S)))))
set_option maxRecDepth 10000 in
theorem c_Mo_costOf_54 {X : iz_X} {l : Launch} {a0 : Nat} (h0 : iz_sh a0 = (10 + 3, 48)) (S : iz_S) : iz_Y X l RX10 tX10_costOf 6 0 (iz_Kc X l yX10_costOf cX10_costOf 6 (some .int) 0 iz_eI) 54 [] [] S (Mo_costOf_54 a0 S) := by
  unfold Mo_costOf_54
  refine iz_ldc 34 kc_X10_241 rfl ?_
  exact iz_iret 35 rfl
set_option maxRecDepth 10000 in
theorem c_Mo_costOf {X : iz_X} {l : Launch} {a0 : Nat} (h0 : iz_sh a0 = (10 + 3, 48)) (x1 : Int32) (x2 : Int32) (x3 : Int32) (x4 : Int32) (S : iz_S) : iz_Y X l RX10 tX10_costOf 6 0 (iz_Kc X l yX10_costOf cX10_costOf 6 (some .int) 0 iz_eI) 0 [(0, .ref (X.1 a0)), (1, .int x1), (2, .int x2), (3, .int x3), (4, .int x4)] [] S (Mo_costOf a0 x1 x2 x3 x4 S) := by
  unfold Mo_costOf
  refine iz_iload_n (n := 2) 0 2 rfl rfl ?_
  refine iz_iload_n (n := 3) 1 3 rfl rfl ?_
  refine iz_iadd 2 rfl ?_
  refine iz_aload_n (n := 0) 3 0 rfl rfl ?_
  refine iz_getR 4 24 h0 fl_X10_71 rfl (by decide) (by decide) rfl ?_
  refine iz_iload_n (n := 1) 5 1 rfl rfl ?_
  refine iz_iald 6 (sf_10_24 h0) rfl ?_
  refine iz_isub 7 rfl ?_
  refine iz_let (fun v1 => ?_)
  refine iz_istore (n := 5) (ls2 := [(0, .ref (X.1 a0)), (1, .int x1), (2, .int x2), (3, .int x3), (4, .int x4), (5, .int v1)]) 8 [1, 2, 3, 4, 5, 0] rfl (by decide) rfl ?_
  refine iz_iload_n (n := 3) 9 3 rfl rfl ?_
  refine iz_aload_n (n := 0) 10 0 rfl rfl ?_
  refine iz_getR 11 23 h0 fl_X10_68 rfl (by decide) (by decide) rfl ?_
  refine iz_iload_n (n := 1) 12 1 rfl rfl ?_
  refine iz_iald 13 (sf_10_23 h0) rfl ?_
  refine iz_cmp_gt (tgt := 54) 14 rfl (by decide) ?_ ?_
  · exact iz_sub [] rfl (c_Mo_costOf_54 h0 S)
  · refine iz_iload_n (n := 2) 15 2 rfl rfl ?_
    refine iz_iload_n (n := 3) 16 3 rfl rfl ?_
    refine iz_iadd 17 rfl ?_
    refine iz_iload (n := 4) 18 4 rfl rfl ?_
    refine iz_cmp_gt (tgt := 54) 19 rfl (by decide) ?_ ?_
    · exact iz_sub [] rfl (c_Mo_costOf_54 h0 S)
    · refine iz_iload (n := 5) 20 5 rfl rfl ?_
      refine iz_if_lt (tgt := 54) 21 rfl (by decide) ?_ ?_
      · exact iz_sub [] rfl (c_Mo_costOf_54 h0 S)
      · refine iz_aload_n (n := 0) 22 0 rfl rfl ?_
        refine iz_getR 23 47 h0 fl_X10_119 rfl (by decide) (by decide) rfl ?_
        refine iz_bipush (v := 61) 24 (by decide) rfl ?_
        refine iz_iload_n (n := 1) 25 1 rfl rfl ?_
        refine iz_iconst (v := 1) 26 (by decide) rfl ?_
        refine iz_iadd 27 rfl ?_
        refine iz_imul 28 rfl ?_
        refine iz_iload (n := 5) 29 5 rfl rfl ?_
        refine iz_iadd 30 rfl ?_
        refine iz_iald 31 (sf_10_47 h0) rfl ?_
        refine iz_ldc 32 kc_X10_241 rfl ?_
        refine iz_cmp_ne (tgt := 57) 33 rfl (by decide) ?_ ?_
        · refine iz_iload_n (n := 3) 36 3 rfl rfl ?_
          refine iz_aload_n (n := 0) 37 0 rfl rfl ?_
          refine iz_getR 38 22 h0 fl_X10_65 rfl (by decide) (by decide) rfl ?_
          refine iz_iload_n (n := 1) 39 1 rfl rfl ?_
          refine iz_iald 40 (sf_10_22 h0) rfl ?_
          refine iz_imul 41 rfl ?_
          refine iz_aload_n (n := 0) 42 0 rfl rfl ?_
          refine iz_getR 43 47 h0 fl_X10_119 rfl (by decide) (by decide) rfl ?_
          refine iz_bipush (v := 61) 44 (by decide) rfl ?_
          refine iz_iload_n (n := 1) 45 1 rfl rfl ?_
          refine iz_iconst (v := 1) 46 (by decide) rfl ?_
          refine iz_iadd 47 rfl ?_
          refine iz_imul 48 rfl ?_
          refine iz_iload (n := 5) 49 5 rfl rfl ?_
          refine iz_iadd 50 rfl ?_
          refine iz_iald 51 (sf_10_47 h0) rfl ?_
          refine iz_iadd 52 rfl ?_
          exact iz_iret 53 rfl
        · exact iz_sub [] rfl (c_Mo_costOf_54 h0 S)
theorem m_Mo_costOf {X : iz_X} {l : Launch} {a0 : Nat} (h0 : iz_sh a0 = (10 + 3, 48)) {x1 : Int32} {x2 : Int32} {x3 : Int32} {x4 : Int32} {S : iz_S} {r9 : Int32 × iz_S} (hr : Mo_costOf a0 x1 x2 x3 x4 S = some r9) : iz_Mt X l 0 yX10_costOf cX10_costOf 6 (some .int) [.ref (X.1 a0), .int x1, .int x2, .int x3, .int x4] S (iz_eI r9) :=
  iz_Mt_of (dt := tX10_costOf) dX10_costOf (by decide) hr (Nat.le_of_ble_eq_true rfl) (c_Mo_costOf h0 x1 x2 x3 x4 S)
def Mo_icing_19 (a0 : Nat) (S : iz_S) : Option (Int32 × iz_S) :=
  iz_bI (Mo_finding a0 1 S) (fun r13 S12 =>
  some (r13, S12))
def Mo_icing_228b (a0 : Nat) (k219 : Int32 → Int32 → Int32 → Int32 → Int32 → iz_S → Option (Int32 × iz_S)) (k228 : Int32 → Int32 → Int32 → Int32 → Int32 → iz_S → Option (Int32 × iz_S)) (x1 : Int32) (x3 : Int32) (x4 : Int32) (x5 : Int32) (x6 : Int32) (S : iz_S) : Option (Int32 × iz_S) :=
  (iz_bI (Mo_costOf a0 x6 x4 x5 x1 S) (fun r17 S16 =>
  iz_ck (iz_in (((61 : Int32) * x6) + x4) 549) (
  if r17 = (iz_g S16 (iz_rf a0 47) (((61 : Int32) * x6) + x4)) then
    iz_ck (iz_in x6 9) (
    iz_lt (x4 + (x5 - (iz_g S16 (iz_rf a0 24) x6))) (fun v18 =>
    (k219 x1 x3 v18 x5 (x6 + 1) S16)))
  else
    (k228 x1 x3 x4 (x5 + 1) x6 S16))))
def Mo_icing_228 (a0 : Nat) (k219 : Int32 → Int32 → Int32 → Int32 → Int32 → iz_S → Option (Int32 × iz_S)) : Nat → Int32 → Int32 → Int32 → Int32 → Int32 → iz_S → Option (Int32 × iz_S)
  | 0 => fun _ _ _ _ _ _ => none
  | n9 + 1 => Mo_icing_228b a0 k219 (Mo_icing_228 a0 k219 n9)
def Mo_icing_219b (a0 : Nat) (k219 : Int32 → Int32 → Int32 → Int32 → Int32 → iz_S → Option (Int32 × iz_S)) (x1 : Int32) (x3 : Int32) (x4 : Int32) (x5 : Int32) (x6 : Int32) (S : iz_S) : Option (Int32 × iz_S) :=
  (if x6 ≤ x3 then
    (Mo_icing_228 a0 k219 iz_FU x1 x3 x4 0 x6 S)
  else
    some (x5, S))
def Mo_icing_219 (a0 : Nat) : Nat → Int32 → Int32 → Int32 → Int32 → Int32 → iz_S → Option (Int32 × iz_S)
  | 0 => fun _ _ _ _ _ _ => none
  | n9 + 1 => Mo_icing_219b a0 (Mo_icing_219 a0 n9)
def Mo_icing_155 (a0 : Nat) (k67 : Int32 → Int32 → Int32 → Int32 → iz_S → Option (Int32 × iz_S)) (k75 : Int32 → Int32 → Int32 → Int32 → Int32 → iz_S → Option (Int32 × iz_S)) (x1 : Int32) (x2 : Int32) (x3 : Int32) (x4 : Int32) (x5 : Int32) (x6 : Int32) (S : iz_S) : Option (Int32 × iz_S) :=
  iz_ck (iz_in (((61 : Int32) * x4) + x5) 549) (iz_lt (iz_s S (iz_rf a0 47) (((61 : Int32) * x4) + x5) x6) (fun S21 =>
  (k75 x1 x2 x3 x4 (x5 + 1) S21)))
def Mo_icing_147 (a0 : Nat) (k67 : Int32 → Int32 → Int32 → Int32 → iz_S → Option (Int32 × iz_S)) (k75 : Int32 → Int32 → Int32 → Int32 → Int32 → iz_S → Option (Int32 × iz_S)) (k103 : Int32 → Int32 → Int32 → Int32 → Int32 → Int32 → Int32 → iz_S → Option (Int32 × iz_S)) (x1 : Int32) (x2 : Int32) (x3 : Int32) (x4 : Int32) (x5 : Int32) (x7 : Int32) (s0 : Int32) (S : iz_S) : Option (Int32 × iz_S) :=
  (k103 x1 x2 x3 x4 x5 s0 (x7 + 1) S)
def Mo_icing_103b (a0 : Nat) (k67 : Int32 → Int32 → Int32 → Int32 → iz_S → Option (Int32 × iz_S)) (k75 : Int32 → Int32 → Int32 → Int32 → Int32 → iz_S → Option (Int32 × iz_S)) (k103 : Int32 → Int32 → Int32 → Int32 → Int32 → Int32 → Int32 → iz_S → Option (Int32 × iz_S)) (x1 : Int32) (x2 : Int32) (x3 : Int32) (x4 : Int32) (x5 : Int32) (x6 : Int32) (x7 : Int32) (S : iz_S) : Option (Int32 × iz_S) :=
  (if x7 ≤ x1 then
    (if x4 < ((S.1 a0 21) - 1) then
      (iz_bI (Mo_costOf a0 x4 x5 x7 x1 S) (fun r20 S19 =>
      if r20 < x6 then
        (Mo_icing_147 a0 k67 k75 k103 x1 x2 x3 x4 x5 x7 r20 S19)
      else
        (Mo_icing_147 a0 k67 k75 k103 x1 x2 x3 x4 x5 x7 x6 S19)))
    else
      (Mo_icing_155 a0 k67 k75 x1 x2 x3 x4 x5 x6 S))
  else
    (Mo_icing_155 a0 k67 k75 x1 x2 x3 x4 x5 x6 S))
def Mo_icing_103 (a0 : Nat) (k67 : Int32 → Int32 → Int32 → Int32 → iz_S → Option (Int32 × iz_S)) (k75 : Int32 → Int32 → Int32 → Int32 → Int32 → iz_S → Option (Int32 × iz_S)) : Nat → Int32 → Int32 → Int32 → Int32 → Int32 → Int32 → Int32 → iz_S → Option (Int32 × iz_S)
  | 0 => fun _ _ _ _ _ _ _ _ => none
  | n9 + 1 => Mo_icing_103b a0 k67 k75 (Mo_icing_103 a0 k67 k75 n9)
def Mo_icing_98 (a0 : Nat) (k67 : Int32 → Int32 → Int32 → Int32 → iz_S → Option (Int32 × iz_S)) (k75 : Int32 → Int32 → Int32 → Int32 → Int32 → iz_S → Option (Int32 × iz_S)) (x1 : Int32) (x2 : Int32) (x3 : Int32) (x4 : Int32) (x5 : Int32) (s0 : Int32) (S : iz_S) : Option (Int32 × iz_S) :=
  (Mo_icing_103 a0 k67 k75 iz_FU x1 x2 x3 x4 x5 s0 0 S)
def Mo_icing_75b (a0 : Nat) (k67 : Int32 → Int32 → Int32 → Int32 → iz_S → Option (Int32 × iz_S)) (k75 : Int32 → Int32 → Int32 → Int32 → Int32 → iz_S → Option (Int32 × iz_S)) (x1 : Int32) (x2 : Int32) (x3 : Int32) (x4 : Int32) (x5 : Int32) (S : iz_S) : Option (Int32 × iz_S) :=
  (if x5 ≤ x1 then
    (if x4 = ((S.1 a0 21) - 1) then
      (Mo_icing_98 a0 k67 k75 x1 x2 x3 x4 x5 0 S)
    else
      (Mo_icing_98 a0 k67 k75 x1 x2 x3 x4 x5 1000000 S))
  else
    (k67 x1 x2 x3 (x4 + (-1)) S))
def Mo_icing_75 (a0 : Nat) (k67 : Int32 → Int32 → Int32 → Int32 → iz_S → Option (Int32 × iz_S)) : Nat → Int32 → Int32 → Int32 → Int32 → Int32 → iz_S → Option (Int32 × iz_S)
  | 0 => fun _ _ _ _ _ _ => none
  | n9 + 1 => Mo_icing_75b a0 k67 (Mo_icing_75 a0 k67 n9)
def Mo_icing_67b (a0 : Nat) (k67 : Int32 → Int32 → Int32 → Int32 → iz_S → Option (Int32 × iz_S)) (x1 : Int32) (x2 : Int32) (x3 : Int32) (x4 : Int32) (S : iz_S) : Option (Int32 × iz_S) :=
  (if x4 < 0 then
    (iz_ck (iz_in x2 549) (
    if (iz_g S (iz_rf a0 47) x2) = 1000000 then
      iz_bI (Mo_finding a0 2 S) (fun r15 S14 =>
      some (r15, S14))
    else
      (if x3 < 0 then
        iz_ck (iz_in x2 549) (
        some ((iz_g S (iz_rf a0 47) x2), S))
      else
        (Mo_icing_219 a0 iz_FU x1 x3 x2 0 0 S))))
  else
    (Mo_icing_75 a0 k67 iz_FU x1 x2 x3 x4 0 S))
def Mo_icing_67 (a0 : Nat) : Nat → Int32 → Int32 → Int32 → Int32 → iz_S → Option (Int32 × iz_S)
  | 0 => fun _ _ _ _ _ => none
  | n9 + 1 => Mo_icing_67b a0 (Mo_icing_67 a0 n9)
def Mo_icing (a0 : Nat) (x1 : Int32) (x2 : Int32) (x3 : Int32) (S : iz_S) : Option (Int32 × iz_S) :=
  (iz_bI (Mo_isIn x1 1 60 S) (fun r2 S1 =>
  if r2 = 0 then
    (Mo_icing_19 a0 S1)
  else
    (iz_bI (Mo_isIn x2 0 x1 S1) (fun r4 S3 =>
    if r4 = 0 then
      (Mo_icing_19 a0 S3)
    else
      (if (S3.1 a0 21) < 2 then
        iz_bI (Mo_finding a0 3 S3) (fun r11 S10 =>
        some (r11, S10))
      else
        (iz_bI (Mo_isIn x3 (-1) ((S3.1 a0 21) - 2) S3) (fun r6 S5 =>
        if r6 = 0 then
          iz_bI (Mo_finding a0 1 S5) (fun r9 S8 =>
          some (r9, S8))
        else
          iz_lt ((S5.1 a0 21) - 1) (fun v7 =>
          (Mo_icing_67 a0 iz_FU x1 x2 x3 v7 S5)))))))))
set_option maxRecDepth 10000 in
theorem c_Mo_icing_19 {X : iz_X} {l : Launch} {a0 : Nat} (h0 : iz_sh a0 = (10 + 3, 48)) (S : iz_S) : iz_Y X l RX10 tX10_icing 9 1 (iz_Kc X l yX10_icing cX10_icing 9 (some .int) 1 iz_eI) 19 [(0, .ref (X.1 a0))] [] S (Mo_icing_19 a0 S) := by
  unfold Mo_icing_19
  refine iz_aload_n (n := 0) 10 0 rfl rfl ?_
  refine iz_iconst (v := 1) 11 (by decide) rfl ?_
  refine iz_callVI (As := [.int 1]) (rest := []) 12 ml_X10_127 cw_X10_finding ci_X10_finding h0 (fun r9 hr9 => m_Mo_finding h0 hr9) rfl (by decide) (by decide) rfl rfl (Nat.le_of_ble_eq_true rfl) (fun r13 S12 => ?_)
  exact iz_iret 13 rfl
set_option maxRecDepth 10000 in
theorem c_Mo_icing_228b {X : iz_X} {l : Launch} {a0 : Nat} (h0 : iz_sh a0 = (10 + 3, 48)) {k219 : Int32 → Int32 → Int32 → Int32 → Int32 → iz_S → Option (Int32 × iz_S)} {k228 : Int32 → Int32 → Int32 → Int32 → Int32 → iz_S → Option (Int32 × iz_S)} (hk219 : ∀ (x1 : Int32) (x3 : Int32) (x4 : Int32) (x5 : Int32) (x6 : Int32) (S : iz_S), iz_Y X l RX10 tX10_icing 9 1 (iz_Kc X l yX10_icing cX10_icing 9 (some .int) 1 iz_eI) 219 [(0, .ref (X.1 a0)), (1, .int x1), (3, .int x3), (4, .int x4), (5, .int x5), (6, .int x6)] [] S (k219 x1 x3 x4 x5 x6 S)) (hk228 : ∀ (x1 : Int32) (x3 : Int32) (x4 : Int32) (x5 : Int32) (x6 : Int32) (S : iz_S), iz_Y X l RX10 tX10_icing 9 1 (iz_Kc X l yX10_icing cX10_icing 9 (some .int) 1 iz_eI) 228 [(0, .ref (X.1 a0)), (1, .int x1), (3, .int x3), (4, .int x4), (5, .int x5), (6, .int x6)] [] S (k228 x1 x3 x4 x5 x6 S)) (x1 : Int32) (x3 : Int32) (x4 : Int32) (x5 : Int32) (x6 : Int32) (S : iz_S) : iz_Y X l RX10 tX10_icing 9 1 (iz_Kc X l yX10_icing cX10_icing 9 (some .int) 1 iz_eI) 228 [(0, .ref (X.1 a0)), (1, .int x1), (3, .int x3), (4, .int x4), (5, .int x5), (6, .int x6)] [] S (Mo_icing_228b a0 k219 k228 x1 x3 x4 x5 x6 S) := by
  unfold Mo_icing_228b
  refine iz_aload_n (n := 0) 124 0 rfl rfl ?_
  refine iz_iload (n := 6) 125 5 rfl rfl ?_
  refine iz_iload (n := 4) 126 3 rfl rfl ?_
  refine iz_iload (n := 5) 127 4 rfl rfl ?_
  refine iz_iload_n (n := 1) 128 1 rfl rfl ?_
  refine iz_callVI (As := [.int x6, .int x4, .int x5, .int x1]) (rest := []) 129 ml_X10_279 cw_X10_costOf ci_X10_costOf h0 (fun r9 hr9 => m_Mo_costOf h0 hr9) rfl (by decide) (by decide) rfl rfl (Nat.le_of_ble_eq_true rfl) (fun r17 S16 => ?_)
  refine iz_aload_n (n := 0) 130 0 rfl rfl ?_
  refine iz_getR 131 47 h0 fl_X10_119 rfl (by decide) (by decide) rfl ?_
  refine iz_bipush (v := 61) 132 (by decide) rfl ?_
  refine iz_iload (n := 6) 133 5 rfl rfl ?_
  refine iz_imul 134 rfl ?_
  refine iz_iload (n := 4) 135 3 rfl rfl ?_
  refine iz_iadd 136 rfl ?_
  refine iz_iald 137 (sf_10_47 h0) rfl ?_
  refine iz_cmp_eq (tgt := 261) 138 rfl (by decide) ?_ ?_
  · refine iz_iload (n := 4) 141 3 rfl rfl ?_
    refine iz_iload (n := 5) 142 4 rfl rfl ?_
    refine iz_aload_n (n := 0) 143 0 rfl rfl ?_
    refine iz_getR 144 24 h0 fl_X10_71 rfl (by decide) (by decide) rfl ?_
    refine iz_iload (n := 6) 145 5 rfl rfl ?_
    refine iz_iald 146 (sf_10_24 h0) rfl ?_
    refine iz_isub 147 rfl ?_
    refine iz_iadd 148 rfl ?_
    refine iz_let (fun v18 => ?_)
    refine iz_istore (n := 4) (ls2 := [(0, .ref (X.1 a0)), (1, .int x1), (3, .int x3), (4, .int v18), (5, .int x5), (6, .int x6)]) 149 [1, 2, 3, 0, 4, 5] rfl (by decide) rfl ?_
    refine iz_iinc (v := (x6 + 1)) (ls2 := [(0, .ref (X.1 a0)), (1, .int x1), (3, .int x3), (4, .int v18), (5, .int x5), (6, .int (x6 + 1))]) 150 5 [1, 2, 3, 4, 5, 0] rfl rfl rfl (by decide) rfl ?_
    refine iz_goto (tgt := 219) 151 (by decide) rfl ?_
    exact hk219 x1 x3 v18 x5 (x6 + 1) S16
  · refine iz_iinc (v := (x5 + 1)) (ls2 := [(0, .ref (X.1 a0)), (1, .int x1), (3, .int x3), (4, .int x4), (5, .int (x5 + 1)), (6, .int x6)]) 139 4 [1, 2, 3, 4, 0, 5] rfl rfl rfl (by decide) rfl ?_
    refine iz_goto (tgt := 228) 140 (by decide) rfl ?_
    exact hk228 x1 x3 x4 (x5 + 1) x6 S16
theorem c_Mo_icing_228 {X : iz_X} {l : Launch} {a0 : Nat} (h0 : iz_sh a0 = (10 + 3, 48)) {k219 : Int32 → Int32 → Int32 → Int32 → Int32 → iz_S → Option (Int32 × iz_S)} (hk219 : ∀ (x1 : Int32) (x3 : Int32) (x4 : Int32) (x5 : Int32) (x6 : Int32) (S : iz_S), iz_Y X l RX10 tX10_icing 9 1 (iz_Kc X l yX10_icing cX10_icing 9 (some .int) 1 iz_eI) 219 [(0, .ref (X.1 a0)), (1, .int x1), (3, .int x3), (4, .int x4), (5, .int x5), (6, .int x6)] [] S (k219 x1 x3 x4 x5 x6 S)) : ∀ (n9 : Nat) (x1 : Int32) (x3 : Int32) (x4 : Int32) (x5 : Int32) (x6 : Int32) (S : iz_S), iz_Y X l RX10 tX10_icing 9 1 (iz_Kc X l yX10_icing cX10_icing 9 (some .int) 1 iz_eI) 228 [(0, .ref (X.1 a0)), (1, .int x1), (3, .int x3), (4, .int x4), (5, .int x5), (6, .int x6)] [] S (Mo_icing_228 a0 k219 n9 x1 x3 x4 x5 x6 S)
  | 0 => by
    intros
    exact iz_none
  | n9 + 1 => c_Mo_icing_228b h0 hk219 (c_Mo_icing_228 h0 hk219 n9)
set_option maxRecDepth 10000 in
theorem c_Mo_icing_219b {X : iz_X} {l : Launch} {a0 : Nat} (h0 : iz_sh a0 = (10 + 3, 48)) {k219 : Int32 → Int32 → Int32 → Int32 → Int32 → iz_S → Option (Int32 × iz_S)} (hk219 : ∀ (x1 : Int32) (x3 : Int32) (x4 : Int32) (x5 : Int32) (x6 : Int32) (S : iz_S), iz_Y X l RX10 tX10_icing 9 1 (iz_Kc X l yX10_icing cX10_icing 9 (some .int) 1 iz_eI) 219 [(0, .ref (X.1 a0)), (1, .int x1), (3, .int x3), (4, .int x4), (5, .int x5), (6, .int x6)] [] S (k219 x1 x3 x4 x5 x6 S)) (x1 : Int32) (x3 : Int32) (x4 : Int32) (x5 : Int32) (x6 : Int32) (S : iz_S) : iz_Y X l RX10 tX10_icing 9 1 (iz_Kc X l yX10_icing cX10_icing 9 (some .int) 1 iz_eI) 219 [(0, .ref (X.1 a0)), (1, .int x1), (3, .int x3), (4, .int x4), (5, .int x5), (6, .int x6)] [] S (Mo_icing_219b a0 k219 x1 x3 x4 x5 x6 S) := by
  unfold Mo_icing_219b
  refine iz_iload (n := 6) 119 5 rfl rfl ?_
  refine iz_iload_n (n := 3) 120 2 rfl rfl ?_
  refine iz_cmp_gt (tgt := 282) 121 rfl (by decide) ?_ ?_
  · refine iz_iload (n := 5) 152 4 rfl rfl ?_
    exact iz_iret 153 rfl
  · refine iz_iconst (v := 0) 122 (by decide) rfl ?_
    refine iz_istore (n := 5) (ls2 := [(0, .ref (X.1 a0)), (1, .int x1), (3, .int x3), (4, .int x4), (5, .int 0), (6, .int x6)]) 123 [1, 2, 3, 4, 0, 5] rfl (by decide) rfl ?_
    exact c_Mo_icing_228 h0 hk219 iz_FU x1 x3 x4 0 x6 S
theorem c_Mo_icing_219 {X : iz_X} {l : Launch} {a0 : Nat} (h0 : iz_sh a0 = (10 + 3, 48)) : ∀ (n9 : Nat) (x1 : Int32) (x3 : Int32) (x4 : Int32) (x5 : Int32) (x6 : Int32) (S : iz_S), iz_Y X l RX10 tX10_icing 9 1 (iz_Kc X l yX10_icing cX10_icing 9 (some .int) 1 iz_eI) 219 [(0, .ref (X.1 a0)), (1, .int x1), (3, .int x3), (4, .int x4), (5, .int x5), (6, .int x6)] [] S (Mo_icing_219 a0 n9 x1 x3 x4 x5 x6 S)
  | 0 => by
    intros
    exact iz_none
  | n9 + 1 => c_Mo_icing_219b h0 (c_Mo_icing_219 h0 n9)
set_option maxRecDepth 10000 in
theorem c_Mo_icing_155 {X : iz_X} {l : Launch} {a0 : Nat} (h0 : iz_sh a0 = (10 + 3, 48)) {k67 : Int32 → Int32 → Int32 → Int32 → iz_S → Option (Int32 × iz_S)} {k75 : Int32 → Int32 → Int32 → Int32 → Int32 → iz_S → Option (Int32 × iz_S)} (hk67 : ∀ (x1 : Int32) (x2 : Int32) (x3 : Int32) (x4 : Int32) (S : iz_S), iz_Y X l RX10 tX10_icing 9 1 (iz_Kc X l yX10_icing cX10_icing 9 (some .int) 1 iz_eI) 67 [(0, .ref (X.1 a0)), (1, .int x1), (2, .int x2), (3, .int x3), (4, .int x4)] [] S (k67 x1 x2 x3 x4 S)) (hk75 : ∀ (x1 : Int32) (x2 : Int32) (x3 : Int32) (x4 : Int32) (x5 : Int32) (S : iz_S), iz_Y X l RX10 tX10_icing 9 1 (iz_Kc X l yX10_icing cX10_icing 9 (some .int) 1 iz_eI) 75 [(0, .ref (X.1 a0)), (1, .int x1), (2, .int x2), (3, .int x3), (4, .int x4), (5, .int x5)] [] S (k75 x1 x2 x3 x4 x5 S)) (x1 : Int32) (x2 : Int32) (x3 : Int32) (x4 : Int32) (x5 : Int32) (x6 : Int32) (S : iz_S) : iz_Y X l RX10 tX10_icing 9 1 (iz_Kc X l yX10_icing cX10_icing 9 (some .int) 1 iz_eI) 155 [(0, .ref (X.1 a0)), (1, .int x1), (2, .int x2), (3, .int x3), (4, .int x4), (5, .int x5), (6, .int x6)] [] S (Mo_icing_155 a0 k67 k75 x1 x2 x3 x4 x5 x6 S) := by
  unfold Mo_icing_155
  refine iz_aload_n (n := 0) 83 0 rfl rfl ?_
  refine iz_getR 84 47 h0 fl_X10_119 rfl (by decide) (by decide) rfl ?_
  refine iz_bipush (v := 61) 85 (by decide) rfl ?_
  refine iz_iload (n := 4) 86 4 rfl rfl ?_
  refine iz_imul 87 rfl ?_
  refine iz_iload (n := 5) 88 5 rfl rfl ?_
  refine iz_iadd 89 rfl ?_
  refine iz_iload (n := 6) 90 6 rfl rfl ?_
  refine iz_iast 91 (sf_10_47 h0) rfl (fun S21 => ?_)
  refine iz_iinc (v := (x5 + 1)) (ls2 := [(0, .ref (X.1 a0)), (1, .int x1), (2, .int x2), (3, .int x3), (4, .int x4), (5, .int (x5 + 1))]) 92 5 [1, 2, 3, 4, 5, 0] rfl rfl rfl (by decide) rfl ?_
  refine iz_goto (tgt := 75) 93 (by decide) rfl ?_
  exact hk75 x1 x2 x3 x4 (x5 + 1) S21
set_option maxRecDepth 10000 in
theorem c_Mo_icing_147 {X : iz_X} {l : Launch} {a0 : Nat} (h0 : iz_sh a0 = (10 + 3, 48)) {k67 : Int32 → Int32 → Int32 → Int32 → iz_S → Option (Int32 × iz_S)} {k75 : Int32 → Int32 → Int32 → Int32 → Int32 → iz_S → Option (Int32 × iz_S)} {k103 : Int32 → Int32 → Int32 → Int32 → Int32 → Int32 → Int32 → iz_S → Option (Int32 × iz_S)} (hk67 : ∀ (x1 : Int32) (x2 : Int32) (x3 : Int32) (x4 : Int32) (S : iz_S), iz_Y X l RX10 tX10_icing 9 1 (iz_Kc X l yX10_icing cX10_icing 9 (some .int) 1 iz_eI) 67 [(0, .ref (X.1 a0)), (1, .int x1), (2, .int x2), (3, .int x3), (4, .int x4)] [] S (k67 x1 x2 x3 x4 S)) (hk75 : ∀ (x1 : Int32) (x2 : Int32) (x3 : Int32) (x4 : Int32) (x5 : Int32) (S : iz_S), iz_Y X l RX10 tX10_icing 9 1 (iz_Kc X l yX10_icing cX10_icing 9 (some .int) 1 iz_eI) 75 [(0, .ref (X.1 a0)), (1, .int x1), (2, .int x2), (3, .int x3), (4, .int x4), (5, .int x5)] [] S (k75 x1 x2 x3 x4 x5 S)) (hk103 : ∀ (x1 : Int32) (x2 : Int32) (x3 : Int32) (x4 : Int32) (x5 : Int32) (x6 : Int32) (x7 : Int32) (S : iz_S), iz_Y X l RX10 tX10_icing 9 1 (iz_Kc X l yX10_icing cX10_icing 9 (some .int) 1 iz_eI) 103 [(0, .ref (X.1 a0)), (1, .int x1), (2, .int x2), (3, .int x3), (4, .int x4), (5, .int x5), (6, .int x6), (7, .int x7)] [] S (k103 x1 x2 x3 x4 x5 x6 x7 S)) (x1 : Int32) (x2 : Int32) (x3 : Int32) (x4 : Int32) (x5 : Int32) (x7 : Int32) (s0 : Int32) (S : iz_S) : iz_Y X l RX10 tX10_icing 9 1 (iz_Kc X l yX10_icing cX10_icing 9 (some .int) 1 iz_eI) 147 [(0, .ref (X.1 a0)), (1, .int x1), (2, .int x2), (3, .int x3), (4, .int x4), (5, .int x5), (7, .int x7)] [.int s0] S (Mo_icing_147 a0 k67 k75 k103 x1 x2 x3 x4 x5 x7 s0 S) := by
  unfold Mo_icing_147
  refine iz_istore (n := 6) (ls2 := [(0, .ref (X.1 a0)), (1, .int x1), (2, .int x2), (3, .int x3), (4, .int x4), (5, .int x5), (6, .int s0), (7, .int x7)]) 80 [1, 2, 3, 4, 5, 6, 0, 7] rfl (by decide) rfl ?_
  refine iz_iinc (v := (x7 + 1)) (ls2 := [(0, .ref (X.1 a0)), (1, .int x1), (2, .int x2), (3, .int x3), (4, .int x4), (5, .int x5), (6, .int s0), (7, .int (x7 + 1))]) 81 7 [1, 2, 3, 4, 5, 6, 7, 0] rfl rfl rfl (by decide) rfl ?_
  refine iz_goto (tgt := 103) 82 (by decide) rfl ?_
  exact hk103 x1 x2 x3 x4 x5 s0 (x7 + 1) S
set_option maxRecDepth 10000 in
theorem c_Mo_icing_103b {X : iz_X} {l : Launch} {a0 : Nat} (h0 : iz_sh a0 = (10 + 3, 48)) {k67 : Int32 → Int32 → Int32 → Int32 → iz_S → Option (Int32 × iz_S)} {k75 : Int32 → Int32 → Int32 → Int32 → Int32 → iz_S → Option (Int32 × iz_S)} {k103 : Int32 → Int32 → Int32 → Int32 → Int32 → Int32 → Int32 → iz_S → Option (Int32 × iz_S)} (hk67 : ∀ (x1 : Int32) (x2 : Int32) (x3 : Int32) (x4 : Int32) (S : iz_S), iz_Y X l RX10 tX10_icing 9 1 (iz_Kc X l yX10_icing cX10_icing 9 (some .int) 1 iz_eI) 67 [(0, .ref (X.1 a0)), (1, .int x1), (2, .int x2), (3, .int x3), (4, .int x4)] [] S (k67 x1 x2 x3 x4 S)) (hk75 : ∀ (x1 : Int32) (x2 : Int32) (x3 : Int32) (x4 : Int32) (x5 : Int32) (S : iz_S), iz_Y X l RX10 tX10_icing 9 1 (iz_Kc X l yX10_icing cX10_icing 9 (some .int) 1 iz_eI) 75 [(0, .ref (X.1 a0)), (1, .int x1), (2, .int x2), (3, .int x3), (4, .int x4), (5, .int x5)] [] S (k75 x1 x2 x3 x4 x5 S)) (hk103 : ∀ (x1 : Int32) (x2 : Int32) (x3 : Int32) (x4 : Int32) (x5 : Int32) (x6 : Int32) (x7 : Int32) (S : iz_S), iz_Y X l RX10 tX10_icing 9 1 (iz_Kc X l yX10_icing cX10_icing 9 (some .int) 1 iz_eI) 103 [(0, .ref (X.1 a0)), (1, .int x1), (2, .int x2), (3, .int x3), (4, .int x4), (5, .int x5), (6, .int x6), (7, .int x7)] [] S (k103 x1 x2 x3 x4 x5 x6 x7 S)) (x1 : Int32) (x2 : Int32) (x3 : Int32) (x4 : Int32) (x5 : Int32) (x6 : Int32) (x7 : Int32) (S : iz_S) : iz_Y X l RX10 tX10_icing 9 1 (iz_Kc X l yX10_icing cX10_icing 9 (some .int) 1 iz_eI) 103 [(0, .ref (X.1 a0)), (1, .int x1), (2, .int x2), (3, .int x3), (4, .int x4), (5, .int x5), (6, .int x6), (7, .int x7)] [] S (Mo_icing_103b a0 k67 k75 k103 x1 x2 x3 x4 x5 x6 x7 S) := by
  unfold Mo_icing_103b
  refine iz_iload (n := 7) 58 7 rfl rfl ?_
  refine iz_iload_n (n := 1) 59 1 rfl rfl ?_
  refine iz_cmp_gt (tgt := 155) 60 rfl (by decide) ?_ ?_
  · exact iz_sub [0, 1, 2, 3, 4, 5, 6] rfl (c_Mo_icing_155 h0 hk67 hk75 x1 x2 x3 x4 x5 x6 S)
  · refine iz_iload (n := 4) 61 4 rfl rfl ?_
    refine iz_aload_n (n := 0) 62 0 rfl rfl ?_
    refine iz_getI 63 21 h0 fl_X10_272 rfl (by decide) (by decide) rfl ?_
    refine iz_iconst (v := 1) 64 (by decide) rfl ?_
    refine iz_isub 65 rfl ?_
    refine iz_cmp_ge (tgt := 155) 66 rfl (by decide) ?_ ?_
    · exact iz_sub [0, 1, 2, 3, 4, 5, 6] rfl (c_Mo_icing_155 h0 hk67 hk75 x1 x2 x3 x4 x5 x6 S)
    · refine iz_aload_n (n := 0) 67 0 rfl rfl ?_
      refine iz_iload (n := 4) 68 4 rfl rfl ?_
      refine iz_iload (n := 5) 69 5 rfl rfl ?_
      refine iz_iload (n := 7) 70 7 rfl rfl ?_
      refine iz_iload_n (n := 1) 71 1 rfl rfl ?_
      refine iz_callVI (As := [.int x4, .int x5, .int x7, .int x1]) (rest := []) 72 ml_X10_279 cw_X10_costOf ci_X10_costOf h0 (fun r9 hr9 => m_Mo_costOf h0 hr9) rfl (by decide) (by decide) rfl rfl (Nat.le_of_ble_eq_true rfl) (fun r20 S19 => ?_)
      refine iz_istore (n := 8) (ls2 := [(0, .ref (X.1 a0)), (1, .int x1), (2, .int x2), (3, .int x3), (4, .int x4), (5, .int x5), (6, .int x6), (7, .int x7), (8, .int r20)]) 73 [1, 2, 3, 4, 5, 6, 7, 8, 0] rfl (by decide) rfl ?_
      refine iz_iload (n := 8) 74 8 rfl rfl ?_
      refine iz_iload (n := 6) 75 6 rfl rfl ?_
      refine iz_cmp_ge (tgt := 145) 76 rfl (by decide) ?_ ?_
      · refine iz_iload (n := 6) 79 6 rfl rfl ?_
        exact iz_sub [0, 1, 2, 3, 4, 5, 7] rfl (c_Mo_icing_147 h0 hk67 hk75 hk103 x1 x2 x3 x4 x5 x7 x6 S19)
      · refine iz_iload (n := 8) 77 8 rfl rfl ?_
        refine iz_goto (tgt := 147) 78 (by decide) rfl ?_
        exact iz_sub [0, 1, 2, 3, 4, 5, 7] rfl (c_Mo_icing_147 h0 hk67 hk75 hk103 x1 x2 x3 x4 x5 x7 r20 S19)
theorem c_Mo_icing_103 {X : iz_X} {l : Launch} {a0 : Nat} (h0 : iz_sh a0 = (10 + 3, 48)) {k67 : Int32 → Int32 → Int32 → Int32 → iz_S → Option (Int32 × iz_S)} {k75 : Int32 → Int32 → Int32 → Int32 → Int32 → iz_S → Option (Int32 × iz_S)} (hk67 : ∀ (x1 : Int32) (x2 : Int32) (x3 : Int32) (x4 : Int32) (S : iz_S), iz_Y X l RX10 tX10_icing 9 1 (iz_Kc X l yX10_icing cX10_icing 9 (some .int) 1 iz_eI) 67 [(0, .ref (X.1 a0)), (1, .int x1), (2, .int x2), (3, .int x3), (4, .int x4)] [] S (k67 x1 x2 x3 x4 S)) (hk75 : ∀ (x1 : Int32) (x2 : Int32) (x3 : Int32) (x4 : Int32) (x5 : Int32) (S : iz_S), iz_Y X l RX10 tX10_icing 9 1 (iz_Kc X l yX10_icing cX10_icing 9 (some .int) 1 iz_eI) 75 [(0, .ref (X.1 a0)), (1, .int x1), (2, .int x2), (3, .int x3), (4, .int x4), (5, .int x5)] [] S (k75 x1 x2 x3 x4 x5 S)) : ∀ (n9 : Nat) (x1 : Int32) (x2 : Int32) (x3 : Int32) (x4 : Int32) (x5 : Int32) (x6 : Int32) (x7 : Int32) (S : iz_S), iz_Y X l RX10 tX10_icing 9 1 (iz_Kc X l yX10_icing cX10_icing 9 (some .int) 1 iz_eI) 103 [(0, .ref (X.1 a0)), (1, .int x1), (2, .int x2), (3, .int x3), (4, .int x4), (5, .int x5), (6, .int x6), (7, .int x7)] [] S (Mo_icing_103 a0 k67 k75 n9 x1 x2 x3 x4 x5 x6 x7 S)
  | 0 => by
    intros
    exact iz_none
  | n9 + 1 => c_Mo_icing_103b h0 hk67 hk75 (c_Mo_icing_103 h0 hk67 hk75 n9)
set_option maxRecDepth 10000 in
theorem c_Mo_icing_98 {X : iz_X} {l : Launch} {a0 : Nat} (h0 : iz_sh a0 = (10 + 3, 48)) {k67 : Int32 → Int32 → Int32 → Int32 → iz_S → Option (Int32 × iz_S)} {k75 : Int32 → Int32 → Int32 → Int32 → Int32 → iz_S → Option (Int32 × iz_S)} (hk67 : ∀ (x1 : Int32) (x2 : Int32) (x3 : Int32) (x4 : Int32) (S : iz_S), iz_Y X l RX10 tX10_icing 9 1 (iz_Kc X l yX10_icing cX10_icing 9 (some .int) 1 iz_eI) 67 [(0, .ref (X.1 a0)), (1, .int x1), (2, .int x2), (3, .int x3), (4, .int x4)] [] S (k67 x1 x2 x3 x4 S)) (hk75 : ∀ (x1 : Int32) (x2 : Int32) (x3 : Int32) (x4 : Int32) (x5 : Int32) (S : iz_S), iz_Y X l RX10 tX10_icing 9 1 (iz_Kc X l yX10_icing cX10_icing 9 (some .int) 1 iz_eI) 75 [(0, .ref (X.1 a0)), (1, .int x1), (2, .int x2), (3, .int x3), (4, .int x4), (5, .int x5)] [] S (k75 x1 x2 x3 x4 x5 S)) (x1 : Int32) (x2 : Int32) (x3 : Int32) (x4 : Int32) (x5 : Int32) (s0 : Int32) (S : iz_S) : iz_Y X l RX10 tX10_icing 9 1 (iz_Kc X l yX10_icing cX10_icing 9 (some .int) 1 iz_eI) 98 [(0, .ref (X.1 a0)), (1, .int x1), (2, .int x2), (3, .int x3), (4, .int x4), (5, .int x5)] [.int s0] S (Mo_icing_98 a0 k67 k75 x1 x2 x3 x4 x5 s0 S) := by
  unfold Mo_icing_98
  refine iz_istore (n := 6) (ls2 := [(0, .ref (X.1 a0)), (1, .int x1), (2, .int x2), (3, .int x3), (4, .int x4), (5, .int x5), (6, .int s0)]) 55 [1, 2, 3, 4, 5, 6, 0] rfl (by decide) rfl ?_
  refine iz_iconst (v := 0) 56 (by decide) rfl ?_
  refine iz_istore (n := 7) (ls2 := [(0, .ref (X.1 a0)), (1, .int x1), (2, .int x2), (3, .int x3), (4, .int x4), (5, .int x5), (6, .int s0), (7, .int 0)]) 57 [1, 2, 3, 4, 5, 6, 7, 0] rfl (by decide) rfl ?_
  exact c_Mo_icing_103 h0 hk67 hk75 iz_FU x1 x2 x3 x4 x5 s0 0 S
set_option maxRecDepth 10000 in
theorem c_Mo_icing_75b {X : iz_X} {l : Launch} {a0 : Nat} (h0 : iz_sh a0 = (10 + 3, 48)) {k67 : Int32 → Int32 → Int32 → Int32 → iz_S → Option (Int32 × iz_S)} {k75 : Int32 → Int32 → Int32 → Int32 → Int32 → iz_S → Option (Int32 × iz_S)} (hk67 : ∀ (x1 : Int32) (x2 : Int32) (x3 : Int32) (x4 : Int32) (S : iz_S), iz_Y X l RX10 tX10_icing 9 1 (iz_Kc X l yX10_icing cX10_icing 9 (some .int) 1 iz_eI) 67 [(0, .ref (X.1 a0)), (1, .int x1), (2, .int x2), (3, .int x3), (4, .int x4)] [] S (k67 x1 x2 x3 x4 S)) (hk75 : ∀ (x1 : Int32) (x2 : Int32) (x3 : Int32) (x4 : Int32) (x5 : Int32) (S : iz_S), iz_Y X l RX10 tX10_icing 9 1 (iz_Kc X l yX10_icing cX10_icing 9 (some .int) 1 iz_eI) 75 [(0, .ref (X.1 a0)), (1, .int x1), (2, .int x2), (3, .int x3), (4, .int x4), (5, .int x5)] [] S (k75 x1 x2 x3 x4 x5 S)) (x1 : Int32) (x2 : Int32) (x3 : Int32) (x4 : Int32) (x5 : Int32) (S : iz_S) : iz_Y X l RX10 tX10_icing 9 1 (iz_Kc X l yX10_icing cX10_icing 9 (some .int) 1 iz_eI) 75 [(0, .ref (X.1 a0)), (1, .int x1), (2, .int x2), (3, .int x3), (4, .int x4), (5, .int x5)] [] S (Mo_icing_75b a0 k67 k75 x1 x2 x3 x4 x5 S) := by
  unfold Mo_icing_75b
  refine iz_iload (n := 5) 43 5 rfl rfl ?_
  refine iz_iload_n (n := 1) 44 1 rfl rfl ?_
  refine iz_cmp_gt (tgt := 176) 45 rfl (by decide) ?_ ?_
  · refine iz_iinc (v := (x4 + (-1))) (ls2 := [(0, .ref (X.1 a0)), (1, .int x1), (2, .int x2), (3, .int x3), (4, .int (x4 + (-1)))]) 94 4 [1, 2, 3, 4, 0] rfl rfl rfl (by decide) rfl ?_
    refine iz_goto (tgt := 67) 95 (by decide) rfl ?_
    exact hk67 x1 x2 x3 (x4 + (-1)) S
  · refine iz_iload (n := 4) 46 4 rfl rfl ?_
    refine iz_aload_n (n := 0) 47 0 rfl rfl ?_
    refine iz_getI 48 21 h0 fl_X10_272 rfl (by decide) (by decide) rfl ?_
    refine iz_iconst (v := 1) 49 (by decide) rfl ?_
    refine iz_isub 50 rfl ?_
    refine iz_cmp_ne (tgt := 96) 51 rfl (by decide) ?_ ?_
    · refine iz_ldc 54 kc_X10_241 rfl ?_
      exact c_Mo_icing_98 h0 hk67 hk75 x1 x2 x3 x4 x5 1000000 S
    · refine iz_iconst (v := 0) 52 (by decide) rfl ?_
      refine iz_goto (tgt := 98) 53 (by decide) rfl ?_
      exact c_Mo_icing_98 h0 hk67 hk75 x1 x2 x3 x4 x5 0 S
theorem c_Mo_icing_75 {X : iz_X} {l : Launch} {a0 : Nat} (h0 : iz_sh a0 = (10 + 3, 48)) {k67 : Int32 → Int32 → Int32 → Int32 → iz_S → Option (Int32 × iz_S)} (hk67 : ∀ (x1 : Int32) (x2 : Int32) (x3 : Int32) (x4 : Int32) (S : iz_S), iz_Y X l RX10 tX10_icing 9 1 (iz_Kc X l yX10_icing cX10_icing 9 (some .int) 1 iz_eI) 67 [(0, .ref (X.1 a0)), (1, .int x1), (2, .int x2), (3, .int x3), (4, .int x4)] [] S (k67 x1 x2 x3 x4 S)) : ∀ (n9 : Nat) (x1 : Int32) (x2 : Int32) (x3 : Int32) (x4 : Int32) (x5 : Int32) (S : iz_S), iz_Y X l RX10 tX10_icing 9 1 (iz_Kc X l yX10_icing cX10_icing 9 (some .int) 1 iz_eI) 75 [(0, .ref (X.1 a0)), (1, .int x1), (2, .int x2), (3, .int x3), (4, .int x4), (5, .int x5)] [] S (Mo_icing_75 a0 k67 n9 x1 x2 x3 x4 x5 S)
  | 0 => by
    intros
    exact iz_none
  | n9 + 1 => c_Mo_icing_75b h0 hk67 (c_Mo_icing_75 h0 hk67 n9)
set_option maxRecDepth 10000 in
theorem c_Mo_icing_67b {X : iz_X} {l : Launch} {a0 : Nat} (h0 : iz_sh a0 = (10 + 3, 48)) {k67 : Int32 → Int32 → Int32 → Int32 → iz_S → Option (Int32 × iz_S)} (hk67 : ∀ (x1 : Int32) (x2 : Int32) (x3 : Int32) (x4 : Int32) (S : iz_S), iz_Y X l RX10 tX10_icing 9 1 (iz_Kc X l yX10_icing cX10_icing 9 (some .int) 1 iz_eI) 67 [(0, .ref (X.1 a0)), (1, .int x1), (2, .int x2), (3, .int x3), (4, .int x4)] [] S (k67 x1 x2 x3 x4 S)) (x1 : Int32) (x2 : Int32) (x3 : Int32) (x4 : Int32) (S : iz_S) : iz_Y X l RX10 tX10_icing 9 1 (iz_Kc X l yX10_icing cX10_icing 9 (some .int) 1 iz_eI) 67 [(0, .ref (X.1 a0)), (1, .int x1), (2, .int x2), (3, .int x3), (4, .int x4)] [] S (Mo_icing_67b a0 k67 x1 x2 x3 x4 S) := by
  unfold Mo_icing_67b
  refine iz_iload (n := 4) 39 4 rfl rfl ?_
  refine iz_if_lt (tgt := 182) 40 rfl (by decide) ?_ ?_
  · refine iz_aload_n (n := 0) 96 0 rfl rfl ?_
    refine iz_getR 97 47 h0 fl_X10_119 rfl (by decide) (by decide) rfl ?_
    refine iz_iload_n (n := 2) 98 2 rfl rfl ?_
    refine iz_iald 99 (sf_10_47 h0) rfl ?_
    refine iz_ldc 100 kc_X10_241 rfl ?_
    refine iz_cmp_ne (tgt := 199) 101 rfl (by decide) ?_ ?_
    · refine iz_iload_n (n := 3) 106 3 rfl rfl ?_
      refine iz_if_ge (tgt := 210) 107 rfl (by decide) ?_ ?_
      · refine iz_iload_n (n := 2) 113 2 rfl rfl ?_
        refine iz_istore (n := 4) (ls2 := [(0, .ref (X.1 a0)), (1, .int x1), (3, .int x3), (4, .int x2)]) 114 [1, 2, 4, 0] rfl (by decide) rfl ?_
        refine iz_iconst (v := 0) 115 (by decide) rfl ?_
        refine iz_istore (n := 5) (ls2 := [(0, .ref (X.1 a0)), (1, .int x1), (3, .int x3), (4, .int x2), (5, .int 0)]) 116 [1, 2, 3, 4, 0] rfl (by decide) rfl ?_
        refine iz_iconst (v := 0) 117 (by decide) rfl ?_
        refine iz_istore (n := 6) (ls2 := [(0, .ref (X.1 a0)), (1, .int x1), (3, .int x3), (4, .int x2), (5, .int 0), (6, .int 0)]) 118 [1, 2, 3, 4, 5, 0] rfl (by decide) rfl ?_
        exact c_Mo_icing_219 h0 iz_FU x1 x3 x2 0 0 S
      · refine iz_aload_n (n := 0) 108 0 rfl rfl ?_
        refine iz_getR 109 47 h0 fl_X10_119 rfl (by decide) (by decide) rfl ?_
        refine iz_iload_n (n := 2) 110 2 rfl rfl ?_
        refine iz_iald 111 (sf_10_47 h0) rfl ?_
        exact iz_iret 112 rfl
    · refine iz_aload_n (n := 0) 102 0 rfl rfl ?_
      refine iz_iconst (v := 2) 103 (by decide) rfl ?_
      refine iz_callVI (As := [.int 2]) (rest := []) 104 ml_X10_127 cw_X10_finding ci_X10_finding h0 (fun r9 hr9 => m_Mo_finding h0 hr9) rfl (by decide) (by decide) rfl rfl (Nat.le_of_ble_eq_true rfl) (fun r15 S14 => ?_)
      exact iz_iret 105 rfl
  · refine iz_iconst (v := 0) 41 (by decide) rfl ?_
    refine iz_istore (n := 5) (ls2 := [(0, .ref (X.1 a0)), (1, .int x1), (2, .int x2), (3, .int x3), (4, .int x4), (5, .int 0)]) 42 [1, 2, 3, 4, 5, 0] rfl (by decide) rfl ?_
    exact c_Mo_icing_75 h0 hk67 iz_FU x1 x2 x3 x4 0 S
theorem c_Mo_icing_67 {X : iz_X} {l : Launch} {a0 : Nat} (h0 : iz_sh a0 = (10 + 3, 48)) : ∀ (n9 : Nat) (x1 : Int32) (x2 : Int32) (x3 : Int32) (x4 : Int32) (S : iz_S), iz_Y X l RX10 tX10_icing 9 1 (iz_Kc X l yX10_icing cX10_icing 9 (some .int) 1 iz_eI) 67 [(0, .ref (X.1 a0)), (1, .int x1), (2, .int x2), (3, .int x3), (4, .int x4)] [] S (Mo_icing_67 a0 n9 x1 x2 x3 x4 S)
  | 0 => by
    intros
    exact iz_none
  | n9 + 1 => c_Mo_icing_67b h0 (c_Mo_icing_67 h0 n9)
set_option maxRecDepth 10000 in
theorem c_Mo_icing {X : iz_X} {l : Launch} {a0 : Nat} (h0 : iz_sh a0 = (10 + 3, 48)) (x1 : Int32) (x2 : Int32) (x3 : Int32) (S : iz_S) : iz_Y X l RX10 tX10_icing 9 1 (iz_Kc X l yX10_icing cX10_icing 9 (some .int) 1 iz_eI) 0 [(0, .ref (X.1 a0)), (1, .int x1), (2, .int x2), (3, .int x3)] [] S (Mo_icing a0 x1 x2 x3 S) := by
  unfold Mo_icing
  refine iz_iload_n (n := 1) 0 1 rfl rfl ?_
  refine iz_iconst (v := 1) 1 (by decide) rfl ?_
  refine iz_bipush (v := 60) 2 (by decide) rfl ?_
  refine iz_callSI (As := [.int x1, .int 1, .int 60]) (rest := []) 3 ml_X10_123 cw_X10_isIn ci_X10_isIn (fun r9 hr9 => m_Mo_isIn  hr9) rfl (by decide) rfl rfl (Nat.le_of_ble_eq_true rfl) (fun r2 S1 => ?_)
  refine iz_if_eq (tgt := 19) 4 rfl (by decide) ?_ ?_
  · exact iz_sub [0] rfl (c_Mo_icing_19 h0 S1)
  · refine iz_iload_n (n := 2) 5 2 rfl rfl ?_
    refine iz_iconst (v := 0) 6 (by decide) rfl ?_
    refine iz_iload_n (n := 1) 7 1 rfl rfl ?_
    refine iz_callSI (As := [.int x2, .int 0, .int x1]) (rest := []) 8 ml_X10_123 cw_X10_isIn ci_X10_isIn (fun r9 hr9 => m_Mo_isIn  hr9) rfl (by decide) rfl rfl (Nat.le_of_ble_eq_true rfl) (fun r4 S3 => ?_)
    refine iz_if_ne (tgt := 25) 9 rfl (by decide) ?_ ?_
    · refine iz_aload_n (n := 0) 14 0 rfl rfl ?_
      refine iz_getI 15 21 h0 fl_X10_272 rfl (by decide) (by decide) rfl ?_
      refine iz_iconst (v := 2) 16 (by decide) rfl ?_
      refine iz_cmp_ge (tgt := 39) 17 rfl (by decide) ?_ ?_
      · refine iz_iload_n (n := 3) 22 3 rfl rfl ?_
        refine iz_iconst (v := (-1)) 23 (by decide) rfl ?_
        refine iz_aload_n (n := 0) 24 0 rfl rfl ?_
        refine iz_getI 25 21 h0 fl_X10_272 rfl (by decide) (by decide) rfl ?_
        refine iz_iconst (v := 2) 26 (by decide) rfl ?_
        refine iz_isub 27 rfl ?_
        refine iz_callSI (As := [.int x3, .int (-1), .int ((S3.1 a0 21) - 2)]) (rest := []) 28 ml_X10_123 cw_X10_isIn ci_X10_isIn (fun r9 hr9 => m_Mo_isIn  hr9) rfl (by decide) rfl rfl (Nat.le_of_ble_eq_true rfl) (fun r6 S5 => ?_)
        refine iz_if_ne (tgt := 59) 29 rfl (by decide) ?_ ?_
        · refine iz_aload_n (n := 0) 34 0 rfl rfl ?_
          refine iz_getI 35 21 h0 fl_X10_272 rfl (by decide) (by decide) rfl ?_
          refine iz_iconst (v := 1) 36 (by decide) rfl ?_
          refine iz_isub 37 rfl ?_
          refine iz_let (fun v7 => ?_)
          refine iz_istore (n := 4) (ls2 := [(0, .ref (X.1 a0)), (1, .int x1), (2, .int x2), (3, .int x3), (4, .int v7)]) 38 [1, 2, 3, 4, 0] rfl (by decide) rfl ?_
          exact c_Mo_icing_67 h0 iz_FU x1 x2 x3 v7 S5
        · refine iz_aload_n (n := 0) 30 0 rfl rfl ?_
          refine iz_iconst (v := 1) 31 (by decide) rfl ?_
          refine iz_callVI (As := [.int 1]) (rest := []) 32 ml_X10_127 cw_X10_finding ci_X10_finding h0 (fun r9 hr9 => m_Mo_finding h0 hr9) rfl (by decide) (by decide) rfl rfl (Nat.le_of_ble_eq_true rfl) (fun r9 S8 => ?_)
          exact iz_iret 33 rfl
      · refine iz_aload_n (n := 0) 18 0 rfl rfl ?_
        refine iz_iconst (v := 3) 19 (by decide) rfl ?_
        refine iz_callVI (As := [.int 3]) (rest := []) 20 ml_X10_127 cw_X10_finding ci_X10_finding h0 (fun r9 hr9 => m_Mo_finding h0 hr9) rfl (by decide) (by decide) rfl rfl (Nat.le_of_ble_eq_true rfl) (fun r11 S10 => ?_)
        exact iz_iret 21 rfl
    · exact iz_sub [0] rfl (c_Mo_icing_19 h0 S3)
theorem m_Mo_icing {X : iz_X} {l : Launch} {a0 : Nat} (h0 : iz_sh a0 = (10 + 3, 48)) {x1 : Int32} {x2 : Int32} {x3 : Int32} {S : iz_S} {r9 : Int32 × iz_S} (hr : Mo_icing a0 x1 x2 x3 S = some r9) : iz_Mt X l 1 yX10_icing cX10_icing 9 (some .int) [.ref (X.1 a0), .int x1, .int x2, .int x3] S (iz_eI r9) :=
  iz_Mt_of (dt := tX10_icing) dX10_icing (by decide) hr (Nat.le_of_ble_eq_true rfl) (c_Mo_icing h0 x1 x2 x3 S)
def Mo_ledger_48 (a0 : Nat) (s0 : Int32) (S : iz_S) : Option (Int32 × iz_S) :=
  some (s0, S)
def Mo_ledger (a0 : Nat) (x1 : Int32) (S : iz_S) : Option (Int32 × iz_S) :=
  (iz_bI (Mo_isIn x1 0 6 S) (fun r2 S1 =>
  if r2 = 0 then
    iz_bI (Mo_finding a0 1 S1) (fun r6 S5 =>
    some (r6, S5))
  else
    (if x1 < 5 then
      iz_ck (iz_in x1 6) (
      (Mo_ledger_48 a0 (iz_g S1 (iz_rf a0 25) x1) S1))
    else
      (if x1 = 5 then
        iz_bI (Mo_allWeight a0 S1) (fun r4 S3 =>
        (Mo_ledger_48 a0 r4 S3))
      else
        iz_ck (iz_in 5 6) (
        (Mo_ledger_48 a0 (iz_g S1 (iz_rf a0 25) 5) S1))))))
set_option maxRecDepth 10000 in
theorem c_Mo_ledger_48 {X : iz_X} {l : Launch} {a0 : Nat} (h0 : iz_sh a0 = (10 + 3, 48)) (s0 : Int32) (S : iz_S) : iz_Y X l RX10 tX10_ledger 2 2 (iz_Kc X l yX10_ledger cX10_ledger 2 (some .int) 2 iz_eI) 48 [] [.int s0] S (Mo_ledger_48 a0 s0 S) := by
  unfold Mo_ledger_48
  exact iz_iret 27 rfl
set_option maxRecDepth 10000 in
theorem c_Mo_ledger {X : iz_X} {l : Launch} {a0 : Nat} (h0 : iz_sh a0 = (10 + 3, 48)) (x1 : Int32) (S : iz_S) : iz_Y X l RX10 tX10_ledger 2 2 (iz_Kc X l yX10_ledger cX10_ledger 2 (some .int) 2 iz_eI) 0 [(0, .ref (X.1 a0)), (1, .int x1)] [] S (Mo_ledger a0 x1 S) := by
  unfold Mo_ledger
  refine iz_iload_n (n := 1) 0 1 rfl rfl ?_
  refine iz_iconst (v := 0) 1 (by decide) rfl ?_
  refine iz_bipush (v := 6) 2 (by decide) rfl ?_
  refine iz_callSI (As := [.int x1, .int 0, .int 6]) (rest := []) 3 ml_X10_123 cw_X10_isIn ci_X10_isIn (fun r9 hr9 => m_Mo_isIn  hr9) rfl (by decide) rfl rfl (Nat.le_of_ble_eq_true rfl) (fun r2 S1 => ?_)
  refine iz_if_ne (tgt := 16) 4 rfl (by decide) ?_ ?_
  · refine iz_iload_n (n := 1) 9 1 rfl rfl ?_
    refine iz_iconst (v := 5) 10 (by decide) rfl ?_
    refine iz_cmp_ge (tgt := 30) 11 rfl (by decide) ?_ ?_
    · refine iz_iload_n (n := 1) 17 1 rfl rfl ?_
      refine iz_iconst (v := 5) 18 (by decide) rfl ?_
      refine iz_cmp_ne (tgt := 42) 19 rfl (by decide) ?_ ?_
      · refine iz_aload_n (n := 0) 23 0 rfl rfl ?_
        refine iz_getR 24 25 h0 fl_X10_74 rfl (by decide) (by decide) rfl ?_
        refine iz_iconst (v := 5) 25 (by decide) rfl ?_
        refine iz_iald 26 (sf_10_25 h0) rfl ?_
        exact iz_sub [] rfl (c_Mo_ledger_48 h0 (iz_g S1 (iz_rf a0 25) 5) S1)
      · refine iz_aload_n (n := 0) 20 0 rfl rfl ?_
        refine iz_callVI (As := []) (rest := []) 21 ml_X10_223 cw_X10_allWeight ci_X10_allWeight h0 (fun r9 hr9 => m_Mo_allWeight h0 hr9) rfl (by decide) (by decide) rfl rfl (Nat.le_of_ble_eq_true rfl) (fun r4 S3 => ?_)
        refine iz_goto (tgt := 48) 22 (by decide) rfl ?_
        exact iz_sub [] rfl (c_Mo_ledger_48 h0 r4 S3)
    · refine iz_aload_n (n := 0) 12 0 rfl rfl ?_
      refine iz_getR 13 25 h0 fl_X10_74 rfl (by decide) (by decide) rfl ?_
      refine iz_iload_n (n := 1) 14 1 rfl rfl ?_
      refine iz_iald 15 (sf_10_25 h0) rfl ?_
      refine iz_goto (tgt := 48) 16 (by decide) rfl ?_
      exact iz_sub [] rfl (c_Mo_ledger_48 h0 (iz_g S1 (iz_rf a0 25) x1) S1)
  · refine iz_aload_n (n := 0) 5 0 rfl rfl ?_
    refine iz_iconst (v := 1) 6 (by decide) rfl ?_
    refine iz_callVI (As := [.int 1]) (rest := []) 7 ml_X10_127 cw_X10_finding ci_X10_finding h0 (fun r9 hr9 => m_Mo_finding h0 hr9) rfl (by decide) (by decide) rfl rfl (Nat.le_of_ble_eq_true rfl) (fun r6 S5 => ?_)
    exact iz_iret 8 rfl
theorem m_Mo_ledger {X : iz_X} {l : Launch} {a0 : Nat} (h0 : iz_sh a0 = (10 + 3, 48)) {x1 : Int32} {S : iz_S} {r9 : Int32 × iz_S} (hr : Mo_ledger a0 x1 S = some r9) : iz_Mt X l 2 yX10_ledger cX10_ledger 2 (some .int) [.ref (X.1 a0), .int x1] S (iz_eI r9) :=
  iz_Mt_of (dt := tX10_ledger) dX10_ledger (by decide) hr (Nat.le_of_ble_eq_true rfl) (c_Mo_ledger h0 x1 S)
def Mo_tell (a0 : Nat) (x1 : Int32) (S : iz_S) : Option (Int32 × iz_S) :=
  (if (S.1 a0 26) = 16 then
    iz_bI (Mo_finding a0 4 S) (fun r4 S3 =>
    some (r4, S3))
  else
    iz_ck (iz_in (S.1 a0 26) 16) (iz_lt (iz_s S (iz_rf a0 27) (S.1 a0 26) x1) (fun S1 =>
    iz_lt (iz_up S1 a0 26 ((S1.1 a0 26) + 1)) (fun S2 =>
    some ((S2.1 a0 26), S2)))))
set_option maxRecDepth 10000 in
theorem c_Mo_tell {X : iz_X} {l : Launch} {a0 : Nat} (h0 : iz_sh a0 = (10 + 3, 48)) (x1 : Int32) (S : iz_S) : iz_Y X l RX10 tX10_tell 2 1 (iz_Kc X l yX10_tell cX10_tell 2 (some .int) 1 iz_eI) 0 [(0, .ref (X.1 a0)), (1, .int x1)] [] S (Mo_tell a0 x1 S) := by
  unfold Mo_tell
  refine iz_aload_n (n := 0) 0 0 rfl rfl ?_
  refine iz_getI 1 26 h0 fl_X10_176 rfl (by decide) (by decide) rfl ?_
  refine iz_bipush (v := 16) 2 (by decide) rfl ?_
  refine iz_cmp_ne (tgt := 15) 3 rfl (by decide) ?_ ?_
  · refine iz_aload_n (n := 0) 8 0 rfl rfl ?_
    refine iz_getR 9 27 h0 fl_X10_77 rfl (by decide) (by decide) rfl ?_
    refine iz_aload_n (n := 0) 10 0 rfl rfl ?_
    refine iz_getI 11 26 h0 fl_X10_176 rfl (by decide) (by decide) rfl ?_
    refine iz_iload_n (n := 1) 12 1 rfl rfl ?_
    refine iz_iast 13 (sf_10_27 h0) rfl (fun S1 => ?_)
    refine iz_aload_n (n := 0) 14 0 rfl rfl ?_
    refine iz_dup 15 rfl rfl ?_
    refine iz_getI 16 26 h0 fl_X10_176 rfl (by decide) (by decide) rfl ?_
    refine iz_iconst (v := 1) 17 (by decide) rfl ?_
    refine iz_iadd 18 rfl ?_
    refine iz_putI 19 26 h0 fl_X10_176 rfl (by decide) (by decide) rfl (fun S2 => ?_)
    refine iz_aload_n (n := 0) 20 0 rfl rfl ?_
    refine iz_getI 21 26 h0 fl_X10_176 rfl (by decide) (by decide) rfl ?_
    exact iz_iret 22 rfl
  · refine iz_aload_n (n := 0) 4 0 rfl rfl ?_
    refine iz_iconst (v := 4) 5 (by decide) rfl ?_
    refine iz_callVI (As := [.int 4]) (rest := []) 6 ml_X10_127 cw_X10_finding ci_X10_finding h0 (fun r9 hr9 => m_Mo_finding h0 hr9) rfl (by decide) (by decide) rfl rfl (Nat.le_of_ble_eq_true rfl) (fun r4 S3 => ?_)
    exact iz_iret 7 rfl
theorem m_Mo_tell {X : iz_X} {l : Launch} {a0 : Nat} (h0 : iz_sh a0 = (10 + 3, 48)) {x1 : Int32} {S : iz_S} {r9 : Int32 × iz_S} (hr : Mo_tell a0 x1 S = some r9) : iz_Mt X l 1 yX10_tell cX10_tell 2 (some .int) [.ref (X.1 a0), .int x1] S (iz_eI r9) :=
  iz_Mt_of (dt := tX10_tell) dX10_tell (by decide) hr (Nat.le_of_ble_eq_true rfl) (c_Mo_tell h0 x1 S)
def Mo_check_132 (a0 : Nat) (x3 : Int32) (S : iz_S) : Option (Int32 × iz_S) :=
  iz_bV (Mo_layAside a0 0 S) (fun S9 =>
  some (x3, S9))
def Mo_check_125 (a0 : Nat) (k53 : Int32 → Int32 → Int32 → iz_S → Option (Int32 × iz_S)) (x2 : Int32) (x4 : Int32) (s0 : Int32) (S : iz_S) : Option (Int32 × iz_S) :=
  (k53 x2 s0 (x4 + 1) S)
def Mo_check_69b (a0 : Nat) (k53 : Int32 → Int32 → Int32 → iz_S → Option (Int32 × iz_S)) (k69 : Int32 → Int32 → Int32 → Int32 → iz_S → Option (Int32 × iz_S)) (x2 : Int32) (x4 : Int32) (x5 : Int32) (x6 : Int32) (S : iz_S) : Option (Int32 × iz_S) :=
  (iz_ck (iz_in x4 16) (
  if x6 < (iz_g S (iz_rf a0 9) x4) then
    iz_bI (Mo_blockAt a0 x4 x6 S) (fun r11 S10 =>
    iz_ck (iz_in r11 60) (
    iz_lt (x5 + (iz_g S10 (iz_rf a0 5) r11)) (fun v12 =>
    (k69 x2 x4 v12 (x6 + 1) S10))))
  else
    (iz_ck (iz_in x4 16) (
    if x5 = (iz_g S (iz_rf a0 27) x4) then
      (Mo_check_125 a0 k53 x2 x4 0 S)
    else
      (Mo_check_125 a0 k53 x2 x4 ((1 : Int32) + x4) S)))))
def Mo_check_69 (a0 : Nat) (k53 : Int32 → Int32 → Int32 → iz_S → Option (Int32 × iz_S)) : Nat → Int32 → Int32 → Int32 → Int32 → iz_S → Option (Int32 × iz_S)
  | 0 => fun _ _ _ _ _ => none
  | n9 + 1 => Mo_check_69b a0 k53 (Mo_check_69 a0 k53 n9)
def Mo_check_53b (a0 : Nat) (k53 : Int32 → Int32 → Int32 → iz_S → Option (Int32 × iz_S)) (x2 : Int32) (x3 : Int32) (x4 : Int32) (S : iz_S) : Option (Int32 × iz_S) :=
  (if x4 < x2 then
    (if x3 = 0 then
      (Mo_check_69 a0 k53 iz_FU x2 x4 0 0 S)
    else
      (Mo_check_132 a0 x3 S))
  else
    (Mo_check_132 a0 x3 S))
def Mo_check_53 (a0 : Nat) : Nat → Int32 → Int32 → Int32 → iz_S → Option (Int32 × iz_S)
  | 0 => fun _ _ _ _ => none
  | n9 + 1 => Mo_check_53b a0 (Mo_check_53 a0 n9)
def Mo_check_33b (a0 : Nat) (k33 : Int32 → Int32 → Int32 → iz_S → Option (Int32 × iz_S)) (x1 : Int32) (x2 : Int32) (x3 : Int32) (S : iz_S) : Option (Int32 × iz_S) :=
  (if x3 < x1 then
    iz_bV (Mo_weekGoes a0 S) (fun S8 =>
    (k33 x1 x2 (x3 + 1) S8))
  else
    (Mo_check_53 a0 iz_FU x2 0 0 S))
def Mo_check_33 (a0 : Nat) : Nat → Int32 → Int32 → Int32 → iz_S → Option (Int32 × iz_S)
  | 0 => fun _ _ _ _ => none
  | n9 + 1 => Mo_check_33b a0 (Mo_check_33 a0 n9)
def Mo_check (a0 : Nat) (x1 : Int32) (S : iz_S) : Option (Int32 × iz_S) :=
  (iz_lt (S.1 a0 26) (fun v1 =>
  iz_lt (iz_up S a0 26 0) (fun S2 =>
  iz_bI (Mo_isIn x1 0 20 S2) (fun r4 S3 =>
  if r4 = 0 then
    iz_bI (Mo_finding a0 1 S3) (fun r7 S6 =>
    some (r7, S6))
  else
    iz_bV (Mo_layAside a0 1 S3) (fun S5 =>
    (Mo_check_33 a0 iz_FU x1 v1 0 S5))))))
set_option maxRecDepth 10000 in
theorem c_Mo_check_132 {X : iz_X} {l : Launch} {a0 : Nat} (h0 : iz_sh a0 = (10 + 3, 48)) (x3 : Int32) (S : iz_S) : iz_Y X l RX10 tX10_check 7 5 (iz_Kc X l yX10_check cX10_check 7 (some .int) 5 iz_eI) 132 [(0, .ref (X.1 a0)), (3, .int x3)] [] S (Mo_check_132 a0 x3 S) := by
  unfold Mo_check_132
  refine iz_aload_n (n := 0) 72 0 rfl rfl ?_
  refine iz_iconst (v := 0) 73 (by decide) rfl ?_
  refine iz_callVV (As := [.int 0]) (rest := []) 74 ml_X10_236 cw_X10_layAside ci_X10_layAside h0 (fun r9 hr9 => m_Mo_layAside h0 hr9) rfl (by decide) (by decide) rfl rfl (Nat.le_of_ble_eq_true rfl) (fun S9 => ?_)
  refine iz_iload_n (n := 3) 75 1 rfl rfl ?_
  exact iz_iret 76 rfl
set_option maxRecDepth 10000 in
theorem c_Mo_check_125 {X : iz_X} {l : Launch} {a0 : Nat} (h0 : iz_sh a0 = (10 + 3, 48)) {k53 : Int32 → Int32 → Int32 → iz_S → Option (Int32 × iz_S)} (hk53 : ∀ (x2 : Int32) (x3 : Int32) (x4 : Int32) (S : iz_S), iz_Y X l RX10 tX10_check 7 5 (iz_Kc X l yX10_check cX10_check 7 (some .int) 5 iz_eI) 53 [(0, .ref (X.1 a0)), (2, .int x2), (3, .int x3), (4, .int x4)] [] S (k53 x2 x3 x4 S)) (x2 : Int32) (x4 : Int32) (s0 : Int32) (S : iz_S) : iz_Y X l RX10 tX10_check 7 5 (iz_Kc X l yX10_check cX10_check 7 (some .int) 5 iz_eI) 125 [(0, .ref (X.1 a0)), (2, .int x2), (4, .int x4)] [.int s0] S (Mo_check_125 a0 k53 x2 x4 s0 S) := by
  unfold Mo_check_125
  refine iz_istore_n (n := 3) (ls2 := [(0, .ref (X.1 a0)), (2, .int x2), (3, .int s0), (4, .int x4)]) 69 [1, 2, 0, 3] rfl (by decide) rfl ?_
  refine iz_iinc (v := (x4 + 1)) (ls2 := [(0, .ref (X.1 a0)), (2, .int x2), (3, .int s0), (4, .int (x4 + 1))]) 70 3 [1, 2, 3, 0] rfl rfl rfl (by decide) rfl ?_
  refine iz_goto (tgt := 53) 71 (by decide) rfl ?_
  exact hk53 x2 s0 (x4 + 1) S
set_option maxRecDepth 10000 in
theorem c_Mo_check_69b {X : iz_X} {l : Launch} {a0 : Nat} (h0 : iz_sh a0 = (10 + 3, 48)) {k53 : Int32 → Int32 → Int32 → iz_S → Option (Int32 × iz_S)} {k69 : Int32 → Int32 → Int32 → Int32 → iz_S → Option (Int32 × iz_S)} (hk53 : ∀ (x2 : Int32) (x3 : Int32) (x4 : Int32) (S : iz_S), iz_Y X l RX10 tX10_check 7 5 (iz_Kc X l yX10_check cX10_check 7 (some .int) 5 iz_eI) 53 [(0, .ref (X.1 a0)), (2, .int x2), (3, .int x3), (4, .int x4)] [] S (k53 x2 x3 x4 S)) (hk69 : ∀ (x2 : Int32) (x4 : Int32) (x5 : Int32) (x6 : Int32) (S : iz_S), iz_Y X l RX10 tX10_check 7 5 (iz_Kc X l yX10_check cX10_check 7 (some .int) 5 iz_eI) 69 [(0, .ref (X.1 a0)), (2, .int x2), (4, .int x4), (5, .int x5), (6, .int x6)] [] S (k69 x2 x4 x5 x6 S)) (x2 : Int32) (x4 : Int32) (x5 : Int32) (x6 : Int32) (S : iz_S) : iz_Y X l RX10 tX10_check 7 5 (iz_Kc X l yX10_check cX10_check 7 (some .int) 5 iz_eI) 69 [(0, .ref (X.1 a0)), (2, .int x2), (4, .int x4), (5, .int x5), (6, .int x6)] [] S (Mo_check_69b a0 k53 k69 x2 x4 x5 x6 S) := by
  unfold Mo_check_69b
  refine iz_iload (n := 6) 40 4 rfl rfl ?_
  refine iz_aload_n (n := 0) 41 0 rfl rfl ?_
  refine iz_getR 42 9 h0 fl_X10_35 rfl (by decide) (by decide) rfl ?_
  refine iz_iload (n := 4) 43 2 rfl rfl ?_
  refine iz_iald 44 (sf_10_9 h0) rfl ?_
  refine iz_cmp_ge (tgt := 105) 45 rfl (by decide) ?_ ?_
  · refine iz_iload (n := 5) 58 3 rfl rfl ?_
    refine iz_aload_n (n := 0) 59 0 rfl rfl ?_
    refine iz_getR 60 27 h0 fl_X10_77 rfl (by decide) (by decide) rfl ?_
    refine iz_iload (n := 4) 61 2 rfl rfl ?_
    refine iz_iald 62 (sf_10_27 h0) rfl ?_
    refine iz_cmp_eq (tgt := 124) 63 rfl (by decide) ?_ ?_
    · refine iz_iconst (v := 0) 68 (by decide) rfl ?_
      exact iz_sub [0, 1, 2] rfl (c_Mo_check_125 h0 hk53 x2 x4 0 S)
    · refine iz_iconst (v := 1) 64 (by decide) rfl ?_
      refine iz_iload (n := 4) 65 2 rfl rfl ?_
      refine iz_iadd 66 rfl ?_
      refine iz_goto (tgt := 125) 67 (by decide) rfl ?_
      exact iz_sub [0, 1, 2] rfl (c_Mo_check_125 h0 hk53 x2 x4 ((1 : Int32) + x4) S)
  · refine iz_iload (n := 5) 46 3 rfl rfl ?_
    refine iz_aload_n (n := 0) 47 0 rfl rfl ?_
    refine iz_getR 48 5 h0 fl_X10_23 rfl (by decide) (by decide) rfl ?_
    refine iz_aload_n (n := 0) 49 0 rfl rfl ?_
    refine iz_iload (n := 4) 50 2 rfl rfl ?_
    refine iz_iload (n := 6) 51 4 rfl rfl ?_
    refine iz_callVI (As := [.int x4, .int x6]) (rest := [.ref (X.1 (iz_rf a0 5)), .int x5]) 52 ml_X10_179 cw_X10_blockAt ci_X10_blockAt h0 (fun r9 hr9 => m_Mo_blockAt h0 hr9) rfl (by decide) (by decide) rfl rfl (Nat.le_of_ble_eq_true rfl) (fun r11 S10 => ?_)
    refine iz_iald 53 (sf_10_5 h0) rfl ?_
    refine iz_iadd 54 rfl ?_
    refine iz_let (fun v12 => ?_)
    refine iz_istore (n := 5) (ls2 := [(0, .ref (X.1 a0)), (2, .int x2), (4, .int x4), (5, .int v12), (6, .int x6)]) 55 [1, 2, 3, 0, 4] rfl (by decide) rfl ?_
    refine iz_iinc (v := (x6 + 1)) (ls2 := [(0, .ref (X.1 a0)), (2, .int x2), (4, .int x4), (5, .int v12), (6, .int (x6 + 1))]) 56 4 [1, 2, 3, 4, 0] rfl rfl rfl (by decide) rfl ?_
    refine iz_goto (tgt := 69) 57 (by decide) rfl ?_
    exact hk69 x2 x4 v12 (x6 + 1) S10
theorem c_Mo_check_69 {X : iz_X} {l : Launch} {a0 : Nat} (h0 : iz_sh a0 = (10 + 3, 48)) {k53 : Int32 → Int32 → Int32 → iz_S → Option (Int32 × iz_S)} (hk53 : ∀ (x2 : Int32) (x3 : Int32) (x4 : Int32) (S : iz_S), iz_Y X l RX10 tX10_check 7 5 (iz_Kc X l yX10_check cX10_check 7 (some .int) 5 iz_eI) 53 [(0, .ref (X.1 a0)), (2, .int x2), (3, .int x3), (4, .int x4)] [] S (k53 x2 x3 x4 S)) : ∀ (n9 : Nat) (x2 : Int32) (x4 : Int32) (x5 : Int32) (x6 : Int32) (S : iz_S), iz_Y X l RX10 tX10_check 7 5 (iz_Kc X l yX10_check cX10_check 7 (some .int) 5 iz_eI) 69 [(0, .ref (X.1 a0)), (2, .int x2), (4, .int x4), (5, .int x5), (6, .int x6)] [] S (Mo_check_69 a0 k53 n9 x2 x4 x5 x6 S)
  | 0 => by
    intros
    exact iz_none
  | n9 + 1 => c_Mo_check_69b h0 hk53 (c_Mo_check_69 h0 hk53 n9)
set_option maxRecDepth 10000 in
theorem c_Mo_check_53b {X : iz_X} {l : Launch} {a0 : Nat} (h0 : iz_sh a0 = (10 + 3, 48)) {k53 : Int32 → Int32 → Int32 → iz_S → Option (Int32 × iz_S)} (hk53 : ∀ (x2 : Int32) (x3 : Int32) (x4 : Int32) (S : iz_S), iz_Y X l RX10 tX10_check 7 5 (iz_Kc X l yX10_check cX10_check 7 (some .int) 5 iz_eI) 53 [(0, .ref (X.1 a0)), (2, .int x2), (3, .int x3), (4, .int x4)] [] S (k53 x2 x3 x4 S)) (x2 : Int32) (x3 : Int32) (x4 : Int32) (S : iz_S) : iz_Y X l RX10 tX10_check 7 5 (iz_Kc X l yX10_check cX10_check 7 (some .int) 5 iz_eI) 53 [(0, .ref (X.1 a0)), (2, .int x2), (3, .int x3), (4, .int x4)] [] S (Mo_check_53b a0 k53 x2 x3 x4 S) := by
  unfold Mo_check_53b
  refine iz_iload (n := 4) 31 3 rfl rfl ?_
  refine iz_iload_n (n := 2) 32 1 rfl rfl ?_
  refine iz_cmp_ge (tgt := 132) 33 rfl (by decide) ?_ ?_
  · exact iz_sub [0, 2] rfl (c_Mo_check_132 h0 x3 S)
  · refine iz_iload_n (n := 3) 34 2 rfl rfl ?_
    refine iz_if_ne (tgt := 132) 35 rfl (by decide) ?_ ?_
    · exact iz_sub [0, 2] rfl (c_Mo_check_132 h0 x3 S)
    · refine iz_iconst (v := 0) 36 (by decide) rfl ?_
      refine iz_istore (n := 5) (ls2 := [(0, .ref (X.1 a0)), (2, .int x2), (4, .int x4), (5, .int 0)]) 37 [1, 2, 4, 0] rfl (by decide) rfl ?_
      refine iz_iconst (v := 0) 38 (by decide) rfl ?_
      refine iz_istore (n := 6) (ls2 := [(0, .ref (X.1 a0)), (2, .int x2), (4, .int x4), (5, .int 0), (6, .int 0)]) 39 [1, 2, 3, 4, 0] rfl (by decide) rfl ?_
      exact c_Mo_check_69 h0 hk53 iz_FU x2 x4 0 0 S
theorem c_Mo_check_53 {X : iz_X} {l : Launch} {a0 : Nat} (h0 : iz_sh a0 = (10 + 3, 48)) : ∀ (n9 : Nat) (x2 : Int32) (x3 : Int32) (x4 : Int32) (S : iz_S), iz_Y X l RX10 tX10_check 7 5 (iz_Kc X l yX10_check cX10_check 7 (some .int) 5 iz_eI) 53 [(0, .ref (X.1 a0)), (2, .int x2), (3, .int x3), (4, .int x4)] [] S (Mo_check_53 a0 n9 x2 x3 x4 S)
  | 0 => by
    intros
    exact iz_none
  | n9 + 1 => c_Mo_check_53b h0 (c_Mo_check_53 h0 n9)
set_option maxRecDepth 10000 in
theorem c_Mo_check_33b {X : iz_X} {l : Launch} {a0 : Nat} (h0 : iz_sh a0 = (10 + 3, 48)) {k33 : Int32 → Int32 → Int32 → iz_S → Option (Int32 × iz_S)} (hk33 : ∀ (x1 : Int32) (x2 : Int32) (x3 : Int32) (S : iz_S), iz_Y X l RX10 tX10_check 7 5 (iz_Kc X l yX10_check cX10_check 7 (some .int) 5 iz_eI) 33 [(0, .ref (X.1 a0)), (1, .int x1), (2, .int x2), (3, .int x3)] [] S (k33 x1 x2 x3 S)) (x1 : Int32) (x2 : Int32) (x3 : Int32) (S : iz_S) : iz_Y X l RX10 tX10_check 7 5 (iz_Kc X l yX10_check cX10_check 7 (some .int) 5 iz_eI) 33 [(0, .ref (X.1 a0)), (1, .int x1), (2, .int x2), (3, .int x3)] [] S (Mo_check_33b a0 k33 x1 x2 x3 S) := by
  unfold Mo_check_33b
  refine iz_iload_n (n := 3) 20 3 rfl rfl ?_
  refine iz_iload_n (n := 1) 21 1 rfl rfl ?_
  refine iz_cmp_ge (tgt := 48) 22 rfl (by decide) ?_ ?_
  · refine iz_iconst (v := 0) 27 (by decide) rfl ?_
    refine iz_istore_n (n := 3) (ls2 := [(0, .ref (X.1 a0)), (2, .int x2), (3, .int 0)]) 28 [1, 3, 0] rfl (by decide) rfl ?_
    refine iz_iconst (v := 0) 29 (by decide) rfl ?_
    refine iz_istore (n := 4) (ls2 := [(0, .ref (X.1 a0)), (2, .int x2), (3, .int 0), (4, .int 0)]) 30 [1, 2, 3, 0] rfl (by decide) rfl ?_
    exact c_Mo_check_53 h0 iz_FU x2 0 0 S
  · refine iz_aload_n (n := 0) 23 0 rfl rfl ?_
    refine iz_callVV (As := []) (rest := []) 24 ml_X10_220 cw_X10_weekGoes ci_X10_weekGoes h0 (fun r9 hr9 => m_Mo_weekGoes h0 hr9) rfl (by decide) (by decide) rfl rfl (Nat.le_of_ble_eq_true rfl) (fun S8 => ?_)
    refine iz_iinc (v := (x3 + 1)) (ls2 := [(0, .ref (X.1 a0)), (1, .int x1), (2, .int x2), (3, .int (x3 + 1))]) 25 3 [1, 2, 3, 0] rfl rfl rfl (by decide) rfl ?_
    refine iz_goto (tgt := 33) 26 (by decide) rfl ?_
    exact hk33 x1 x2 (x3 + 1) S8
theorem c_Mo_check_33 {X : iz_X} {l : Launch} {a0 : Nat} (h0 : iz_sh a0 = (10 + 3, 48)) : ∀ (n9 : Nat) (x1 : Int32) (x2 : Int32) (x3 : Int32) (S : iz_S), iz_Y X l RX10 tX10_check 7 5 (iz_Kc X l yX10_check cX10_check 7 (some .int) 5 iz_eI) 33 [(0, .ref (X.1 a0)), (1, .int x1), (2, .int x2), (3, .int x3)] [] S (Mo_check_33 a0 n9 x1 x2 x3 S)
  | 0 => by
    intros
    exact iz_none
  | n9 + 1 => c_Mo_check_33b h0 (c_Mo_check_33 h0 n9)
set_option maxRecDepth 10000 in
theorem c_Mo_check {X : iz_X} {l : Launch} {a0 : Nat} (h0 : iz_sh a0 = (10 + 3, 48)) (x1 : Int32) (S : iz_S) : iz_Y X l RX10 tX10_check 7 5 (iz_Kc X l yX10_check cX10_check 7 (some .int) 5 iz_eI) 0 [(0, .ref (X.1 a0)), (1, .int x1)] [] S (Mo_check a0 x1 S) := by
  unfold Mo_check
  refine iz_aload_n (n := 0) 0 0 rfl rfl ?_
  refine iz_getI 1 26 h0 fl_X10_176 rfl (by decide) (by decide) rfl ?_
  refine iz_let (fun v1 => ?_)
  refine iz_istore_n (n := 2) (ls2 := [(0, .ref (X.1 a0)), (1, .int x1), (2, .int v1)]) 2 [1, 2, 0] rfl (by decide) rfl ?_
  refine iz_aload_n (n := 0) 3 0 rfl rfl ?_
  refine iz_iconst (v := 0) 4 (by decide) rfl ?_
  refine iz_putI 5 26 h0 fl_X10_176 rfl (by decide) (by decide) rfl (fun S2 => ?_)
  refine iz_iload_n (n := 1) 6 1 rfl rfl ?_
  refine iz_iconst (v := 0) 7 (by decide) rfl ?_
  refine iz_bipush (v := 20) 8 (by decide) rfl ?_
  refine iz_callSI (As := [.int x1, .int 0, .int 20]) (rest := []) 9 ml_X10_123 cw_X10_isIn ci_X10_isIn (fun r9 hr9 => m_Mo_isIn  hr9) rfl (by decide) rfl rfl (Nat.le_of_ble_eq_true rfl) (fun r4 S3 => ?_)
  refine iz_if_ne (tgt := 26) 10 rfl (by decide) ?_ ?_
  · refine iz_aload_n (n := 0) 15 0 rfl rfl ?_
    refine iz_iconst (v := 1) 16 (by decide) rfl ?_
    refine iz_callVV (As := [.int 1]) (rest := []) 17 ml_X10_236 cw_X10_layAside ci_X10_layAside h0 (fun r9 hr9 => m_Mo_layAside h0 hr9) rfl (by decide) (by decide) rfl rfl (Nat.le_of_ble_eq_true rfl) (fun S5 => ?_)
    refine iz_iconst (v := 0) 18 (by decide) rfl ?_
    refine iz_istore_n (n := 3) (ls2 := [(0, .ref (X.1 a0)), (1, .int x1), (2, .int v1), (3, .int 0)]) 19 [1, 2, 3, 0] rfl (by decide) rfl ?_
    exact c_Mo_check_33 h0 iz_FU x1 v1 0 S5
  · refine iz_aload_n (n := 0) 11 0 rfl rfl ?_
    refine iz_iconst (v := 1) 12 (by decide) rfl ?_
    refine iz_callVI (As := [.int 1]) (rest := []) 13 ml_X10_127 cw_X10_finding ci_X10_finding h0 (fun r9 hr9 => m_Mo_finding h0 hr9) rfl (by decide) (by decide) rfl rfl (Nat.le_of_ble_eq_true rfl) (fun r7 S6 => ?_)
    exact iz_iret 14 rfl
theorem m_Mo_check {X : iz_X} {l : Launch} {a0 : Nat} (h0 : iz_sh a0 = (10 + 3, 48)) {x1 : Int32} {S : iz_S} {r9 : Int32 × iz_S} (hr : Mo_check a0 x1 S = some r9) : iz_Mt X l 5 yX10_check cX10_check 7 (some .int) [.ref (X.1 a0), .int x1] S (iz_eI r9) :=
  iz_Mt_of (dt := tX10_check) dX10_check (by decide) hr (Nat.le_of_ble_eq_true rfl) (c_Mo_check h0 x1 S)
def Mo_placed_28 (a0 : Nat) (k4 : Int32 → Int32 → Int32 → iz_S → Option (Int32 × iz_S)) (x1 : Int32) (x3 : Int32) (s0 : Int32) (s1 : Int32) (S : iz_S) : Option (Int32 × iz_S) :=
  iz_lt (s0 + s1) (fun v1 =>
  (k4 x1 v1 (x3 + 1) S))
def Mo_placed_4b (a0 : Nat) (k4 : Int32 → Int32 → Int32 → iz_S → Option (Int32 × iz_S)) (x1 : Int32) (x2 : Int32) (x3 : Int32) (S : iz_S) : Option (Int32 × iz_S) :=
  (if x3 < (S.1 a0 3) then
    (iz_ck (iz_in x3 60) (
    if (iz_g S (iz_rf a0 6) x3) = x1 then
      (Mo_placed_28 a0 k4 x1 x3 x2 1 S)
    else
      (Mo_placed_28 a0 k4 x1 x3 x2 0 S)))
  else
    some (x2, S))
def Mo_placed_4 (a0 : Nat) : Nat → Int32 → Int32 → Int32 → iz_S → Option (Int32 × iz_S)
  | 0 => fun _ _ _ _ => none
  | n9 + 1 => Mo_placed_4b a0 (Mo_placed_4 a0 n9)
def Mo_placed (a0 : Nat) (x1 : Int32) (S : iz_S) : Option (Int32 × iz_S) :=
  (Mo_placed_4 a0 iz_FU x1 0 0 S)
set_option maxRecDepth 10000 in
theorem c_Mo_placed_28 {X : iz_X} {l : Launch} {a0 : Nat} (h0 : iz_sh a0 = (10 + 3, 48)) {k4 : Int32 → Int32 → Int32 → iz_S → Option (Int32 × iz_S)} (hk4 : ∀ (x1 : Int32) (x2 : Int32) (x3 : Int32) (S : iz_S), iz_Y X l RX10 tX10_placed 4 0 (iz_Kc X l yX10_placed cX10_placed 4 (some .int) 0 iz_eI) 4 [(0, .ref (X.1 a0)), (1, .int x1), (2, .int x2), (3, .int x3)] [] S (k4 x1 x2 x3 S)) (x1 : Int32) (x3 : Int32) (s0 : Int32) (s1 : Int32) (S : iz_S) : iz_Y X l RX10 tX10_placed 4 0 (iz_Kc X l yX10_placed cX10_placed 4 (some .int) 0 iz_eI) 28 [(0, .ref (X.1 a0)), (1, .int x1), (3, .int x3)] [.int s1, .int s0] S (Mo_placed_28 a0 k4 x1 x3 s0 s1 S) := by
  unfold Mo_placed_28
  refine iz_iadd 18 rfl ?_
  refine iz_let (fun v1 => ?_)
  refine iz_istore_n (n := 2) (ls2 := [(0, .ref (X.1 a0)), (1, .int x1), (2, .int v1), (3, .int x3)]) 19 [1, 2, 0, 3] rfl (by decide) rfl ?_
  refine iz_iinc (v := (x3 + 1)) (ls2 := [(0, .ref (X.1 a0)), (1, .int x1), (2, .int v1), (3, .int (x3 + 1))]) 20 3 [1, 2, 3, 0] rfl rfl rfl (by decide) rfl ?_
  refine iz_goto (tgt := 4) 21 (by decide) rfl ?_
  exact hk4 x1 v1 (x3 + 1) S
set_option maxRecDepth 10000 in
theorem c_Mo_placed_4b {X : iz_X} {l : Launch} {a0 : Nat} (h0 : iz_sh a0 = (10 + 3, 48)) {k4 : Int32 → Int32 → Int32 → iz_S → Option (Int32 × iz_S)} (hk4 : ∀ (x1 : Int32) (x2 : Int32) (x3 : Int32) (S : iz_S), iz_Y X l RX10 tX10_placed 4 0 (iz_Kc X l yX10_placed cX10_placed 4 (some .int) 0 iz_eI) 4 [(0, .ref (X.1 a0)), (1, .int x1), (2, .int x2), (3, .int x3)] [] S (k4 x1 x2 x3 S)) (x1 : Int32) (x2 : Int32) (x3 : Int32) (S : iz_S) : iz_Y X l RX10 tX10_placed 4 0 (iz_Kc X l yX10_placed cX10_placed 4 (some .int) 0 iz_eI) 4 [(0, .ref (X.1 a0)), (1, .int x1), (2, .int x2), (3, .int x3)] [] S (Mo_placed_4b a0 k4 x1 x2 x3 S) := by
  unfold Mo_placed_4b
  refine iz_iload_n (n := 3) 4 3 rfl rfl ?_
  refine iz_aload_n (n := 0) 5 0 rfl rfl ?_
  refine iz_getI 6 3 h0 fl_X10_163 rfl (by decide) (by decide) rfl ?_
  refine iz_cmp_ge (tgt := 36) 7 rfl (by decide) ?_ ?_
  · refine iz_iload_n (n := 2) 22 2 rfl rfl ?_
    exact iz_iret 23 rfl
  · refine iz_iload_n (n := 2) 8 2 rfl rfl ?_
    refine iz_aload_n (n := 0) 9 0 rfl rfl ?_
    refine iz_getR 10 6 h0 fl_X10_26 rfl (by decide) (by decide) rfl ?_
    refine iz_iload_n (n := 3) 11 3 rfl rfl ?_
    refine iz_iald 12 (sf_10_6 h0) rfl ?_
    refine iz_iload_n (n := 1) 13 1 rfl rfl ?_
    refine iz_cmp_ne (tgt := 27) 14 rfl (by decide) ?_ ?_
    · refine iz_iconst (v := 0) 17 (by decide) rfl ?_
      exact iz_sub [0, 1, 3] rfl (c_Mo_placed_28 h0 hk4 x1 x3 x2 0 S)
    · refine iz_iconst (v := 1) 15 (by decide) rfl ?_
      refine iz_goto (tgt := 28) 16 (by decide) rfl ?_
      exact iz_sub [0, 1, 3] rfl (c_Mo_placed_28 h0 hk4 x1 x3 x2 1 S)
theorem c_Mo_placed_4 {X : iz_X} {l : Launch} {a0 : Nat} (h0 : iz_sh a0 = (10 + 3, 48)) : ∀ (n9 : Nat) (x1 : Int32) (x2 : Int32) (x3 : Int32) (S : iz_S), iz_Y X l RX10 tX10_placed 4 0 (iz_Kc X l yX10_placed cX10_placed 4 (some .int) 0 iz_eI) 4 [(0, .ref (X.1 a0)), (1, .int x1), (2, .int x2), (3, .int x3)] [] S (Mo_placed_4 a0 n9 x1 x2 x3 S)
  | 0 => by
    intros
    exact iz_none
  | n9 + 1 => c_Mo_placed_4b h0 (c_Mo_placed_4 h0 n9)
set_option maxRecDepth 10000 in
theorem c_Mo_placed {X : iz_X} {l : Launch} {a0 : Nat} (h0 : iz_sh a0 = (10 + 3, 48)) (x1 : Int32) (S : iz_S) : iz_Y X l RX10 tX10_placed 4 0 (iz_Kc X l yX10_placed cX10_placed 4 (some .int) 0 iz_eI) 0 [(0, .ref (X.1 a0)), (1, .int x1)] [] S (Mo_placed a0 x1 S) := by
  unfold Mo_placed
  refine iz_iconst (v := 0) 0 (by decide) rfl ?_
  refine iz_istore_n (n := 2) (ls2 := [(0, .ref (X.1 a0)), (1, .int x1), (2, .int 0)]) 1 [1, 2, 0] rfl (by decide) rfl ?_
  refine iz_iconst (v := 0) 2 (by decide) rfl ?_
  refine iz_istore_n (n := 3) (ls2 := [(0, .ref (X.1 a0)), (1, .int x1), (2, .int 0), (3, .int 0)]) 3 [1, 2, 3, 0] rfl (by decide) rfl ?_
  exact c_Mo_placed_4 h0 iz_FU x1 0 0 S
theorem m_Mo_placed {X : iz_X} {l : Launch} {a0 : Nat} (h0 : iz_sh a0 = (10 + 3, 48)) {x1 : Int32} {S : iz_S} {r9 : Int32 × iz_S} (hr : Mo_placed a0 x1 S = some r9) : iz_Mt X l 0 yX10_placed cX10_placed 4 (some .int) [.ref (X.1 a0), .int x1] S (iz_eI r9) :=
  iz_Mt_of (dt := tX10_placed) dX10_placed (by decide) hr (Nat.le_of_ble_eq_true rfl) (c_Mo_placed h0 x1 S)
def Mo_count_99 (a0 : Nat) (k76 : Int32 → Int32 → iz_S → Option (Int32 × iz_S)) (x3 : Int32) (s0 : Int32) (s1 : Int32) (S : iz_S) : Option (Int32 × iz_S) :=
  iz_lt (s0 + s1) (fun v9 =>
  (k76 v9 (x3 + 1) S))
def Mo_count_76b (a0 : Nat) (k76 : Int32 → Int32 → iz_S → Option (Int32 × iz_S)) (x2 : Int32) (x3 : Int32) (S : iz_S) : Option (Int32 × iz_S) :=
  (if x3 < (S.1 a0 14) then
    (iz_ck (iz_in x3 10) (
    if (iz_g S (iz_rf a0 20) x3) = 0 then
      (Mo_count_99 a0 k76 x3 x2 0 S)
    else
      (Mo_count_99 a0 k76 x3 x2 1 S)))
  else
    some (x2, S))
def Mo_count_76 (a0 : Nat) : Nat → Int32 → Int32 → iz_S → Option (Int32 × iz_S)
  | 0 => fun _ _ _ => none
  | n9 + 1 => Mo_count_76b a0 (Mo_count_76 a0 n9)
def Mo_count (a0 : Nat) (x1 : Int32) (S : iz_S) : Option (Int32 × iz_S) :=
  iz_sw x1 0 8 [
    some ((S.1 a0 3), S),
    iz_bI (Mo_placed a0 0 S) (fun r4 S3 =>
    some (r4, S3)),
    iz_bI (Mo_placed a0 1 S) (fun r6 S5 =>
    some (r6, S5)),
    some ((S.1 a0 14), S),
    (Mo_count_76 a0 iz_FU 0 0 S),
    some ((S.1 a0 13), S),
    some ((S.1 a0 21), S),
    some ((S.1 a0 26), S),
    iz_bI (Mo_bearing a0 1 S) (fun r8 S7 =>
    some (r8, S7))]
    (iz_bI (Mo_finding a0 1 S) (fun r2 S1 =>
    some (r2, S1)))
set_option maxRecDepth 10000 in
theorem c_Mo_count_99 {X : iz_X} {l : Launch} {a0 : Nat} (h0 : iz_sh a0 = (10 + 3, 48)) {k76 : Int32 → Int32 → iz_S → Option (Int32 × iz_S)} (hk76 : ∀ (x2 : Int32) (x3 : Int32) (S : iz_S), iz_Y X l RX10 tX10_count 4 1 (iz_Kc X l yX10_count cX10_count 4 (some .int) 1 iz_eI) 76 [(0, .ref (X.1 a0)), (2, .int x2), (3, .int x3)] [] S (k76 x2 x3 S)) (x3 : Int32) (s0 : Int32) (s1 : Int32) (S : iz_S) : iz_Y X l RX10 tX10_count 4 1 (iz_Kc X l yX10_count cX10_count 4 (some .int) 1 iz_eI) 99 [(0, .ref (X.1 a0)), (3, .int x3)] [.int s1, .int s0] S (Mo_count_99 a0 k76 x3 s0 s1 S) := by
  unfold Mo_count_99
  refine iz_iadd 33 rfl ?_
  refine iz_let (fun v9 => ?_)
  refine iz_istore_n (n := 2) (ls2 := [(0, .ref (X.1 a0)), (2, .int v9), (3, .int x3)]) 34 [1, 0, 2] rfl (by decide) rfl ?_
  refine iz_iinc (v := (x3 + 1)) (ls2 := [(0, .ref (X.1 a0)), (2, .int v9), (3, .int (x3 + 1))]) 35 2 [1, 2, 0] rfl rfl rfl (by decide) rfl ?_
  refine iz_goto (tgt := 76) 36 (by decide) rfl ?_
  exact hk76 v9 (x3 + 1) S
set_option maxRecDepth 10000 in
theorem c_Mo_count_76b {X : iz_X} {l : Launch} {a0 : Nat} (h0 : iz_sh a0 = (10 + 3, 48)) {k76 : Int32 → Int32 → iz_S → Option (Int32 × iz_S)} (hk76 : ∀ (x2 : Int32) (x3 : Int32) (S : iz_S), iz_Y X l RX10 tX10_count 4 1 (iz_Kc X l yX10_count cX10_count 4 (some .int) 1 iz_eI) 76 [(0, .ref (X.1 a0)), (2, .int x2), (3, .int x3)] [] S (k76 x2 x3 S)) (x2 : Int32) (x3 : Int32) (S : iz_S) : iz_Y X l RX10 tX10_count 4 1 (iz_Kc X l yX10_count cX10_count 4 (some .int) 1 iz_eI) 76 [(0, .ref (X.1 a0)), (2, .int x2), (3, .int x3)] [] S (Mo_count_76b a0 k76 x2 x3 S) := by
  unfold Mo_count_76b
  refine iz_iload_n (n := 3) 20 2 rfl rfl ?_
  refine iz_aload_n (n := 0) 21 0 rfl rfl ?_
  refine iz_getI 22 14 h0 fl_X10_245 rfl (by decide) (by decide) rfl ?_
  refine iz_cmp_ge (tgt := 107) 23 rfl (by decide) ?_ ?_
  · refine iz_iload_n (n := 2) 37 1 rfl rfl ?_
    exact iz_iret 38 rfl
  · refine iz_iload_n (n := 2) 24 1 rfl rfl ?_
    refine iz_aload_n (n := 0) 25 0 rfl rfl ?_
    refine iz_getR 26 20 h0 fl_X10_62 rfl (by decide) (by decide) rfl ?_
    refine iz_iload_n (n := 3) 27 2 rfl rfl ?_
    refine iz_bald 28 (sf_10_20 h0) rfl ?_
    refine iz_if_eq (tgt := 98) 29 rfl (by decide) ?_ ?_
    · refine iz_iconst (v := 0) 32 (by decide) rfl ?_
      exact iz_sub [0, 2] rfl (c_Mo_count_99 h0 hk76 x3 x2 0 S)
    · refine iz_iconst (v := 1) 30 (by decide) rfl ?_
      refine iz_goto (tgt := 99) 31 (by decide) rfl ?_
      exact iz_sub [0, 2] rfl (c_Mo_count_99 h0 hk76 x3 x2 1 S)
theorem c_Mo_count_76 {X : iz_X} {l : Launch} {a0 : Nat} (h0 : iz_sh a0 = (10 + 3, 48)) : ∀ (n9 : Nat) (x2 : Int32) (x3 : Int32) (S : iz_S), iz_Y X l RX10 tX10_count 4 1 (iz_Kc X l yX10_count cX10_count 4 (some .int) 1 iz_eI) 76 [(0, .ref (X.1 a0)), (2, .int x2), (3, .int x3)] [] S (Mo_count_76 a0 n9 x2 x3 S)
  | 0 => by
    intros
    exact iz_none
  | n9 + 1 => c_Mo_count_76b h0 (c_Mo_count_76 h0 n9)
set_option maxRecDepth 10000 in
theorem c_Mo_count {X : iz_X} {l : Launch} {a0 : Nat} (h0 : iz_sh a0 = (10 + 3, 48)) (x1 : Int32) (S : iz_S) : iz_Y X l RX10 tX10_count 4 1 (iz_Kc X l yX10_count cX10_count 4 (some .int) 1 iz_eI) 0 [(0, .ref (X.1 a0)), (1, .int x1)] [] S (Mo_count a0 x1 S) := by
  unfold Mo_count
  refine iz_iconst (v := 0) 0 (by decide) rfl ?_
  refine iz_istore_n (n := 2) (ls2 := [(0, .ref (X.1 a0)), (1, .int x1), (2, .int 0)]) 1 [1, 2, 0] rfl (by decide) rfl ?_
  refine iz_iload_n (n := 1) 2 1 rfl rfl ?_
  refine iz_tsw2 (dtgt := 130) 3 [52, 57, 63, 69, 74, 109, 114, 119, 124] rfl (by decide) (by decide) (by decide) ?_ ⟨?_, ?_, ?_, ?_, ?_, ?_, ?_, ?_, ?_, trivial⟩
  · refine iz_aload_n (n := 0) 52 0 rfl rfl ?_
    refine iz_iconst (v := 1) 53 (by decide) rfl ?_
    refine iz_callVI (As := [.int 1]) (rest := []) 54 ml_X10_127 cw_X10_finding ci_X10_finding h0 (fun r9 hr9 => m_Mo_finding h0 hr9) rfl (by decide) (by decide) rfl rfl (Nat.le_of_ble_eq_true rfl) (fun r2 S1 => ?_)
    exact iz_iret 55 rfl
  · refine iz_aload_n (n := 0) 4 0 rfl rfl ?_
    refine iz_getI 5 3 h0 fl_X10_163 rfl (by decide) (by decide) rfl ?_
    exact iz_iret 6 rfl
  · refine iz_aload_n (n := 0) 7 0 rfl rfl ?_
    refine iz_iconst (v := 0) 8 (by decide) rfl ?_
    refine iz_callVI (As := [.int 0]) (rest := []) 9 ml_X10_283 cw_X10_placed ci_X10_placed h0 (fun r9 hr9 => m_Mo_placed h0 hr9) rfl (by decide) (by decide) rfl rfl (Nat.le_of_ble_eq_true rfl) (fun r4 S3 => ?_)
    exact iz_iret 10 rfl
  · refine iz_aload_n (n := 0) 11 0 rfl rfl ?_
    refine iz_iconst (v := 1) 12 (by decide) rfl ?_
    refine iz_callVI (As := [.int 1]) (rest := []) 13 ml_X10_283 cw_X10_placed ci_X10_placed h0 (fun r9 hr9 => m_Mo_placed h0 hr9) rfl (by decide) (by decide) rfl rfl (Nat.le_of_ble_eq_true rfl) (fun r6 S5 => ?_)
    exact iz_iret 14 rfl
  · refine iz_aload_n (n := 0) 15 0 rfl rfl ?_
    refine iz_getI 16 14 h0 fl_X10_245 rfl (by decide) (by decide) rfl ?_
    exact iz_iret 17 rfl
  · refine iz_iconst (v := 0) 18 (by decide) rfl ?_
    refine iz_istore_n (n := 3) (ls2 := [(0, .ref (X.1 a0)), (2, .int 0), (3, .int 0)]) 19 [1, 3, 0] rfl (by decide) rfl ?_
    exact c_Mo_count_76 h0 iz_FU 0 0 S
  · refine iz_aload_n (n := 0) 39 0 rfl rfl ?_
    refine iz_getI 40 13 h0 fl_X10_206 rfl (by decide) (by decide) rfl ?_
    exact iz_iret 41 rfl
  · refine iz_aload_n (n := 0) 42 0 rfl rfl ?_
    refine iz_getI 43 21 h0 fl_X10_272 rfl (by decide) (by decide) rfl ?_
    exact iz_iret 44 rfl
  · refine iz_aload_n (n := 0) 45 0 rfl rfl ?_
    refine iz_getI 46 26 h0 fl_X10_176 rfl (by decide) (by decide) rfl ?_
    exact iz_iret 47 rfl
  · refine iz_aload_n (n := 0) 48 0 rfl rfl ?_
    refine iz_iconst (v := 1) 49 (by decide) rfl ?_
    refine iz_callVI (As := [.int 1]) (rest := []) 50 ml_X10_138 cw_X10_bearing ci_X10_bearing h0 (fun r9 hr9 => m_Mo_bearing h0 hr9) rfl (by decide) (by decide) rfl rfl (Nat.le_of_ble_eq_true rfl) (fun r8 S7 => ?_)
    exact iz_iret 51 rfl
theorem m_Mo_count {X : iz_X} {l : Launch} {a0 : Nat} (h0 : iz_sh a0 = (10 + 3, 48)) {x1 : Int32} {S : iz_S} {r9 : Int32 × iz_S} (hr : Mo_count a0 x1 S = some r9) : iz_Mt X l 1 yX10_count cX10_count 4 (some .int) [.ref (X.1 a0), .int x1] S (iz_eI r9) :=
  iz_Mt_of (dt := tX10_count) dX10_count (by decide) hr (Nat.le_of_ble_eq_true rfl) (c_Mo_count h0 x1 S)
def Mo_found_23 (a0 : Nat) (s0 : Int32) (S : iz_S) : Option (Int32 × iz_S) :=
  some (s0, S)
def Mo_found (a0 : Nat) (x1 : Int32) (S : iz_S) : Option (Int32 × iz_S) :=
  (iz_bI (Mo_isIn x1 1 5 S) (fun r2 S1 =>
  if r2 = 0 then
    iz_bI (Mo_finding a0 1 S1) (fun r4 S3 =>
    (Mo_found_23 a0 r4 S3))
  else
    iz_ck (iz_in x1 6) (
    (Mo_found_23 a0 (iz_g S1 (iz_rf a0 28) x1) S1))))
set_option maxRecDepth 10000 in
theorem c_Mo_found_23 {X : iz_X} {l : Launch} {a0 : Nat} (h0 : iz_sh a0 = (10 + 3, 48)) (s0 : Int32) (S : iz_S) : iz_Y X l RX10 tX10_found 2 1 (iz_Kc X l yX10_found cX10_found 2 (some .int) 1 iz_eI) 23 [] [.int s0] S (Mo_found_23 a0 s0 S) := by
  unfold Mo_found_23
  exact iz_iret 13 rfl
set_option maxRecDepth 10000 in
theorem c_Mo_found {X : iz_X} {l : Launch} {a0 : Nat} (h0 : iz_sh a0 = (10 + 3, 48)) (x1 : Int32) (S : iz_S) : iz_Y X l RX10 tX10_found 2 1 (iz_Kc X l yX10_found cX10_found 2 (some .int) 1 iz_eI) 0 [(0, .ref (X.1 a0)), (1, .int x1)] [] S (Mo_found a0 x1 S) := by
  unfold Mo_found
  refine iz_iload_n (n := 1) 0 1 rfl rfl ?_
  refine iz_iconst (v := 1) 1 (by decide) rfl ?_
  refine iz_iconst (v := 5) 2 (by decide) rfl ?_
  refine iz_callSI (As := [.int x1, .int 1, .int 5]) (rest := []) 3 ml_X10_123 cw_X10_isIn ci_X10_isIn (fun r9 hr9 => m_Mo_isIn  hr9) rfl (by decide) rfl rfl (Nat.le_of_ble_eq_true rfl) (fun r2 S1 => ?_)
  refine iz_if_eq (tgt := 18) 4 rfl (by decide) ?_ ?_
  · refine iz_aload_n (n := 0) 10 0 rfl rfl ?_
    refine iz_iconst (v := 1) 11 (by decide) rfl ?_
    refine iz_callVI (As := [.int 1]) (rest := []) 12 ml_X10_127 cw_X10_finding ci_X10_finding h0 (fun r9 hr9 => m_Mo_finding h0 hr9) rfl (by decide) (by decide) rfl rfl (Nat.le_of_ble_eq_true rfl) (fun r4 S3 => ?_)
    exact iz_sub [] rfl (c_Mo_found_23 h0 r4 S3)
  · refine iz_aload_n (n := 0) 5 0 rfl rfl ?_
    refine iz_getR 6 28 h0 fl_X10_80 rfl (by decide) (by decide) rfl ?_
    refine iz_iload_n (n := 1) 7 1 rfl rfl ?_
    refine iz_iald 8 (sf_10_28 h0) rfl ?_
    refine iz_goto (tgt := 23) 9 (by decide) rfl ?_
    exact iz_sub [] rfl (c_Mo_found_23 h0 (iz_g S1 (iz_rf a0 28) x1) S1)
theorem m_Mo_found {X : iz_X} {l : Launch} {a0 : Nat} (h0 : iz_sh a0 = (10 + 3, 48)) {x1 : Int32} {S : iz_S} {r9 : Int32 × iz_S} (hr : Mo_found a0 x1 S = some r9) : iz_Mt X l 1 yX10_found cX10_found 2 (some .int) [.ref (X.1 a0), .int x1] S (iz_eI r9) :=
  iz_Mt_of (dt := tX10_found) dX10_found (by decide) hr (Nat.le_of_ble_eq_true rfl) (c_Mo_found h0 x1 S)
