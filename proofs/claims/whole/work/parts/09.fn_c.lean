def Ic_finding (a0 : Nat) (x1 : Int32) (S : iz_S) : Option (Int32 × iz_S) :=
  iz_ck (iz_in x1 6) (
  iz_ck (iz_in x1 6) (iz_lt (iz_s S (iz_rf a0 10) x1 ((iz_g S (iz_rf a0 10) x1) + 1)) (fun S1 =>
  some ((((-1000000) : Int32) - x1), S1))))
set_option maxRecDepth 10000 in
theorem c_Ic_finding {X : iz_X} {l : Launch} {a0 : Nat} (h0 : iz_sh a0 = (9 + 3, 11)) (x1 : Int32) (S : iz_S) : iz_Y X l RX9 tX9_finding 2 0 (iz_Kc X l yX9_finding cX9_finding 2 (some .int) 0 iz_eI) 0 [(0, .ref (X.1 a0)), (1, .int x1)] [] S (Ic_finding a0 x1 S) := by
  unfold Ic_finding
  refine iz_aload_n (n := 0) 0 0 rfl rfl ?_
  refine iz_getR 1 10 h0 fl_X9_81 rfl (by decide) (by decide) rfl ?_
  refine iz_iload_n (n := 1) 2 1 rfl rfl ?_
  refine iz_dup2 3 rfl rfl rfl ?_
  refine iz_iald 4 (sf_9_10 h0) rfl ?_
  refine iz_iconst (v := 1) 5 (by decide) rfl ?_
  refine iz_iadd 6 rfl ?_
  refine iz_iast 7 (sf_9_10 h0) rfl (fun S1 => ?_)
  refine iz_ldcw 8 kc_X9_355 rfl ?_
  refine iz_iload_n (n := 1) 9 1 rfl rfl ?_
  refine iz_isub 10 rfl ?_
  exact iz_iret 11 rfl
theorem m_Ic_finding {X : iz_X} {l : Launch} {a0 : Nat} (h0 : iz_sh a0 = (9 + 3, 11)) {x1 : Int32} {S : iz_S} {r9 : Int32 × iz_S} (hr : Ic_finding a0 x1 S = some r9) : iz_Mt X l 0 yX9_finding cX9_finding 2 (some .int) [.ref (X.1 a0), .int x1] S (iz_eI r9) :=
  iz_Mt_of (dt := tX9_finding) dX9_finding (by decide) hr (Nat.le_of_ble_eq_true rfl) (c_Ic_finding h0 x1 S)
def Ic_frost (a0 : Nat) (x1 : Int32) (S : iz_S) : Option (Int32 × iz_S) :=
  (iz_bI (Ic_within x1 1 40 S) (fun r2 S1 =>
  if r2 = 0 then
    iz_bI (Ic_finding a0 1 S1) (fun r9 S8 =>
    some (r9, S8))
  else
    iz_bV (La_freeze (iz_rf a0 0) x1 S1) (fun S3 =>
    iz_bL (La_bearing (iz_rf a0 0) 1 S3) (fun r5 S4 =>
    iz_bI (Jl_bitCount r5 S4) (fun r7 S6 =>
    some (r7, S6))))))
set_option maxRecDepth 10000 in
theorem c_Ic_frost {X : iz_X} {l : Launch} {a0 : Nat} (h0 : iz_sh a0 = (9 + 3, 11)) (x1 : Int32) (S : iz_S) : iz_Y X l RX9 tX9_frost 2 2 (iz_Kc X l yX9_frost cX9_frost 2 (some .int) 2 iz_eI) 0 [(0, .ref (X.1 a0)), (1, .int x1)] [] S (Ic_frost a0 x1 S) := by
  unfold Ic_frost
  refine iz_iload_n (n := 1) 0 1 rfl rfl ?_
  refine iz_iconst (v := 1) 1 (by decide) rfl ?_
  refine iz_bipush (v := 40) 2 (by decide) rfl ?_
  refine iz_callSI (As := [.int x1, .int 1, .int 40]) (rest := []) 3 ml_X9_85 cw_X9_within ci_X9_within (fun r9 hr9 => m_Ic_within  hr9) rfl (by decide) rfl rfl (Nat.le_of_ble_eq_true rfl) (fun r2 S1 => ?_)
  refine iz_if_ne (tgt := 16) 4 rfl (by decide) ?_ ?_
  · refine iz_aload_n (n := 0) 9 0 rfl rfl ?_
    refine iz_getR 10 0 h0 fl_X9_10 rfl (by decide) (by decide) rfl ?_
    refine iz_iload_n (n := 1) 11 1 rfl rfl ?_
    refine iz_callVV (As := [.int x1]) (rest := []) 12 ml_X9_93 cw_X2_freeze ci_X2_freeze (sf_9_0 h0) (fun r9 hr9 => m_La_freeze (sf_9_0 h0) hr9) rfl (by decide) (by decide) rfl rfl (Nat.le_of_ble_eq_true rfl) (fun S3 => ?_)
    refine iz_aload_n (n := 0) 13 0 rfl rfl ?_
    refine iz_getR 14 0 h0 fl_X9_10 rfl (by decide) (by decide) rfl ?_
    refine iz_iconst (v := 1) 15 (by decide) rfl ?_
    refine iz_callVL (As := [.int 1]) (rest := []) 16 ml_X9_97 cw_X2_bearing ci_X2_bearing (sf_9_0 h0) (fun r9 hr9 => m_La_bearing (sf_9_0 h0) hr9) rfl (by decide) (by decide) rfl rfl (Nat.le_of_ble_eq_true rfl) (fun r5 S4 => ?_)
    refine iz_callSI (As := [.long r5]) (rest := []) 17 ml_X9_101 cw_J13_bitCount_95d88 ci_J13_bitCount_95d88 (fun r9 hr9 => m_Jl_bitCount  hr9) rfl (by decide) rfl rfl (Nat.le_of_ble_eq_true rfl) (fun r7 S6 => ?_)
    exact iz_iret 18 rfl
  · refine iz_aload_n (n := 0) 5 0 rfl rfl ?_
    refine iz_iconst (v := 1) 6 (by decide) rfl ?_
    refine iz_callVI (As := [.int 1]) (rest := []) 7 ml_X9_89 cw_X9_finding ci_X9_finding h0 (fun r9 hr9 => m_Ic_finding h0 hr9) rfl (by decide) (by decide) rfl rfl (Nat.le_of_ble_eq_true rfl) (fun r9 S8 => ?_)
    exact iz_iret 8 rfl
theorem m_Ic_frost {X : iz_X} {l : Launch} {a0 : Nat} (h0 : iz_sh a0 = (9 + 3, 11)) {x1 : Int32} {S : iz_S} {r9 : Int32 × iz_S} (hr : Ic_frost a0 x1 S = some r9) : iz_Mt X l 2 yX9_frost cX9_frost 2 (some .int) [.ref (X.1 a0), .int x1] S (iz_eI r9) :=
  iz_Mt_of (dt := tX9_frost) dX9_frost (by decide) hr (Nat.le_of_ble_eq_true rfl) (c_Ic_frost h0 x1 S)
def Ic_thaw (a0 : Nat) (x1 : Int32) (S : iz_S) : Option (Int32 × iz_S) :=
  (iz_bI (Ic_within x1 1 20 S) (fun r2 S1 =>
  if r2 = 0 then
    iz_bI (Ic_finding a0 1 S1) (fun r7 S6 =>
    some (r7, S6))
  else
    iz_bV (La_soften (iz_rf a0 0) x1 S1) (fun S3 =>
    iz_bI (La_frozenCells (iz_rf a0 0) S3) (fun r5 S4 =>
    some (r5, S4)))))
set_option maxRecDepth 10000 in
theorem c_Ic_thaw {X : iz_X} {l : Launch} {a0 : Nat} (h0 : iz_sh a0 = (9 + 3, 11)) (x1 : Int32) (S : iz_S) : iz_Y X l RX9 tX9_thaw 2 2 (iz_Kc X l yX9_thaw cX9_thaw 2 (some .int) 2 iz_eI) 0 [(0, .ref (X.1 a0)), (1, .int x1)] [] S (Ic_thaw a0 x1 S) := by
  unfold Ic_thaw
  refine iz_iload_n (n := 1) 0 1 rfl rfl ?_
  refine iz_iconst (v := 1) 1 (by decide) rfl ?_
  refine iz_bipush (v := 20) 2 (by decide) rfl ?_
  refine iz_callSI (As := [.int x1, .int 1, .int 20]) (rest := []) 3 ml_X9_85 cw_X9_within ci_X9_within (fun r9 hr9 => m_Ic_within  hr9) rfl (by decide) rfl rfl (Nat.le_of_ble_eq_true rfl) (fun r2 S1 => ?_)
  refine iz_if_ne (tgt := 16) 4 rfl (by decide) ?_ ?_
  · refine iz_aload_n (n := 0) 9 0 rfl rfl ?_
    refine iz_getR 10 0 h0 fl_X9_10 rfl (by decide) (by decide) rfl ?_
    refine iz_iload_n (n := 1) 11 1 rfl rfl ?_
    refine iz_callVV (As := [.int x1]) (rest := []) 12 ml_X9_107 cw_X2_soften ci_X2_soften (sf_9_0 h0) (fun r9 hr9 => m_La_soften (sf_9_0 h0) hr9) rfl (by decide) (by decide) rfl rfl (Nat.le_of_ble_eq_true rfl) (fun S3 => ?_)
    refine iz_aload_n (n := 0) 13 0 rfl rfl ?_
    refine iz_getR 14 0 h0 fl_X9_10 rfl (by decide) (by decide) rfl ?_
    refine iz_callVI (As := []) (rest := []) 15 ml_X9_110 cw_X2_frozenCells ci_X2_frozenCells (sf_9_0 h0) (fun r9 hr9 => m_La_frozenCells (sf_9_0 h0) hr9) rfl (by decide) (by decide) rfl rfl (Nat.le_of_ble_eq_true rfl) (fun r5 S4 => ?_)
    exact iz_iret 16 rfl
  · refine iz_aload_n (n := 0) 5 0 rfl rfl ?_
    refine iz_iconst (v := 1) 6 (by decide) rfl ?_
    refine iz_callVI (As := [.int 1]) (rest := []) 7 ml_X9_89 cw_X9_finding ci_X9_finding h0 (fun r9 hr9 => m_Ic_finding h0 hr9) rfl (by decide) (by decide) rfl rfl (Nat.le_of_ble_eq_true rfl) (fun r7 S6 => ?_)
    exact iz_iret 8 rfl
theorem m_Ic_thaw {X : iz_X} {l : Launch} {a0 : Nat} (h0 : iz_sh a0 = (9 + 3, 11)) {x1 : Int32} {S : iz_S} {r9 : Int32 × iz_S} (hr : Ic_thaw a0 x1 S = some r9) : iz_Mt X l 2 yX9_thaw cX9_thaw 2 (some .int) [.ref (X.1 a0), .int x1] S (iz_eI r9) :=
  iz_Mt_of (dt := tX9_thaw) dX9_thaw (by decide) hr (Nat.le_of_ble_eq_true rfl) (c_Ic_thaw h0 x1 S)
def Ic_snow (a0 : Nat) (x1 : Int32) (S : iz_S) : Option (Int32 × iz_S) :=
  (iz_bI (Ic_within x1 1 10 S) (fun r2 S1 =>
  if r2 = 0 then
    iz_bI (Ic_finding a0 1 S1) (fun r6 S5 =>
    some (r6, S5))
  else
    iz_bI (La_snowOver (iz_rf a0 0) x1 S1) (fun r4 S3 =>
    some (r4, S3))))
set_option maxRecDepth 10000 in
theorem c_Ic_snow {X : iz_X} {l : Launch} {a0 : Nat} (h0 : iz_sh a0 = (9 + 3, 11)) (x1 : Int32) (S : iz_S) : iz_Y X l RX9 tX9_snow 2 2 (iz_Kc X l yX9_snow cX9_snow 2 (some .int) 2 iz_eI) 0 [(0, .ref (X.1 a0)), (1, .int x1)] [] S (Ic_snow a0 x1 S) := by
  unfold Ic_snow
  refine iz_iload_n (n := 1) 0 1 rfl rfl ?_
  refine iz_iconst (v := 1) 1 (by decide) rfl ?_
  refine iz_bipush (v := 10) 2 (by decide) rfl ?_
  refine iz_callSI (As := [.int x1, .int 1, .int 10]) (rest := []) 3 ml_X9_85 cw_X9_within ci_X9_within (fun r9 hr9 => m_Ic_within  hr9) rfl (by decide) rfl rfl (Nat.le_of_ble_eq_true rfl) (fun r2 S1 => ?_)
  refine iz_if_ne (tgt := 16) 4 rfl (by decide) ?_ ?_
  · refine iz_aload_n (n := 0) 9 0 rfl rfl ?_
    refine iz_getR 10 0 h0 fl_X9_10 rfl (by decide) (by decide) rfl ?_
    refine iz_iload_n (n := 1) 11 1 rfl rfl ?_
    refine iz_callVI (As := [.int x1]) (rest := []) 12 ml_X9_114 cw_X2_snowOver ci_X2_snowOver (sf_9_0 h0) (fun r9 hr9 => m_La_snowOver (sf_9_0 h0) hr9) rfl (by decide) (by decide) rfl rfl (Nat.le_of_ble_eq_true rfl) (fun r4 S3 => ?_)
    exact iz_iret 13 rfl
  · refine iz_aload_n (n := 0) 5 0 rfl rfl ?_
    refine iz_iconst (v := 1) 6 (by decide) rfl ?_
    refine iz_callVI (As := [.int 1]) (rest := []) 7 ml_X9_89 cw_X9_finding ci_X9_finding h0 (fun r9 hr9 => m_Ic_finding h0 hr9) rfl (by decide) (by decide) rfl rfl (Nat.le_of_ble_eq_true rfl) (fun r6 S5 => ?_)
    exact iz_iret 8 rfl
theorem m_Ic_snow {X : iz_X} {l : Launch} {a0 : Nat} (h0 : iz_sh a0 = (9 + 3, 11)) {x1 : Int32} {S : iz_S} {r9 : Int32 × iz_S} (hr : Ic_snow a0 x1 S = some r9) : iz_Mt X l 2 yX9_snow cX9_snow 2 (some .int) [.ref (X.1 a0), .int x1] S (iz_eI r9) :=
  iz_Mt_of (dt := tX9_snow) dX9_snow (by decide) hr (Nat.le_of_ble_eq_true rfl) (c_Ic_snow h0 x1 S)
def Ic_scrape (a0 : Nat) (x1 : Int32) (S : iz_S) : Option (Int32 × iz_S) :=
  (iz_bI (Ic_within x1 0 7 S) (fun r2 S1 =>
  if r2 = 0 then
    iz_bI (Ic_finding a0 1 S1) (fun r6 S5 =>
    some (r6, S5))
  else
    iz_bI (La_clearRow (iz_rf a0 0) x1 S1) (fun r4 S3 =>
    some (r4, S3))))
set_option maxRecDepth 10000 in
theorem c_Ic_scrape {X : iz_X} {l : Launch} {a0 : Nat} (h0 : iz_sh a0 = (9 + 3, 11)) (x1 : Int32) (S : iz_S) : iz_Y X l RX9 tX9_scrape 2 2 (iz_Kc X l yX9_scrape cX9_scrape 2 (some .int) 2 iz_eI) 0 [(0, .ref (X.1 a0)), (1, .int x1)] [] S (Ic_scrape a0 x1 S) := by
  unfold Ic_scrape
  refine iz_iload_n (n := 1) 0 1 rfl rfl ?_
  refine iz_iconst (v := 0) 1 (by decide) rfl ?_
  refine iz_bipush (v := 7) 2 (by decide) rfl ?_
  refine iz_callSI (As := [.int x1, .int 0, .int 7]) (rest := []) 3 ml_X9_85 cw_X9_within ci_X9_within (fun r9 hr9 => m_Ic_within  hr9) rfl (by decide) rfl rfl (Nat.le_of_ble_eq_true rfl) (fun r2 S1 => ?_)
  refine iz_if_ne (tgt := 16) 4 rfl (by decide) ?_ ?_
  · refine iz_aload_n (n := 0) 9 0 rfl rfl ?_
    refine iz_getR 10 0 h0 fl_X9_10 rfl (by decide) (by decide) rfl ?_
    refine iz_iload_n (n := 1) 11 1 rfl rfl ?_
    refine iz_callVI (As := [.int x1]) (rest := []) 12 ml_X9_117 cw_X2_clearRow ci_X2_clearRow (sf_9_0 h0) (fun r9 hr9 => m_La_clearRow (sf_9_0 h0) hr9) rfl (by decide) (by decide) rfl rfl (Nat.le_of_ble_eq_true rfl) (fun r4 S3 => ?_)
    exact iz_iret 13 rfl
  · refine iz_aload_n (n := 0) 5 0 rfl rfl ?_
    refine iz_iconst (v := 1) 6 (by decide) rfl ?_
    refine iz_callVI (As := [.int 1]) (rest := []) 7 ml_X9_89 cw_X9_finding ci_X9_finding h0 (fun r9 hr9 => m_Ic_finding h0 hr9) rfl (by decide) (by decide) rfl rfl (Nat.le_of_ble_eq_true rfl) (fun r6 S5 => ?_)
    exact iz_iret 8 rfl
theorem m_Ic_scrape {X : iz_X} {l : Launch} {a0 : Nat} (h0 : iz_sh a0 = (9 + 3, 11)) {x1 : Int32} {S : iz_S} {r9 : Int32 × iz_S} (hr : Ic_scrape a0 x1 S = some r9) : iz_Mt X l 2 yX9_scrape cX9_scrape 2 (some .int) [.ref (X.1 a0), .int x1] S (iz_eI r9) :=
  iz_Mt_of (dt := tX9_scrape) dX9_scrape (by decide) hr (Nat.le_of_ble_eq_true rfl) (c_Ic_scrape h0 x1 S)
def Ic_cell_81 (a0 : Nat) (s0 : Int32) (S : iz_S) : Option (Int32 × iz_S) :=
  some (s0, S)
def Ic_cell (a0 : Nat) (x1 : Int32) (x2 : Int32) (S : iz_S) : Option (Int32 × iz_S) :=
  (iz_bI (Ic_within x1 0 63 S) (fun r2 S1 =>
  if r2 = 0 then
    iz_bI (Ic_finding a0 1 S1) (fun r6 S5 =>
    some (r6, S5))
  else
    iz_sw x2 0 2 [
      iz_ck (iz_in x1 64) (
      some ((iz_g S1 (iz_rf (iz_rf a0 0) 0) x1), S1)),
      iz_ck (iz_in x1 64) (
      some ((iz_g S1 (iz_rf (iz_rf a0 0) 1) x1), S1)),
      (iz_ck (iz_in x1 64) (
      if (iz_g S1 (iz_rf (iz_rf a0 0) 2) x1) = 0 then
        (Ic_cell_81 a0 0 S1)
      else
        (Ic_cell_81 a0 1 S1)))]
      (iz_bI (Ic_finding a0 1 S1) (fun r4 S3 =>
      some (r4, S3)))))
set_option maxRecDepth 10000 in
theorem c_Ic_cell_81 {X : iz_X} {l : Launch} {a0 : Nat} (h0 : iz_sh a0 = (9 + 3, 11)) (s0 : Int32) (S : iz_S) : iz_Y X l RX9 tX9_cell 3 1 (iz_Kc X l yX9_cell cX9_cell 3 (some .int) 1 iz_eI) 81 [] [.int s0] S (Ic_cell_81 a0 s0 S) := by
  unfold Ic_cell_81
  exact iz_iret 32 rfl
set_option maxRecDepth 10000 in
theorem c_Ic_cell {X : iz_X} {l : Launch} {a0 : Nat} (h0 : iz_sh a0 = (9 + 3, 11)) (x1 : Int32) (x2 : Int32) (S : iz_S) : iz_Y X l RX9 tX9_cell 3 1 (iz_Kc X l yX9_cell cX9_cell 3 (some .int) 1 iz_eI) 0 [(0, .ref (X.1 a0)), (1, .int x1), (2, .int x2)] [] S (Ic_cell a0 x1 x2 S) := by
  unfold Ic_cell
  refine iz_iload_n (n := 1) 0 1 rfl rfl ?_
  refine iz_iconst (v := 0) 1 (by decide) rfl ?_
  refine iz_bipush (v := 63) 2 (by decide) rfl ?_
  refine iz_callSI (As := [.int x1, .int 0, .int 63]) (rest := []) 3 ml_X9_85 cw_X9_within ci_X9_within (fun r9 hr9 => m_Ic_within  hr9) rfl (by decide) rfl rfl (Nat.le_of_ble_eq_true rfl) (fun r2 S1 => ?_)
  refine iz_if_ne (tgt := 16) 4 rfl (by decide) ?_ ?_
  · refine iz_iload_n (n := 2) 9 2 rfl rfl ?_
    refine iz_tsw2 (dtgt := 82) 10 [44, 54, 64] rfl (by decide) (by decide) (by decide) ?_ ⟨?_, ?_, ?_, trivial⟩
    · refine iz_aload_n (n := 0) 33 0 rfl rfl ?_
      refine iz_iconst (v := 1) 34 (by decide) rfl ?_
      refine iz_callVI (As := [.int 1]) (rest := []) 35 ml_X9_89 cw_X9_finding ci_X9_finding h0 (fun r9 hr9 => m_Ic_finding h0 hr9) rfl (by decide) (by decide) rfl rfl (Nat.le_of_ble_eq_true rfl) (fun r4 S3 => ?_)
      exact iz_iret 36 rfl
    · refine iz_aload_n (n := 0) 11 0 rfl rfl ?_
      refine iz_getR 12 0 h0 fl_X9_10 rfl (by decide) (by decide) rfl ?_
      refine iz_getR 13 0 (sf_9_0 h0) fl_X9_120 rfl (by decide) (by decide) rfl ?_
      refine iz_iload_n (n := 1) 14 1 rfl rfl ?_
      refine iz_iald 15 (sf_2_0 (sf_9_0 h0)) rfl ?_
      exact iz_iret 16 rfl
    · refine iz_aload_n (n := 0) 17 0 rfl rfl ?_
      refine iz_getR 18 0 h0 fl_X9_10 rfl (by decide) (by decide) rfl ?_
      refine iz_getR 19 1 (sf_9_0 h0) fl_X9_123 rfl (by decide) (by decide) rfl ?_
      refine iz_iload_n (n := 1) 20 1 rfl rfl ?_
      refine iz_iald 21 (sf_2_1 (sf_9_0 h0)) rfl ?_
      exact iz_iret 22 rfl
    · refine iz_aload_n (n := 0) 23 0 rfl rfl ?_
      refine iz_getR 24 0 h0 fl_X9_10 rfl (by decide) (by decide) rfl ?_
      refine iz_getR 25 2 (sf_9_0 h0) fl_X9_126 rfl (by decide) (by decide) rfl ?_
      refine iz_iload_n (n := 1) 26 1 rfl rfl ?_
      refine iz_bald 27 (sf_2_2 (sf_9_0 h0)) rfl ?_
      refine iz_if_eq (tgt := 80) 28 rfl (by decide) ?_ ?_
      · refine iz_iconst (v := 0) 31 (by decide) rfl ?_
        exact iz_sub [] rfl (c_Ic_cell_81 h0 0 S1)
      · refine iz_iconst (v := 1) 29 (by decide) rfl ?_
        refine iz_goto (tgt := 81) 30 (by decide) rfl ?_
        exact iz_sub [] rfl (c_Ic_cell_81 h0 1 S1)
  · refine iz_aload_n (n := 0) 5 0 rfl rfl ?_
    refine iz_iconst (v := 1) 6 (by decide) rfl ?_
    refine iz_callVI (As := [.int 1]) (rest := []) 7 ml_X9_89 cw_X9_finding ci_X9_finding h0 (fun r9 hr9 => m_Ic_finding h0 hr9) rfl (by decide) (by decide) rfl rfl (Nat.le_of_ble_eq_true rfl) (fun r6 S5 => ?_)
    exact iz_iret 8 rfl
theorem m_Ic_cell {X : iz_X} {l : Launch} {a0 : Nat} (h0 : iz_sh a0 = (9 + 3, 11)) {x1 : Int32} {x2 : Int32} {S : iz_S} {r9 : Int32 × iz_S} (hr : Ic_cell a0 x1 x2 S = some r9) : iz_Mt X l 1 yX9_cell cX9_cell 3 (some .int) [.ref (X.1 a0), .int x1, .int x2] S (iz_eI r9) :=
  iz_Mt_of (dt := tX9_cell) dX9_cell (by decide) hr (Nat.le_of_ble_eq_true rfl) (c_Ic_cell h0 x1 x2 S)
def Ic_reached (a0 : Nat) (x1 : Int32) (S : iz_S) : Option (Int32 × iz_S) :=
  (iz_bI (Ic_within x1 0 2 S) (fun r2 S1 =>
  if r2 = 0 then
    iz_bI (Ic_finding a0 1 S1) (fun r10 S9 =>
    some (r10, S9))
  else
    iz_bL (La_bearing (iz_rf a0 0) x1 S1) (fun r4 S3 =>
    iz_bL (La_reachedOver r4 S3) (fun r6 S5 =>
    iz_bI (Jl_bitCount r6 S5) (fun r8 S7 =>
    some (r8, S7))))))
set_option maxRecDepth 10000 in
theorem c_Ic_reached {X : iz_X} {l : Launch} {a0 : Nat} (h0 : iz_sh a0 = (9 + 3, 11)) (x1 : Int32) (S : iz_S) : iz_Y X l RX9 tX9_reached 2 2 (iz_Kc X l yX9_reached cX9_reached 2 (some .int) 2 iz_eI) 0 [(0, .ref (X.1 a0)), (1, .int x1)] [] S (Ic_reached a0 x1 S) := by
  unfold Ic_reached
  refine iz_iload_n (n := 1) 0 1 rfl rfl ?_
  refine iz_iconst (v := 0) 1 (by decide) rfl ?_
  refine iz_iconst (v := 2) 2 (by decide) rfl ?_
  refine iz_callSI (As := [.int x1, .int 0, .int 2]) (rest := []) 3 ml_X9_85 cw_X9_within ci_X9_within (fun r9 hr9 => m_Ic_within  hr9) rfl (by decide) rfl rfl (Nat.le_of_ble_eq_true rfl) (fun r2 S1 => ?_)
  refine iz_if_ne (tgt := 15) 4 rfl (by decide) ?_ ?_
  · refine iz_aload_n (n := 0) 9 0 rfl rfl ?_
    refine iz_getR 10 0 h0 fl_X9_10 rfl (by decide) (by decide) rfl ?_
    refine iz_iload_n (n := 1) 11 1 rfl rfl ?_
    refine iz_callVL (As := [.int x1]) (rest := []) 12 ml_X9_97 cw_X2_bearing ci_X2_bearing (sf_9_0 h0) (fun r9 hr9 => m_La_bearing (sf_9_0 h0) hr9) rfl (by decide) (by decide) rfl rfl (Nat.le_of_ble_eq_true rfl) (fun r4 S3 => ?_)
    refine iz_callSL (As := [.long r4]) (rest := []) 13 ml_X9_130 cw_X2_reachedOver ci_X2_reachedOver (fun r9 hr9 => m_La_reachedOver  hr9) rfl (by decide) rfl rfl (Nat.le_of_ble_eq_true rfl) (fun r6 S5 => ?_)
    refine iz_callSI (As := [.long r6]) (rest := []) 14 ml_X9_101 cw_J13_bitCount_95d88 ci_J13_bitCount_95d88 (fun r9 hr9 => m_Jl_bitCount  hr9) rfl (by decide) rfl rfl (Nat.le_of_ble_eq_true rfl) (fun r8 S7 => ?_)
    exact iz_iret 15 rfl
  · refine iz_aload_n (n := 0) 5 0 rfl rfl ?_
    refine iz_iconst (v := 1) 6 (by decide) rfl ?_
    refine iz_callVI (As := [.int 1]) (rest := []) 7 ml_X9_89 cw_X9_finding ci_X9_finding h0 (fun r9 hr9 => m_Ic_finding h0 hr9) rfl (by decide) (by decide) rfl rfl (Nat.le_of_ble_eq_true rfl) (fun r10 S9 => ?_)
    exact iz_iret 8 rfl
theorem m_Ic_reached {X : iz_X} {l : Launch} {a0 : Nat} (h0 : iz_sh a0 = (9 + 3, 11)) {x1 : Int32} {S : iz_S} {r9 : Int32 × iz_S} (hr : Ic_reached a0 x1 S = some r9) : iz_Mt X l 2 yX9_reached cX9_reached 2 (some .int) [.ref (X.1 a0), .int x1] S (iz_eI r9) :=
  iz_Mt_of (dt := tX9_reached) dX9_reached (by decide) hr (Nat.le_of_ble_eq_true rfl) (c_Ic_reached h0 x1 S)
def Ic_reach_19 (a0 : Nat) (S : iz_S) : Option (Int32 × iz_S) :=
  iz_bI (Ic_finding a0 1 S) (fun r10 S9 =>
  some (r10, S9))
def Ic_reach_50 (a0 : Nat) (s0 : Int32) (S : iz_S) : Option (Int32 × iz_S) :=
  some (s0, S)
def Ic_reach (a0 : Nat) (x1 : Int32) (x2 : Int32) (S : iz_S) : Option (Int32 × iz_S) :=
  (iz_bI (Ic_within x1 0 63 S) (fun r2 S1 =>
  if r2 = 0 then
    (Ic_reach_19 a0 S1)
  else
    (iz_bI (Ic_within x2 0 2 S1) (fun r4 S3 =>
    if r4 = 0 then
      (Ic_reach_19 a0 S3)
    else
      (iz_bL (La_bearing (iz_rf a0 0) x2 S3) (fun r6 S5 =>
      iz_bL (La_reachedOver r6 S5) (fun r8 S7 =>
      if (lg_cmp (((Int64.toUInt64 r8 >>> ((Int32.toInt64 x1).toUInt64 &&& Int64.toUInt64 63)).toInt64) &&& 1) 0) = 0 then
        (Ic_reach_50 a0 0 S7)
      else
        (Ic_reach_50 a0 1 S7))))))))
set_option maxRecDepth 10000 in
theorem c_Ic_reach_19 {X : iz_X} {l : Launch} {a0 : Nat} (h0 : iz_sh a0 = (9 + 3, 11)) (S : iz_S) : iz_Y X l RX9 tX9_reach 3 2 (iz_Kc X l yX9_reach cX9_reach 3 (some .int) 2 iz_eI) 19 [(0, .ref (X.1 a0))] [] S (Ic_reach_19 a0 S) := by
  unfold Ic_reach_19
  refine iz_aload_n (n := 0) 10 0 rfl rfl ?_
  refine iz_iconst (v := 1) 11 (by decide) rfl ?_
  refine iz_callVI (As := [.int 1]) (rest := []) 12 ml_X9_89 cw_X9_finding ci_X9_finding h0 (fun r9 hr9 => m_Ic_finding h0 hr9) rfl (by decide) (by decide) rfl rfl (Nat.le_of_ble_eq_true rfl) (fun r10 S9 => ?_)
  exact iz_iret 13 rfl
set_option maxRecDepth 10000 in
theorem c_Ic_reach_50 {X : iz_X} {l : Launch} {a0 : Nat} (h0 : iz_sh a0 = (9 + 3, 11)) (s0 : Int32) (S : iz_S) : iz_Y X l RX9 tX9_reach 3 2 (iz_Kc X l yX9_reach cX9_reach 3 (some .int) 2 iz_eI) 50 [] [.int s0] S (Ic_reach_50 a0 s0 S) := by
  unfold Ic_reach_50
  exact iz_iret 29 rfl
set_option maxRecDepth 10000 in
theorem c_Ic_reach {X : iz_X} {l : Launch} {a0 : Nat} (h0 : iz_sh a0 = (9 + 3, 11)) (x1 : Int32) (x2 : Int32) (S : iz_S) : iz_Y X l RX9 tX9_reach 3 2 (iz_Kc X l yX9_reach cX9_reach 3 (some .int) 2 iz_eI) 0 [(0, .ref (X.1 a0)), (1, .int x1), (2, .int x2)] [] S (Ic_reach a0 x1 x2 S) := by
  unfold Ic_reach
  refine iz_iload_n (n := 1) 0 1 rfl rfl ?_
  refine iz_iconst (v := 0) 1 (by decide) rfl ?_
  refine iz_bipush (v := 63) 2 (by decide) rfl ?_
  refine iz_callSI (As := [.int x1, .int 0, .int 63]) (rest := []) 3 ml_X9_85 cw_X9_within ci_X9_within (fun r9 hr9 => m_Ic_within  hr9) rfl (by decide) rfl rfl (Nat.le_of_ble_eq_true rfl) (fun r2 S1 => ?_)
  refine iz_if_eq (tgt := 19) 4 rfl (by decide) ?_ ?_
  · exact iz_sub [0] rfl (c_Ic_reach_19 h0 S1)
  · refine iz_iload_n (n := 2) 5 2 rfl rfl ?_
    refine iz_iconst (v := 0) 6 (by decide) rfl ?_
    refine iz_iconst (v := 2) 7 (by decide) rfl ?_
    refine iz_callSI (As := [.int x2, .int 0, .int 2]) (rest := []) 8 ml_X9_85 cw_X9_within ci_X9_within (fun r9 hr9 => m_Ic_within  hr9) rfl (by decide) rfl rfl (Nat.le_of_ble_eq_true rfl) (fun r4 S3 => ?_)
    refine iz_if_ne (tgt := 25) 9 rfl (by decide) ?_ ?_
    · refine iz_aload_n (n := 0) 14 0 rfl rfl ?_
      refine iz_getR 15 0 h0 fl_X9_10 rfl (by decide) (by decide) rfl ?_
      refine iz_iload_n (n := 2) 16 2 rfl rfl ?_
      refine iz_callVL (As := [.int x2]) (rest := []) 17 ml_X9_97 cw_X2_bearing ci_X2_bearing (sf_9_0 h0) (fun r9 hr9 => m_La_bearing (sf_9_0 h0) hr9) rfl (by decide) (by decide) rfl rfl (Nat.le_of_ble_eq_true rfl) (fun r6 S5 => ?_)
      refine iz_callSL (As := [.long r6]) (rest := []) 18 ml_X9_130 cw_X2_reachedOver ci_X2_reachedOver (fun r9 hr9 => m_La_reachedOver  hr9) rfl (by decide) rfl rfl (Nat.le_of_ble_eq_true rfl) (fun r8 S7 => ?_)
      refine iz_iload_n (n := 1) 19 1 rfl rfl ?_
      refine iz_lushr 20 rfl ?_
      refine iz_lconst (v := 1) 21 (by decide) rfl ?_
      refine iz_land 22 rfl ?_
      refine iz_lconst (v := 0) 23 (by decide) rfl ?_
      refine iz_lcmp 24 rfl ?_
      refine iz_if_eq (tgt := 49) 25 rfl (by decide) ?_ ?_
      · refine iz_iconst (v := 0) 28 (by decide) rfl ?_
        exact iz_sub [] rfl (c_Ic_reach_50 h0 0 S7)
      · refine iz_iconst (v := 1) 26 (by decide) rfl ?_
        refine iz_goto (tgt := 50) 27 (by decide) rfl ?_
        exact iz_sub [] rfl (c_Ic_reach_50 h0 1 S7)
    · exact iz_sub [0] rfl (c_Ic_reach_19 h0 S3)
theorem m_Ic_reach {X : iz_X} {l : Launch} {a0 : Nat} (h0 : iz_sh a0 = (9 + 3, 11)) {x1 : Int32} {x2 : Int32} {S : iz_S} {r9 : Int32 × iz_S} (hr : Ic_reach a0 x1 x2 S = some r9) : iz_Mt X l 2 yX9_reach cX9_reach 3 (some .int) [.ref (X.1 a0), .int x1, .int x2] S (iz_eI r9) :=
  iz_Mt_of (dt := tX9_reach) dX9_reach (by decide) hr (Nat.le_of_ble_eq_true rfl) (c_Ic_reach h0 x1 x2 S)
def Ic_bars (a0 : Nat) (x1 : Int32) (S : iz_S) : Option (Int32 × iz_S) :=
  (iz_bI (La_isSquare x1 S) (fun r2 S1 =>
  if r2 = 0 then
    iz_bI (Ic_finding a0 1 S1) (fun r6 S5 =>
    some (r6, S5))
  else
    iz_bI (La_barTo (iz_rf a0 0) x1 S1) (fun r4 S3 =>
    some (r4, S3))))
set_option maxRecDepth 10000 in
theorem c_Ic_bars {X : iz_X} {l : Launch} {a0 : Nat} (h0 : iz_sh a0 = (9 + 3, 11)) (x1 : Int32) (S : iz_S) : iz_Y X l RX9 tX9_bars 2 4 (iz_Kc X l yX9_bars cX9_bars 2 (some .int) 4 iz_eI) 0 [(0, .ref (X.1 a0)), (1, .int x1)] [] S (Ic_bars a0 x1 S) := by
  unfold Ic_bars
  refine iz_iload_n (n := 1) 0 1 rfl rfl ?_
  refine iz_callSI (As := [.int x1]) (rest := []) 1 ml_X9_134 cw_X2_isSquare ci_X2_isSquare (fun r9 hr9 => m_La_isSquare  hr9) rfl (by decide) rfl rfl (Nat.le_of_ble_eq_true rfl) (fun r2 S1 => ?_)
  refine iz_if_ne (tgt := 13) 2 rfl (by decide) ?_ ?_
  · refine iz_aload_n (n := 0) 7 0 rfl rfl ?_
    refine iz_getR 8 0 h0 fl_X9_10 rfl (by decide) (by decide) rfl ?_
    refine iz_iload_n (n := 1) 9 1 rfl rfl ?_
    refine iz_callVI (As := [.int x1]) (rest := []) 10 ml_X9_138 cw_X2_barTo ci_X2_barTo (sf_9_0 h0) (fun r9 hr9 => m_La_barTo (sf_9_0 h0) hr9) rfl (by decide) (by decide) rfl rfl (Nat.le_of_ble_eq_true rfl) (fun r4 S3 => ?_)
    exact iz_iret 11 rfl
  · refine iz_aload_n (n := 0) 3 0 rfl rfl ?_
    refine iz_iconst (v := 1) 4 (by decide) rfl ?_
    refine iz_callVI (As := [.int 1]) (rest := []) 5 ml_X9_89 cw_X9_finding ci_X9_finding h0 (fun r9 hr9 => m_Ic_finding h0 hr9) rfl (by decide) (by decide) rfl rfl (Nat.le_of_ble_eq_true rfl) (fun r6 S5 => ?_)
    exact iz_iret 6 rfl
theorem m_Ic_bars {X : iz_X} {l : Launch} {a0 : Nat} (h0 : iz_sh a0 = (9 + 3, 11)) {x1 : Int32} {S : iz_S} {r9 : Int32 × iz_S} (hr : Ic_bars a0 x1 S = some r9) : iz_Mt X l 4 yX9_bars cX9_bars 2 (some .int) [.ref (X.1 a0), .int x1] S (iz_eI r9) :=
  iz_Mt_of (dt := tX9_bars) dX9_bars (by decide) hr (Nat.le_of_ble_eq_true rfl) (c_Ic_bars h0 x1 S)
def Ic_cut (a0 : Nat) (x1 : Int32) (S : iz_S) : Option (Int32 × iz_S) :=
  (iz_bI (La_isSquare x1 S) (fun r2 S1 =>
  if r2 = 0 then
    iz_bI (Ic_finding a0 1 S1) (fun r17 S16 =>
    some (r17, S16))
  else
    (iz_bI (La_barTo (iz_rf a0 0) x1 S1) (fun r4 S3 =>
    if r4 = 0 then
      (if (S3.1 (iz_rf a0 3) 0) < 60 then
        iz_bI (La_kindOf (iz_rf a0 0) x1 S3) (fun r6 S5 =>
        iz_bI (La_thicksOf (iz_rf a0 0) x1 S5) (fun r8 S7 =>
        iz_bI (Ho_newBlock (iz_rf a0 3) r6 ((5 : Int32) * r8) S7) (fun r10 S9 =>
        iz_bV (La_open (iz_rf a0 0) x1 S9) (fun S11 =>
        some (r10, S11)))))
      else
        iz_bI (Ic_finding a0 4 S3) (fun r13 S12 =>
        some (r13, S12)))
    else
      iz_bI (Ic_finding a0 3 S3) (fun r15 S14 =>
      some (r15, S14))))))
set_option maxRecDepth 10000 in
theorem c_Ic_cut {X : iz_X} {l : Launch} {a0 : Nat} (h0 : iz_sh a0 = (9 + 3, 11)) (x1 : Int32) (S : iz_S) : iz_Y X l RX9 tX9_cut 3 4 (iz_Kc X l yX9_cut cX9_cut 3 (some .int) 4 iz_eI) 0 [(0, .ref (X.1 a0)), (1, .int x1)] [] S (Ic_cut a0 x1 S) := by
  unfold Ic_cut
  refine iz_iload_n (n := 1) 0 1 rfl rfl ?_
  refine iz_callSI (As := [.int x1]) (rest := []) 1 ml_X9_134 cw_X2_isSquare ci_X2_isSquare (fun r9 hr9 => m_La_isSquare  hr9) rfl (by decide) rfl rfl (Nat.le_of_ble_eq_true rfl) (fun r2 S1 => ?_)
  refine iz_if_ne (tgt := 13) 2 rfl (by decide) ?_ ?_
  · refine iz_aload_n (n := 0) 7 0 rfl rfl ?_
    refine iz_getR 8 0 h0 fl_X9_10 rfl (by decide) (by decide) rfl ?_
    refine iz_iload_n (n := 1) 9 1 rfl rfl ?_
    refine iz_callVI (As := [.int x1]) (rest := []) 10 ml_X9_138 cw_X2_barTo ci_X2_barTo (sf_9_0 h0) (fun r9 hr9 => m_La_barTo (sf_9_0 h0) hr9) rfl (by decide) (by decide) rfl rfl (Nat.le_of_ble_eq_true rfl) (fun r4 S3 => ?_)
    refine iz_if_eq (tgt := 30) 11 rfl (by decide) ?_ ?_
    · refine iz_aload_n (n := 0) 16 0 rfl rfl ?_
      refine iz_getR 17 3 h0 fl_X9_35 rfl (by decide) (by decide) rfl ?_
      refine iz_getI 18 0 (sf_9_3 h0) fl_X9_141 rfl (by decide) (by decide) rfl ?_
      refine iz_bipush (v := 60) 19 (by decide) rfl ?_
      refine iz_cmp_lt (tgt := 48) 20 rfl (by decide) ?_ ?_
      · refine iz_aload_n (n := 0) 25 0 rfl rfl ?_
        refine iz_getR 26 3 h0 fl_X9_35 rfl (by decide) (by decide) rfl ?_
        refine iz_aload_n (n := 0) 27 0 rfl rfl ?_
        refine iz_getR 28 0 h0 fl_X9_10 rfl (by decide) (by decide) rfl ?_
        refine iz_iload_n (n := 1) 29 1 rfl rfl ?_
        refine iz_callVI (As := [.int x1]) (rest := [.ref (X.1 (iz_rf a0 3))]) 30 ml_X9_145 cw_X2_kindOf ci_X2_kindOf (sf_9_0 h0) (fun r9 hr9 => m_La_kindOf (sf_9_0 h0) hr9) rfl (by decide) (by decide) rfl rfl (Nat.le_of_ble_eq_true rfl) (fun r6 S5 => ?_)
        refine iz_iconst (v := 5) 31 (by decide) rfl ?_
        refine iz_aload_n (n := 0) 32 0 rfl rfl ?_
        refine iz_getR 33 0 h0 fl_X9_10 rfl (by decide) (by decide) rfl ?_
        refine iz_iload_n (n := 1) 34 1 rfl rfl ?_
        refine iz_callVI (As := [.int x1]) (rest := [.int 5, .int r6, .ref (X.1 (iz_rf a0 3))]) 35 ml_X9_148 cw_X2_thicksOf ci_X2_thicksOf (sf_9_0 h0) (fun r9 hr9 => m_La_thicksOf (sf_9_0 h0) hr9) rfl (by decide) (by decide) rfl rfl (Nat.le_of_ble_eq_true rfl) (fun r8 S7 => ?_)
        refine iz_imul 36 rfl ?_
        refine iz_callVI (As := [.int r6, .int ((5 : Int32) * r8)]) (rest := []) 37 ml_X9_151 cw_X1_newBlock ci_X1_newBlock (sf_9_3 h0) (fun r9 hr9 => m_Ho_newBlock (sf_9_3 h0) hr9) rfl (by decide) (by decide) rfl rfl (Nat.le_of_ble_eq_true rfl) (fun r10 S9 => ?_)
        refine iz_istore_n (n := 2) (ls2 := [(0, .ref (X.1 a0)), (1, .int x1), (2, .int r10)]) 38 [1, 2, 0] rfl (by decide) rfl ?_
        refine iz_aload_n (n := 0) 39 0 rfl rfl ?_
        refine iz_getR 40 0 h0 fl_X9_10 rfl (by decide) (by decide) rfl ?_
        refine iz_iload_n (n := 1) 41 1 rfl rfl ?_
        refine iz_callVV (As := [.int x1]) (rest := []) 42 ml_X9_155 cw_X2_open ci_X2_open (sf_9_0 h0) (fun r9 hr9 => m_La_open (sf_9_0 h0) hr9) rfl (by decide) (by decide) rfl rfl (Nat.le_of_ble_eq_true rfl) (fun S11 => ?_)
        refine iz_iload_n (n := 2) 43 2 rfl rfl ?_
        exact iz_iret 44 rfl
      · refine iz_aload_n (n := 0) 21 0 rfl rfl ?_
        refine iz_iconst (v := 4) 22 (by decide) rfl ?_
        refine iz_callVI (As := [.int 4]) (rest := []) 23 ml_X9_89 cw_X9_finding ci_X9_finding h0 (fun r9 hr9 => m_Ic_finding h0 hr9) rfl (by decide) (by decide) rfl rfl (Nat.le_of_ble_eq_true rfl) (fun r13 S12 => ?_)
        exact iz_iret 24 rfl
    · refine iz_aload_n (n := 0) 12 0 rfl rfl ?_
      refine iz_iconst (v := 3) 13 (by decide) rfl ?_
      refine iz_callVI (As := [.int 3]) (rest := []) 14 ml_X9_89 cw_X9_finding ci_X9_finding h0 (fun r9 hr9 => m_Ic_finding h0 hr9) rfl (by decide) (by decide) rfl rfl (Nat.le_of_ble_eq_true rfl) (fun r15 S14 => ?_)
      exact iz_iret 15 rfl
  · refine iz_aload_n (n := 0) 3 0 rfl rfl ?_
    refine iz_iconst (v := 1) 4 (by decide) rfl ?_
    refine iz_callVI (As := [.int 1]) (rest := []) 5 ml_X9_89 cw_X9_finding ci_X9_finding h0 (fun r9 hr9 => m_Ic_finding h0 hr9) rfl (by decide) (by decide) rfl rfl (Nat.le_of_ble_eq_true rfl) (fun r17 S16 => ?_)
    exact iz_iret 6 rfl
theorem m_Ic_cut {X : iz_X} {l : Launch} {a0 : Nat} (h0 : iz_sh a0 = (9 + 3, 11)) {x1 : Int32} {S : iz_S} {r9 : Int32 × iz_S} (hr : Ic_cut a0 x1 S = some r9) : iz_Mt X l 4 yX9_cut cX9_cut 3 (some .int) [.ref (X.1 a0), .int x1] S (iz_eI r9) :=
  iz_Mt_of (dt := tX9_cut) dX9_cut (by decide) hr (Nat.le_of_ble_eq_true rfl) (c_Ic_cut h0 x1 S)
def Ic_season_83 (a0 : Nat) (s0 : Int32) (S : iz_S) : Option (Int32 × iz_S) :=
  some (s0, S)
def Ic_season (a0 : Nat) (x1 : Int32) (S : iz_S) : Option (Int32 × iz_S) :=
  (if x1 < 0 then
    iz_bI (Ic_finding a0 1 S) (fun r9 S8 =>
    some (r9, S8))
  else
    (iz_bI (Se_takeOver (iz_rf a0 1) (iz_rf a0 9) S) (fun r2 S1 =>
    if r2 = 0 then
      iz_bI (Ic_finding a0 3 S1) (fun r7 S6 =>
      some (r7, S6))
    else
      (iz_bV (Se_plan (iz_rf a0 1) (iz_rf a0 0) S1) (fun S3 =>
      if x1 = 0 then
        some ((S3.1 (iz_rf a0 1) 1), S3)
      else
        (if x1 ≤ (S3.1 (iz_rf a0 1) 1) then
          iz_ck (iz_in (x1 - 1) 6) (
          (Ic_season_83 a0 (iz_g S3 (iz_rf (iz_rf a0 1) 0) (x1 - 1)) S3))
        else
          iz_bI (Ic_finding a0 2 S3) (fun r5 S4 =>
          (Ic_season_83 a0 r5 S4))))))))
set_option maxRecDepth 10000 in
theorem c_Ic_season_83 {X : iz_X} {l : Launch} {a0 : Nat} (h0 : iz_sh a0 = (9 + 3, 11)) (s0 : Int32) (S : iz_S) : iz_Y X l RX9 tX9_season 2 6 (iz_Kc X l yX9_season cX9_season 2 (some .int) 6 iz_eI) 83 [] [.int s0] S (Ic_season_83 a0 s0 S) := by
  unfold Ic_season_83
  exact iz_iret 43 rfl
set_option maxRecDepth 10000 in
theorem c_Ic_season {X : iz_X} {l : Launch} {a0 : Nat} (h0 : iz_sh a0 = (9 + 3, 11)) (x1 : Int32) (S : iz_S) : iz_Y X l RX9 tX9_season 2 6 (iz_Kc X l yX9_season cX9_season 2 (some .int) 6 iz_eI) 0 [(0, .ref (X.1 a0)), (1, .int x1)] [] S (Ic_season a0 x1 S) := by
  unfold Ic_season
  refine iz_iload_n (n := 1) 0 1 rfl rfl ?_
  refine iz_if_ge (tgt := 10) 1 rfl (by decide) ?_ ?_
  · refine iz_aload_n (n := 0) 6 0 rfl rfl ?_
    refine iz_getR 7 1 h0 fl_X9_19 rfl (by decide) (by decide) rfl ?_
    refine iz_aload_n (n := 0) 8 0 rfl rfl ?_
    refine iz_getR 9 9 h0 fl_X9_77 rfl (by decide) (by decide) rfl ?_
    refine iz_callVI (As := [.ref (X.1 (iz_rf a0 9))]) (rest := []) 10 ml_X9_158 cw_X6_takeOver ci_X6_takeOver (sf_9_1 h0) (fun r9 hr9 => m_Se_takeOver (sf_9_1 h0) (sf_9_9 h0) hr9) rfl (by decide) (by decide) rfl rfl (Nat.le_of_ble_eq_true rfl) (fun r2 S1 => ?_)
    refine iz_if_ne (tgt := 30) 11 rfl (by decide) ?_ ?_
    · refine iz_aload_n (n := 0) 16 0 rfl rfl ?_
      refine iz_getR 17 1 h0 fl_X9_19 rfl (by decide) (by decide) rfl ?_
      refine iz_aload_n (n := 0) 18 0 rfl rfl ?_
      refine iz_getR 19 0 h0 fl_X9_10 rfl (by decide) (by decide) rfl ?_
      refine iz_callVV (As := [.ref (X.1 (iz_rf a0 0))]) (rest := []) 20 ml_X9_162 cw_X6_plan ci_X6_plan (sf_9_1 h0) (fun r9 hr9 => m_Se_plan (sf_9_1 h0) (sf_9_0 h0) hr9) rfl (by decide) (by decide) rfl rfl (Nat.le_of_ble_eq_true rfl) (fun S3 => ?_)
      refine iz_iload_n (n := 1) 21 1 rfl rfl ?_
      refine iz_if_ne (tgt := 53) 22 rfl (by decide) ?_ ?_
      · refine iz_iload_n (n := 1) 27 1 rfl rfl ?_
        refine iz_aload_n (n := 0) 28 0 rfl rfl ?_
        refine iz_getR 29 1 h0 fl_X9_19 rfl (by decide) (by decide) rfl ?_
        refine iz_getI 30 1 (sf_9_1 h0) fl_X9_166 rfl (by decide) (by decide) rfl ?_
        refine iz_cmp_gt (tgt := 78) 31 rfl (by decide) ?_ ?_
        · refine iz_aload_n (n := 0) 40 0 rfl rfl ?_
          refine iz_iconst (v := 2) 41 (by decide) rfl ?_
          refine iz_callVI (As := [.int 2]) (rest := []) 42 ml_X9_89 cw_X9_finding ci_X9_finding h0 (fun r9 hr9 => m_Ic_finding h0 hr9) rfl (by decide) (by decide) rfl rfl (Nat.le_of_ble_eq_true rfl) (fun r5 S4 => ?_)
          exact iz_sub [] rfl (c_Ic_season_83 h0 r5 S4)
        · refine iz_aload_n (n := 0) 32 0 rfl rfl ?_
          refine iz_getR 33 1 h0 fl_X9_19 rfl (by decide) (by decide) rfl ?_
          refine iz_getR 34 0 (sf_9_1 h0) fl_X9_169 rfl (by decide) (by decide) rfl ?_
          refine iz_iload_n (n := 1) 35 1 rfl rfl ?_
          refine iz_iconst (v := 1) 36 (by decide) rfl ?_
          refine iz_isub 37 rfl ?_
          refine iz_iald 38 (sf_6_0 (sf_9_1 h0)) rfl ?_
          refine iz_goto (tgt := 83) 39 (by decide) rfl ?_
          exact iz_sub [] rfl (c_Ic_season_83 h0 (iz_g S3 (iz_rf (iz_rf a0 1) 0) (x1 - 1)) S3)
      · refine iz_aload_n (n := 0) 23 0 rfl rfl ?_
        refine iz_getR 24 1 h0 fl_X9_19 rfl (by decide) (by decide) rfl ?_
        refine iz_getI 25 1 (sf_9_1 h0) fl_X9_166 rfl (by decide) (by decide) rfl ?_
        exact iz_iret 26 rfl
    · refine iz_aload_n (n := 0) 12 0 rfl rfl ?_
      refine iz_iconst (v := 3) 13 (by decide) rfl ?_
      refine iz_callVI (As := [.int 3]) (rest := []) 14 ml_X9_89 cw_X9_finding ci_X9_finding h0 (fun r9 hr9 => m_Ic_finding h0 hr9) rfl (by decide) (by decide) rfl rfl (Nat.le_of_ble_eq_true rfl) (fun r7 S6 => ?_)
      exact iz_iret 15 rfl
  · refine iz_aload_n (n := 0) 2 0 rfl rfl ?_
    refine iz_iconst (v := 1) 3 (by decide) rfl ?_
    refine iz_callVI (As := [.int 1]) (rest := []) 4 ml_X9_89 cw_X9_finding ci_X9_finding h0 (fun r9 hr9 => m_Ic_finding h0 hr9) rfl (by decide) (by decide) rfl rfl (Nat.le_of_ble_eq_true rfl) (fun r9 S8 => ?_)
    exact iz_iret 5 rfl
theorem m_Ic_season {X : iz_X} {l : Launch} {a0 : Nat} (h0 : iz_sh a0 = (9 + 3, 11)) {x1 : Int32} {S : iz_S} {r9 : Int32 × iz_S} (hr : Ic_season a0 x1 S = some r9) : iz_Mt X l 6 yX9_season cX9_season 2 (some .int) [.ref (X.1 a0), .int x1] S (iz_eI r9) :=
  iz_Mt_of (dt := tX9_season) dX9_season (by decide) hr (Nat.le_of_ble_eq_true rfl) (c_Ic_season h0 x1 S)
def Ic_put_18 (a0 : Nat) (S : iz_S) : Option (Int32 × iz_S) :=
  iz_bI (Ic_finding a0 1 S) (fun r9 S8 =>
  some (r9, S8))
def Ic_put_47 (a0 : Nat) (S : iz_S) : Option (Int32 × iz_S) :=
  iz_bI (Ic_finding a0 3 S) (fun r11 S10 =>
  some (r11, S10))
def Ic_put (a0 : Nat) (x1 : Int32) (x2 : Int32) (S : iz_S) : Option (Int32 × iz_S) :=
  (iz_bI (Ho_hasBlock (iz_rf a0 3) x1 S) (fun r2 S1 =>
  if r2 = 0 then
    (Ic_put_18 a0 S1)
  else
    (iz_bI (Ic_isColumn x2 S1) (fun r4 S3 =>
    if r4 = 0 then
      (Ic_put_18 a0 S3)
    else
      (iz_ck (iz_in x1 60) (
      if (iz_g S3 (iz_rf (iz_rf a0 3) 3) x1) = 0 then
        (iz_bI (Ho_isFull (iz_rf a0 3) x2 S3) (fun r6 S5 =>
        if r6 = 0 then
          iz_bV (Ho_bringIn (iz_rf a0 3) x1 x2 S5) (fun S7 =>
          iz_ck (iz_in x2 16) (
          some (((iz_g S7 (iz_rf (iz_rf a0 3) 4) x2) - 1), S7)))
        else
          (Ic_put_47 a0 S5)))
      else
        (Ic_put_47 a0 S3)))))))
set_option maxRecDepth 10000 in
theorem c_Ic_put_18 {X : iz_X} {l : Launch} {a0 : Nat} (h0 : iz_sh a0 = (9 + 3, 11)) (S : iz_S) : iz_Y X l RX9 tX9_put 3 6 (iz_Kc X l yX9_put cX9_put 3 (some .int) 6 iz_eI) 18 [(0, .ref (X.1 a0))] [] S (Ic_put_18 a0 S) := by
  unfold Ic_put_18
  refine iz_aload_n (n := 0) 8 0 rfl rfl ?_
  refine iz_iconst (v := 1) 9 (by decide) rfl ?_
  refine iz_callVI (As := [.int 1]) (rest := []) 10 ml_X9_89 cw_X9_finding ci_X9_finding h0 (fun r9 hr9 => m_Ic_finding h0 hr9) rfl (by decide) (by decide) rfl rfl (Nat.le_of_ble_eq_true rfl) (fun r9 S8 => ?_)
  exact iz_iret 11 rfl
set_option maxRecDepth 10000 in
theorem c_Ic_put_47 {X : iz_X} {l : Launch} {a0 : Nat} (h0 : iz_sh a0 = (9 + 3, 11)) (S : iz_S) : iz_Y X l RX9 tX9_put 3 6 (iz_Kc X l yX9_put cX9_put 3 (some .int) 6 iz_eI) 47 [(0, .ref (X.1 a0))] [] S (Ic_put_47 a0 S) := by
  unfold Ic_put_47
  refine iz_aload_n (n := 0) 23 0 rfl rfl ?_
  refine iz_iconst (v := 3) 24 (by decide) rfl ?_
  refine iz_callVI (As := [.int 3]) (rest := []) 25 ml_X9_89 cw_X9_finding ci_X9_finding h0 (fun r9 hr9 => m_Ic_finding h0 hr9) rfl (by decide) (by decide) rfl rfl (Nat.le_of_ble_eq_true rfl) (fun r11 S10 => ?_)
  exact iz_iret 26 rfl
set_option maxRecDepth 10000 in
theorem c_Ic_put {X : iz_X} {l : Launch} {a0 : Nat} (h0 : iz_sh a0 = (9 + 3, 11)) (x1 : Int32) (x2 : Int32) (S : iz_S) : iz_Y X l RX9 tX9_put 3 6 (iz_Kc X l yX9_put cX9_put 3 (some .int) 6 iz_eI) 0 [(0, .ref (X.1 a0)), (1, .int x1), (2, .int x2)] [] S (Ic_put a0 x1 x2 S) := by
  unfold Ic_put
  refine iz_aload_n (n := 0) 0 0 rfl rfl ?_
  refine iz_getR 1 3 h0 fl_X9_35 rfl (by decide) (by decide) rfl ?_
  refine iz_iload_n (n := 1) 2 1 rfl rfl ?_
  refine iz_callVI (As := [.int x1]) (rest := []) 3 ml_X9_172 cw_X1_hasBlock ci_X1_hasBlock (sf_9_3 h0) (fun r9 hr9 => m_Ho_hasBlock (sf_9_3 h0) hr9) rfl (by decide) (by decide) rfl rfl (Nat.le_of_ble_eq_true rfl) (fun r2 S1 => ?_)
  refine iz_if_eq (tgt := 18) 4 rfl (by decide) ?_ ?_
  · exact iz_sub [0] rfl (c_Ic_put_18 h0 S1)
  · refine iz_iload_n (n := 2) 5 2 rfl rfl ?_
    refine iz_callSI (As := [.int x2]) (rest := []) 6 ml_X9_175 cw_X9_isColumn ci_X9_isColumn (fun r9 hr9 => m_Ic_isColumn  hr9) rfl (by decide) rfl rfl (Nat.le_of_ble_eq_true rfl) (fun r4 S3 => ?_)
    refine iz_if_ne (tgt := 24) 7 rfl (by decide) ?_ ?_
    · refine iz_aload_n (n := 0) 12 0 rfl rfl ?_
      refine iz_getR 13 3 h0 fl_X9_35 rfl (by decide) (by decide) rfl ?_
      refine iz_getR 14 3 (sf_9_3 h0) fl_X9_178 rfl (by decide) (by decide) rfl ?_
      refine iz_iload_n (n := 1) 15 1 rfl rfl ?_
      refine iz_iald 16 (sf_1_3 (sf_9_3 h0)) rfl ?_
      refine iz_if_ne (tgt := 47) 17 rfl (by decide) ?_ ?_
      · exact iz_sub [0] rfl (c_Ic_put_47 h0 S3)
      · refine iz_aload_n (n := 0) 18 0 rfl rfl ?_
        refine iz_getR 19 3 h0 fl_X9_35 rfl (by decide) (by decide) rfl ?_
        refine iz_iload_n (n := 2) 20 2 rfl rfl ?_
        refine iz_callVI (As := [.int x2]) (rest := []) 21 ml_X9_181 cw_X1_isFull ci_X1_isFull (sf_9_3 h0) (fun r9 hr9 => m_Ho_isFull (sf_9_3 h0) hr9) rfl (by decide) (by decide) rfl rfl (Nat.le_of_ble_eq_true rfl) (fun r6 S5 => ?_)
        refine iz_if_eq (tgt := 53) 22 rfl (by decide) ?_ ?_
        · refine iz_aload_n (n := 0) 27 0 rfl rfl ?_
          refine iz_getR 28 3 h0 fl_X9_35 rfl (by decide) (by decide) rfl ?_
          refine iz_iload_n (n := 1) 29 1 rfl rfl ?_
          refine iz_iload_n (n := 2) 30 2 rfl rfl ?_
          refine iz_callVV (As := [.int x1, .int x2]) (rest := []) 31 ml_X9_184 cw_X1_bringIn ci_X1_bringIn (sf_9_3 h0) (fun r9 hr9 => m_Ho_bringIn (sf_9_3 h0) hr9) rfl (by decide) (by decide) rfl rfl (Nat.le_of_ble_eq_true rfl) (fun S7 => ?_)
          refine iz_aload_n (n := 0) 32 0 rfl rfl ?_
          refine iz_getR 33 3 h0 fl_X9_35 rfl (by decide) (by decide) rfl ?_
          refine iz_getR 34 4 (sf_9_3 h0) fl_X9_188 rfl (by decide) (by decide) rfl ?_
          refine iz_iload_n (n := 2) 35 2 rfl rfl ?_
          refine iz_iald 36 (sf_1_4 (sf_9_3 h0)) rfl ?_
          refine iz_iconst (v := 1) 37 (by decide) rfl ?_
          refine iz_isub 38 rfl ?_
          exact iz_iret 39 rfl
        · exact iz_sub [0] rfl (c_Ic_put_47 h0 S5)
    · exact iz_sub [0] rfl (c_Ic_put_18 h0 S3)
theorem m_Ic_put {X : iz_X} {l : Launch} {a0 : Nat} (h0 : iz_sh a0 = (9 + 3, 11)) {x1 : Int32} {x2 : Int32} {S : iz_S} {r9 : Int32 × iz_S} (hr : Ic_put a0 x1 x2 S = some r9) : iz_Mt X l 6 yX9_put cX9_put 3 (some .int) [.ref (X.1 a0), .int x1, .int x2] S (iz_eI r9) :=
  iz_Mt_of (dt := tX9_put) dX9_put (by decide) hr (Nat.le_of_ble_eq_true rfl) (c_Ic_put h0 x1 x2 S)
def Ic_take (a0 : Nat) (x1 : Int32) (S : iz_S) : Option (Int32 × iz_S) :=
  (iz_bI (Ic_isColumn x1 S) (fun r2 S1 =>
  if r2 = 0 then
    iz_bI (Ic_finding a0 1 S1) (fun r10 S9 =>
    some (r10, S9))
  else
    (iz_bI (Ho_isEmpty (iz_rf a0 3) x1 S1) (fun r4 S3 =>
    if r4 = 0 then
      iz_bI (Ho_throwOut (iz_rf a0 3) x1 S3) (fun r6 S5 =>
      some (r6, S5))
    else
      iz_bI (Ic_finding a0 2 S3) (fun r8 S7 =>
      some (r8, S7))))))
set_option maxRecDepth 10000 in
theorem c_Ic_take {X : iz_X} {l : Launch} {a0 : Nat} (h0 : iz_sh a0 = (9 + 3, 11)) (x1 : Int32) (S : iz_S) : iz_Y X l RX9 tX9_take 2 5 (iz_Kc X l yX9_take cX9_take 2 (some .int) 5 iz_eI) 0 [(0, .ref (X.1 a0)), (1, .int x1)] [] S (Ic_take a0 x1 S) := by
  unfold Ic_take
  refine iz_iload_n (n := 1) 0 1 rfl rfl ?_
  refine iz_callSI (As := [.int x1]) (rest := []) 1 ml_X9_175 cw_X9_isColumn ci_X9_isColumn (fun r9 hr9 => m_Ic_isColumn  hr9) rfl (by decide) rfl rfl (Nat.le_of_ble_eq_true rfl) (fun r2 S1 => ?_)
  refine iz_if_ne (tgt := 13) 2 rfl (by decide) ?_ ?_
  · refine iz_aload_n (n := 0) 7 0 rfl rfl ?_
    refine iz_getR 8 3 h0 fl_X9_35 rfl (by decide) (by decide) rfl ?_
    refine iz_iload_n (n := 1) 9 1 rfl rfl ?_
    refine iz_callVI (As := [.int x1]) (rest := []) 10 ml_X9_191 cw_X1_isEmpty ci_X1_isEmpty (sf_9_3 h0) (fun r9 hr9 => m_Ho_isEmpty (sf_9_3 h0) hr9) rfl (by decide) (by decide) rfl rfl (Nat.le_of_ble_eq_true rfl) (fun r4 S3 => ?_)
    refine iz_if_eq (tgt := 30) 11 rfl (by decide) ?_ ?_
    · refine iz_aload_n (n := 0) 16 0 rfl rfl ?_
      refine iz_getR 17 3 h0 fl_X9_35 rfl (by decide) (by decide) rfl ?_
      refine iz_iload_n (n := 1) 18 1 rfl rfl ?_
      refine iz_callVI (As := [.int x1]) (rest := []) 19 ml_X9_194 cw_X1_throwOut ci_X1_throwOut (sf_9_3 h0) (fun r9 hr9 => m_Ho_throwOut (sf_9_3 h0) hr9) rfl (by decide) (by decide) rfl rfl (Nat.le_of_ble_eq_true rfl) (fun r6 S5 => ?_)
      exact iz_iret 20 rfl
    · refine iz_aload_n (n := 0) 12 0 rfl rfl ?_
      refine iz_iconst (v := 2) 13 (by decide) rfl ?_
      refine iz_callVI (As := [.int 2]) (rest := []) 14 ml_X9_89 cw_X9_finding ci_X9_finding h0 (fun r9 hr9 => m_Ic_finding h0 hr9) rfl (by decide) (by decide) rfl rfl (Nat.le_of_ble_eq_true rfl) (fun r8 S7 => ?_)
      exact iz_iret 15 rfl
  · refine iz_aload_n (n := 0) 3 0 rfl rfl ?_
    refine iz_iconst (v := 1) 4 (by decide) rfl ?_
    refine iz_callVI (As := [.int 1]) (rest := []) 5 ml_X9_89 cw_X9_finding ci_X9_finding h0 (fun r9 hr9 => m_Ic_finding h0 hr9) rfl (by decide) (by decide) rfl rfl (Nat.le_of_ble_eq_true rfl) (fun r10 S9 => ?_)
    exact iz_iret 6 rfl
theorem m_Ic_take {X : iz_X} {l : Launch} {a0 : Nat} (h0 : iz_sh a0 = (9 + 3, 11)) {x1 : Int32} {S : iz_S} {r9 : Int32 × iz_S} (hr : Ic_take a0 x1 S = some r9) : iz_Mt X l 5 yX9_take cX9_take 2 (some .int) [.ref (X.1 a0), .int x1] S (iz_eI r9) :=
  iz_Mt_of (dt := tX9_take) dX9_take (by decide) hr (Nat.le_of_ble_eq_true rfl) (c_Ic_take h0 x1 S)
def Ic_move_19 (a0 : Nat) (S : iz_S) : Option (Int32 × iz_S) :=
  iz_bI (Ic_finding a0 1 S) (fun r17 S16 =>
  some (r17, S16))
def Ic_move (a0 : Nat) (x1 : Int32) (x2 : Int32) (S : iz_S) : Option (Int32 × iz_S) :=
  (iz_bI (Ic_isColumn x1 S) (fun r2 S1 =>
  if r2 = 0 then
    (Ic_move_19 a0 S1)
  else
    (iz_bI (Ic_isColumn x2 S1) (fun r4 S3 =>
    if r4 = 0 then
      (Ic_move_19 a0 S3)
    else
      (if x1 = x2 then
        (Ic_move_19 a0 S3)
      else
        (iz_bI (Ho_isEmpty (iz_rf a0 3) x1 S3) (fun r6 S5 =>
        if r6 = 0 then
          (iz_bI (Ho_isFull (iz_rf a0 3) x2 S5) (fun r8 S7 =>
          if r8 = 0 then
            iz_bI (Ho_liftTop (iz_rf a0 3) x1 S7) (fun r10 S9 =>
            iz_bV (Ho_layOn (iz_rf a0 3) r10 x2 S9) (fun S11 =>
            some (r10, S11)))
          else
            iz_bI (Ic_finding a0 3 S7) (fun r13 S12 =>
            some (r13, S12))))
        else
          iz_bI (Ic_finding a0 2 S5) (fun r15 S14 =>
          some (r15, S14)))))))))
set_option maxRecDepth 10000 in
theorem c_Ic_move_19 {X : iz_X} {l : Launch} {a0 : Nat} (h0 : iz_sh a0 = (9 + 3, 11)) (S : iz_S) : iz_Y X l RX9 tX9_move 4 5 (iz_Kc X l yX9_move cX9_move 4 (some .int) 5 iz_eI) 19 [(0, .ref (X.1 a0))] [] S (Ic_move_19 a0 S) := by
  unfold Ic_move_19
  refine iz_aload_n (n := 0) 9 0 rfl rfl ?_
  refine iz_iconst (v := 1) 10 (by decide) rfl ?_
  refine iz_callVI (As := [.int 1]) (rest := []) 11 ml_X9_89 cw_X9_finding ci_X9_finding h0 (fun r9 hr9 => m_Ic_finding h0 hr9) rfl (by decide) (by decide) rfl rfl (Nat.le_of_ble_eq_true rfl) (fun r17 S16 => ?_)
  exact iz_iret 12 rfl
set_option maxRecDepth 10000 in
theorem c_Ic_move {X : iz_X} {l : Launch} {a0 : Nat} (h0 : iz_sh a0 = (9 + 3, 11)) (x1 : Int32) (x2 : Int32) (S : iz_S) : iz_Y X l RX9 tX9_move 4 5 (iz_Kc X l yX9_move cX9_move 4 (some .int) 5 iz_eI) 0 [(0, .ref (X.1 a0)), (1, .int x1), (2, .int x2)] [] S (Ic_move a0 x1 x2 S) := by
  unfold Ic_move
  refine iz_iload_n (n := 1) 0 1 rfl rfl ?_
  refine iz_callSI (As := [.int x1]) (rest := []) 1 ml_X9_175 cw_X9_isColumn ci_X9_isColumn (fun r9 hr9 => m_Ic_isColumn  hr9) rfl (by decide) rfl rfl (Nat.le_of_ble_eq_true rfl) (fun r2 S1 => ?_)
  refine iz_if_eq (tgt := 19) 2 rfl (by decide) ?_ ?_
  · exact iz_sub [0] rfl (c_Ic_move_19 h0 S1)
  · refine iz_iload_n (n := 2) 3 2 rfl rfl ?_
    refine iz_callSI (As := [.int x2]) (rest := []) 4 ml_X9_175 cw_X9_isColumn ci_X9_isColumn (fun r9 hr9 => m_Ic_isColumn  hr9) rfl (by decide) rfl rfl (Nat.le_of_ble_eq_true rfl) (fun r4 S3 => ?_)
    refine iz_if_eq (tgt := 19) 5 rfl (by decide) ?_ ?_
    · exact iz_sub [0] rfl (c_Ic_move_19 h0 S3)
    · refine iz_iload_n (n := 1) 6 1 rfl rfl ?_
      refine iz_iload_n (n := 2) 7 2 rfl rfl ?_
      refine iz_cmp_ne (tgt := 25) 8 rfl (by decide) ?_ ?_
      · refine iz_aload_n (n := 0) 13 0 rfl rfl ?_
        refine iz_getR 14 3 h0 fl_X9_35 rfl (by decide) (by decide) rfl ?_
        refine iz_iload_n (n := 1) 15 1 rfl rfl ?_
        refine iz_callVI (As := [.int x1]) (rest := []) 16 ml_X9_191 cw_X1_isEmpty ci_X1_isEmpty (sf_9_3 h0) (fun r9 hr9 => m_Ho_isEmpty (sf_9_3 h0) hr9) rfl (by decide) (by decide) rfl rfl (Nat.le_of_ble_eq_true rfl) (fun r6 S5 => ?_)
        refine iz_if_eq (tgt := 42) 17 rfl (by decide) ?_ ?_
        · refine iz_aload_n (n := 0) 22 0 rfl rfl ?_
          refine iz_getR 23 3 h0 fl_X9_35 rfl (by decide) (by decide) rfl ?_
          refine iz_iload_n (n := 2) 24 2 rfl rfl ?_
          refine iz_callVI (As := [.int x2]) (rest := []) 25 ml_X9_181 cw_X1_isFull ci_X1_isFull (sf_9_3 h0) (fun r9 hr9 => m_Ho_isFull (sf_9_3 h0) hr9) rfl (by decide) (by decide) rfl rfl (Nat.le_of_ble_eq_true rfl) (fun r8 S7 => ?_)
          refine iz_if_eq (tgt := 59) 26 rfl (by decide) ?_ ?_
          · refine iz_aload_n (n := 0) 31 0 rfl rfl ?_
            refine iz_getR 32 3 h0 fl_X9_35 rfl (by decide) (by decide) rfl ?_
            refine iz_iload_n (n := 1) 33 1 rfl rfl ?_
            refine iz_callVI (As := [.int x1]) (rest := []) 34 ml_X9_197 cw_X1_liftTop ci_X1_liftTop (sf_9_3 h0) (fun r9 hr9 => m_Ho_liftTop (sf_9_3 h0) hr9) rfl (by decide) (by decide) rfl rfl (Nat.le_of_ble_eq_true rfl) (fun r10 S9 => ?_)
            refine iz_istore_n (n := 3) (ls2 := [(0, .ref (X.1 a0)), (2, .int x2), (3, .int r10)]) 35 [1, 3, 0] rfl (by decide) rfl ?_
            refine iz_aload_n (n := 0) 36 0 rfl rfl ?_
            refine iz_getR 37 3 h0 fl_X9_35 rfl (by decide) (by decide) rfl ?_
            refine iz_iload_n (n := 3) 38 2 rfl rfl ?_
            refine iz_iload_n (n := 2) 39 1 rfl rfl ?_
            refine iz_callVV (As := [.int r10, .int x2]) (rest := []) 40 ml_X9_200 cw_X1_layOn ci_X1_layOn (sf_9_3 h0) (fun r9 hr9 => m_Ho_layOn (sf_9_3 h0) hr9) rfl (by decide) (by decide) rfl rfl (Nat.le_of_ble_eq_true rfl) (fun S11 => ?_)
            refine iz_iload_n (n := 3) 41 2 rfl rfl ?_
            exact iz_iret 42 rfl
          · refine iz_aload_n (n := 0) 27 0 rfl rfl ?_
            refine iz_iconst (v := 3) 28 (by decide) rfl ?_
            refine iz_callVI (As := [.int 3]) (rest := []) 29 ml_X9_89 cw_X9_finding ci_X9_finding h0 (fun r9 hr9 => m_Ic_finding h0 hr9) rfl (by decide) (by decide) rfl rfl (Nat.le_of_ble_eq_true rfl) (fun r13 S12 => ?_)
            exact iz_iret 30 rfl
        · refine iz_aload_n (n := 0) 18 0 rfl rfl ?_
          refine iz_iconst (v := 2) 19 (by decide) rfl ?_
          refine iz_callVI (As := [.int 2]) (rest := []) 20 ml_X9_89 cw_X9_finding ci_X9_finding h0 (fun r9 hr9 => m_Ic_finding h0 hr9) rfl (by decide) (by decide) rfl rfl (Nat.le_of_ble_eq_true rfl) (fun r15 S14 => ?_)
          exact iz_iret 21 rfl
      · exact iz_sub [0] rfl (c_Ic_move_19 h0 S3)
theorem m_Ic_move {X : iz_X} {l : Launch} {a0 : Nat} (h0 : iz_sh a0 = (9 + 3, 11)) {x1 : Int32} {x2 : Int32} {S : iz_S} {r9 : Int32 × iz_S} (hr : Ic_move a0 x1 x2 S = some r9) : iz_Mt X l 5 yX9_move cX9_move 4 (some .int) [.ref (X.1 a0), .int x1, .int x2] S (iz_eI r9) :=
  iz_Mt_of (dt := tX9_move) dX9_move (by decide) hr (Nat.le_of_ble_eq_true rfl) (c_Ic_move h0 x1 x2 S)
def Ic_as_20 (a0 : Nat) (S : iz_S) : Option (Int32 × iz_S) :=
  iz_bI (Ic_finding a0 1 S) (fun r10 S9 =>
  some (r10, S9))
def Ic_as_59 (a0 : Nat) (s0 : Int32) (S : iz_S) : Option (Int32 × iz_S) :=
  some (s0, S)
def Ic_as (a0 : Nat) (x1 : Int32) (x2 : Int32) (S : iz_S) : Option (Int32 × iz_S) :=
  (iz_bI (Ho_hasBlock (iz_rf a0 3) x1 S) (fun r2 S1 =>
  if r2 = 0 then
    (Ic_as_20 a0 S1)
  else
    (iz_bI (Ic_within x2 0 3 S1) (fun r4 S3 =>
    if r4 = 0 then
      (Ic_as_20 a0 S3)
    else
      (iz_ck (iz_in x1 60) (
      iz_bI (Ic_isUnder (iz_g S3 (iz_rf (iz_rf a0 3) 1) x1) x2 S3) (fun r6 S5 =>
      if r6 = 0 then
        iz_bI (Ic_finding a0 5 S5) (fun r8 S7 =>
        (Ic_as_59 a0 r8 S7))
      else
        iz_ck (iz_in x1 60) (
        (Ic_as_59 a0 (iz_g S5 (iz_rf (iz_rf a0 3) 2) x1) S5)))))))))
set_option maxRecDepth 10000 in
theorem c_Ic_as_20 {X : iz_X} {l : Launch} {a0 : Nat} (h0 : iz_sh a0 = (9 + 3, 11)) (S : iz_S) : iz_Y X l RX9 tX9_as 3 2 (iz_Kc X l yX9_as cX9_as 3 (some .int) 2 iz_eI) 20 [(0, .ref (X.1 a0))] [] S (Ic_as_20 a0 S) := by
  unfold Ic_as_20
  refine iz_aload_n (n := 0) 10 0 rfl rfl ?_
  refine iz_iconst (v := 1) 11 (by decide) rfl ?_
  refine iz_callVI (As := [.int 1]) (rest := []) 12 ml_X9_89 cw_X9_finding ci_X9_finding h0 (fun r9 hr9 => m_Ic_finding h0 hr9) rfl (by decide) (by decide) rfl rfl (Nat.le_of_ble_eq_true rfl) (fun r10 S9 => ?_)
  exact iz_iret 13 rfl
set_option maxRecDepth 10000 in
theorem c_Ic_as_59 {X : iz_X} {l : Launch} {a0 : Nat} (h0 : iz_sh a0 = (9 + 3, 11)) (s0 : Int32) (S : iz_S) : iz_Y X l RX9 tX9_as 3 2 (iz_Kc X l yX9_as cX9_as 3 (some .int) 2 iz_eI) 59 [] [.int s0] S (Ic_as_59 a0 s0 S) := by
  unfold Ic_as_59
  exact iz_iret 31 rfl
set_option maxRecDepth 10000 in
theorem c_Ic_as {X : iz_X} {l : Launch} {a0 : Nat} (h0 : iz_sh a0 = (9 + 3, 11)) (x1 : Int32) (x2 : Int32) (S : iz_S) : iz_Y X l RX9 tX9_as 3 2 (iz_Kc X l yX9_as cX9_as 3 (some .int) 2 iz_eI) 0 [(0, .ref (X.1 a0)), (1, .int x1), (2, .int x2)] [] S (Ic_as a0 x1 x2 S) := by
  unfold Ic_as
  refine iz_aload_n (n := 0) 0 0 rfl rfl ?_
  refine iz_getR 1 3 h0 fl_X9_35 rfl (by decide) (by decide) rfl ?_
  refine iz_iload_n (n := 1) 2 1 rfl rfl ?_
  refine iz_callVI (As := [.int x1]) (rest := []) 3 ml_X9_172 cw_X1_hasBlock ci_X1_hasBlock (sf_9_3 h0) (fun r9 hr9 => m_Ho_hasBlock (sf_9_3 h0) hr9) rfl (by decide) (by decide) rfl rfl (Nat.le_of_ble_eq_true rfl) (fun r2 S1 => ?_)
  refine iz_if_eq (tgt := 20) 4 rfl (by decide) ?_ ?_
  · exact iz_sub [0] rfl (c_Ic_as_20 h0 S1)
  · refine iz_iload_n (n := 2) 5 2 rfl rfl ?_
    refine iz_iconst (v := 0) 6 (by decide) rfl ?_
    refine iz_iconst (v := 3) 7 (by decide) rfl ?_
    refine iz_callSI (As := [.int x2, .int 0, .int 3]) (rest := []) 8 ml_X9_85 cw_X9_within ci_X9_within (fun r9 hr9 => m_Ic_within  hr9) rfl (by decide) rfl rfl (Nat.le_of_ble_eq_true rfl) (fun r4 S3 => ?_)
    refine iz_if_ne (tgt := 26) 9 rfl (by decide) ?_ ?_
    · refine iz_aload_n (n := 0) 14 0 rfl rfl ?_
      refine iz_getR 15 3 h0 fl_X9_35 rfl (by decide) (by decide) rfl ?_
      refine iz_getR 16 1 (sf_9_3 h0) fl_X9_203 rfl (by decide) (by decide) rfl ?_
      refine iz_iload_n (n := 1) 17 1 rfl rfl ?_
      refine iz_iald 18 (sf_1_1 (sf_9_3 h0)) rfl ?_
      refine iz_iload_n (n := 2) 19 2 rfl rfl ?_
      refine iz_callSI (As := [.int (iz_g S3 (iz_rf (iz_rf a0 3) 1) x1), .int x2]) (rest := []) 20 ml_X9_205 cw_X9_isUnder ci_X9_isUnder (fun r9 hr9 => m_Ic_isUnder  hr9) rfl (by decide) rfl rfl (Nat.le_of_ble_eq_true rfl) (fun r6 S5 => ?_)
      refine iz_if_eq (tgt := 54) 21 rfl (by decide) ?_ ?_
      · refine iz_aload_n (n := 0) 28 0 rfl rfl ?_
        refine iz_iconst (v := 5) 29 (by decide) rfl ?_
        refine iz_callVI (As := [.int 5]) (rest := []) 30 ml_X9_89 cw_X9_finding ci_X9_finding h0 (fun r9 hr9 => m_Ic_finding h0 hr9) rfl (by decide) (by decide) rfl rfl (Nat.le_of_ble_eq_true rfl) (fun r8 S7 => ?_)
        exact iz_sub [] rfl (c_Ic_as_59 h0 r8 S7)
      · refine iz_aload_n (n := 0) 22 0 rfl rfl ?_
        refine iz_getR 23 3 h0 fl_X9_35 rfl (by decide) (by decide) rfl ?_
        refine iz_getR 24 2 (sf_9_3 h0) fl_X9_209 rfl (by decide) (by decide) rfl ?_
        refine iz_iload_n (n := 1) 25 1 rfl rfl ?_
        refine iz_iald 26 (sf_1_2 (sf_9_3 h0)) rfl ?_
        refine iz_goto (tgt := 59) 27 (by decide) rfl ?_
        exact iz_sub [] rfl (c_Ic_as_59 h0 (iz_g S5 (iz_rf (iz_rf a0 3) 2) x1) S5)
    · exact iz_sub [0] rfl (c_Ic_as_20 h0 S3)
theorem m_Ic_as {X : iz_X} {l : Launch} {a0 : Nat} (h0 : iz_sh a0 = (9 + 3, 11)) {x1 : Int32} {x2 : Int32} {S : iz_S} {r9 : Int32 × iz_S} (hr : Ic_as a0 x1 x2 S = some r9) : iz_Mt X l 2 yX9_as cX9_as 3 (some .int) [.ref (X.1 a0), .int x1, .int x2] S (iz_eI r9) :=
  iz_Mt_of (dt := tX9_as) dX9_as (by decide) hr (Nat.le_of_ble_eq_true rfl) (c_Ic_as h0 x1 x2 S)
def Ic_about_110 (a0 : Nat) (s0 : Int32) (S : iz_S) : Option (Int32 × iz_S) :=
  some (s0, S)
def Ic_about_123 (a0 : Nat) (s0 : Int32) (S : iz_S) : Option (Int32 × iz_S) :=
  some (s0, S)
def Ic_about_147 (a0 : Nat) (s0 : Int32) (S : iz_S) : Option (Int32 × iz_S) :=
  some (s0, S)
def Ic_about_171 (a0 : Nat) (s0 : Int32) (S : iz_S) : Option (Int32 × iz_S) :=
  some (s0, S)
def Ic_about (a0 : Nat) (x1 : Int32) (x2 : Int32) (S : iz_S) : Option (Int32 × iz_S) :=
  (iz_bI (Ho_hasBlock (iz_rf a0 3) x1 S) (fun r2 S1 =>
  if r2 = 0 then
    iz_bI (Ic_finding a0 1 S1) (fun r12 S11 =>
    some (r12, S11))
  else
    iz_bI (Ho_slotOf (iz_rf a0 3) x1 S1) (fun r4 S3 =>
    iz_sw x2 0 6 [
      iz_ck (iz_in x1 60) (
      some ((iz_g S3 (iz_rf (iz_rf a0 3) 1) x1), S3)),
      iz_ck (iz_in x1 60) (
      some ((iz_g S3 (iz_rf (iz_rf a0 3) 2) x1), S3)),
      iz_ck (iz_in x1 60) (
      some ((iz_g S3 (iz_rf (iz_rf a0 3) 3) x1), S3)),
      (if r4 < 0 then
        (Ic_about_110 a0 (-1) S3)
      else
        (Ic_about_110 a0 (r4 / 6) S3)),
      (if r4 < 0 then
        (Ic_about_123 a0 (-1) S3)
      else
        (Ic_about_123 a0 (r4 - r4 / 6 * 6) S3)),
      (if r4 < 0 then
        (Ic_about_147 a0 0 S3)
      else
        iz_bI (Ho_loadOver (iz_rf a0 3) (r4 / 6) (r4 - r4 / 6 * 6) S3) (fun r8 S7 =>
        (Ic_about_147 a0 r8 S7))),
      (if r4 < 0 then
        (Ic_about_171 a0 0 S3)
      else
        iz_bI (Ho_meltAt (iz_rf a0 3) (r4 / 6) (r4 - r4 / 6 * 6) S3) (fun r10 S9 =>
        (Ic_about_171 a0 r10 S9)))]
      (iz_bI (Ic_finding a0 1 S3) (fun r6 S5 =>
      some (r6, S5))))))
set_option maxRecDepth 10000 in
theorem c_Ic_about_110 {X : iz_X} {l : Launch} {a0 : Nat} (h0 : iz_sh a0 = (9 + 3, 11)) (s0 : Int32) (S : iz_S) : iz_Y X l RX9 tX9_about 4 4 (iz_Kc X l yX9_about cX9_about 4 (some .int) 4 iz_eI) 110 [] [.int s0] S (Ic_about_110 a0 s0 S) := by
  unfold Ic_about_110
  exact iz_iret 41 rfl
set_option maxRecDepth 10000 in
theorem c_Ic_about_123 {X : iz_X} {l : Launch} {a0 : Nat} (h0 : iz_sh a0 = (9 + 3, 11)) (s0 : Int32) (S : iz_S) : iz_Y X l RX9 tX9_about 4 4 (iz_Kc X l yX9_about cX9_about 4 (some .int) 4 iz_eI) 123 [] [.int s0] S (Ic_about_123 a0 s0 S) := by
  unfold Ic_about_123
  exact iz_iret 49 rfl
set_option maxRecDepth 10000 in
theorem c_Ic_about_147 {X : iz_X} {l : Launch} {a0 : Nat} (h0 : iz_sh a0 = (9 + 3, 11)) (s0 : Int32) (S : iz_S) : iz_Y X l RX9 tX9_about 4 4 (iz_Kc X l yX9_about cX9_about 4 (some .int) 4 iz_eI) 147 [] [.int s0] S (Ic_about_147 a0 s0 S) := by
  unfold Ic_about_147
  exact iz_iret 63 rfl
set_option maxRecDepth 10000 in
theorem c_Ic_about_171 {X : iz_X} {l : Launch} {a0 : Nat} (h0 : iz_sh a0 = (9 + 3, 11)) (s0 : Int32) (S : iz_S) : iz_Y X l RX9 tX9_about 4 4 (iz_Kc X l yX9_about cX9_about 4 (some .int) 4 iz_eI) 171 [] [.int s0] S (Ic_about_171 a0 s0 S) := by
  unfold Ic_about_171
  exact iz_iret 77 rfl
set_option maxRecDepth 10000 in
theorem c_Ic_about {X : iz_X} {l : Launch} {a0 : Nat} (h0 : iz_sh a0 = (9 + 3, 11)) (x1 : Int32) (x2 : Int32) (S : iz_S) : iz_Y X l RX9 tX9_about 4 4 (iz_Kc X l yX9_about cX9_about 4 (some .int) 4 iz_eI) 0 [(0, .ref (X.1 a0)), (1, .int x1), (2, .int x2)] [] S (Ic_about a0 x1 x2 S) := by
  unfold Ic_about
  refine iz_aload_n (n := 0) 0 0 rfl rfl ?_
  refine iz_getR 1 3 h0 fl_X9_35 rfl (by decide) (by decide) rfl ?_
  refine iz_iload_n (n := 1) 2 1 rfl rfl ?_
  refine iz_callVI (As := [.int x1]) (rest := []) 3 ml_X9_172 cw_X1_hasBlock ci_X1_hasBlock (sf_9_3 h0) (fun r9 hr9 => m_Ho_hasBlock (sf_9_3 h0) hr9) rfl (by decide) (by decide) rfl rfl (Nat.le_of_ble_eq_true rfl) (fun r2 S1 => ?_)
  refine iz_if_ne (tgt := 17) 4 rfl (by decide) ?_ ?_
  · refine iz_aload_n (n := 0) 9 0 rfl rfl ?_
    refine iz_getR 10 3 h0 fl_X9_35 rfl (by decide) (by decide) rfl ?_
    refine iz_iload_n (n := 1) 11 1 rfl rfl ?_
    refine iz_callVI (As := [.int x1]) (rest := []) 12 ml_X9_212 cw_X1_slotOf ci_X1_slotOf (sf_9_3 h0) (fun r9 hr9 => m_Ho_slotOf (sf_9_3 h0) hr9) rfl (by decide) (by decide) rfl rfl (Nat.le_of_ble_eq_true rfl) (fun r4 S3 => ?_)
    refine iz_istore_n (n := 3) (ls2 := [(0, .ref (X.1 a0)), (1, .int x1), (2, .int x2), (3, .int r4)]) 13 [1, 2, 3, 0] rfl (by decide) rfl ?_
    refine iz_iload_n (n := 2) 14 2 rfl rfl ?_
    refine iz_tsw2 (dtgt := 172) 15 [68, 78, 88, 98, 111, 124, 148] rfl (by decide) (by decide) (by decide) ?_ ⟨?_, ?_, ?_, ?_, ?_, ?_, ?_, trivial⟩
    · refine iz_aload_n (n := 0) 78 0 rfl rfl ?_
      refine iz_iconst (v := 1) 79 (by decide) rfl ?_
      refine iz_callVI (As := [.int 1]) (rest := []) 80 ml_X9_89 cw_X9_finding ci_X9_finding h0 (fun r9 hr9 => m_Ic_finding h0 hr9) rfl (by decide) (by decide) rfl rfl (Nat.le_of_ble_eq_true rfl) (fun r6 S5 => ?_)
      exact iz_iret 81 rfl
    · refine iz_aload_n (n := 0) 16 0 rfl rfl ?_
      refine iz_getR 17 3 h0 fl_X9_35 rfl (by decide) (by decide) rfl ?_
      refine iz_getR 18 1 (sf_9_3 h0) fl_X9_203 rfl (by decide) (by decide) rfl ?_
      refine iz_iload_n (n := 1) 19 1 rfl rfl ?_
      refine iz_iald 20 (sf_1_1 (sf_9_3 h0)) rfl ?_
      exact iz_iret 21 rfl
    · refine iz_aload_n (n := 0) 22 0 rfl rfl ?_
      refine iz_getR 23 3 h0 fl_X9_35 rfl (by decide) (by decide) rfl ?_
      refine iz_getR 24 2 (sf_9_3 h0) fl_X9_209 rfl (by decide) (by decide) rfl ?_
      refine iz_iload_n (n := 1) 25 1 rfl rfl ?_
      refine iz_iald 26 (sf_1_2 (sf_9_3 h0)) rfl ?_
      exact iz_iret 27 rfl
    · refine iz_aload_n (n := 0) 28 0 rfl rfl ?_
      refine iz_getR 29 3 h0 fl_X9_35 rfl (by decide) (by decide) rfl ?_
      refine iz_getR 30 3 (sf_9_3 h0) fl_X9_178 rfl (by decide) (by decide) rfl ?_
      refine iz_iload_n (n := 1) 31 1 rfl rfl ?_
      refine iz_iald 32 (sf_1_3 (sf_9_3 h0)) rfl ?_
      exact iz_iret 33 rfl
    · refine iz_iload_n (n := 3) 34 3 rfl rfl ?_
      refine iz_if_ge (tgt := 106) 35 rfl (by decide) ?_ ?_
      · refine iz_iload_n (n := 3) 38 3 rfl rfl ?_
        refine iz_bipush (v := 6) 39 (by decide) rfl ?_
        refine iz_idiv 40 (by decide) rfl ?_
        exact iz_sub [] rfl (c_Ic_about_110 h0 (r4 / 6) S3)
      · refine iz_iconst (v := (-1)) 36 (by decide) rfl ?_
        refine iz_goto (tgt := 110) 37 (by decide) rfl ?_
        exact iz_sub [] rfl (c_Ic_about_110 h0 (-1) S3)
    · refine iz_iload_n (n := 3) 42 3 rfl rfl ?_
      refine iz_if_ge (tgt := 119) 43 rfl (by decide) ?_ ?_
      · refine iz_iload_n (n := 3) 46 3 rfl rfl ?_
        refine iz_bipush (v := 6) 47 (by decide) rfl ?_
        refine iz_irem 48 (by decide) rfl ?_
        exact iz_sub [] rfl (c_Ic_about_123 h0 (r4 - r4 / 6 * 6) S3)
      · refine iz_iconst (v := (-1)) 44 (by decide) rfl ?_
        refine iz_goto (tgt := 123) 45 (by decide) rfl ?_
        exact iz_sub [] rfl (c_Ic_about_123 h0 (-1) S3)
    · refine iz_iload_n (n := 3) 50 3 rfl rfl ?_
      refine iz_if_ge (tgt := 132) 51 rfl (by decide) ?_ ?_
      · refine iz_aload_n (n := 0) 54 0 rfl rfl ?_
        refine iz_getR 55 3 h0 fl_X9_35 rfl (by decide) (by decide) rfl ?_
        refine iz_iload_n (n := 3) 56 3 rfl rfl ?_
        refine iz_bipush (v := 6) 57 (by decide) rfl ?_
        refine iz_idiv 58 (by decide) rfl ?_
        refine iz_iload_n (n := 3) 59 3 rfl rfl ?_
        refine iz_bipush (v := 6) 60 (by decide) rfl ?_
        refine iz_irem 61 (by decide) rfl ?_
        refine iz_callVI (As := [.int (r4 / 6), .int (r4 - r4 / 6 * 6)]) (rest := []) 62 ml_X9_215 cw_X1_loadOver ci_X1_loadOver (sf_9_3 h0) (fun r9 hr9 => m_Ho_loadOver (sf_9_3 h0) hr9) rfl (by decide) (by decide) rfl rfl (Nat.le_of_ble_eq_true rfl) (fun r8 S7 => ?_)
        exact iz_sub [] rfl (c_Ic_about_147 h0 r8 S7)
      · refine iz_iconst (v := 0) 52 (by decide) rfl ?_
        refine iz_goto (tgt := 147) 53 (by decide) rfl ?_
        exact iz_sub [] rfl (c_Ic_about_147 h0 0 S3)
    · refine iz_iload_n (n := 3) 64 3 rfl rfl ?_
      refine iz_if_ge (tgt := 156) 65 rfl (by decide) ?_ ?_
      · refine iz_aload_n (n := 0) 68 0 rfl rfl ?_
        refine iz_getR 69 3 h0 fl_X9_35 rfl (by decide) (by decide) rfl ?_
        refine iz_iload_n (n := 3) 70 3 rfl rfl ?_
        refine iz_bipush (v := 6) 71 (by decide) rfl ?_
        refine iz_idiv 72 (by decide) rfl ?_
        refine iz_iload_n (n := 3) 73 3 rfl rfl ?_
        refine iz_bipush (v := 6) 74 (by decide) rfl ?_
        refine iz_irem 75 (by decide) rfl ?_
        refine iz_callVI (As := [.int (r4 / 6), .int (r4 - r4 / 6 * 6)]) (rest := []) 76 ml_X9_218 cw_X1_meltAt ci_X1_meltAt (sf_9_3 h0) (fun r9 hr9 => m_Ho_meltAt (sf_9_3 h0) hr9) rfl (by decide) (by decide) rfl rfl (Nat.le_of_ble_eq_true rfl) (fun r10 S9 => ?_)
        exact iz_sub [] rfl (c_Ic_about_171 h0 r10 S9)
      · refine iz_iconst (v := 0) 66 (by decide) rfl ?_
        refine iz_goto (tgt := 171) 67 (by decide) rfl ?_
        exact iz_sub [] rfl (c_Ic_about_171 h0 0 S3)
  · refine iz_aload_n (n := 0) 5 0 rfl rfl ?_
    refine iz_iconst (v := 1) 6 (by decide) rfl ?_
    refine iz_callVI (As := [.int 1]) (rest := []) 7 ml_X9_89 cw_X9_finding ci_X9_finding h0 (fun r9 hr9 => m_Ic_finding h0 hr9) rfl (by decide) (by decide) rfl rfl (Nat.le_of_ble_eq_true rfl) (fun r12 S11 => ?_)
    exact iz_iret 8 rfl
theorem m_Ic_about {X : iz_X} {l : Launch} {a0 : Nat} (h0 : iz_sh a0 = (9 + 3, 11)) {x1 : Int32} {x2 : Int32} {S : iz_S} {r9 : Int32 × iz_S} (hr : Ic_about a0 x1 x2 S = some r9) : iz_Mt X l 4 yX9_about cX9_about 4 (some .int) [.ref (X.1 a0), .int x1, .int x2] S (iz_eI r9) :=
  iz_Mt_of (dt := tX9_about) dX9_about (by decide) hr (Nat.le_of_ble_eq_true rfl) (c_Ic_about h0 x1 x2 S)
def Ic_at_16 (a0 : Nat) (S : iz_S) : Option (Int32 × iz_S) :=
  iz_bI (Ic_finding a0 1 S) (fun r10 S9 =>
  some (r10, S9))
def Ic_at_45 (a0 : Nat) (s0 : Int32) (S : iz_S) : Option (Int32 × iz_S) :=
  some (s0, S)
def Ic_at (a0 : Nat) (x1 : Int32) (x2 : Int32) (S : iz_S) : Option (Int32 × iz_S) :=
  (iz_bI (Ic_isColumn x1 S) (fun r2 S1 =>
  if r2 = 0 then
    (Ic_at_16 a0 S1)
  else
    (iz_bI (Ic_within x2 0 5 S1) (fun r4 S3 =>
    if r4 = 0 then
      (Ic_at_16 a0 S3)
    else
      (iz_bI (Ho_blockAt (iz_rf a0 3) x1 x2 S3) (fun r6 S5 =>
      if r6 < 0 then
        iz_bI (Ic_finding a0 2 S5) (fun r8 S7 =>
        (Ic_at_45 a0 r8 S7))
      else
        (Ic_at_45 a0 r6 S5)))))))
set_option maxRecDepth 10000 in
theorem c_Ic_at_16 {X : iz_X} {l : Launch} {a0 : Nat} (h0 : iz_sh a0 = (9 + 3, 11)) (S : iz_S) : iz_Y X l RX9 tX9_at 4 2 (iz_Kc X l yX9_at cX9_at 4 (some .int) 2 iz_eI) 16 [(0, .ref (X.1 a0))] [] S (Ic_at_16 a0 S) := by
  unfold Ic_at_16
  refine iz_aload_n (n := 0) 8 0 rfl rfl ?_
  refine iz_iconst (v := 1) 9 (by decide) rfl ?_
  refine iz_callVI (As := [.int 1]) (rest := []) 10 ml_X9_89 cw_X9_finding ci_X9_finding h0 (fun r9 hr9 => m_Ic_finding h0 hr9) rfl (by decide) (by decide) rfl rfl (Nat.le_of_ble_eq_true rfl) (fun r10 S9 => ?_)
  exact iz_iret 11 rfl
set_option maxRecDepth 10000 in
theorem c_Ic_at_45 {X : iz_X} {l : Launch} {a0 : Nat} (h0 : iz_sh a0 = (9 + 3, 11)) (s0 : Int32) (S : iz_S) : iz_Y X l RX9 tX9_at 4 2 (iz_Kc X l yX9_at cX9_at 4 (some .int) 2 iz_eI) 45 [] [.int s0] S (Ic_at_45 a0 s0 S) := by
  unfold Ic_at_45
  exact iz_iret 25 rfl
set_option maxRecDepth 10000 in
theorem c_Ic_at {X : iz_X} {l : Launch} {a0 : Nat} (h0 : iz_sh a0 = (9 + 3, 11)) (x1 : Int32) (x2 : Int32) (S : iz_S) : iz_Y X l RX9 tX9_at 4 2 (iz_Kc X l yX9_at cX9_at 4 (some .int) 2 iz_eI) 0 [(0, .ref (X.1 a0)), (1, .int x1), (2, .int x2)] [] S (Ic_at a0 x1 x2 S) := by
  unfold Ic_at
  refine iz_iload_n (n := 1) 0 1 rfl rfl ?_
  refine iz_callSI (As := [.int x1]) (rest := []) 1 ml_X9_175 cw_X9_isColumn ci_X9_isColumn (fun r9 hr9 => m_Ic_isColumn  hr9) rfl (by decide) rfl rfl (Nat.le_of_ble_eq_true rfl) (fun r2 S1 => ?_)
  refine iz_if_eq (tgt := 16) 2 rfl (by decide) ?_ ?_
  · exact iz_sub [0] rfl (c_Ic_at_16 h0 S1)
  · refine iz_iload_n (n := 2) 3 2 rfl rfl ?_
    refine iz_iconst (v := 0) 4 (by decide) rfl ?_
    refine iz_iconst (v := 5) 5 (by decide) rfl ?_
    refine iz_callSI (As := [.int x2, .int 0, .int 5]) (rest := []) 6 ml_X9_85 cw_X9_within ci_X9_within (fun r9 hr9 => m_Ic_within  hr9) rfl (by decide) rfl rfl (Nat.le_of_ble_eq_true rfl) (fun r4 S3 => ?_)
    refine iz_if_ne (tgt := 22) 7 rfl (by decide) ?_ ?_
    · refine iz_aload_n (n := 0) 12 0 rfl rfl ?_
      refine iz_getR 13 3 h0 fl_X9_35 rfl (by decide) (by decide) rfl ?_
      refine iz_iload_n (n := 1) 14 1 rfl rfl ?_
      refine iz_iload_n (n := 2) 15 2 rfl rfl ?_
      refine iz_callVI (As := [.int x1, .int x2]) (rest := []) 16 ml_X9_221 cw_X1_blockAt ci_X1_blockAt (sf_9_3 h0) (fun r9 hr9 => m_Ho_blockAt (sf_9_3 h0) hr9) rfl (by decide) (by decide) rfl rfl (Nat.le_of_ble_eq_true rfl) (fun r6 S5 => ?_)
      refine iz_istore_n (n := 3) (ls2 := [(0, .ref (X.1 a0)), (3, .int r6)]) 17 [1, 0] rfl (by decide) rfl ?_
      refine iz_iload_n (n := 3) 18 1 rfl rfl ?_
      refine iz_if_ge (tgt := 44) 19 rfl (by decide) ?_ ?_
      · refine iz_iload_n (n := 3) 24 1 rfl rfl ?_
        exact iz_sub [] rfl (c_Ic_at_45 h0 r6 S5)
      · refine iz_aload_n (n := 0) 20 0 rfl rfl ?_
        refine iz_iconst (v := 2) 21 (by decide) rfl ?_
        refine iz_callVI (As := [.int 2]) (rest := []) 22 ml_X9_89 cw_X9_finding ci_X9_finding h0 (fun r9 hr9 => m_Ic_finding h0 hr9) rfl (by decide) (by decide) rfl rfl (Nat.le_of_ble_eq_true rfl) (fun r8 S7 => ?_)
        refine iz_goto (tgt := 45) 23 (by decide) rfl ?_
        exact iz_sub [] rfl (c_Ic_at_45 h0 r8 S7)
    · exact iz_sub [0] rfl (c_Ic_at_16 h0 S3)
theorem m_Ic_at {X : iz_X} {l : Launch} {a0 : Nat} (h0 : iz_sh a0 = (9 + 3, 11)) {x1 : Int32} {x2 : Int32} {S : iz_S} {r9 : Int32 × iz_S} (hr : Ic_at a0 x1 x2 S = some r9) : iz_Mt X l 2 yX9_at cX9_at 4 (some .int) [.ref (X.1 a0), .int x1, .int x2] S (iz_eI r9) :=
  iz_Mt_of (dt := tX9_at) dX9_at (by decide) hr (Nat.le_of_ble_eq_true rfl) (c_Ic_at h0 x1 x2 S)
def Ic_dust_19 (a0 : Nat) (S : iz_S) : Option (Int32 × iz_S) :=
  iz_bI (Ic_finding a0 1 S) (fun r8 S7 =>
  some (r8, S7))
def Ic_dust (a0 : Nat) (x1 : Int32) (x2 : Int32) (S : iz_S) : Option (Int32 × iz_S) :=
  (iz_bI (Ic_within x1 0 3 S) (fun r2 S1 =>
  if r2 = 0 then
    (Ic_dust_19 a0 S1)
  else
    (iz_bI (Ic_within x2 0 10 S1) (fun r4 S3 =>
    if r4 = 0 then
      (Ic_dust_19 a0 S3)
    else
      iz_bI (Ic_exchange (iz_rf (iz_rf a0 2) 0) x1 x2 S3) (fun r6 S5 =>
      some (r6, S5))))))
set_option maxRecDepth 10000 in
theorem c_Ic_dust_19 {X : iz_X} {l : Launch} {a0 : Nat} (h0 : iz_sh a0 = (9 + 3, 11)) (S : iz_S) : iz_Y X l RX9 tX9_dust 3 1 (iz_Kc X l yX9_dust cX9_dust 3 (some .int) 1 iz_eI) 19 [(0, .ref (X.1 a0))] [] S (Ic_dust_19 a0 S) := by
  unfold Ic_dust_19
  refine iz_aload_n (n := 0) 10 0 rfl rfl ?_
  refine iz_iconst (v := 1) 11 (by decide) rfl ?_
  refine iz_callVI (As := [.int 1]) (rest := []) 12 ml_X9_89 cw_X9_finding ci_X9_finding h0 (fun r9 hr9 => m_Ic_finding h0 hr9) rfl (by decide) (by decide) rfl rfl (Nat.le_of_ble_eq_true rfl) (fun r8 S7 => ?_)
  exact iz_iret 13 rfl
set_option maxRecDepth 10000 in
theorem c_Ic_dust {X : iz_X} {l : Launch} {a0 : Nat} (h0 : iz_sh a0 = (9 + 3, 11)) (x1 : Int32) (x2 : Int32) (S : iz_S) : iz_Y X l RX9 tX9_dust 3 1 (iz_Kc X l yX9_dust cX9_dust 3 (some .int) 1 iz_eI) 0 [(0, .ref (X.1 a0)), (1, .int x1), (2, .int x2)] [] S (Ic_dust a0 x1 x2 S) := by
  unfold Ic_dust
  refine iz_iload_n (n := 1) 0 1 rfl rfl ?_
  refine iz_iconst (v := 0) 1 (by decide) rfl ?_
  refine iz_iconst (v := 3) 2 (by decide) rfl ?_
  refine iz_callSI (As := [.int x1, .int 0, .int 3]) (rest := []) 3 ml_X9_85 cw_X9_within ci_X9_within (fun r9 hr9 => m_Ic_within  hr9) rfl (by decide) rfl rfl (Nat.le_of_ble_eq_true rfl) (fun r2 S1 => ?_)
  refine iz_if_eq (tgt := 19) 4 rfl (by decide) ?_ ?_
  · exact iz_sub [0] rfl (c_Ic_dust_19 h0 S1)
  · refine iz_iload_n (n := 2) 5 2 rfl rfl ?_
    refine iz_iconst (v := 0) 6 (by decide) rfl ?_
    refine iz_bipush (v := 10) 7 (by decide) rfl ?_
    refine iz_callSI (As := [.int x2, .int 0, .int 10]) (rest := []) 8 ml_X9_85 cw_X9_within ci_X9_within (fun r9 hr9 => m_Ic_within  hr9) rfl (by decide) rfl rfl (Nat.le_of_ble_eq_true rfl) (fun r4 S3 => ?_)
    refine iz_if_ne (tgt := 25) 9 rfl (by decide) ?_ ?_
    · refine iz_aload_n (n := 0) 14 0 rfl rfl ?_
      refine iz_getR 15 2 h0 fl_X9_26 rfl (by decide) (by decide) rfl ?_
      refine iz_getR 16 0 (sf_9_2 h0) fl_X9_224 rfl (by decide) (by decide) rfl ?_
      refine iz_iload_n (n := 1) 17 1 rfl rfl ?_
      refine iz_iload_n (n := 2) 18 2 rfl rfl ?_
      refine iz_callSI (As := [.ref (X.1 (iz_rf (iz_rf a0 2) 0)), .int x1, .int x2]) (rest := []) 19 ml_X9_227 cw_X9_exchange ci_X9_exchange (fun r9 hr9 => m_Ic_exchange (iz_shI (sf_7_0 (sf_9_2 h0))) hr9) rfl (by decide) rfl rfl (Nat.le_of_ble_eq_true rfl) (fun r6 S5 => ?_)
      exact iz_iret 20 rfl
    · exact iz_sub [0] rfl (c_Ic_dust_19 h0 S3)
theorem m_Ic_dust {X : iz_X} {l : Launch} {a0 : Nat} (h0 : iz_sh a0 = (9 + 3, 11)) {x1 : Int32} {x2 : Int32} {S : iz_S} {r9 : Int32 × iz_S} (hr : Ic_dust a0 x1 x2 S = some r9) : iz_Mt X l 1 yX9_dust cX9_dust 3 (some .int) [.ref (X.1 a0), .int x1, .int x2] S (iz_eI r9) :=
  iz_Mt_of (dt := tX9_dust) dX9_dust (by decide) hr (Nat.le_of_ble_eq_true rfl) (c_Ic_dust h0 x1 x2 S)
def Ic_cover_17 (a0 : Nat) (S : iz_S) : Option (Int32 × iz_S) :=
  iz_bI (Ic_finding a0 1 S) (fun r8 S7 =>
  some (r8, S7))
def Ic_cover (a0 : Nat) (x1 : Int32) (x2 : Int32) (S : iz_S) : Option (Int32 × iz_S) :=
  (iz_bI (Ic_isColumn x1 S) (fun r2 S1 =>
  if r2 = 0 then
    (Ic_cover_17 a0 S1)
  else
    (iz_bI (Ic_within x2 0 10 S1) (fun r4 S3 =>
    if r4 = 0 then
      (Ic_cover_17 a0 S3)
    else
      iz_bI (Ic_exchange (iz_rf (iz_rf a0 2) 1) x1 x2 S3) (fun r6 S5 =>
      some (r6, S5))))))
set_option maxRecDepth 10000 in
theorem c_Ic_cover_17 {X : iz_X} {l : Launch} {a0 : Nat} (h0 : iz_sh a0 = (9 + 3, 11)) (S : iz_S) : iz_Y X l RX9 tX9_cover 3 2 (iz_Kc X l yX9_cover cX9_cover 3 (some .int) 2 iz_eI) 17 [(0, .ref (X.1 a0))] [] S (Ic_cover_17 a0 S) := by
  unfold Ic_cover_17
  refine iz_aload_n (n := 0) 8 0 rfl rfl ?_
  refine iz_iconst (v := 1) 9 (by decide) rfl ?_
  refine iz_callVI (As := [.int 1]) (rest := []) 10 ml_X9_89 cw_X9_finding ci_X9_finding h0 (fun r9 hr9 => m_Ic_finding h0 hr9) rfl (by decide) (by decide) rfl rfl (Nat.le_of_ble_eq_true rfl) (fun r8 S7 => ?_)
  exact iz_iret 11 rfl
set_option maxRecDepth 10000 in
theorem c_Ic_cover {X : iz_X} {l : Launch} {a0 : Nat} (h0 : iz_sh a0 = (9 + 3, 11)) (x1 : Int32) (x2 : Int32) (S : iz_S) : iz_Y X l RX9 tX9_cover 3 2 (iz_Kc X l yX9_cover cX9_cover 3 (some .int) 2 iz_eI) 0 [(0, .ref (X.1 a0)), (1, .int x1), (2, .int x2)] [] S (Ic_cover a0 x1 x2 S) := by
  unfold Ic_cover
  refine iz_iload_n (n := 1) 0 1 rfl rfl ?_
  refine iz_callSI (As := [.int x1]) (rest := []) 1 ml_X9_175 cw_X9_isColumn ci_X9_isColumn (fun r9 hr9 => m_Ic_isColumn  hr9) rfl (by decide) rfl rfl (Nat.le_of_ble_eq_true rfl) (fun r2 S1 => ?_)
  refine iz_if_eq (tgt := 17) 2 rfl (by decide) ?_ ?_
  · exact iz_sub [0] rfl (c_Ic_cover_17 h0 S1)
  · refine iz_iload_n (n := 2) 3 2 rfl rfl ?_
    refine iz_iconst (v := 0) 4 (by decide) rfl ?_
    refine iz_bipush (v := 10) 5 (by decide) rfl ?_
    refine iz_callSI (As := [.int x2, .int 0, .int 10]) (rest := []) 6 ml_X9_85 cw_X9_within ci_X9_within (fun r9 hr9 => m_Ic_within  hr9) rfl (by decide) rfl rfl (Nat.le_of_ble_eq_true rfl) (fun r4 S3 => ?_)
    refine iz_if_ne (tgt := 23) 7 rfl (by decide) ?_ ?_
    · refine iz_aload_n (n := 0) 12 0 rfl rfl ?_
      refine iz_getR 13 2 h0 fl_X9_26 rfl (by decide) (by decide) rfl ?_
      refine iz_getR 14 1 (sf_9_2 h0) fl_X9_231 rfl (by decide) (by decide) rfl ?_
      refine iz_iload_n (n := 1) 15 1 rfl rfl ?_
      refine iz_iload_n (n := 2) 16 2 rfl rfl ?_
      refine iz_callSI (As := [.ref (X.1 (iz_rf (iz_rf a0 2) 1)), .int x1, .int x2]) (rest := []) 17 ml_X9_227 cw_X9_exchange ci_X9_exchange (fun r9 hr9 => m_Ic_exchange (iz_shI (sf_7_1 (sf_9_2 h0))) hr9) rfl (by decide) rfl rfl (Nat.le_of_ble_eq_true rfl) (fun r6 S5 => ?_)
      exact iz_iret 18 rfl
    · exact iz_sub [0] rfl (c_Ic_cover_17 h0 S3)
theorem m_Ic_cover {X : iz_X} {l : Launch} {a0 : Nat} (h0 : iz_sh a0 = (9 + 3, 11)) {x1 : Int32} {x2 : Int32} {S : iz_S} {r9 : Int32 × iz_S} (hr : Ic_cover a0 x1 x2 S = some r9) : iz_Mt X l 2 yX9_cover cX9_cover 3 (some .int) [.ref (X.1 a0), .int x1, .int x2] S (iz_eI r9) :=
  iz_Mt_of (dt := tX9_cover) dX9_cover (by decide) hr (Nat.le_of_ble_eq_true rfl) (c_Ic_cover h0 x1 x2 S)
def Ic_warmth_20 (a0 : Nat) (S : iz_S) : Option (Int32 × iz_S) :=
  iz_bI (Ic_finding a0 1 S) (fun r8 S7 =>
  some (r8, S7))
def Ic_warmth (a0 : Nat) (x1 : Int32) (x2 : Int32) (S : iz_S) : Option (Int32 × iz_S) :=
  (iz_bI (Ic_within x1 0 99 S) (fun r2 S1 =>
  if r2 = 0 then
    (Ic_warmth_20 a0 S1)
  else
    (iz_bI (Ic_within x2 0 40 S1) (fun r4 S3 =>
    if r4 = 0 then
      (Ic_warmth_20 a0 S3)
    else
      iz_bI (Ic_exchange (iz_rf (iz_rf a0 2) 2) x1 x2 S3) (fun r6 S5 =>
      some (r6, S5))))))
set_option maxRecDepth 10000 in
theorem c_Ic_warmth_20 {X : iz_X} {l : Launch} {a0 : Nat} (h0 : iz_sh a0 = (9 + 3, 11)) (S : iz_S) : iz_Y X l RX9 tX9_warmth 3 1 (iz_Kc X l yX9_warmth cX9_warmth 3 (some .int) 1 iz_eI) 20 [(0, .ref (X.1 a0))] [] S (Ic_warmth_20 a0 S) := by
  unfold Ic_warmth_20
  refine iz_aload_n (n := 0) 10 0 rfl rfl ?_
  refine iz_iconst (v := 1) 11 (by decide) rfl ?_
  refine iz_callVI (As := [.int 1]) (rest := []) 12 ml_X9_89 cw_X9_finding ci_X9_finding h0 (fun r9 hr9 => m_Ic_finding h0 hr9) rfl (by decide) (by decide) rfl rfl (Nat.le_of_ble_eq_true rfl) (fun r8 S7 => ?_)
  exact iz_iret 13 rfl
set_option maxRecDepth 10000 in
theorem c_Ic_warmth {X : iz_X} {l : Launch} {a0 : Nat} (h0 : iz_sh a0 = (9 + 3, 11)) (x1 : Int32) (x2 : Int32) (S : iz_S) : iz_Y X l RX9 tX9_warmth 3 1 (iz_Kc X l yX9_warmth cX9_warmth 3 (some .int) 1 iz_eI) 0 [(0, .ref (X.1 a0)), (1, .int x1), (2, .int x2)] [] S (Ic_warmth a0 x1 x2 S) := by
  unfold Ic_warmth
  refine iz_iload_n (n := 1) 0 1 rfl rfl ?_
  refine iz_iconst (v := 0) 1 (by decide) rfl ?_
  refine iz_bipush (v := 99) 2 (by decide) rfl ?_
  refine iz_callSI (As := [.int x1, .int 0, .int 99]) (rest := []) 3 ml_X9_85 cw_X9_within ci_X9_within (fun r9 hr9 => m_Ic_within  hr9) rfl (by decide) rfl rfl (Nat.le_of_ble_eq_true rfl) (fun r2 S1 => ?_)
  refine iz_if_eq (tgt := 20) 4 rfl (by decide) ?_ ?_
  · exact iz_sub [0] rfl (c_Ic_warmth_20 h0 S1)
  · refine iz_iload_n (n := 2) 5 2 rfl rfl ?_
    refine iz_iconst (v := 0) 6 (by decide) rfl ?_
    refine iz_bipush (v := 40) 7 (by decide) rfl ?_
    refine iz_callSI (As := [.int x2, .int 0, .int 40]) (rest := []) 8 ml_X9_85 cw_X9_within ci_X9_within (fun r9 hr9 => m_Ic_within  hr9) rfl (by decide) rfl rfl (Nat.le_of_ble_eq_true rfl) (fun r4 S3 => ?_)
    refine iz_if_ne (tgt := 26) 9 rfl (by decide) ?_ ?_
    · refine iz_aload_n (n := 0) 14 0 rfl rfl ?_
      refine iz_getR 15 2 h0 fl_X9_26 rfl (by decide) (by decide) rfl ?_
      refine iz_getR 16 2 (sf_9_2 h0) fl_X9_234 rfl (by decide) (by decide) rfl ?_
      refine iz_iload_n (n := 1) 17 1 rfl rfl ?_
      refine iz_iload_n (n := 2) 18 2 rfl rfl ?_
      refine iz_callSI (As := [.ref (X.1 (iz_rf (iz_rf a0 2) 2)), .int x1, .int x2]) (rest := []) 19 ml_X9_227 cw_X9_exchange ci_X9_exchange (fun r9 hr9 => m_Ic_exchange (iz_shI (sf_7_2 (sf_9_2 h0))) hr9) rfl (by decide) rfl rfl (Nat.le_of_ble_eq_true rfl) (fun r6 S5 => ?_)
      exact iz_iret 20 rfl
    · exact iz_sub [0] rfl (c_Ic_warmth_20 h0 S3)
theorem m_Ic_warmth {X : iz_X} {l : Launch} {a0 : Nat} (h0 : iz_sh a0 = (9 + 3, 11)) {x1 : Int32} {x2 : Int32} {S : iz_S} {r9 : Int32 × iz_S} (hr : Ic_warmth a0 x1 x2 S = some r9) : iz_Mt X l 1 yX9_warmth cX9_warmth 3 (some .int) [.ref (X.1 a0), .int x1, .int x2] S (iz_eI r9) :=
  iz_Mt_of (dt := tX9_warmth) dX9_warmth (by decide) hr (Nat.le_of_ble_eq_true rfl) (c_Ic_warmth h0 x1 x2 S)
def Ic_melts (a0 : Nat) (S : iz_S) : Option (Int32 × iz_S) :=
  iz_bI (Ho_allMelts (iz_rf a0 3) S) (fun r2 S1 =>
  some (r2, S1))
set_option maxRecDepth 10000 in
theorem c_Ic_melts {X : iz_X} {l : Launch} {a0 : Nat} (h0 : iz_sh a0 = (9 + 3, 11)) (S : iz_S) : iz_Y X l RX9 tX9_melts 1 5 (iz_Kc X l yX9_melts cX9_melts 1 (some .int) 5 iz_eI) 0 [(0, .ref (X.1 a0))] [] S (Ic_melts a0 S) := by
  unfold Ic_melts
  refine iz_aload_n (n := 0) 0 0 rfl rfl ?_
  refine iz_getR 1 3 h0 fl_X9_35 rfl (by decide) (by decide) rfl ?_
  refine iz_callVI (As := []) (rest := []) 2 ml_X9_237 cw_X1_allMelts ci_X1_allMelts (sf_9_3 h0) (fun r9 hr9 => m_Ho_allMelts (sf_9_3 h0) hr9) rfl (by decide) (by decide) rfl rfl (Nat.le_of_ble_eq_true rfl) (fun r2 S1 => ?_)
  exact iz_iret 3 rfl
theorem m_Ic_melts {X : iz_X} {l : Launch} {a0 : Nat} (h0 : iz_sh a0 = (9 + 3, 11)) {S : iz_S} {r9 : Int32 × iz_S} (hr : Ic_melts a0 S = some r9) : iz_Mt X l 5 yX9_melts cX9_melts 1 (some .int) [.ref (X.1 a0)] S (iz_eI r9) :=
  iz_Mt_of (dt := tX9_melts) dX9_melts (by decide) hr (Nat.le_of_ble_eq_true rfl) (c_Ic_melts h0 S)
def Ic_weeks (a0 : Nat) (x1 : Int32) (S : iz_S) : Option (Int32 × iz_S) :=
  (iz_bI (Ic_within x1 1 20 S) (fun r2 S1 =>
  if r2 = 0 then
    iz_bI (Ic_finding a0 1 S1) (fun r9 S8 =>
    some (r9, S8))
  else
    (if ((S1.1 (iz_rf a0 3) 5) + x1) ≤ 100 then
      iz_bV (Ho_passWeeks (iz_rf a0 3) x1 S1) (fun S3 =>
      iz_bI (Ho_allWeight (iz_rf a0 3) S3) (fun r5 S4 =>
      some (r5, S4)))
    else
      iz_bI (Ic_finding a0 4 S1) (fun r7 S6 =>
      some (r7, S6)))))
set_option maxRecDepth 10000 in
theorem c_Ic_weeks {X : iz_X} {l : Launch} {a0 : Nat} (h0 : iz_sh a0 = (9 + 3, 11)) (x1 : Int32) (S : iz_S) : iz_Y X l RX9 tX9_weeks 2 6 (iz_Kc X l yX9_weeks cX9_weeks 2 (some .int) 6 iz_eI) 0 [(0, .ref (X.1 a0)), (1, .int x1)] [] S (Ic_weeks a0 x1 S) := by
  unfold Ic_weeks
  refine iz_iload_n (n := 1) 0 1 rfl rfl ?_
  refine iz_iconst (v := 1) 1 (by decide) rfl ?_
  refine iz_bipush (v := 20) 2 (by decide) rfl ?_
  refine iz_callSI (As := [.int x1, .int 1, .int 20]) (rest := []) 3 ml_X9_85 cw_X9_within ci_X9_within (fun r9 hr9 => m_Ic_within  hr9) rfl (by decide) rfl rfl (Nat.le_of_ble_eq_true rfl) (fun r2 S1 => ?_)
  refine iz_if_ne (tgt := 16) 4 rfl (by decide) ?_ ?_
  · refine iz_aload_n (n := 0) 9 0 rfl rfl ?_
    refine iz_getR 10 3 h0 fl_X9_35 rfl (by decide) (by decide) rfl ?_
    refine iz_getI 11 5 (sf_9_3 h0) fl_X9_240 rfl (by decide) (by decide) rfl ?_
    refine iz_iload_n (n := 1) 12 1 rfl rfl ?_
    refine iz_iadd 13 rfl ?_
    refine iz_bipush (v := 100) 14 (by decide) rfl ?_
    refine iz_cmp_le (tgt := 36) 15 rfl (by decide) ?_ ?_
    · refine iz_aload_n (n := 0) 20 0 rfl rfl ?_
      refine iz_getR 21 3 h0 fl_X9_35 rfl (by decide) (by decide) rfl ?_
      refine iz_iload_n (n := 1) 22 1 rfl rfl ?_
      refine iz_callVV (As := [.int x1]) (rest := []) 23 ml_X9_243 cw_X1_passWeeks ci_X1_passWeeks (sf_9_3 h0) (fun r9 hr9 => m_Ho_passWeeks (sf_9_3 h0) hr9) rfl (by decide) (by decide) rfl rfl (Nat.le_of_ble_eq_true rfl) (fun S3 => ?_)
      refine iz_aload_n (n := 0) 24 0 rfl rfl ?_
      refine iz_getR 25 3 h0 fl_X9_35 rfl (by decide) (by decide) rfl ?_
      refine iz_callVI (As := []) (rest := []) 26 ml_X9_246 cw_X1_allWeight ci_X1_allWeight (sf_9_3 h0) (fun r9 hr9 => m_Ho_allWeight (sf_9_3 h0) hr9) rfl (by decide) (by decide) rfl rfl (Nat.le_of_ble_eq_true rfl) (fun r5 S4 => ?_)
      exact iz_iret 27 rfl
    · refine iz_aload_n (n := 0) 16 0 rfl rfl ?_
      refine iz_iconst (v := 4) 17 (by decide) rfl ?_
      refine iz_callVI (As := [.int 4]) (rest := []) 18 ml_X9_89 cw_X9_finding ci_X9_finding h0 (fun r9 hr9 => m_Ic_finding h0 hr9) rfl (by decide) (by decide) rfl rfl (Nat.le_of_ble_eq_true rfl) (fun r7 S6 => ?_)
      exact iz_iret 19 rfl
  · refine iz_aload_n (n := 0) 5 0 rfl rfl ?_
    refine iz_iconst (v := 1) 6 (by decide) rfl ?_
    refine iz_callVI (As := [.int 1]) (rest := []) 7 ml_X9_89 cw_X9_finding ci_X9_finding h0 (fun r9 hr9 => m_Ic_finding h0 hr9) rfl (by decide) (by decide) rfl rfl (Nat.le_of_ble_eq_true rfl) (fun r9 S8 => ?_)
    exact iz_iret 8 rfl
theorem m_Ic_weeks {X : iz_X} {l : Launch} {a0 : Nat} (h0 : iz_sh a0 = (9 + 3, 11)) {x1 : Int32} {S : iz_S} {r9 : Int32 × iz_S} (hr : Ic_weeks a0 x1 S = some r9) : iz_Mt X l 6 yX9_weeks cX9_weeks 2 (some .int) [.ref (X.1 a0), .int x1] S (iz_eI r9) :=
  iz_Mt_of (dt := tX9_weeks) dX9_weeks (by decide) hr (Nat.le_of_ble_eq_true rfl) (c_Ic_weeks h0 x1 S)
def Ic_after (a0 : Nat) (x1 : Int32) (S : iz_S) : Option (Int32 × iz_S) :=
  (iz_bI (Ic_within x1 0 20 S) (fun r2 S1 =>
  if r2 = 0 then
    iz_bI (Ic_finding a0 1 S1) (fun r8 S7 =>
    some (r8, S7))
  else
    iz_bV (Ho_becomeLike (iz_rf a0 4) (iz_rf a0 3) S1) (fun S3 =>
    iz_bV (Ho_passWeeks (iz_rf a0 4) x1 S3) (fun S4 =>
    iz_bI (Ho_allWeight (iz_rf a0 4) S4) (fun r6 S5 =>
    some (r6, S5))))))
set_option maxRecDepth 10000 in
theorem c_Ic_after {X : iz_X} {l : Launch} {a0 : Nat} (h0 : iz_sh a0 = (9 + 3, 11)) (x1 : Int32) (S : iz_S) : iz_Y X l RX9 tX9_after 2 6 (iz_Kc X l yX9_after cX9_after 2 (some .int) 6 iz_eI) 0 [(0, .ref (X.1 a0)), (1, .int x1)] [] S (Ic_after a0 x1 S) := by
  unfold Ic_after
  refine iz_iload_n (n := 1) 0 1 rfl rfl ?_
  refine iz_iconst (v := 0) 1 (by decide) rfl ?_
  refine iz_bipush (v := 20) 2 (by decide) rfl ?_
  refine iz_callSI (As := [.int x1, .int 0, .int 20]) (rest := []) 3 ml_X9_85 cw_X9_within ci_X9_within (fun r9 hr9 => m_Ic_within  hr9) rfl (by decide) rfl rfl (Nat.le_of_ble_eq_true rfl) (fun r2 S1 => ?_)
  refine iz_if_ne (tgt := 16) 4 rfl (by decide) ?_ ?_
  · refine iz_aload_n (n := 0) 9 0 rfl rfl ?_
    refine iz_getR 10 4 h0 fl_X9_39 rfl (by decide) (by decide) rfl ?_
    refine iz_aload_n (n := 0) 11 0 rfl rfl ?_
    refine iz_getR 12 3 h0 fl_X9_35 rfl (by decide) (by decide) rfl ?_
    refine iz_callVV (As := [.ref (X.1 (iz_rf a0 3))]) (rest := []) 13 ml_X9_249 cw_X1_becomeLike ci_X1_becomeLike (sf_9_4 h0) (fun r9 hr9 => m_Ho_becomeLike (sf_9_4 h0) (sf_9_3 h0) hr9) rfl (by decide) (by decide) rfl rfl (Nat.le_of_ble_eq_true rfl) (fun S3 => ?_)
    refine iz_aload_n (n := 0) 14 0 rfl rfl ?_
    refine iz_getR 15 4 h0 fl_X9_39 rfl (by decide) (by decide) rfl ?_
    refine iz_iload_n (n := 1) 16 1 rfl rfl ?_
    refine iz_callVV (As := [.int x1]) (rest := []) 17 ml_X9_243 cw_X1_passWeeks ci_X1_passWeeks (sf_9_4 h0) (fun r9 hr9 => m_Ho_passWeeks (sf_9_4 h0) hr9) rfl (by decide) (by decide) rfl rfl (Nat.le_of_ble_eq_true rfl) (fun S4 => ?_)
    refine iz_aload_n (n := 0) 18 0 rfl rfl ?_
    refine iz_getR 19 4 h0 fl_X9_39 rfl (by decide) (by decide) rfl ?_
    refine iz_callVI (As := []) (rest := []) 20 ml_X9_246 cw_X1_allWeight ci_X1_allWeight (sf_9_4 h0) (fun r9 hr9 => m_Ho_allWeight (sf_9_4 h0) hr9) rfl (by decide) (by decide) rfl rfl (Nat.le_of_ble_eq_true rfl) (fun r6 S5 => ?_)
    exact iz_iret 21 rfl
  · refine iz_aload_n (n := 0) 5 0 rfl rfl ?_
    refine iz_iconst (v := 1) 6 (by decide) rfl ?_
    refine iz_callVI (As := [.int 1]) (rest := []) 7 ml_X9_89 cw_X9_finding ci_X9_finding h0 (fun r9 hr9 => m_Ic_finding h0 hr9) rfl (by decide) (by decide) rfl rfl (Nat.le_of_ble_eq_true rfl) (fun r8 S7 => ?_)
    exact iz_iret 8 rfl
theorem m_Ic_after {X : iz_X} {l : Launch} {a0 : Nat} (h0 : iz_sh a0 = (9 + 3, 11)) {x1 : Int32} {S : iz_S} {r9 : Int32 × iz_S} (hr : Ic_after a0 x1 S = some r9) : iz_Mt X l 6 yX9_after cX9_after 2 (some .int) [.ref (X.1 a0), .int x1] S (iz_eI r9) :=
  iz_Mt_of (dt := tX9_after) dX9_after (by decide) hr (Nat.le_of_ble_eq_true rfl) (c_Ic_after h0 x1 S)
def Ic_lasts_29b (a0 : Nat) (k29 : Int32 → Int32 → iz_S → Option (Int32 × iz_S)) (x1 : Int32) (x2 : Int32) (S : iz_S) : Option (Int32 × iz_S) :=
  (if x2 ≤ 20 then
    (iz_bI (Ho_allWeight (iz_rf a0 4) S) (fun r9 S8 =>
    if r9 < x1 then
      some (x2, S8)
    else
      iz_bV (Ho_passWeeks (iz_rf a0 4) 1 S8) (fun S10 =>
      (k29 x1 (x2 + 1) S10))))
  else
    iz_bI (Ic_finding a0 2 S) (fun r7 S6 =>
    some (r7, S6)))
def Ic_lasts_29 (a0 : Nat) : Nat → Int32 → Int32 → iz_S → Option (Int32 × iz_S)
  | 0 => fun _ _ _ => none
  | n9 + 1 => Ic_lasts_29b a0 (Ic_lasts_29 a0 n9)
def Ic_lasts (a0 : Nat) (x1 : Int32) (S : iz_S) : Option (Int32 × iz_S) :=
  (iz_bI (Ic_within x1 1 100000 S) (fun r2 S1 =>
  if r2 = 0 then
    iz_bI (Ic_finding a0 1 S1) (fun r5 S4 =>
    some (r5, S4))
  else
    iz_bV (Ho_becomeLike (iz_rf a0 4) (iz_rf a0 3) S1) (fun S3 =>
    (Ic_lasts_29 a0 iz_FU x1 0 S3))))
set_option maxRecDepth 10000 in
theorem c_Ic_lasts_29b {X : iz_X} {l : Launch} {a0 : Nat} (h0 : iz_sh a0 = (9 + 3, 11)) {k29 : Int32 → Int32 → iz_S → Option (Int32 × iz_S)} (hk29 : ∀ (x1 : Int32) (x2 : Int32) (S : iz_S), iz_Y X l RX9 tX9_lasts 3 6 (iz_Kc X l yX9_lasts cX9_lasts 3 (some .int) 6 iz_eI) 29 [(0, .ref (X.1 a0)), (1, .int x1), (2, .int x2)] [] S (k29 x1 x2 S)) (x1 : Int32) (x2 : Int32) (S : iz_S) : iz_Y X l RX9 tX9_lasts 3 6 (iz_Kc X l yX9_lasts cX9_lasts 3 (some .int) 6 iz_eI) 29 [(0, .ref (X.1 a0)), (1, .int x1), (2, .int x2)] [] S (Ic_lasts_29b a0 k29 x1 x2 S) := by
  unfold Ic_lasts_29b
  refine iz_iload_n (n := 2) 16 2 rfl rfl ?_
  refine iz_bipush (v := 20) 17 (by decide) rfl ?_
  refine iz_cmp_gt (tgt := 62) 18 rfl (by decide) ?_ ?_
  · refine iz_aload_n (n := 0) 32 0 rfl rfl ?_
    refine iz_iconst (v := 2) 33 (by decide) rfl ?_
    refine iz_callVI (As := [.int 2]) (rest := []) 34 ml_X9_89 cw_X9_finding ci_X9_finding h0 (fun r9 hr9 => m_Ic_finding h0 hr9) rfl (by decide) (by decide) rfl rfl (Nat.le_of_ble_eq_true rfl) (fun r7 S6 => ?_)
    exact iz_iret 35 rfl
  · refine iz_aload_n (n := 0) 19 0 rfl rfl ?_
    refine iz_getR 20 4 h0 fl_X9_39 rfl (by decide) (by decide) rfl ?_
    refine iz_callVI (As := []) (rest := []) 21 ml_X9_246 cw_X1_allWeight ci_X1_allWeight (sf_9_4 h0) (fun r9 hr9 => m_Ho_allWeight (sf_9_4 h0) hr9) rfl (by decide) (by decide) rfl rfl (Nat.le_of_ble_eq_true rfl) (fun r9 S8 => ?_)
    refine iz_iload_n (n := 1) 22 1 rfl rfl ?_
    refine iz_cmp_ge (tgt := 48) 23 rfl (by decide) ?_ ?_
    · refine iz_aload_n (n := 0) 26 0 rfl rfl ?_
      refine iz_getR 27 4 h0 fl_X9_39 rfl (by decide) (by decide) rfl ?_
      refine iz_iconst (v := 1) 28 (by decide) rfl ?_
      refine iz_callVV (As := [.int 1]) (rest := []) 29 ml_X9_243 cw_X1_passWeeks ci_X1_passWeeks (sf_9_4 h0) (fun r9 hr9 => m_Ho_passWeeks (sf_9_4 h0) hr9) rfl (by decide) (by decide) rfl rfl (Nat.le_of_ble_eq_true rfl) (fun S10 => ?_)
      refine iz_iinc (v := (x2 + 1)) (ls2 := [(0, .ref (X.1 a0)), (1, .int x1), (2, .int (x2 + 1))]) 30 2 [1, 2, 0] rfl rfl rfl (by decide) rfl ?_
      refine iz_goto (tgt := 29) 31 (by decide) rfl ?_
      exact hk29 x1 (x2 + 1) S10
    · refine iz_iload_n (n := 2) 24 2 rfl rfl ?_
      exact iz_iret 25 rfl
theorem c_Ic_lasts_29 {X : iz_X} {l : Launch} {a0 : Nat} (h0 : iz_sh a0 = (9 + 3, 11)) : ∀ (n9 : Nat) (x1 : Int32) (x2 : Int32) (S : iz_S), iz_Y X l RX9 tX9_lasts 3 6 (iz_Kc X l yX9_lasts cX9_lasts 3 (some .int) 6 iz_eI) 29 [(0, .ref (X.1 a0)), (1, .int x1), (2, .int x2)] [] S (Ic_lasts_29 a0 n9 x1 x2 S)
  | 0 => by
    intros
    exact iz_none
  | n9 + 1 => c_Ic_lasts_29b h0 (c_Ic_lasts_29 h0 n9)
set_option maxRecDepth 10000 in
theorem c_Ic_lasts {X : iz_X} {l : Launch} {a0 : Nat} (h0 : iz_sh a0 = (9 + 3, 11)) (x1 : Int32) (S : iz_S) : iz_Y X l RX9 tX9_lasts 3 6 (iz_Kc X l yX9_lasts cX9_lasts 3 (some .int) 6 iz_eI) 0 [(0, .ref (X.1 a0)), (1, .int x1)] [] S (Ic_lasts a0 x1 S) := by
  unfold Ic_lasts
  refine iz_iload_n (n := 1) 0 1 rfl rfl ?_
  refine iz_iconst (v := 1) 1 (by decide) rfl ?_
  refine iz_ldc 2 kc_X9_252 rfl ?_
  refine iz_callSI (As := [.int x1, .int 1, .int 100000]) (rest := []) 3 ml_X9_85 cw_X9_within ci_X9_within (fun r9 hr9 => m_Ic_within  hr9) rfl (by decide) rfl rfl (Nat.le_of_ble_eq_true rfl) (fun r2 S1 => ?_)
  refine iz_if_ne (tgt := 16) 4 rfl (by decide) ?_ ?_
  · refine iz_aload_n (n := 0) 9 0 rfl rfl ?_
    refine iz_getR 10 4 h0 fl_X9_39 rfl (by decide) (by decide) rfl ?_
    refine iz_aload_n (n := 0) 11 0 rfl rfl ?_
    refine iz_getR 12 3 h0 fl_X9_35 rfl (by decide) (by decide) rfl ?_
    refine iz_callVV (As := [.ref (X.1 (iz_rf a0 3))]) (rest := []) 13 ml_X9_249 cw_X1_becomeLike ci_X1_becomeLike (sf_9_4 h0) (fun r9 hr9 => m_Ho_becomeLike (sf_9_4 h0) (sf_9_3 h0) hr9) rfl (by decide) (by decide) rfl rfl (Nat.le_of_ble_eq_true rfl) (fun S3 => ?_)
    refine iz_iconst (v := 0) 14 (by decide) rfl ?_
    refine iz_istore_n (n := 2) (ls2 := [(0, .ref (X.1 a0)), (1, .int x1), (2, .int 0)]) 15 [1, 2, 0] rfl (by decide) rfl ?_
    exact c_Ic_lasts_29 h0 iz_FU x1 0 S3
  · refine iz_aload_n (n := 0) 5 0 rfl rfl ?_
    refine iz_iconst (v := 1) 6 (by decide) rfl ?_
    refine iz_callVI (As := [.int 1]) (rest := []) 7 ml_X9_89 cw_X9_finding ci_X9_finding h0 (fun r9 hr9 => m_Ic_finding h0 hr9) rfl (by decide) (by decide) rfl rfl (Nat.le_of_ble_eq_true rfl) (fun r5 S4 => ?_)
    exact iz_iret 8 rfl
theorem m_Ic_lasts {X : iz_X} {l : Launch} {a0 : Nat} (h0 : iz_sh a0 = (9 + 3, 11)) {x1 : Int32} {S : iz_S} {r9 : Int32 × iz_S} (hr : Ic_lasts a0 x1 S = some r9) : iz_Mt X l 6 yX9_lasts cX9_lasts 3 (some .int) [.ref (X.1 a0), .int x1] S (iz_eI r9) :=
  iz_Mt_of (dt := tX9_lasts) dX9_lasts (by decide) hr (Nat.le_of_ble_eq_true rfl) (c_Ic_lasts h0 x1 S)
def Ic_best_19 (a0 : Nat) (S : iz_S) : Option (Int32 × iz_S) :=
  iz_bI (Ic_finding a0 1 S) (fun r7 S6 =>
  some (r7, S6))
def Ic_best_62 (a0 : Nat) (s0 : Int32) (S : iz_S) : Option (Int32 × iz_S) :=
  some (s0, S)
def Ic_best (a0 : Nat) (x1 : Int32) (x2 : Int32) (S : iz_S) : Option (Int32 × iz_S) :=
  (iz_bI (Ic_within x1 0 40 S) (fun r2 S1 =>
  if r2 = 0 then
    (Ic_best_19 a0 S1)
  else
    (iz_bI (Ic_within x2 0 4 S1) (fun r4 S3 =>
    if r4 = 0 then
      (Ic_best_19 a0 S3)
    else
      (iz_bV (Du_plan (iz_rf a0 5) (iz_rf a0 3) x1 S3) (fun S5 =>
      if x2 = 0 then
        (Ic_best_62 a0 (S5.1 (iz_rf a0 5) 0) S5)
      else
        iz_ck (iz_in (x2 - 1) 4) (
        (Ic_best_62 a0 (iz_g S5 (iz_rf (iz_rf a0 5) 1) (x2 - 1)) S5))))))))
set_option maxRecDepth 10000 in
theorem c_Ic_best_19 {X : iz_X} {l : Launch} {a0 : Nat} (h0 : iz_sh a0 = (9 + 3, 11)) (S : iz_S) : iz_Y X l RX9 tX9_best 3 6 (iz_Kc X l yX9_best cX9_best 3 (some .int) 6 iz_eI) 19 [(0, .ref (X.1 a0))] [] S (Ic_best_19 a0 S) := by
  unfold Ic_best_19
  refine iz_aload_n (n := 0) 10 0 rfl rfl ?_
  refine iz_iconst (v := 1) 11 (by decide) rfl ?_
  refine iz_callVI (As := [.int 1]) (rest := []) 12 ml_X9_89 cw_X9_finding ci_X9_finding h0 (fun r9 hr9 => m_Ic_finding h0 hr9) rfl (by decide) (by decide) rfl rfl (Nat.le_of_ble_eq_true rfl) (fun r7 S6 => ?_)
  exact iz_iret 13 rfl
set_option maxRecDepth 10000 in
theorem c_Ic_best_62 {X : iz_X} {l : Launch} {a0 : Nat} (h0 : iz_sh a0 = (9 + 3, 11)) (s0 : Int32) (S : iz_S) : iz_Y X l RX9 tX9_best 3 6 (iz_Kc X l yX9_best cX9_best 3 (some .int) 6 iz_eI) 62 [] [.int s0] S (Ic_best_62 a0 s0 S) := by
  unfold Ic_best_62
  exact iz_iret 33 rfl
set_option maxRecDepth 10000 in
theorem c_Ic_best {X : iz_X} {l : Launch} {a0 : Nat} (h0 : iz_sh a0 = (9 + 3, 11)) (x1 : Int32) (x2 : Int32) (S : iz_S) : iz_Y X l RX9 tX9_best 3 6 (iz_Kc X l yX9_best cX9_best 3 (some .int) 6 iz_eI) 0 [(0, .ref (X.1 a0)), (1, .int x1), (2, .int x2)] [] S (Ic_best a0 x1 x2 S) := by
  unfold Ic_best
  refine iz_iload_n (n := 1) 0 1 rfl rfl ?_
  refine iz_iconst (v := 0) 1 (by decide) rfl ?_
  refine iz_bipush (v := 40) 2 (by decide) rfl ?_
  refine iz_callSI (As := [.int x1, .int 0, .int 40]) (rest := []) 3 ml_X9_85 cw_X9_within ci_X9_within (fun r9 hr9 => m_Ic_within  hr9) rfl (by decide) rfl rfl (Nat.le_of_ble_eq_true rfl) (fun r2 S1 => ?_)
  refine iz_if_eq (tgt := 19) 4 rfl (by decide) ?_ ?_
  · exact iz_sub [0] rfl (c_Ic_best_19 h0 S1)
  · refine iz_iload_n (n := 2) 5 2 rfl rfl ?_
    refine iz_iconst (v := 0) 6 (by decide) rfl ?_
    refine iz_iconst (v := 4) 7 (by decide) rfl ?_
    refine iz_callSI (As := [.int x2, .int 0, .int 4]) (rest := []) 8 ml_X9_85 cw_X9_within ci_X9_within (fun r9 hr9 => m_Ic_within  hr9) rfl (by decide) rfl rfl (Nat.le_of_ble_eq_true rfl) (fun r4 S3 => ?_)
    refine iz_if_ne (tgt := 25) 9 rfl (by decide) ?_ ?_
    · refine iz_aload_n (n := 0) 14 0 rfl rfl ?_
      refine iz_getR 15 5 h0 fl_X9_45 rfl (by decide) (by decide) rfl ?_
      refine iz_aload_n (n := 0) 16 0 rfl rfl ?_
      refine iz_getR 17 3 h0 fl_X9_35 rfl (by decide) (by decide) rfl ?_
      refine iz_iload_n (n := 1) 18 1 rfl rfl ?_
      refine iz_callVV (As := [.ref (X.1 (iz_rf a0 3)), .int x1]) (rest := []) 19 ml_X9_253 cw_X0_plan ci_X0_plan (sf_9_5 h0) (fun r9 hr9 => m_Du_plan (sf_9_5 h0) (sf_9_3 h0) hr9) rfl (by decide) (by decide) rfl rfl (Nat.le_of_ble_eq_true rfl) (fun S5 => ?_)
      refine iz_iload_n (n := 2) 20 2 rfl rfl ?_
      refine iz_if_ne (tgt := 51) 21 rfl (by decide) ?_ ?_
      · refine iz_aload_n (n := 0) 26 0 rfl rfl ?_
        refine iz_getR 27 5 h0 fl_X9_45 rfl (by decide) (by decide) rfl ?_
        refine iz_getR 28 1 (sf_9_5 h0) fl_X9_259 rfl (by decide) (by decide) rfl ?_
        refine iz_iload_n (n := 2) 29 2 rfl rfl ?_
        refine iz_iconst (v := 1) 30 (by decide) rfl ?_
        refine iz_isub 31 rfl ?_
        refine iz_iald 32 (sf_0_1 (sf_9_5 h0)) rfl ?_
        exact iz_sub [] rfl (c_Ic_best_62 h0 (iz_g S5 (iz_rf (iz_rf a0 5) 1) (x2 - 1)) S5)
      · refine iz_aload_n (n := 0) 22 0 rfl rfl ?_
        refine iz_getR 23 5 h0 fl_X9_45 rfl (by decide) (by decide) rfl ?_
        refine iz_getI 24 0 (sf_9_5 h0) fl_X9_256 rfl (by decide) (by decide) rfl ?_
        refine iz_goto (tgt := 62) 25 (by decide) rfl ?_
        exact iz_sub [] rfl (c_Ic_best_62 h0 (S5.1 (iz_rf a0 5) 0) S5)
    · exact iz_sub [0] rfl (c_Ic_best_19 h0 S3)
theorem m_Ic_best {X : iz_X} {l : Launch} {a0 : Nat} (h0 : iz_sh a0 = (9 + 3, 11)) {x1 : Int32} {x2 : Int32} {S : iz_S} {r9 : Int32 × iz_S} (hr : Ic_best a0 x1 x2 S = some r9) : iz_Mt X l 6 yX9_best cX9_best 3 (some .int) [.ref (X.1 a0), .int x1, .int x2] S (iz_eI r9) :=
  iz_Mt_of (dt := tX9_best) dX9_best (by decide) hr (Nat.le_of_ble_eq_true rfl) (c_Ic_best h0 x1 x2 S)
def Ic_order_58 (a0 : Nat) (x1 : Int32) (x2 : Int32) (x3 : Int32) (x4 : Int32) (x5 : Int32) (s0 : Int32) (S : iz_S) : Option (Int32 × iz_S) :=
  (if s0 = 0 then
    iz_bI (Ic_finding a0 1 S) (fun r16 S15 =>
    some (r16, S15))
  else
    (if (S.1 (iz_rf a0 6) 0) < 10 then
      iz_bI (Or_enter (iz_rf a0 6) x1 x2 x3 x4 x5 S) (fun r12 S11 =>
      some (r12, S11))
    else
      iz_bI (Ic_finding a0 4 S) (fun r14 S13 =>
      some (r14, S13))))
def Ic_order_57 (a0 : Nat) (x1 : Int32) (x2 : Int32) (x3 : Int32) (x4 : Int32) (x5 : Int32) (S : iz_S) : Option (Int32 × iz_S) :=
  (Ic_order_58 a0 x1 x2 x3 x4 x5 0 S)
def Ic_order (a0 : Nat) (x1 : Int32) (x2 : Int32) (x3 : Int32) (x4 : Int32) (x5 : Int32) (S : iz_S) : Option (Int32 × iz_S) :=
  (iz_bI (Ic_within x1 0 2 S) (fun r2 S1 =>
  if r2 = 0 then
    (Ic_order_57 a0 x1 x2 x3 x4 x5 S1)
  else
    (iz_bI (Ic_within x2 1 2000 S1) (fun r4 S3 =>
    if r4 = 0 then
      (Ic_order_57 a0 x1 x2 x3 x4 x5 S3)
    else
      (iz_bI (Ic_within x3 0 100 S3) (fun r6 S5 =>
      if r6 = 0 then
        (Ic_order_57 a0 x1 x2 x3 x4 x5 S5)
      else
        (iz_bI (Ic_within x4 0 20 S5) (fun r8 S7 =>
        if r8 = 0 then
          (Ic_order_57 a0 x1 x2 x3 x4 x5 S7)
        else
          (iz_bI (Ic_within x5 1 1000 S7) (fun r10 S9 =>
          if r10 = 0 then
            (Ic_order_57 a0 x1 x2 x3 x4 x5 S9)
          else
            (Ic_order_58 a0 x1 x2 x3 x4 x5 1 S9)))))))))))
set_option maxRecDepth 10000 in
theorem c_Ic_order_58 {X : iz_X} {l : Launch} {a0 : Nat} (h0 : iz_sh a0 = (9 + 3, 11)) (x1 : Int32) (x2 : Int32) (x3 : Int32) (x4 : Int32) (x5 : Int32) (s0 : Int32) (S : iz_S) : iz_Y X l RX9 tX9_order 7 1 (iz_Kc X l yX9_order cX9_order 7 (some .int) 1 iz_eI) 58 [(0, .ref (X.1 a0)), (1, .int x1), (2, .int x2), (3, .int x3), (4, .int x4), (5, .int x5)] [.int s0] S (Ic_order_58 a0 x1 x2 x3 x4 x5 s0 S) := by
  unfold Ic_order_58
  refine iz_istore (n := 6) (ls2 := [(0, .ref (X.1 a0)), (1, .int x1), (2, .int x2), (3, .int x3), (4, .int x4), (5, .int x5), (6, .int s0)]) 28 [1, 2, 3, 4, 5, 6, 0] rfl (by decide) rfl ?_
  refine iz_iload (n := 6) 29 6 rfl rfl ?_
  refine iz_if_ne (tgt := 71) 30 rfl (by decide) ?_ ?_
  · refine iz_aload_n (n := 0) 35 0 rfl rfl ?_
    refine iz_getR 36 6 h0 fl_X9_54 rfl (by decide) (by decide) rfl ?_
    refine iz_getI 37 0 (sf_9_6 h0) fl_X9_262 rfl (by decide) (by decide) rfl ?_
    refine iz_bipush (v := 10) 38 (by decide) rfl ?_
    refine iz_cmp_lt (tgt := 89) 39 rfl (by decide) ?_ ?_
    · refine iz_aload_n (n := 0) 44 0 rfl rfl ?_
      refine iz_getR 45 6 h0 fl_X9_54 rfl (by decide) (by decide) rfl ?_
      refine iz_iload_n (n := 1) 46 1 rfl rfl ?_
      refine iz_iload_n (n := 2) 47 2 rfl rfl ?_
      refine iz_iload_n (n := 3) 48 3 rfl rfl ?_
      refine iz_iload (n := 4) 49 4 rfl rfl ?_
      refine iz_iload (n := 5) 50 5 rfl rfl ?_
      refine iz_callVI (As := [.int x1, .int x2, .int x3, .int x4, .int x5]) (rest := []) 51 ml_X9_265 cw_X3_enter ci_X3_enter (sf_9_6 h0) (fun r9 hr9 => m_Or_enter (sf_9_6 h0) hr9) rfl (by decide) (by decide) rfl rfl (Nat.le_of_ble_eq_true rfl) (fun r12 S11 => ?_)
      exact iz_iret 52 rfl
    · refine iz_aload_n (n := 0) 40 0 rfl rfl ?_
      refine iz_iconst (v := 4) 41 (by decide) rfl ?_
      refine iz_callVI (As := [.int 4]) (rest := []) 42 ml_X9_89 cw_X9_finding ci_X9_finding h0 (fun r9 hr9 => m_Ic_finding h0 hr9) rfl (by decide) (by decide) rfl rfl (Nat.le_of_ble_eq_true rfl) (fun r14 S13 => ?_)
      exact iz_iret 43 rfl
  · refine iz_aload_n (n := 0) 31 0 rfl rfl ?_
    refine iz_iconst (v := 1) 32 (by decide) rfl ?_
    refine iz_callVI (As := [.int 1]) (rest := []) 33 ml_X9_89 cw_X9_finding ci_X9_finding h0 (fun r9 hr9 => m_Ic_finding h0 hr9) rfl (by decide) (by decide) rfl rfl (Nat.le_of_ble_eq_true rfl) (fun r16 S15 => ?_)
    exact iz_iret 34 rfl
set_option maxRecDepth 10000 in
theorem c_Ic_order_57 {X : iz_X} {l : Launch} {a0 : Nat} (h0 : iz_sh a0 = (9 + 3, 11)) (x1 : Int32) (x2 : Int32) (x3 : Int32) (x4 : Int32) (x5 : Int32) (S : iz_S) : iz_Y X l RX9 tX9_order 7 1 (iz_Kc X l yX9_order cX9_order 7 (some .int) 1 iz_eI) 57 [(0, .ref (X.1 a0)), (1, .int x1), (2, .int x2), (3, .int x3), (4, .int x4), (5, .int x5)] [] S (Ic_order_57 a0 x1 x2 x3 x4 x5 S) := by
  unfold Ic_order_57
  refine iz_iconst (v := 0) 27 (by decide) rfl ?_
  exact c_Ic_order_58 h0 x1 x2 x3 x4 x5 0 S
set_option maxRecDepth 10000 in
theorem c_Ic_order {X : iz_X} {l : Launch} {a0 : Nat} (h0 : iz_sh a0 = (9 + 3, 11)) (x1 : Int32) (x2 : Int32) (x3 : Int32) (x4 : Int32) (x5 : Int32) (S : iz_S) : iz_Y X l RX9 tX9_order 7 1 (iz_Kc X l yX9_order cX9_order 7 (some .int) 1 iz_eI) 0 [(0, .ref (X.1 a0)), (1, .int x1), (2, .int x2), (3, .int x3), (4, .int x4), (5, .int x5)] [] S (Ic_order a0 x1 x2 x3 x4 x5 S) := by
  unfold Ic_order
  refine iz_iload_n (n := 1) 0 1 rfl rfl ?_
  refine iz_iconst (v := 0) 1 (by decide) rfl ?_
  refine iz_iconst (v := 2) 2 (by decide) rfl ?_
  refine iz_callSI (As := [.int x1, .int 0, .int 2]) (rest := []) 3 ml_X9_85 cw_X9_within ci_X9_within (fun r9 hr9 => m_Ic_within  hr9) rfl (by decide) rfl rfl (Nat.le_of_ble_eq_true rfl) (fun r2 S1 => ?_)
  refine iz_if_eq (tgt := 57) 4 rfl (by decide) ?_ ?_
  · exact c_Ic_order_57 h0 x1 x2 x3 x4 x5 S1
  · refine iz_iload_n (n := 2) 5 2 rfl rfl ?_
    refine iz_iconst (v := 1) 6 (by decide) rfl ?_
    refine iz_sipush (v := 2000) 7 (by decide) rfl ?_
    refine iz_callSI (As := [.int x2, .int 1, .int 2000]) (rest := []) 8 ml_X9_85 cw_X9_within ci_X9_within (fun r9 hr9 => m_Ic_within  hr9) rfl (by decide) rfl rfl (Nat.le_of_ble_eq_true rfl) (fun r4 S3 => ?_)
    refine iz_if_eq (tgt := 57) 9 rfl (by decide) ?_ ?_
    · exact c_Ic_order_57 h0 x1 x2 x3 x4 x5 S3
    · refine iz_iload_n (n := 3) 10 3 rfl rfl ?_
      refine iz_iconst (v := 0) 11 (by decide) rfl ?_
      refine iz_bipush (v := 100) 12 (by decide) rfl ?_
      refine iz_callSI (As := [.int x3, .int 0, .int 100]) (rest := []) 13 ml_X9_85 cw_X9_within ci_X9_within (fun r9 hr9 => m_Ic_within  hr9) rfl (by decide) rfl rfl (Nat.le_of_ble_eq_true rfl) (fun r6 S5 => ?_)
      refine iz_if_eq (tgt := 57) 14 rfl (by decide) ?_ ?_
      · exact c_Ic_order_57 h0 x1 x2 x3 x4 x5 S5
      · refine iz_iload (n := 4) 15 4 rfl rfl ?_
        refine iz_iconst (v := 0) 16 (by decide) rfl ?_
        refine iz_bipush (v := 20) 17 (by decide) rfl ?_
        refine iz_callSI (As := [.int x4, .int 0, .int 20]) (rest := []) 18 ml_X9_85 cw_X9_within ci_X9_within (fun r9 hr9 => m_Ic_within  hr9) rfl (by decide) rfl rfl (Nat.le_of_ble_eq_true rfl) (fun r8 S7 => ?_)
        refine iz_if_eq (tgt := 57) 19 rfl (by decide) ?_ ?_
        · exact c_Ic_order_57 h0 x1 x2 x3 x4 x5 S7
        · refine iz_iload (n := 5) 20 5 rfl rfl ?_
          refine iz_iconst (v := 1) 21 (by decide) rfl ?_
          refine iz_sipush (v := 1000) 22 (by decide) rfl ?_
          refine iz_callSI (As := [.int x5, .int 1, .int 1000]) (rest := []) 23 ml_X9_85 cw_X9_within ci_X9_within (fun r9 hr9 => m_Ic_within  hr9) rfl (by decide) rfl rfl (Nat.le_of_ble_eq_true rfl) (fun r10 S9 => ?_)
          refine iz_if_eq (tgt := 57) 24 rfl (by decide) ?_ ?_
          · exact c_Ic_order_57 h0 x1 x2 x3 x4 x5 S9
          · refine iz_iconst (v := 1) 25 (by decide) rfl ?_
            refine iz_goto (tgt := 58) 26 (by decide) rfl ?_
            exact c_Ic_order_58 h0 x1 x2 x3 x4 x5 1 S9
theorem m_Ic_order {X : iz_X} {l : Launch} {a0 : Nat} (h0 : iz_sh a0 = (9 + 3, 11)) {x1 : Int32} {x2 : Int32} {x3 : Int32} {x4 : Int32} {x5 : Int32} {S : iz_S} {r9 : Int32 × iz_S} (hr : Ic_order a0 x1 x2 x3 x4 x5 S = some r9) : iz_Mt X l 1 yX9_order cX9_order 7 (some .int) [.ref (X.1 a0), .int x1, .int x2, .int x3, .int x4, .int x5] S (iz_eI r9) :=
  iz_Mt_of (dt := tX9_order) dX9_order (by decide) hr (Nat.le_of_ble_eq_true rfl) (c_Ic_order h0 x1 x2 x3 x4 x5 S)
def Ic_why_18 (a0 : Nat) (S : iz_S) : Option (Int32 × iz_S) :=
  iz_bI (Ic_finding a0 1 S) (fun r10 S9 =>
  some (r10, S9))
def Ic_why (a0 : Nat) (x1 : Int32) (x2 : Int32) (S : iz_S) : Option (Int32 × iz_S) :=
  (iz_bI (Or_has (iz_rf a0 6) x1 S) (fun r2 S1 =>
  if r2 = 0 then
    (Ic_why_18 a0 S1)
  else
    (iz_bI (Ic_isColumn x2 S1) (fun r4 S3 =>
    if r4 = 0 then
      (Ic_why_18 a0 S3)
    else
      iz_bI (Ho_topOf (iz_rf a0 3) x2 S3) (fun r6 S5 =>
      iz_bI (Or_hindrance (iz_rf a0 6) x1 r6 S5) (fun r8 S7 =>
      some (r8, S7)))))))
set_option maxRecDepth 10000 in
theorem c_Ic_why_18 {X : iz_X} {l : Launch} {a0 : Nat} (h0 : iz_sh a0 = (9 + 3, 11)) (S : iz_S) : iz_Y X l RX9 tX9_why 3 4 (iz_Kc X l yX9_why cX9_why 3 (some .int) 4 iz_eI) 18 [(0, .ref (X.1 a0))] [] S (Ic_why_18 a0 S) := by
  unfold Ic_why_18
  refine iz_aload_n (n := 0) 8 0 rfl rfl ?_
  refine iz_iconst (v := 1) 9 (by decide) rfl ?_
  refine iz_callVI (As := [.int 1]) (rest := []) 10 ml_X9_89 cw_X9_finding ci_X9_finding h0 (fun r9 hr9 => m_Ic_finding h0 hr9) rfl (by decide) (by decide) rfl rfl (Nat.le_of_ble_eq_true rfl) (fun r10 S9 => ?_)
  exact iz_iret 11 rfl
set_option maxRecDepth 10000 in
theorem c_Ic_why {X : iz_X} {l : Launch} {a0 : Nat} (h0 : iz_sh a0 = (9 + 3, 11)) (x1 : Int32) (x2 : Int32) (S : iz_S) : iz_Y X l RX9 tX9_why 3 4 (iz_Kc X l yX9_why cX9_why 3 (some .int) 4 iz_eI) 0 [(0, .ref (X.1 a0)), (1, .int x1), (2, .int x2)] [] S (Ic_why a0 x1 x2 S) := by
  unfold Ic_why
  refine iz_aload_n (n := 0) 0 0 rfl rfl ?_
  refine iz_getR 1 6 h0 fl_X9_54 rfl (by decide) (by decide) rfl ?_
  refine iz_iload_n (n := 1) 2 1 rfl rfl ?_
  refine iz_callVI (As := [.int x1]) (rest := []) 3 ml_X9_269 cw_X3_has ci_X3_has (sf_9_6 h0) (fun r9 hr9 => m_Or_has (sf_9_6 h0) hr9) rfl (by decide) (by decide) rfl rfl (Nat.le_of_ble_eq_true rfl) (fun r2 S1 => ?_)
  refine iz_if_eq (tgt := 18) 4 rfl (by decide) ?_ ?_
  · exact iz_sub [0] rfl (c_Ic_why_18 h0 S1)
  · refine iz_iload_n (n := 2) 5 2 rfl rfl ?_
    refine iz_callSI (As := [.int x2]) (rest := []) 6 ml_X9_175 cw_X9_isColumn ci_X9_isColumn (fun r9 hr9 => m_Ic_isColumn  hr9) rfl (by decide) rfl rfl (Nat.le_of_ble_eq_true rfl) (fun r4 S3 => ?_)
    refine iz_if_ne (tgt := 24) 7 rfl (by decide) ?_ ?_
    · refine iz_aload_n (n := 0) 12 0 rfl rfl ?_
      refine iz_getR 13 6 h0 fl_X9_54 rfl (by decide) (by decide) rfl ?_
      refine iz_iload_n (n := 1) 14 1 rfl rfl ?_
      refine iz_aload_n (n := 0) 15 0 rfl rfl ?_
      refine iz_getR 16 3 h0 fl_X9_35 rfl (by decide) (by decide) rfl ?_
      refine iz_iload_n (n := 2) 17 2 rfl rfl ?_
      refine iz_callVI (As := [.int x2]) (rest := [.int x1, .ref (X.1 (iz_rf a0 6))]) 18 ml_X9_272 cw_X1_topOf ci_X1_topOf (sf_9_3 h0) (fun r9 hr9 => m_Ho_topOf (sf_9_3 h0) hr9) rfl (by decide) (by decide) rfl rfl (Nat.le_of_ble_eq_true rfl) (fun r6 S5 => ?_)
      refine iz_callVI (As := [.int x1, .int r6]) (rest := []) 19 ml_X9_275 cw_X3_hindrance ci_X3_hindrance (sf_9_6 h0) (fun r9 hr9 => m_Or_hindrance (sf_9_6 h0) hr9) rfl (by decide) (by decide) rfl rfl (Nat.le_of_ble_eq_true rfl) (fun r8 S7 => ?_)
      exact iz_iret 20 rfl
    · exact iz_sub [0] rfl (c_Ic_why_18 h0 S3)
theorem m_Ic_why {X : iz_X} {l : Launch} {a0 : Nat} (h0 : iz_sh a0 = (9 + 3, 11)) {x1 : Int32} {x2 : Int32} {S : iz_S} {r9 : Int32 × iz_S} (hr : Ic_why a0 x1 x2 S = some r9) : iz_Mt X l 4 yX9_why cX9_why 3 (some .int) [.ref (X.1 a0), .int x1, .int x2] S (iz_eI r9) :=
  iz_Mt_of (dt := tX9_why) dX9_why (by decide) hr (Nat.le_of_ble_eq_true rfl) (c_Ic_why h0 x1 x2 S)
def Ic_serve_18 (a0 : Nat) (S : iz_S) : Option (Int32 × iz_S) :=
  iz_bI (Ic_finding a0 1 S) (fun r14 S13 =>
  some (r14, S13))
def Ic_serve (a0 : Nat) (x1 : Int32) (x2 : Int32) (S : iz_S) : Option (Int32 × iz_S) :=
  (iz_bI (Or_has (iz_rf a0 6) x1 S) (fun r2 S1 =>
  if r2 = 0 then
    (Ic_serve_18 a0 S1)
  else
    (iz_bI (Ic_isColumn x2 S1) (fun r4 S3 =>
    if r4 = 0 then
      (Ic_serve_18 a0 S3)
    else
      (iz_bI (Ho_topOf (iz_rf a0 3) x2 S3) (fun r6 S5 =>
      iz_bI (Or_hindrance (iz_rf a0 6) x1 r6 S5) (fun r8 S7 =>
      if r8 = 0 then
        iz_bI (Or_fulfil (iz_rf a0 6) x1 x2 S7) (fun r10 S9 =>
        some (r10, S9))
      else
        iz_bI (Ic_finding a0 3 S7) (fun r12 S11 =>
        some (r12, S11)))))))))
set_option maxRecDepth 10000 in
theorem c_Ic_serve_18 {X : iz_X} {l : Launch} {a0 : Nat} (h0 : iz_sh a0 = (9 + 3, 11)) (S : iz_S) : iz_Y X l RX9 tX9_serve 3 6 (iz_Kc X l yX9_serve cX9_serve 3 (some .int) 6 iz_eI) 18 [(0, .ref (X.1 a0))] [] S (Ic_serve_18 a0 S) := by
  unfold Ic_serve_18
  refine iz_aload_n (n := 0) 8 0 rfl rfl ?_
  refine iz_iconst (v := 1) 9 (by decide) rfl ?_
  refine iz_callVI (As := [.int 1]) (rest := []) 10 ml_X9_89 cw_X9_finding ci_X9_finding h0 (fun r9 hr9 => m_Ic_finding h0 hr9) rfl (by decide) (by decide) rfl rfl (Nat.le_of_ble_eq_true rfl) (fun r14 S13 => ?_)
  exact iz_iret 11 rfl
set_option maxRecDepth 10000 in
theorem c_Ic_serve {X : iz_X} {l : Launch} {a0 : Nat} (h0 : iz_sh a0 = (9 + 3, 11)) (x1 : Int32) (x2 : Int32) (S : iz_S) : iz_Y X l RX9 tX9_serve 3 6 (iz_Kc X l yX9_serve cX9_serve 3 (some .int) 6 iz_eI) 0 [(0, .ref (X.1 a0)), (1, .int x1), (2, .int x2)] [] S (Ic_serve a0 x1 x2 S) := by
  unfold Ic_serve
  refine iz_aload_n (n := 0) 0 0 rfl rfl ?_
  refine iz_getR 1 6 h0 fl_X9_54 rfl (by decide) (by decide) rfl ?_
  refine iz_iload_n (n := 1) 2 1 rfl rfl ?_
  refine iz_callVI (As := [.int x1]) (rest := []) 3 ml_X9_269 cw_X3_has ci_X3_has (sf_9_6 h0) (fun r9 hr9 => m_Or_has (sf_9_6 h0) hr9) rfl (by decide) (by decide) rfl rfl (Nat.le_of_ble_eq_true rfl) (fun r2 S1 => ?_)
  refine iz_if_eq (tgt := 18) 4 rfl (by decide) ?_ ?_
  · exact iz_sub [0] rfl (c_Ic_serve_18 h0 S1)
  · refine iz_iload_n (n := 2) 5 2 rfl rfl ?_
    refine iz_callSI (As := [.int x2]) (rest := []) 6 ml_X9_175 cw_X9_isColumn ci_X9_isColumn (fun r9 hr9 => m_Ic_isColumn  hr9) rfl (by decide) rfl rfl (Nat.le_of_ble_eq_true rfl) (fun r4 S3 => ?_)
    refine iz_if_ne (tgt := 24) 7 rfl (by decide) ?_ ?_
    · refine iz_aload_n (n := 0) 12 0 rfl rfl ?_
      refine iz_getR 13 6 h0 fl_X9_54 rfl (by decide) (by decide) rfl ?_
      refine iz_iload_n (n := 1) 14 1 rfl rfl ?_
      refine iz_aload_n (n := 0) 15 0 rfl rfl ?_
      refine iz_getR 16 3 h0 fl_X9_35 rfl (by decide) (by decide) rfl ?_
      refine iz_iload_n (n := 2) 17 2 rfl rfl ?_
      refine iz_callVI (As := [.int x2]) (rest := [.int x1, .ref (X.1 (iz_rf a0 6))]) 18 ml_X9_272 cw_X1_topOf ci_X1_topOf (sf_9_3 h0) (fun r9 hr9 => m_Ho_topOf (sf_9_3 h0) hr9) rfl (by decide) (by decide) rfl rfl (Nat.le_of_ble_eq_true rfl) (fun r6 S5 => ?_)
      refine iz_callVI (As := [.int x1, .int r6]) (rest := []) 19 ml_X9_275 cw_X3_hindrance ci_X3_hindrance (sf_9_6 h0) (fun r9 hr9 => m_Or_hindrance (sf_9_6 h0) hr9) rfl (by decide) (by decide) rfl rfl (Nat.le_of_ble_eq_true rfl) (fun r8 S7 => ?_)
      refine iz_if_eq (tgt := 49) 20 rfl (by decide) ?_ ?_
      · refine iz_aload_n (n := 0) 25 0 rfl rfl ?_
        refine iz_getR 26 6 h0 fl_X9_54 rfl (by decide) (by decide) rfl ?_
        refine iz_iload_n (n := 1) 27 1 rfl rfl ?_
        refine iz_iload_n (n := 2) 28 2 rfl rfl ?_
        refine iz_callVI (As := [.int x1, .int x2]) (rest := []) 29 ml_X9_278 cw_X3_fulfil ci_X3_fulfil (sf_9_6 h0) (fun r9 hr9 => m_Or_fulfil (sf_9_6 h0) hr9) rfl (by decide) (by decide) rfl rfl (Nat.le_of_ble_eq_true rfl) (fun r10 S9 => ?_)
        exact iz_iret 30 rfl
      · refine iz_aload_n (n := 0) 21 0 rfl rfl ?_
        refine iz_iconst (v := 3) 22 (by decide) rfl ?_
        refine iz_callVI (As := [.int 3]) (rest := []) 23 ml_X9_89 cw_X9_finding ci_X9_finding h0 (fun r9 hr9 => m_Ic_finding h0 hr9) rfl (by decide) (by decide) rfl rfl (Nat.le_of_ble_eq_true rfl) (fun r12 S11 => ?_)
        exact iz_iret 24 rfl
    · exact iz_sub [0] rfl (c_Ic_serve_18 h0 S3)
theorem m_Ic_serve {X : iz_X} {l : Launch} {a0 : Nat} (h0 : iz_sh a0 = (9 + 3, 11)) {x1 : Int32} {x2 : Int32} {S : iz_S} {r9 : Int32 × iz_S} (hr : Ic_serve a0 x1 x2 S = some r9) : iz_Mt X l 6 yX9_serve cX9_serve 3 (some .int) [.ref (X.1 a0), .int x1, .int x2] S (iz_eI r9) :=
  iz_Mt_of (dt := tX9_serve) dX9_serve (by decide) hr (Nat.le_of_ble_eq_true rfl) (c_Ic_serve h0 x1 x2 S)
def Ic_sales_120 (a0 : Nat) (s0 : Int32) (S : iz_S) : Option (Int32 × iz_S) :=
  some (s0, S)
def Ic_sales (a0 : Nat) (x1 : Int32) (S : iz_S) : Option (Int32 × iz_S) :=
  (if x1 < 0 then
    iz_bI (Ic_finding a0 1 S) (fun r10 S9 =>
    some (r10, S9))
  else
    (iz_bI (Sa_takeOver (iz_rf a0 7) (iz_rf a0 9) S) (fun r2 S1 =>
    if r2 = 0 then
      iz_bI (Ic_finding a0 3 S1) (fun r8 S7 =>
      some (r8, S7))
    else
      (iz_bV (Sa_plan (iz_rf a0 7) S1) (fun S3 =>
      if x1 = 0 then
        some ((S3.1 (iz_rf a0 7) 1), S3)
      else
        (if x1 = 1 then
          some ((S3.1 (iz_rf a0 7) 2), S3)
        else
          (iz_lt ((x1 - 2) / 2) (fun v4 =>
          if v4 < (S3.1 (iz_rf a0 7) 2) then
            (if (x1 - x1 / 2 * 2) = 0 then
              iz_ck (iz_in v4 4) (
              (Ic_sales_120 a0 (iz_g S3 (iz_rf (iz_rf a0 7) 3) v4) S3))
            else
              iz_ck (iz_in v4 4) (
              iz_ck (iz_in (iz_g S3 (iz_rf (iz_rf a0 7) 4) v4) 3) (
              (Ic_sales_120 a0 (iz_g S3 (iz_rf (iz_rf a0 7) 0) (iz_g S3 (iz_rf (iz_rf a0 7) 4) v4)) S3))))
          else
            iz_bI (Ic_finding a0 2 S3) (fun r6 S5 =>
            some (r6, S5))))))))))
set_option maxRecDepth 10000 in
theorem c_Ic_sales_120 {X : iz_X} {l : Launch} {a0 : Nat} (h0 : iz_sh a0 = (9 + 3, 11)) (s0 : Int32) (S : iz_S) : iz_Y X l RX9 tX9_sales 3 14 (iz_Kc X l yX9_sales cX9_sales 3 (some .int) 14 iz_eI) 120 [] [.int s0] S (Ic_sales_120 a0 s0 S) := by
  unfold Ic_sales_120
  exact iz_iret 66 rfl
set_option maxRecDepth 10000 in
theorem c_Ic_sales {X : iz_X} {l : Launch} {a0 : Nat} (h0 : iz_sh a0 = (9 + 3, 11)) (x1 : Int32) (S : iz_S) : iz_Y X l RX9 tX9_sales 3 14 (iz_Kc X l yX9_sales cX9_sales 3 (some .int) 14 iz_eI) 0 [(0, .ref (X.1 a0)), (1, .int x1)] [] S (Ic_sales a0 x1 S) := by
  unfold Ic_sales
  refine iz_iload_n (n := 1) 0 1 rfl rfl ?_
  refine iz_if_ge (tgt := 10) 1 rfl (by decide) ?_ ?_
  · refine iz_aload_n (n := 0) 6 0 rfl rfl ?_
    refine iz_getR 7 7 h0 fl_X9_63 rfl (by decide) (by decide) rfl ?_
    refine iz_aload_n (n := 0) 8 0 rfl rfl ?_
    refine iz_getR 9 9 h0 fl_X9_77 rfl (by decide) (by decide) rfl ?_
    refine iz_callVI (As := [.ref (X.1 (iz_rf a0 9))]) (rest := []) 10 ml_X9_281 cw_X5_takeOver ci_X5_takeOver (sf_9_7 h0) (fun r9 hr9 => m_Sa_takeOver (sf_9_7 h0) (sf_9_9 h0) hr9) rfl (by decide) (by decide) rfl rfl (Nat.le_of_ble_eq_true rfl) (fun r2 S1 => ?_)
    refine iz_if_ne (tgt := 30) 11 rfl (by decide) ?_ ?_
    · refine iz_aload_n (n := 0) 16 0 rfl rfl ?_
      refine iz_getR 17 7 h0 fl_X9_63 rfl (by decide) (by decide) rfl ?_
      refine iz_callVV (As := []) (rest := []) 18 ml_X9_282 cw_X5_plan ci_X5_plan (sf_9_7 h0) (fun r9 hr9 => m_Sa_plan (sf_9_7 h0) hr9) rfl (by decide) (by decide) rfl rfl (Nat.le_of_ble_eq_true rfl) (fun S3 => ?_)
      refine iz_iload_n (n := 1) 19 1 rfl rfl ?_
      refine iz_if_ne (tgt := 49) 20 rfl (by decide) ?_ ?_
      · refine iz_iload_n (n := 1) 25 1 rfl rfl ?_
        refine iz_iconst (v := 1) 26 (by decide) rfl ?_
        refine iz_cmp_ne (tgt := 62) 27 rfl (by decide) ?_ ?_
        · refine iz_iload_n (n := 1) 32 1 rfl rfl ?_
          refine iz_iconst (v := 2) 33 (by decide) rfl ?_
          refine iz_isub 34 rfl ?_
          refine iz_iconst (v := 2) 35 (by decide) rfl ?_
          refine iz_idiv 36 (by decide) rfl ?_
          refine iz_let (fun v4 => ?_)
          refine iz_istore_n (n := 2) (ls2 := [(0, .ref (X.1 a0)), (1, .int x1), (2, .int v4)]) 37 [1, 2, 0] rfl (by decide) rfl ?_
          refine iz_iload_n (n := 2) 38 2 rfl rfl ?_
          refine iz_aload_n (n := 0) 39 0 rfl rfl ?_
          refine iz_getR 40 7 h0 fl_X9_63 rfl (by decide) (by decide) rfl ?_
          refine iz_getI 41 2 (sf_9_7 h0) fl_X9_287 rfl (by decide) (by decide) rfl ?_
          refine iz_cmp_lt (tgt := 85) 42 rfl (by decide) ?_ ?_
          · refine iz_iload_n (n := 1) 47 1 rfl rfl ?_
            refine iz_iconst (v := 2) 48 (by decide) rfl ?_
            refine iz_irem 49 (by decide) rfl ?_
            refine iz_if_ne (tgt := 103) 50 rfl (by decide) ?_ ?_
            · refine iz_aload_n (n := 0) 57 0 rfl rfl ?_
              refine iz_getR 58 7 h0 fl_X9_63 rfl (by decide) (by decide) rfl ?_
              refine iz_getR 59 0 (sf_9_7 h0) fl_X9_293 rfl (by decide) (by decide) rfl ?_
              refine iz_aload_n (n := 0) 60 0 rfl rfl ?_
              refine iz_getR 61 7 h0 fl_X9_63 rfl (by decide) (by decide) rfl ?_
              refine iz_getR 62 4 (sf_9_7 h0) fl_X9_296 rfl (by decide) (by decide) rfl ?_
              refine iz_iload_n (n := 2) 63 2 rfl rfl ?_
              refine iz_iald 64 (sf_5_4 (sf_9_7 h0)) rfl ?_
              refine iz_iald 65 (sf_5_0 (sf_9_7 h0)) rfl ?_
              exact iz_sub [] rfl (c_Ic_sales_120 h0 (iz_g S3 (iz_rf (iz_rf a0 7) 0) (iz_g S3 (iz_rf (iz_rf a0 7) 4) v4)) S3)
            · refine iz_aload_n (n := 0) 51 0 rfl rfl ?_
              refine iz_getR 52 7 h0 fl_X9_63 rfl (by decide) (by decide) rfl ?_
              refine iz_getR 53 3 (sf_9_7 h0) fl_X9_290 rfl (by decide) (by decide) rfl ?_
              refine iz_iload_n (n := 2) 54 2 rfl rfl ?_
              refine iz_iald 55 (sf_5_3 (sf_9_7 h0)) rfl ?_
              refine iz_goto (tgt := 120) 56 (by decide) rfl ?_
              exact iz_sub [] rfl (c_Ic_sales_120 h0 (iz_g S3 (iz_rf (iz_rf a0 7) 3) v4) S3)
          · refine iz_aload_n (n := 0) 43 0 rfl rfl ?_
            refine iz_iconst (v := 2) 44 (by decide) rfl ?_
            refine iz_callVI (As := [.int 2]) (rest := []) 45 ml_X9_89 cw_X9_finding ci_X9_finding h0 (fun r9 hr9 => m_Ic_finding h0 hr9) rfl (by decide) (by decide) rfl rfl (Nat.le_of_ble_eq_true rfl) (fun r6 S5 => ?_)
            exact iz_iret 46 rfl
        · refine iz_aload_n (n := 0) 28 0 rfl rfl ?_
          refine iz_getR 29 7 h0 fl_X9_63 rfl (by decide) (by decide) rfl ?_
          refine iz_getI 30 2 (sf_9_7 h0) fl_X9_287 rfl (by decide) (by decide) rfl ?_
          exact iz_iret 31 rfl
      · refine iz_aload_n (n := 0) 21 0 rfl rfl ?_
        refine iz_getR 22 7 h0 fl_X9_63 rfl (by decide) (by decide) rfl ?_
        refine iz_getI 23 1 (sf_9_7 h0) fl_X9_284 rfl (by decide) (by decide) rfl ?_
        exact iz_iret 24 rfl
    · refine iz_aload_n (n := 0) 12 0 rfl rfl ?_
      refine iz_iconst (v := 3) 13 (by decide) rfl ?_
      refine iz_callVI (As := [.int 3]) (rest := []) 14 ml_X9_89 cw_X9_finding ci_X9_finding h0 (fun r9 hr9 => m_Ic_finding h0 hr9) rfl (by decide) (by decide) rfl rfl (Nat.le_of_ble_eq_true rfl) (fun r8 S7 => ?_)
      exact iz_iret 15 rfl
  · refine iz_aload_n (n := 0) 2 0 rfl rfl ?_
    refine iz_iconst (v := 1) 3 (by decide) rfl ?_
    refine iz_callVI (As := [.int 1]) (rest := []) 4 ml_X9_89 cw_X9_finding ci_X9_finding h0 (fun r9 hr9 => m_Ic_finding h0 hr9) rfl (by decide) (by decide) rfl rfl (Nat.le_of_ble_eq_true rfl) (fun r10 S9 => ?_)
    exact iz_iret 5 rfl
theorem m_Ic_sales {X : iz_X} {l : Launch} {a0 : Nat} (h0 : iz_sh a0 = (9 + 3, 11)) {x1 : Int32} {S : iz_S} {r9 : Int32 × iz_S} (hr : Ic_sales a0 x1 S = some r9) : iz_Mt X l 14 yX9_sales cX9_sales 3 (some .int) [.ref (X.1 a0), .int x1] S (iz_eI r9) :=
  iz_Mt_of (dt := tX9_sales) dX9_sales (by decide) hr (Nat.le_of_ble_eq_true rfl) (c_Ic_sales h0 x1 S)
def Ic_station (a0 : Nat) (x1 : Int32) (x2 : Int32) (x3 : Int32) (S : iz_S) : Option (Int32 × iz_S) :=
  (iz_bI (Ic_isStation x1 x2 x3 S) (fun r2 S1 =>
  if r2 = 0 then
    iz_bI (Ic_finding a0 1 S1) (fun r8 S7 =>
    some (r8, S7))
  else
    (if (S1.1 (iz_rf a0 8) 0) < 9 then
      iz_bI (Ra_enter (iz_rf a0 8) x1 x2 x3 S1) (fun r4 S3 =>
      some (r4, S3))
    else
      iz_bI (Ic_finding a0 4 S1) (fun r6 S5 =>
      some (r6, S5)))))
set_option maxRecDepth 10000 in
theorem c_Ic_station {X : iz_X} {l : Launch} {a0 : Nat} (h0 : iz_sh a0 = (9 + 3, 11)) (x1 : Int32) (x2 : Int32) (x3 : Int32) (S : iz_S) : iz_Y X l RX9 tX9_station 4 2 (iz_Kc X l yX9_station cX9_station 4 (some .int) 2 iz_eI) 0 [(0, .ref (X.1 a0)), (1, .int x1), (2, .int x2), (3, .int x3)] [] S (Ic_station a0 x1 x2 x3 S) := by
  unfold Ic_station
  refine iz_iload_n (n := 1) 0 1 rfl rfl ?_
  refine iz_iload_n (n := 2) 1 2 rfl rfl ?_
  refine iz_iload_n (n := 3) 2 3 rfl rfl ?_
  refine iz_callSI (As := [.int x1, .int x2, .int x3]) (rest := []) 3 ml_X9_299 cw_X9_isStation ci_X9_isStation (fun r9 hr9 => m_Ic_isStation  hr9) rfl (by decide) rfl rfl (Nat.le_of_ble_eq_true rfl) (fun r2 S1 => ?_)
  refine iz_if_ne (tgt := 15) 4 rfl (by decide) ?_ ?_
  · refine iz_aload_n (n := 0) 9 0 rfl rfl ?_
    refine iz_getR 10 8 h0 fl_X9_70 rfl (by decide) (by decide) rfl ?_
    refine iz_getI 11 0 (sf_9_8 h0) fl_X9_302 rfl (by decide) (by decide) rfl ?_
    refine iz_bipush (v := 9) 12 (by decide) rfl ?_
    refine iz_cmp_lt (tgt := 33) 13 rfl (by decide) ?_ ?_
    · refine iz_aload_n (n := 0) 18 0 rfl rfl ?_
      refine iz_getR 19 8 h0 fl_X9_70 rfl (by decide) (by decide) rfl ?_
      refine iz_iload_n (n := 1) 20 1 rfl rfl ?_
      refine iz_iload_n (n := 2) 21 2 rfl rfl ?_
      refine iz_iload_n (n := 3) 22 3 rfl rfl ?_
      refine iz_callVI (As := [.int x1, .int x2, .int x3]) (rest := []) 23 ml_X9_303 cw_X4_enter ci_X4_enter (sf_9_8 h0) (fun r9 hr9 => m_Ra_enter (sf_9_8 h0) hr9) rfl (by decide) (by decide) rfl rfl (Nat.le_of_ble_eq_true rfl) (fun r4 S3 => ?_)
      exact iz_iret 24 rfl
    · refine iz_aload_n (n := 0) 14 0 rfl rfl ?_
      refine iz_iconst (v := 4) 15 (by decide) rfl ?_
      refine iz_callVI (As := [.int 4]) (rest := []) 16 ml_X9_89 cw_X9_finding ci_X9_finding h0 (fun r9 hr9 => m_Ic_finding h0 hr9) rfl (by decide) (by decide) rfl rfl (Nat.le_of_ble_eq_true rfl) (fun r6 S5 => ?_)
      exact iz_iret 17 rfl
  · refine iz_aload_n (n := 0) 5 0 rfl rfl ?_
    refine iz_iconst (v := 1) 6 (by decide) rfl ?_
    refine iz_callVI (As := [.int 1]) (rest := []) 7 ml_X9_89 cw_X9_finding ci_X9_finding h0 (fun r9 hr9 => m_Ic_finding h0 hr9) rfl (by decide) (by decide) rfl rfl (Nat.le_of_ble_eq_true rfl) (fun r8 S7 => ?_)
    exact iz_iret 8 rfl
theorem m_Ic_station {X : iz_X} {l : Launch} {a0 : Nat} (h0 : iz_sh a0 = (9 + 3, 11)) {x1 : Int32} {x2 : Int32} {x3 : Int32} {S : iz_S} {r9 : Int32 × iz_S} (hr : Ic_station a0 x1 x2 x3 S = some r9) : iz_Mt X l 2 yX9_station cX9_station 4 (some .int) [.ref (X.1 a0), .int x1, .int x2, .int x3] S (iz_eI r9) :=
  iz_Mt_of (dt := tX9_station) dX9_station (by decide) hr (Nat.le_of_ble_eq_true rfl) (c_Ic_station h0 x1 x2 x3 S)
def Ic_change_27 (a0 : Nat) (S : iz_S) : Option (Int32 × iz_S) :=
  iz_bI (Ic_finding a0 1 S) (fun r8 S7 =>
  some (r8, S7))
def Ic_change (a0 : Nat) (x1 : Int32) (x2 : Int32) (x3 : Int32) (x4 : Int32) (S : iz_S) : Option (Int32 × iz_S) :=
  (iz_bI (Ic_within x1 0 ((S.1 (iz_rf a0 8) 0) - 1) S) (fun r2 S1 =>
  if r2 = 0 then
    (Ic_change_27 a0 S1)
  else
    (iz_bI (Ic_isStation x2 x3 x4 S1) (fun r4 S3 =>
    if r4 = 0 then
      (Ic_change_27 a0 S3)
    else
      iz_ck (iz_in x1 9) (
      iz_lt (iz_g S3 (iz_rf (iz_rf a0 8) 1) x1) (fun v5 =>
      iz_bV (Ra_describe (iz_rf a0 8) x1 x2 x3 x4 S3) (fun S6 =>
      some (v5, S6))))))))
set_option maxRecDepth 10000 in
theorem c_Ic_change_27 {X : iz_X} {l : Launch} {a0 : Nat} (h0 : iz_sh a0 = (9 + 3, 11)) (S : iz_S) : iz_Y X l RX9 tX9_change 6 2 (iz_Kc X l yX9_change cX9_change 6 (some .int) 2 iz_eI) 27 [(0, .ref (X.1 a0))] [] S (Ic_change_27 a0 S) := by
  unfold Ic_change_27
  refine iz_aload_n (n := 0) 14 0 rfl rfl ?_
  refine iz_iconst (v := 1) 15 (by decide) rfl ?_
  refine iz_callVI (As := [.int 1]) (rest := []) 16 ml_X9_89 cw_X9_finding ci_X9_finding h0 (fun r9 hr9 => m_Ic_finding h0 hr9) rfl (by decide) (by decide) rfl rfl (Nat.le_of_ble_eq_true rfl) (fun r8 S7 => ?_)
  exact iz_iret 17 rfl
set_option maxRecDepth 10000 in
theorem c_Ic_change {X : iz_X} {l : Launch} {a0 : Nat} (h0 : iz_sh a0 = (9 + 3, 11)) (x1 : Int32) (x2 : Int32) (x3 : Int32) (x4 : Int32) (S : iz_S) : iz_Y X l RX9 tX9_change 6 2 (iz_Kc X l yX9_change cX9_change 6 (some .int) 2 iz_eI) 0 [(0, .ref (X.1 a0)), (1, .int x1), (2, .int x2), (3, .int x3), (4, .int x4)] [] S (Ic_change a0 x1 x2 x3 x4 S) := by
  unfold Ic_change
  refine iz_iload_n (n := 1) 0 1 rfl rfl ?_
  refine iz_iconst (v := 0) 1 (by decide) rfl ?_
  refine iz_aload_n (n := 0) 2 0 rfl rfl ?_
  refine iz_getR 3 8 h0 fl_X9_70 rfl (by decide) (by decide) rfl ?_
  refine iz_getI 4 0 (sf_9_8 h0) fl_X9_302 rfl (by decide) (by decide) rfl ?_
  refine iz_iconst (v := 1) 5 (by decide) rfl ?_
  refine iz_isub 6 rfl ?_
  refine iz_callSI (As := [.int x1, .int 0, .int ((S.1 (iz_rf a0 8) 0) - 1)]) (rest := []) 7 ml_X9_85 cw_X9_within ci_X9_within (fun r9 hr9 => m_Ic_within  hr9) rfl (by decide) rfl rfl (Nat.le_of_ble_eq_true rfl) (fun r2 S1 => ?_)
  refine iz_if_eq (tgt := 27) 8 rfl (by decide) ?_ ?_
  · exact iz_sub [0] rfl (c_Ic_change_27 h0 S1)
  · refine iz_iload_n (n := 2) 9 2 rfl rfl ?_
    refine iz_iload_n (n := 3) 10 3 rfl rfl ?_
    refine iz_iload (n := 4) 11 4 rfl rfl ?_
    refine iz_callSI (As := [.int x2, .int x3, .int x4]) (rest := []) 12 ml_X9_299 cw_X9_isStation ci_X9_isStation (fun r9 hr9 => m_Ic_isStation  hr9) rfl (by decide) rfl rfl (Nat.le_of_ble_eq_true rfl) (fun r4 S3 => ?_)
    refine iz_if_ne (tgt := 33) 13 rfl (by decide) ?_ ?_
    · refine iz_aload_n (n := 0) 18 0 rfl rfl ?_
      refine iz_getR 19 8 h0 fl_X9_70 rfl (by decide) (by decide) rfl ?_
      refine iz_getR 20 1 (sf_9_8 h0) fl_X9_306 rfl (by decide) (by decide) rfl ?_
      refine iz_iload_n (n := 1) 21 1 rfl rfl ?_
      refine iz_iald 22 (sf_4_1 (sf_9_8 h0)) rfl ?_
      refine iz_let (fun v5 => ?_)
      refine iz_istore (n := 5) (ls2 := [(0, .ref (X.1 a0)), (1, .int x1), (2, .int x2), (3, .int x3), (4, .int x4), (5, .int v5)]) 23 [1, 2, 3, 4, 5, 0] rfl (by decide) rfl ?_
      refine iz_aload_n (n := 0) 24 0 rfl rfl ?_
      refine iz_getR 25 8 h0 fl_X9_70 rfl (by decide) (by decide) rfl ?_
      refine iz_iload_n (n := 1) 26 1 rfl rfl ?_
      refine iz_iload_n (n := 2) 27 2 rfl rfl ?_
      refine iz_iload_n (n := 3) 28 3 rfl rfl ?_
      refine iz_iload (n := 4) 29 4 rfl rfl ?_
      refine iz_callVV (As := [.int x1, .int x2, .int x3, .int x4]) (rest := []) 30 ml_X9_309 cw_X4_describe ci_X4_describe (sf_9_8 h0) (fun r9 hr9 => m_Ra_describe (sf_9_8 h0) hr9) rfl (by decide) (by decide) rfl rfl (Nat.le_of_ble_eq_true rfl) (fun S6 => ?_)
      refine iz_iload (n := 5) 31 5 rfl rfl ?_
      exact iz_iret 32 rfl
    · exact iz_sub [0] rfl (c_Ic_change_27 h0 S3)
theorem m_Ic_change {X : iz_X} {l : Launch} {a0 : Nat} (h0 : iz_sh a0 = (9 + 3, 11)) {x1 : Int32} {x2 : Int32} {x3 : Int32} {x4 : Int32} {S : iz_S} {r9 : Int32 × iz_S} (hr : Ic_change a0 x1 x2 x3 x4 S = some r9) : iz_Mt X l 2 yX9_change cX9_change 6 (some .int) [.ref (X.1 a0), .int x1, .int x2, .int x3, .int x4] S (iz_eI r9) :=
  iz_Mt_of (dt := tX9_change) dX9_change (by decide) hr (Nat.le_of_ble_eq_true rfl) (c_Ic_change h0 x1 x2 x3 x4 S)
def Ic_icing_19 (a0 : Nat) (S : iz_S) : Option (Int32 × iz_S) :=
  iz_bI (Ic_finding a0 1 S) (fun r19 S18 =>
  some (r19, S18))
def Ic_icing_112 (a0 : Nat) (s0 : Int32) (S : iz_S) : Option (Int32 × iz_S) :=
  some (s0, S)
def Ic_icing (a0 : Nat) (x1 : Int32) (x2 : Int32) (x3 : Int32) (S : iz_S) : Option (Int32 × iz_S) :=
  (iz_bI (Ic_within x1 1 60 S) (fun r2 S1 =>
  if r2 = 0 then
    (Ic_icing_19 a0 S1)
  else
    (iz_bI (Ic_within x2 0 x1 S1) (fun r4 S3 =>
    if r4 = 0 then
      (Ic_icing_19 a0 S3)
    else
      (if (S3.1 (iz_rf a0 8) 0) < 2 then
        iz_bI (Ic_finding a0 3 S3) (fun r17 S16 =>
        some (r17, S16))
      else
        (iz_bI (Ic_within x3 (-1) ((S3.1 (iz_rf a0 8) 0) - 2) S3) (fun r6 S5 =>
        if r6 = 0 then
          iz_bI (Ic_finding a0 1 S5) (fun r15 S14 =>
          some (r15, S14))
        else
          (iz_bV (Ra_plan (iz_rf a0 8) x1 S5) (fun S7 =>
          iz_bI (Ra_costFrom (iz_rf a0 8) x2 S7) (fun r9 S8 =>
          if r9 < 0 then
            iz_bI (Ic_finding a0 2 S8) (fun r13 S12 =>
            some (r13, S12))
          else
            (if x3 < 0 then
              (Ic_icing_112 a0 r9 S8)
            else
              iz_bI (Ra_boughtAt (iz_rf a0 8) x3 x2 S8) (fun r11 S10 =>
              (Ic_icing_112 a0 r11 S10)))))))))))))
set_option maxRecDepth 10000 in
theorem c_Ic_icing_19 {X : iz_X} {l : Launch} {a0 : Nat} (h0 : iz_sh a0 = (9 + 3, 11)) (S : iz_S) : iz_Y X l RX9 tX9_icing 5 3 (iz_Kc X l yX9_icing cX9_icing 5 (some .int) 3 iz_eI) 19 [(0, .ref (X.1 a0))] [] S (Ic_icing_19 a0 S) := by
  unfold Ic_icing_19
  refine iz_aload_n (n := 0) 10 0 rfl rfl ?_
  refine iz_iconst (v := 1) 11 (by decide) rfl ?_
  refine iz_callVI (As := [.int 1]) (rest := []) 12 ml_X9_89 cw_X9_finding ci_X9_finding h0 (fun r9 hr9 => m_Ic_finding h0 hr9) rfl (by decide) (by decide) rfl rfl (Nat.le_of_ble_eq_true rfl) (fun r19 S18 => ?_)
  exact iz_iret 13 rfl
set_option maxRecDepth 10000 in
theorem c_Ic_icing_112 {X : iz_X} {l : Launch} {a0 : Nat} (h0 : iz_sh a0 = (9 + 3, 11)) (s0 : Int32) (S : iz_S) : iz_Y X l RX9 tX9_icing 5 3 (iz_Kc X l yX9_icing cX9_icing 5 (some .int) 3 iz_eI) 112 [] [.int s0] S (Ic_icing_112 a0 s0 S) := by
  unfold Ic_icing_112
  exact iz_iret 60 rfl
set_option maxRecDepth 10000 in
theorem c_Ic_icing {X : iz_X} {l : Launch} {a0 : Nat} (h0 : iz_sh a0 = (9 + 3, 11)) (x1 : Int32) (x2 : Int32) (x3 : Int32) (S : iz_S) : iz_Y X l RX9 tX9_icing 5 3 (iz_Kc X l yX9_icing cX9_icing 5 (some .int) 3 iz_eI) 0 [(0, .ref (X.1 a0)), (1, .int x1), (2, .int x2), (3, .int x3)] [] S (Ic_icing a0 x1 x2 x3 S) := by
  unfold Ic_icing
  refine iz_iload_n (n := 1) 0 1 rfl rfl ?_
  refine iz_iconst (v := 1) 1 (by decide) rfl ?_
  refine iz_bipush (v := 60) 2 (by decide) rfl ?_
  refine iz_callSI (As := [.int x1, .int 1, .int 60]) (rest := []) 3 ml_X9_85 cw_X9_within ci_X9_within (fun r9 hr9 => m_Ic_within  hr9) rfl (by decide) rfl rfl (Nat.le_of_ble_eq_true rfl) (fun r2 S1 => ?_)
  refine iz_if_eq (tgt := 19) 4 rfl (by decide) ?_ ?_
  · exact iz_sub [0] rfl (c_Ic_icing_19 h0 S1)
  · refine iz_iload_n (n := 2) 5 2 rfl rfl ?_
    refine iz_iconst (v := 0) 6 (by decide) rfl ?_
    refine iz_iload_n (n := 1) 7 1 rfl rfl ?_
    refine iz_callSI (As := [.int x2, .int 0, .int x1]) (rest := []) 8 ml_X9_85 cw_X9_within ci_X9_within (fun r9 hr9 => m_Ic_within  hr9) rfl (by decide) rfl rfl (Nat.le_of_ble_eq_true rfl) (fun r4 S3 => ?_)
    refine iz_if_ne (tgt := 25) 9 rfl (by decide) ?_ ?_
    · refine iz_aload_n (n := 0) 14 0 rfl rfl ?_
      refine iz_getR 15 8 h0 fl_X9_70 rfl (by decide) (by decide) rfl ?_
      refine iz_getI 16 0 (sf_9_8 h0) fl_X9_302 rfl (by decide) (by decide) rfl ?_
      refine iz_iconst (v := 2) 17 (by decide) rfl ?_
      refine iz_cmp_ge (tgt := 42) 18 rfl (by decide) ?_ ?_
      · refine iz_iload_n (n := 3) 23 3 rfl rfl ?_
        refine iz_iconst (v := (-1)) 24 (by decide) rfl ?_
        refine iz_aload_n (n := 0) 25 0 rfl rfl ?_
        refine iz_getR 26 8 h0 fl_X9_70 rfl (by decide) (by decide) rfl ?_
        refine iz_getI 27 0 (sf_9_8 h0) fl_X9_302 rfl (by decide) (by decide) rfl ?_
        refine iz_iconst (v := 2) 28 (by decide) rfl ?_
        refine iz_isub 29 rfl ?_
        refine iz_callSI (As := [.int x3, .int (-1), .int ((S3.1 (iz_rf a0 8) 0) - 2)]) (rest := []) 30 ml_X9_85 cw_X9_within ci_X9_within (fun r9 hr9 => m_Ic_within  hr9) rfl (by decide) rfl rfl (Nat.le_of_ble_eq_true rfl) (fun r6 S5 => ?_)
        refine iz_if_ne (tgt := 65) 31 rfl (by decide) ?_ ?_
        · refine iz_aload_n (n := 0) 36 0 rfl rfl ?_
          refine iz_getR 37 8 h0 fl_X9_70 rfl (by decide) (by decide) rfl ?_
          refine iz_iload_n (n := 1) 38 1 rfl rfl ?_
          refine iz_callVV (As := [.int x1]) (rest := []) 39 ml_X9_313 cw_X4_plan ci_X4_plan (sf_9_8 h0) (fun r9 hr9 => m_Ra_plan (sf_9_8 h0) hr9) rfl (by decide) (by decide) rfl rfl (Nat.le_of_ble_eq_true rfl) (fun S7 => ?_)
          refine iz_aload_n (n := 0) 40 0 rfl rfl ?_
          refine iz_getR 41 8 h0 fl_X9_70 rfl (by decide) (by decide) rfl ?_
          refine iz_iload_n (n := 2) 42 2 rfl rfl ?_
          refine iz_callVI (As := [.int x2]) (rest := []) 43 ml_X9_315 cw_X4_costFrom ci_X4_costFrom (sf_9_8 h0) (fun r9 hr9 => m_Ra_costFrom (sf_9_8 h0) hr9) rfl (by decide) (by decide) rfl rfl (Nat.le_of_ble_eq_true rfl) (fun r9 S8 => ?_)
          refine iz_istore (n := 4) (ls2 := [(0, .ref (X.1 a0)), (2, .int x2), (3, .int x3), (4, .int r9)]) 44 [1, 3, 4, 0] rfl (by decide) rfl ?_
          refine iz_iload (n := 4) 45 3 rfl rfl ?_
          refine iz_if_ge (tgt := 94) 46 rfl (by decide) ?_ ?_
          · refine iz_iload_n (n := 3) 51 2 rfl rfl ?_
            refine iz_if_ge (tgt := 103) 52 rfl (by decide) ?_ ?_
            · refine iz_aload_n (n := 0) 55 0 rfl rfl ?_
              refine iz_getR 56 8 h0 fl_X9_70 rfl (by decide) (by decide) rfl ?_
              refine iz_iload_n (n := 3) 57 2 rfl rfl ?_
              refine iz_iload_n (n := 2) 58 1 rfl rfl ?_
              refine iz_callVI (As := [.int x3, .int x2]) (rest := []) 59 ml_X9_318 cw_X4_boughtAt ci_X4_boughtAt (sf_9_8 h0) (fun r9 hr9 => m_Ra_boughtAt (sf_9_8 h0) hr9) rfl (by decide) (by decide) rfl rfl (Nat.le_of_ble_eq_true rfl) (fun r11 S10 => ?_)
              exact iz_sub [] rfl (c_Ic_icing_112 h0 r11 S10)
            · refine iz_iload (n := 4) 53 3 rfl rfl ?_
              refine iz_goto (tgt := 112) 54 (by decide) rfl ?_
              exact iz_sub [] rfl (c_Ic_icing_112 h0 r9 S8)
          · refine iz_aload_n (n := 0) 47 0 rfl rfl ?_
            refine iz_iconst (v := 2) 48 (by decide) rfl ?_
            refine iz_callVI (As := [.int 2]) (rest := []) 49 ml_X9_89 cw_X9_finding ci_X9_finding h0 (fun r9 hr9 => m_Ic_finding h0 hr9) rfl (by decide) (by decide) rfl rfl (Nat.le_of_ble_eq_true rfl) (fun r13 S12 => ?_)
            exact iz_iret 50 rfl
        · refine iz_aload_n (n := 0) 32 0 rfl rfl ?_
          refine iz_iconst (v := 1) 33 (by decide) rfl ?_
          refine iz_callVI (As := [.int 1]) (rest := []) 34 ml_X9_89 cw_X9_finding ci_X9_finding h0 (fun r9 hr9 => m_Ic_finding h0 hr9) rfl (by decide) (by decide) rfl rfl (Nat.le_of_ble_eq_true rfl) (fun r15 S14 => ?_)
          exact iz_iret 35 rfl
      · refine iz_aload_n (n := 0) 19 0 rfl rfl ?_
        refine iz_iconst (v := 3) 20 (by decide) rfl ?_
        refine iz_callVI (As := [.int 3]) (rest := []) 21 ml_X9_89 cw_X9_finding ci_X9_finding h0 (fun r9 hr9 => m_Ic_finding h0 hr9) rfl (by decide) (by decide) rfl rfl (Nat.le_of_ble_eq_true rfl) (fun r17 S16 => ?_)
        exact iz_iret 22 rfl
    · exact iz_sub [0] rfl (c_Ic_icing_19 h0 S3)
theorem m_Ic_icing {X : iz_X} {l : Launch} {a0 : Nat} (h0 : iz_sh a0 = (9 + 3, 11)) {x1 : Int32} {x2 : Int32} {x3 : Int32} {S : iz_S} {r9 : Int32 × iz_S} (hr : Ic_icing a0 x1 x2 x3 S = some r9) : iz_Mt X l 3 yX9_icing cX9_icing 5 (some .int) [.ref (X.1 a0), .int x1, .int x2, .int x3] S (iz_eI r9) :=
  iz_Mt_of (dt := tX9_icing) dX9_icing (by decide) hr (Nat.le_of_ble_eq_true rfl) (c_Ic_icing h0 x1 x2 x3 S)
def Ic_ledger (a0 : Nat) (x1 : Int32) (S : iz_S) : Option (Int32 × iz_S) :=
  iz_sw x1 0 6 [
    some ((S.1 (iz_rf a0 3) 6), S),
    some ((S.1 (iz_rf a0 3) 7), S),
    some ((S.1 (iz_rf a0 3) 8), S),
    some ((S.1 (iz_rf a0 3) 9), S),
    some ((S.1 (iz_rf a0 3) 10), S),
    iz_bI (Ho_allWeight (iz_rf a0 3) S) (fun r4 S3 =>
    some (r4, S3)),
    some ((S.1 (iz_rf a0 6) 2), S)]
    (iz_bI (Ic_finding a0 1 S) (fun r2 S1 =>
    some (r2, S1)))
set_option maxRecDepth 10000 in
theorem c_Ic_ledger {X : iz_X} {l : Launch} {a0 : Nat} (h0 : iz_sh a0 = (9 + 3, 11)) (x1 : Int32) (S : iz_S) : iz_Y X l RX9 tX9_ledger 2 3 (iz_Kc X l yX9_ledger cX9_ledger 2 (some .int) 3 iz_eI) 0 [(0, .ref (X.1 a0)), (1, .int x1)] [] S (Ic_ledger a0 x1 S) := by
  unfold Ic_ledger
  refine iz_iload_n (n := 1) 0 1 rfl rfl ?_
  refine iz_tsw2 (dtgt := 100) 1 [44, 52, 60, 68, 76, 84, 92] rfl (by decide) (by decide) (by decide) ?_ ⟨?_, ?_, ?_, ?_, ?_, ?_, ?_, trivial⟩
  · refine iz_aload_n (n := 0) 30 0 rfl rfl ?_
    refine iz_iconst (v := 1) 31 (by decide) rfl ?_
    refine iz_callVI (As := [.int 1]) (rest := []) 32 ml_X9_89 cw_X9_finding ci_X9_finding h0 (fun r9 hr9 => m_Ic_finding h0 hr9) rfl (by decide) (by decide) rfl rfl (Nat.le_of_ble_eq_true rfl) (fun r2 S1 => ?_)
    exact iz_iret 33 rfl
  · refine iz_aload_n (n := 0) 2 0 rfl rfl ?_
    refine iz_getR 3 3 h0 fl_X9_35 rfl (by decide) (by decide) rfl ?_
    refine iz_getI 4 6 (sf_9_3 h0) fl_X9_321 rfl (by decide) (by decide) rfl ?_
    exact iz_iret 5 rfl
  · refine iz_aload_n (n := 0) 6 0 rfl rfl ?_
    refine iz_getR 7 3 h0 fl_X9_35 rfl (by decide) (by decide) rfl ?_
    refine iz_getI 8 7 (sf_9_3 h0) fl_X9_324 rfl (by decide) (by decide) rfl ?_
    exact iz_iret 9 rfl
  · refine iz_aload_n (n := 0) 10 0 rfl rfl ?_
    refine iz_getR 11 3 h0 fl_X9_35 rfl (by decide) (by decide) rfl ?_
    refine iz_getI 12 8 (sf_9_3 h0) fl_X9_327 rfl (by decide) (by decide) rfl ?_
    exact iz_iret 13 rfl
  · refine iz_aload_n (n := 0) 14 0 rfl rfl ?_
    refine iz_getR 15 3 h0 fl_X9_35 rfl (by decide) (by decide) rfl ?_
    refine iz_getI 16 9 (sf_9_3 h0) fl_X9_330 rfl (by decide) (by decide) rfl ?_
    exact iz_iret 17 rfl
  · refine iz_aload_n (n := 0) 18 0 rfl rfl ?_
    refine iz_getR 19 3 h0 fl_X9_35 rfl (by decide) (by decide) rfl ?_
    refine iz_getI 20 10 (sf_9_3 h0) fl_X9_333 rfl (by decide) (by decide) rfl ?_
    exact iz_iret 21 rfl
  · refine iz_aload_n (n := 0) 22 0 rfl rfl ?_
    refine iz_getR 23 3 h0 fl_X9_35 rfl (by decide) (by decide) rfl ?_
    refine iz_callVI (As := []) (rest := []) 24 ml_X9_246 cw_X1_allWeight ci_X1_allWeight (sf_9_3 h0) (fun r9 hr9 => m_Ho_allWeight (sf_9_3 h0) hr9) rfl (by decide) (by decide) rfl rfl (Nat.le_of_ble_eq_true rfl) (fun r4 S3 => ?_)
    exact iz_iret 25 rfl
  · refine iz_aload_n (n := 0) 26 0 rfl rfl ?_
    refine iz_getR 27 6 h0 fl_X9_54 rfl (by decide) (by decide) rfl ?_
    refine iz_getI 28 2 (sf_9_6 h0) fl_X9_336 rfl (by decide) (by decide) rfl ?_
    exact iz_iret 29 rfl
theorem m_Ic_ledger {X : iz_X} {l : Launch} {a0 : Nat} (h0 : iz_sh a0 = (9 + 3, 11)) {x1 : Int32} {S : iz_S} {r9 : Int32 × iz_S} (hr : Ic_ledger a0 x1 S = some r9) : iz_Mt X l 3 yX9_ledger cX9_ledger 2 (some .int) [.ref (X.1 a0), .int x1] S (iz_eI r9) :=
  iz_Mt_of (dt := tX9_ledger) dX9_ledger (by decide) hr (Nat.le_of_ble_eq_true rfl) (c_Ic_ledger h0 x1 S)
def Ic_tell (a0 : Nat) (x1 : Int32) (S : iz_S) : Option (Int32 × iz_S) :=
  (if (S.1 (iz_rf a0 9) 0) < 16 then
    iz_bI (Wa_enter (iz_rf a0 9) x1 S) (fun r2 S1 =>
    some (r2, S1))
  else
    iz_bI (Ic_finding a0 4 S) (fun r4 S3 =>
    some (r4, S3)))
set_option maxRecDepth 10000 in
theorem c_Ic_tell {X : iz_X} {l : Launch} {a0 : Nat} (h0 : iz_sh a0 = (9 + 3, 11)) (x1 : Int32) (S : iz_S) : iz_Y X l RX9 tX9_tell 2 1 (iz_Kc X l yX9_tell cX9_tell 2 (some .int) 1 iz_eI) 0 [(0, .ref (X.1 a0)), (1, .int x1)] [] S (Ic_tell a0 x1 S) := by
  unfold Ic_tell
  refine iz_aload_n (n := 0) 0 0 rfl rfl ?_
  refine iz_getR 1 9 h0 fl_X9_77 rfl (by decide) (by decide) rfl ?_
  refine iz_getI 2 0 (sf_9_9 h0) fl_X9_339 rfl (by decide) (by decide) rfl ?_
  refine iz_bipush (v := 16) 3 (by decide) rfl ?_
  refine iz_cmp_lt (tgt := 18) 4 rfl (by decide) ?_ ?_
  · refine iz_aload_n (n := 0) 9 0 rfl rfl ?_
    refine iz_getR 10 9 h0 fl_X9_77 rfl (by decide) (by decide) rfl ?_
    refine iz_iload_n (n := 1) 11 1 rfl rfl ?_
    refine iz_callVI (As := [.int x1]) (rest := []) 12 ml_X9_340 cw_X8_enter ci_X8_enter (sf_9_9 h0) (fun r9 hr9 => m_Wa_enter (sf_9_9 h0) hr9) rfl (by decide) (by decide) rfl rfl (Nat.le_of_ble_eq_true rfl) (fun r2 S1 => ?_)
    exact iz_iret 13 rfl
  · refine iz_aload_n (n := 0) 5 0 rfl rfl ?_
    refine iz_iconst (v := 4) 6 (by decide) rfl ?_
    refine iz_callVI (As := [.int 4]) (rest := []) 7 ml_X9_89 cw_X9_finding ci_X9_finding h0 (fun r9 hr9 => m_Ic_finding h0 hr9) rfl (by decide) (by decide) rfl rfl (Nat.le_of_ble_eq_true rfl) (fun r4 S3 => ?_)
    exact iz_iret 8 rfl
theorem m_Ic_tell {X : iz_X} {l : Launch} {a0 : Nat} (h0 : iz_sh a0 = (9 + 3, 11)) {x1 : Int32} {S : iz_S} {r9 : Int32 × iz_S} (hr : Ic_tell a0 x1 S = some r9) : iz_Mt X l 1 yX9_tell cX9_tell 2 (some .int) [.ref (X.1 a0), .int x1] S (iz_eI r9) :=
  iz_Mt_of (dt := tX9_tell) dX9_tell (by decide) hr (Nat.le_of_ble_eq_true rfl) (c_Ic_tell h0 x1 S)
def Ic_check (a0 : Nat) (x1 : Int32) (S : iz_S) : Option (Int32 × iz_S) :=
  (iz_bI (Ic_within x1 0 20 S) (fun r2 S1 =>
  if r2 = 0 then
    iz_bV (Wa_clear (iz_rf a0 9) S1) (fun S8 =>
    iz_bI (Ic_finding a0 1 S8) (fun r10 S9 =>
    some (r10, S9)))
  else
    iz_bV (Ho_becomeLike (iz_rf a0 4) (iz_rf a0 3) S1) (fun S3 =>
    iz_bV (Ho_passWeeks (iz_rf a0 4) x1 S3) (fun S4 =>
    iz_bI (Wa_firstWrong (iz_rf a0 9) (iz_rf a0 4) S4) (fun r6 S5 =>
    iz_bV (Wa_clear (iz_rf a0 9) S5) (fun S7 =>
    some (r6, S7)))))))
set_option maxRecDepth 10000 in
theorem c_Ic_check {X : iz_X} {l : Launch} {a0 : Nat} (h0 : iz_sh a0 = (9 + 3, 11)) (x1 : Int32) (S : iz_S) : iz_Y X l RX9 tX9_check 3 6 (iz_Kc X l yX9_check cX9_check 3 (some .int) 6 iz_eI) 0 [(0, .ref (X.1 a0)), (1, .int x1)] [] S (Ic_check a0 x1 S) := by
  unfold Ic_check
  refine iz_iload_n (n := 1) 0 1 rfl rfl ?_
  refine iz_iconst (v := 0) 1 (by decide) rfl ?_
  refine iz_bipush (v := 20) 2 (by decide) rfl ?_
  refine iz_callSI (As := [.int x1, .int 0, .int 20]) (rest := []) 3 ml_X9_85 cw_X9_within ci_X9_within (fun r9 hr9 => m_Ic_within  hr9) rfl (by decide) rfl rfl (Nat.le_of_ble_eq_true rfl) (fun r2 S1 => ?_)
  refine iz_if_ne (tgt := 23) 4 rfl (by decide) ?_ ?_
  · refine iz_aload_n (n := 0) 12 0 rfl rfl ?_
    refine iz_getR 13 4 h0 fl_X9_39 rfl (by decide) (by decide) rfl ?_
    refine iz_aload_n (n := 0) 14 0 rfl rfl ?_
    refine iz_getR 15 3 h0 fl_X9_35 rfl (by decide) (by decide) rfl ?_
    refine iz_callVV (As := [.ref (X.1 (iz_rf a0 3))]) (rest := []) 16 ml_X9_249 cw_X1_becomeLike ci_X1_becomeLike (sf_9_4 h0) (fun r9 hr9 => m_Ho_becomeLike (sf_9_4 h0) (sf_9_3 h0) hr9) rfl (by decide) (by decide) rfl rfl (Nat.le_of_ble_eq_true rfl) (fun S3 => ?_)
    refine iz_aload_n (n := 0) 17 0 rfl rfl ?_
    refine iz_getR 18 4 h0 fl_X9_39 rfl (by decide) (by decide) rfl ?_
    refine iz_iload_n (n := 1) 19 1 rfl rfl ?_
    refine iz_callVV (As := [.int x1]) (rest := []) 20 ml_X9_243 cw_X1_passWeeks ci_X1_passWeeks (sf_9_4 h0) (fun r9 hr9 => m_Ho_passWeeks (sf_9_4 h0) hr9) rfl (by decide) (by decide) rfl rfl (Nat.le_of_ble_eq_true rfl) (fun S4 => ?_)
    refine iz_aload_n (n := 0) 21 0 rfl rfl ?_
    refine iz_getR 22 9 h0 fl_X9_77 rfl (by decide) (by decide) rfl ?_
    refine iz_aload_n (n := 0) 23 0 rfl rfl ?_
    refine iz_getR 24 4 h0 fl_X9_39 rfl (by decide) (by decide) rfl ?_
    refine iz_callVI (As := [.ref (X.1 (iz_rf a0 4))]) (rest := []) 25 ml_X9_345 cw_X8_firstWrong ci_X8_firstWrong (sf_9_9 h0) (fun r9 hr9 => m_Wa_firstWrong (sf_9_9 h0) (sf_9_4 h0) hr9) rfl (by decide) (by decide) rfl rfl (Nat.le_of_ble_eq_true rfl) (fun r6 S5 => ?_)
    refine iz_istore_n (n := 2) (ls2 := [(0, .ref (X.1 a0)), (2, .int r6)]) 26 [1, 0] rfl (by decide) rfl ?_
    refine iz_aload_n (n := 0) 27 0 rfl rfl ?_
    refine iz_getR 28 9 h0 fl_X9_77 rfl (by decide) (by decide) rfl ?_
    refine iz_callVV (As := []) (rest := []) 29 ml_X9_342 cw_X8_clear ci_X8_clear (sf_9_9 h0) (fun r9 hr9 => m_Wa_clear (sf_9_9 h0) hr9) rfl (by decide) (by decide) rfl rfl (Nat.le_of_ble_eq_true rfl) (fun S7 => ?_)
    refine iz_iload_n (n := 2) 30 1 rfl rfl ?_
    exact iz_iret 31 rfl
  · refine iz_aload_n (n := 0) 5 0 rfl rfl ?_
    refine iz_getR 6 9 h0 fl_X9_77 rfl (by decide) (by decide) rfl ?_
    refine iz_callVV (As := []) (rest := []) 7 ml_X9_342 cw_X8_clear ci_X8_clear (sf_9_9 h0) (fun r9 hr9 => m_Wa_clear (sf_9_9 h0) hr9) rfl (by decide) (by decide) rfl rfl (Nat.le_of_ble_eq_true rfl) (fun S8 => ?_)
    refine iz_aload_n (n := 0) 8 0 rfl rfl ?_
    refine iz_iconst (v := 1) 9 (by decide) rfl ?_
    refine iz_callVI (As := [.int 1]) (rest := []) 10 ml_X9_89 cw_X9_finding ci_X9_finding h0 (fun r9 hr9 => m_Ic_finding h0 hr9) rfl (by decide) (by decide) rfl rfl (Nat.le_of_ble_eq_true rfl) (fun r10 S9 => ?_)
    exact iz_iret 11 rfl
theorem m_Ic_check {X : iz_X} {l : Launch} {a0 : Nat} (h0 : iz_sh a0 = (9 + 3, 11)) {x1 : Int32} {S : iz_S} {r9 : Int32 × iz_S} (hr : Ic_check a0 x1 S = some r9) : iz_Mt X l 6 yX9_check cX9_check 3 (some .int) [.ref (X.1 a0), .int x1] S (iz_eI r9) :=
  iz_Mt_of (dt := tX9_check) dX9_check (by decide) hr (Nat.le_of_ble_eq_true rfl) (c_Ic_check h0 x1 S)
def Ic_count (a0 : Nat) (x1 : Int32) (S : iz_S) : Option (Int32 × iz_S) :=
  iz_sw x1 0 8 [
    some ((S.1 (iz_rf a0 3) 0), S),
    iz_bI (Ho_blocksWhere (iz_rf a0 3) 0 S) (fun r4 S3 =>
    some (r4, S3)),
    iz_bI (Ho_blocksWhere (iz_rf a0 3) 1 S) (fun r6 S5 =>
    some (r6, S5)),
    some ((S.1 (iz_rf a0 6) 0), S),
    some ((S.1 (iz_rf a0 6) 1), S),
    some ((S.1 (iz_rf a0 3) 5), S),
    some ((S.1 (iz_rf a0 8) 0), S),
    some ((S.1 (iz_rf a0 9) 0), S),
    iz_bI (La_frozenCells (iz_rf a0 0) S) (fun r8 S7 =>
    some (r8, S7))]
    (iz_bI (Ic_finding a0 1 S) (fun r2 S1 =>
    some (r2, S1)))
set_option maxRecDepth 10000 in
theorem c_Ic_count {X : iz_X} {l : Launch} {a0 : Nat} (h0 : iz_sh a0 = (9 + 3, 11)) (x1 : Int32) (S : iz_S) : iz_Y X l RX9 tX9_count 2 2 (iz_Kc X l yX9_count cX9_count 2 (some .int) 2 iz_eI) 0 [(0, .ref (X.1 a0)), (1, .int x1)] [] S (Ic_count a0 x1 S) := by
  unfold Ic_count
  refine iz_iload_n (n := 1) 0 1 rfl rfl ?_
  refine iz_tsw2 (dtgt := 126) 1 [52, 60, 69, 78, 86, 94, 102, 110, 118] rfl (by decide) (by decide) (by decide) ?_ ⟨?_, ?_, ?_, ?_, ?_, ?_, ?_, ?_, ?_, trivial⟩
  · refine iz_aload_n (n := 0) 40 0 rfl rfl ?_
    refine iz_iconst (v := 1) 41 (by decide) rfl ?_
    refine iz_callVI (As := [.int 1]) (rest := []) 42 ml_X9_89 cw_X9_finding ci_X9_finding h0 (fun r9 hr9 => m_Ic_finding h0 hr9) rfl (by decide) (by decide) rfl rfl (Nat.le_of_ble_eq_true rfl) (fun r2 S1 => ?_)
    exact iz_iret 43 rfl
  · refine iz_aload_n (n := 0) 2 0 rfl rfl ?_
    refine iz_getR 3 3 h0 fl_X9_35 rfl (by decide) (by decide) rfl ?_
    refine iz_getI 4 0 (sf_9_3 h0) fl_X9_141 rfl (by decide) (by decide) rfl ?_
    exact iz_iret 5 rfl
  · refine iz_aload_n (n := 0) 6 0 rfl rfl ?_
    refine iz_getR 7 3 h0 fl_X9_35 rfl (by decide) (by decide) rfl ?_
    refine iz_iconst (v := 0) 8 (by decide) rfl ?_
    refine iz_callVI (As := [.int 0]) (rest := []) 9 ml_X9_349 cw_X1_blocksWhere ci_X1_blocksWhere (sf_9_3 h0) (fun r9 hr9 => m_Ho_blocksWhere (sf_9_3 h0) hr9) rfl (by decide) (by decide) rfl rfl (Nat.le_of_ble_eq_true rfl) (fun r4 S3 => ?_)
    exact iz_iret 10 rfl
  · refine iz_aload_n (n := 0) 11 0 rfl rfl ?_
    refine iz_getR 12 3 h0 fl_X9_35 rfl (by decide) (by decide) rfl ?_
    refine iz_iconst (v := 1) 13 (by decide) rfl ?_
    refine iz_callVI (As := [.int 1]) (rest := []) 14 ml_X9_349 cw_X1_blocksWhere ci_X1_blocksWhere (sf_9_3 h0) (fun r9 hr9 => m_Ho_blocksWhere (sf_9_3 h0) hr9) rfl (by decide) (by decide) rfl rfl (Nat.le_of_ble_eq_true rfl) (fun r6 S5 => ?_)
    exact iz_iret 15 rfl
  · refine iz_aload_n (n := 0) 16 0 rfl rfl ?_
    refine iz_getR 17 6 h0 fl_X9_54 rfl (by decide) (by decide) rfl ?_
    refine iz_getI 18 0 (sf_9_6 h0) fl_X9_262 rfl (by decide) (by decide) rfl ?_
    exact iz_iret 19 rfl
  · refine iz_aload_n (n := 0) 20 0 rfl rfl ?_
    refine iz_getR 21 6 h0 fl_X9_54 rfl (by decide) (by decide) rfl ?_
    refine iz_getI 22 1 (sf_9_6 h0) fl_X9_352 rfl (by decide) (by decide) rfl ?_
    exact iz_iret 23 rfl
  · refine iz_aload_n (n := 0) 24 0 rfl rfl ?_
    refine iz_getR 25 3 h0 fl_X9_35 rfl (by decide) (by decide) rfl ?_
    refine iz_getI 26 5 (sf_9_3 h0) fl_X9_240 rfl (by decide) (by decide) rfl ?_
    exact iz_iret 27 rfl
  · refine iz_aload_n (n := 0) 28 0 rfl rfl ?_
    refine iz_getR 29 8 h0 fl_X9_70 rfl (by decide) (by decide) rfl ?_
    refine iz_getI 30 0 (sf_9_8 h0) fl_X9_302 rfl (by decide) (by decide) rfl ?_
    exact iz_iret 31 rfl
  · refine iz_aload_n (n := 0) 32 0 rfl rfl ?_
    refine iz_getR 33 9 h0 fl_X9_77 rfl (by decide) (by decide) rfl ?_
    refine iz_getI 34 0 (sf_9_9 h0) fl_X9_339 rfl (by decide) (by decide) rfl ?_
    exact iz_iret 35 rfl
  · refine iz_aload_n (n := 0) 36 0 rfl rfl ?_
    refine iz_getR 37 0 h0 fl_X9_10 rfl (by decide) (by decide) rfl ?_
    refine iz_callVI (As := []) (rest := []) 38 ml_X9_110 cw_X2_frozenCells ci_X2_frozenCells (sf_9_0 h0) (fun r9 hr9 => m_La_frozenCells (sf_9_0 h0) hr9) rfl (by decide) (by decide) rfl rfl (Nat.le_of_ble_eq_true rfl) (fun r8 S7 => ?_)
    exact iz_iret 39 rfl
theorem m_Ic_count {X : iz_X} {l : Launch} {a0 : Nat} (h0 : iz_sh a0 = (9 + 3, 11)) {x1 : Int32} {S : iz_S} {r9 : Int32 × iz_S} (hr : Ic_count a0 x1 S = some r9) : iz_Mt X l 2 yX9_count cX9_count 2 (some .int) [.ref (X.1 a0), .int x1] S (iz_eI r9) :=
  iz_Mt_of (dt := tX9_count) dX9_count (by decide) hr (Nat.le_of_ble_eq_true rfl) (c_Ic_count h0 x1 S)
def Ic_found_23 (a0 : Nat) (s0 : Int32) (S : iz_S) : Option (Int32 × iz_S) :=
  some (s0, S)
def Ic_found (a0 : Nat) (x1 : Int32) (S : iz_S) : Option (Int32 × iz_S) :=
  (iz_bI (Ic_within x1 1 5 S) (fun r2 S1 =>
  if r2 = 0 then
    iz_bI (Ic_finding a0 1 S1) (fun r4 S3 =>
    (Ic_found_23 a0 r4 S3))
  else
    iz_ck (iz_in x1 6) (
    (Ic_found_23 a0 (iz_g S1 (iz_rf a0 10) x1) S1))))
set_option maxRecDepth 10000 in
theorem c_Ic_found_23 {X : iz_X} {l : Launch} {a0 : Nat} (h0 : iz_sh a0 = (9 + 3, 11)) (s0 : Int32) (S : iz_S) : iz_Y X l RX9 tX9_found 2 1 (iz_Kc X l yX9_found cX9_found 2 (some .int) 1 iz_eI) 23 [] [.int s0] S (Ic_found_23 a0 s0 S) := by
  unfold Ic_found_23
  exact iz_iret 13 rfl
set_option maxRecDepth 10000 in
theorem c_Ic_found {X : iz_X} {l : Launch} {a0 : Nat} (h0 : iz_sh a0 = (9 + 3, 11)) (x1 : Int32) (S : iz_S) : iz_Y X l RX9 tX9_found 2 1 (iz_Kc X l yX9_found cX9_found 2 (some .int) 1 iz_eI) 0 [(0, .ref (X.1 a0)), (1, .int x1)] [] S (Ic_found a0 x1 S) := by
  unfold Ic_found
  refine iz_iload_n (n := 1) 0 1 rfl rfl ?_
  refine iz_iconst (v := 1) 1 (by decide) rfl ?_
  refine iz_iconst (v := 5) 2 (by decide) rfl ?_
  refine iz_callSI (As := [.int x1, .int 1, .int 5]) (rest := []) 3 ml_X9_85 cw_X9_within ci_X9_within (fun r9 hr9 => m_Ic_within  hr9) rfl (by decide) rfl rfl (Nat.le_of_ble_eq_true rfl) (fun r2 S1 => ?_)
  refine iz_if_eq (tgt := 18) 4 rfl (by decide) ?_ ?_
  · refine iz_aload_n (n := 0) 10 0 rfl rfl ?_
    refine iz_iconst (v := 1) 11 (by decide) rfl ?_
    refine iz_callVI (As := [.int 1]) (rest := []) 12 ml_X9_89 cw_X9_finding ci_X9_finding h0 (fun r9 hr9 => m_Ic_finding h0 hr9) rfl (by decide) (by decide) rfl rfl (Nat.le_of_ble_eq_true rfl) (fun r4 S3 => ?_)
    exact iz_sub [] rfl (c_Ic_found_23 h0 r4 S3)
  · refine iz_aload_n (n := 0) 5 0 rfl rfl ?_
    refine iz_getR 6 10 h0 fl_X9_81 rfl (by decide) (by decide) rfl ?_
    refine iz_iload_n (n := 1) 7 1 rfl rfl ?_
    refine iz_iald 8 (sf_9_10 h0) rfl ?_
    refine iz_goto (tgt := 23) 9 (by decide) rfl ?_
    exact iz_sub [] rfl (c_Ic_found_23 h0 (iz_g S1 (iz_rf a0 10) x1) S1)
theorem m_Ic_found {X : iz_X} {l : Launch} {a0 : Nat} (h0 : iz_sh a0 = (9 + 3, 11)) {x1 : Int32} {S : iz_S} {r9 : Int32 × iz_S} (hr : Ic_found a0 x1 S = some r9) : iz_Mt X l 1 yX9_found cX9_found 2 (some .int) [.ref (X.1 a0), .int x1] S (iz_eI r9) :=
  iz_Mt_of (dt := tX9_found) dX9_found (by decide) hr (Nat.le_of_ble_eq_true rfl) (c_Ic_found h0 x1 S)
