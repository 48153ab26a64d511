def Du_clearTables_19b (a0 : Nat) (k19 : Int32 → iz_S → Option iz_S) (x1 : Int32) (S : iz_S) : Option iz_S :=
  (if x1 < 4 then
    iz_ck (iz_in x1 4) (
    iz_bV (Ja_fill (iz_rf (iz_rf a0 4) (Int32.toNatClampNeg x1)) 0 S) (fun S5 =>
    (k19 (x1 + 1) S5)))
  else
    some S)
def Du_clearTables_19 (a0 : Nat) : Nat → Int32 → iz_S → Option iz_S
  | 0 => fun _ _ => none
  | n9 + 1 => Du_clearTables_19b a0 (Du_clearTables_19 a0 n9)
def Du_clearTables (a0 : Nat) (S : iz_S) : Option iz_S :=
  iz_lt (iz_up S a0 0 2147483647) (fun S1 =>
  iz_lt (iz_up S1 a0 2 2147483647) (fun S2 =>
  iz_lt (iz_up S2 a0 3 0) (fun S3 =>
  (Du_clearTables_19 a0 iz_FU 0 S3))))
set_option maxRecDepth 10000 in
theorem c_Du_clearTables_19b {X : iz_X} {l : Launch} {a0 : Nat} (h0 : iz_sh a0 = (0 + 3, 7)) {k19 : Int32 → iz_S → Option iz_S} (hk19 : ∀ (x1 : Int32) (S : iz_S), iz_Y X l RX0 tX0_clearTables 2 1 (iz_Kc X l yX0_clearTables cX0_clearTables 2 none 1 iz_eV) 19 [(0, .ref (X.1 a0)), (1, .int x1)] [] S (k19 x1 S)) (x1 : Int32) (S : iz_S) : iz_Y X l RX0 tX0_clearTables 2 1 (iz_Kc X l yX0_clearTables cX0_clearTables 2 none 1 iz_eV) 19 [(0, .ref (X.1 a0)), (1, .int x1)] [] S (Du_clearTables_19b a0 k19 x1 S) := by
  unfold Du_clearTables_19b
  refine iz_iload_n (n := 1) 11 1 rfl rfl ?_
  refine iz_iconst (v := 4) 12 (by decide) rfl ?_
  refine iz_cmp_ge (tgt := 40) 13 rfl (by decide) ?_ ?_
  · exact iz_vret 22 rfl
  · refine iz_aload_n (n := 0) 14 0 rfl rfl ?_
    refine iz_getR 15 4 h0 fl_X0_17 rfl (by decide) (by decide) rfl ?_
    refine iz_iload_n (n := 1) 16 1 rfl rfl ?_
    refine iz_aald 17 (sf_0_4 h0) rfl (fun hc4 => ?_)
    refine iz_iconst (v := 0) 18 (by decide) rfl ?_
    refine iz_callSV (As := [.ref (X.1 (iz_rf (iz_rf a0 4) (Int32.toNatClampNeg x1))), .int 0]) (rest := []) 19 ml_X0_59 cw_J7_fill_53178 ci_J7_fill_53178 (fun r9 hr9 => m_Ja_fill (iz_shI (sr_0_4 h0 hc4)) hr9) rfl (by decide) rfl rfl (Nat.le_of_ble_eq_true rfl) (fun S5 => ?_)
    refine iz_iinc (v := (x1 + 1)) (ls2 := [(0, .ref (X.1 a0)), (1, .int (x1 + 1))]) 20 1 [1, 0] rfl rfl rfl (by decide) rfl ?_
    refine iz_goto (tgt := 19) 21 (by decide) rfl ?_
    exact hk19 (x1 + 1) S5
theorem c_Du_clearTables_19 {X : iz_X} {l : Launch} {a0 : Nat} (h0 : iz_sh a0 = (0 + 3, 7)) : ∀ (n9 : Nat) (x1 : Int32) (S : iz_S), iz_Y X l RX0 tX0_clearTables 2 1 (iz_Kc X l yX0_clearTables cX0_clearTables 2 none 1 iz_eV) 19 [(0, .ref (X.1 a0)), (1, .int x1)] [] S (Du_clearTables_19 a0 n9 x1 S)
  | 0 => by
    intros
    exact iz_none
  | n9 + 1 => c_Du_clearTables_19b h0 (c_Du_clearTables_19 h0 n9)
set_option maxRecDepth 10000 in
theorem c_Du_clearTables {X : iz_X} {l : Launch} {a0 : Nat} (h0 : iz_sh a0 = (0 + 3, 7)) (S : iz_S) : iz_Y X l RX0 tX0_clearTables 2 1 (iz_Kc X l yX0_clearTables cX0_clearTables 2 none 1 iz_eV) 0 [(0, .ref (X.1 a0))] [] S (Du_clearTables a0 S) := by
  unfold Du_clearTables
  refine iz_aload_n (n := 0) 0 0 rfl rfl ?_
  refine iz_ldc 1 kc_X0_48 rfl ?_
  refine iz_putI 2 0 h0 fl_X0_49 rfl (by decide) (by decide) rfl (fun S1 => ?_)
  refine iz_aload_n (n := 0) 3 0 rfl rfl ?_
  refine iz_ldc 4 kc_X0_48 rfl ?_
  refine iz_putI 5 2 h0 fl_X0_53 rfl (by decide) (by decide) rfl (fun S2 => ?_)
  refine iz_aload_n (n := 0) 6 0 rfl rfl ?_
  refine iz_iconst (v := 0) 7 (by decide) rfl ?_
  refine iz_putI 8 3 h0 fl_X0_56 rfl (by decide) (by decide) rfl (fun S3 => ?_)
  refine iz_iconst (v := 0) 9 (by decide) rfl ?_
  refine iz_istore_n (n := 1) (ls2 := [(0, .ref (X.1 a0)), (1, .int 0)]) 10 [1, 0] rfl (by decide) rfl ?_
  exact c_Du_clearTables_19 h0 iz_FU 0 S3
theorem m_Du_clearTables {X : iz_X} {l : Launch} {a0 : Nat} (h0 : iz_sh a0 = (0 + 3, 7)) {S : iz_S} {r9 : iz_S} (hr : Du_clearTables a0 S = some r9) : iz_Mt X l 1 yX0_clearTables cX0_clearTables 2 none [.ref (X.1 a0)] S (iz_eV r9) :=
  iz_Mt_of (dt := tX0_clearTables) dX0_clearTables (by decide) hr (Nat.le_of_ble_eq_true rfl) (c_Du_clearTables h0 S)
def Sh_rowWall_22 (s0 : Int32) (S : iz_S) : Option (Int32 × iz_S) :=
  some (s0, S)
def Sh_rowWall (x0 : Int32) (S : iz_S) : Option (Int32 × iz_S) :=
  (iz_lt (x0 / 4) (fun v1 =>
  if v1 = 0 then
    (Sh_rowWall_22 0 S)
  else
    (if v1 = 3 then
      (Sh_rowWall_22 1 S)
    else
      (Sh_rowWall_22 (-1) S))))
set_option maxRecDepth 10000 in
theorem c_Sh_rowWall_22 {X : iz_X} {l : Launch} (s0 : Int32) (S : iz_S) : iz_Y X l RX7 tX7_rowWall 2 0 (iz_Kc X l yX7_rowWall cX7_rowWall 2 (some .int) 0 iz_eI) 22 [] [.int s0] S (Sh_rowWall_22 s0 S) := by
  unfold Sh_rowWall_22
  exact iz_iret 14 rfl
set_option maxRecDepth 10000 in
theorem c_Sh_rowWall {X : iz_X} {l : Launch} (x0 : Int32) (S : iz_S) : iz_Y X l RX7 tX7_rowWall 2 0 (iz_Kc X l yX7_rowWall cX7_rowWall 2 (some .int) 0 iz_eI) 0 [(0, .int x0)] [] S (Sh_rowWall x0 S) := by
  unfold Sh_rowWall
  refine iz_iload_n (n := 0) 0 0 rfl rfl ?_
  refine iz_iconst (v := 4) 1 (by decide) rfl ?_
  refine iz_idiv 2 (by decide) rfl ?_
  refine iz_let (fun v1 => ?_)
  refine iz_istore_n (n := 1) (ls2 := [(1, .int v1)]) 3 [0] rfl (by decide) rfl ?_
  refine iz_iload_n (n := 1) 4 0 rfl rfl ?_
  refine iz_if_ne (tgt := 12) 5 rfl (by decide) ?_ ?_
  · refine iz_iload_n (n := 1) 8 0 rfl rfl ?_
    refine iz_iconst (v := 3) 9 (by decide) rfl ?_
    refine iz_cmp_ne (tgt := 21) 10 rfl (by decide) ?_ ?_
    · refine iz_iconst (v := (-1)) 13 (by decide) rfl ?_
      exact iz_sub [] rfl (c_Sh_rowWall_22 (-1) S)
    · refine iz_iconst (v := 1) 11 (by decide) rfl ?_
      refine iz_goto (tgt := 22) 12 (by decide) rfl ?_
      exact iz_sub [] rfl (c_Sh_rowWall_22 1 S)
  · refine iz_iconst (v := 0) 6 (by decide) rfl ?_
    refine iz_goto (tgt := 22) 7 (by decide) rfl ?_
    exact iz_sub [] rfl (c_Sh_rowWall_22 0 S)
theorem m_Sh_rowWall {X : iz_X} {l : Launch} {x0 : Int32} {S : iz_S} {r9 : Int32 × iz_S} (hr : Sh_rowWall x0 S = some r9) : iz_Mt X l 0 yX7_rowWall cX7_rowWall 2 (some .int) [.int x0] S (iz_eI r9) :=
  iz_Mt_of (dt := tX7_rowWall) dX7_rowWall (by decide) hr (Nat.le_of_ble_eq_true rfl) (c_Sh_rowWall x0 S)
def Sh_sideWall_22 (s0 : Int32) (S : iz_S) : Option (Int32 × iz_S) :=
  some (s0, S)
def Sh_sideWall (x0 : Int32) (S : iz_S) : Option (Int32 × iz_S) :=
  (iz_lt (x0 - x0 / 4 * 4) (fun v1 =>
  if v1 = 0 then
    (Sh_sideWall_22 2 S)
  else
    (if v1 = 3 then
      (Sh_sideWall_22 3 S)
    else
      (Sh_sideWall_22 (-1) S))))
set_option maxRecDepth 10000 in
theorem c_Sh_sideWall_22 {X : iz_X} {l : Launch} (s0 : Int32) (S : iz_S) : iz_Y X l RX7 tX7_sideWall 2 0 (iz_Kc X l yX7_sideWall cX7_sideWall 2 (some .int) 0 iz_eI) 22 [] [.int s0] S (Sh_sideWall_22 s0 S) := by
  unfold Sh_sideWall_22
  exact iz_iret 14 rfl
set_option maxRecDepth 10000 in
theorem c_Sh_sideWall {X : iz_X} {l : Launch} (x0 : Int32) (S : iz_S) : iz_Y X l RX7 tX7_sideWall 2 0 (iz_Kc X l yX7_sideWall cX7_sideWall 2 (some .int) 0 iz_eI) 0 [(0, .int x0)] [] S (Sh_sideWall x0 S) := by
  unfold Sh_sideWall
  refine iz_iload_n (n := 0) 0 0 rfl rfl ?_
  refine iz_iconst (v := 4) 1 (by decide) rfl ?_
  refine iz_irem 2 (by decide) rfl ?_
  refine iz_let (fun v1 => ?_)
  refine iz_istore_n (n := 1) (ls2 := [(1, .int v1)]) 3 [0] rfl (by decide) rfl ?_
  refine iz_iload_n (n := 1) 4 0 rfl rfl ?_
  refine iz_if_ne (tgt := 12) 5 rfl (by decide) ?_ ?_
  · refine iz_iload_n (n := 1) 8 0 rfl rfl ?_
    refine iz_iconst (v := 3) 9 (by decide) rfl ?_
    refine iz_cmp_ne (tgt := 21) 10 rfl (by decide) ?_ ?_
    · refine iz_iconst (v := (-1)) 13 (by decide) rfl ?_
      exact iz_sub [] rfl (c_Sh_sideWall_22 (-1) S)
    · refine iz_iconst (v := 3) 11 (by decide) rfl ?_
      refine iz_goto (tgt := 22) 12 (by decide) rfl ?_
      exact iz_sub [] rfl (c_Sh_sideWall_22 3 S)
  · refine iz_iconst (v := 2) 6 (by decide) rfl ?_
    refine iz_goto (tgt := 22) 7 (by decide) rfl ?_
    exact iz_sub [] rfl (c_Sh_sideWall_22 2 S)
theorem m_Sh_sideWall {X : iz_X} {l : Launch} {x0 : Int32} {S : iz_S} {r9 : Int32 × iz_S} (hr : Sh_sideWall x0 S = some r9) : iz_Mt X l 0 yX7_sideWall cX7_sideWall 2 (some .int) [.int x0] S (iz_eI r9) :=
  iz_Mt_of (dt := tX7_sideWall) dX7_sideWall (by decide) hr (Nat.le_of_ble_eq_true rfl) (c_Sh_sideWall x0 S)
def Ho_blockAt_31 (a0 : Nat) (s0 : Int32) (S : iz_S) : Option (Int32 × iz_S) :=
  some (s0, S)
def Ho_blockAt (a0 : Nat) (x1 : Int32) (x2 : Int32) (S : iz_S) : Option (Int32 × iz_S) :=
  (iz_ck (iz_in x1 16) (
  iz_bI (Ic_within x2 0 ((iz_g S (iz_rf a0 4) x1) - 1) S) (fun r2 S1 =>
  if r2 = 0 then
    (Ho_blockAt_31 a0 (-1) S1)
  else
    iz_ck (iz_in ((x1 * 6) + x2) 96) (
    (Ho_blockAt_31 a0 (iz_g S1 (iz_rf a0 12) ((x1 * 6) + x2)) S1)))))
set_option maxRecDepth 10000 in
theorem c_Ho_blockAt_31 {X : iz_X} {l : Launch} {a0 : Nat} (h0 : iz_sh a0 = (1 + 3, 13)) (s0 : Int32) (S : iz_S) : iz_Y X l RX1 tX1_blockAt 3 1 (iz_Kc X l yX1_blockAt cX1_blockAt 3 (some .int) 1 iz_eI) 31 [] [.int s0] S (Ho_blockAt_31 a0 s0 S) := by
  unfold Ho_blockAt_31
  exact iz_iret 20 rfl
set_option maxRecDepth 10000 in
theorem c_Ho_blockAt {X : iz_X} {l : Launch} {a0 : Nat} (h0 : iz_sh a0 = (1 + 3, 13)) (x1 : Int32) (x2 : Int32) (S : iz_S) : iz_Y X l RX1 tX1_blockAt 3 1 (iz_Kc X l yX1_blockAt cX1_blockAt 3 (some .int) 1 iz_eI) 0 [(0, .ref (X.1 a0)), (1, .int x1), (2, .int x2)] [] S (Ho_blockAt a0 x1 x2 S) := by
  unfold Ho_blockAt
  refine iz_iload_n (n := 2) 0 2 rfl rfl ?_
  refine iz_iconst (v := 0) 1 (by decide) rfl ?_
  refine iz_aload_n (n := 0) 2 0 rfl rfl ?_
  refine iz_getR 3 4 h0 fl_X1_21 rfl (by decide) (by decide) rfl ?_
  refine iz_iload_n (n := 1) 4 1 rfl rfl ?_
  refine iz_iald 5 (sf_1_4 h0) rfl ?_
  refine iz_iconst (v := 1) 6 (by decide) rfl ?_
  refine iz_isub 7 rfl ?_
  refine iz_callSNI (As := [.int x2, .int 0, .int ((iz_g S (iz_rf a0 4) x1) - 1)]) (rest := []) 8 ml_X1_44 cw_X9_within ci_X9_within (fun r9 hr9 => m_Ic_within  hr9) rfl (by decide) rfl rfl (Nat.le_of_ble_eq_true rfl) (fun r2 S1 => ?_)
  refine iz_if_eq (tgt := 30) 9 rfl (by decide) ?_ ?_
  · refine iz_iconst (v := (-1)) 19 (by decide) rfl ?_
    exact iz_sub [] rfl (c_Ho_blockAt_31 h0 (-1) S1)
  · refine iz_aload_n (n := 0) 10 0 rfl rfl ?_
    refine iz_getR 11 12 h0 fl_X1_24 rfl (by decide) (by decide) rfl ?_
    refine iz_iload_n (n := 1) 12 1 rfl rfl ?_
    refine iz_bipush (v := 6) 13 (by decide) rfl ?_
    refine iz_imul 14 rfl ?_
    refine iz_iload_n (n := 2) 15 2 rfl rfl ?_
    refine iz_iadd 16 rfl ?_
    refine iz_iald 17 (sf_1_12 h0) rfl ?_
    refine iz_goto (tgt := 31) 18 (by decide) rfl ?_
    exact iz_sub [] rfl (c_Ho_blockAt_31 h0 (iz_g S1 (iz_rf a0 12) ((x1 * 6) + x2)) S1)
theorem m_Ho_blockAt {X : iz_X} {l : Launch} {a0 : Nat} (h0 : iz_sh a0 = (1 + 3, 13)) {x1 : Int32} {x2 : Int32} {S : iz_S} {r9 : Int32 × iz_S} (hr : Ho_blockAt a0 x1 x2 S = some r9) : iz_Mt X l 1 yX1_blockAt cX1_blockAt 3 (some .int) [.ref (X.1 a0), .int x1, .int x2] S (iz_eI r9) :=
  iz_Mt_of (dt := tX1_blockAt) dX1_blockAt (by decide) hr (Nat.le_of_ble_eq_true rfl) (c_Ho_blockAt h0 x1 x2 S)
def Sh_warmthOf_21 (a0 : Nat) (s0 : Int32) (S : iz_S) : Option (Int32 × iz_S) :=
  some (s0, S)
def Sh_warmthOf (a0 : Nat) (x1 : Int32) (S : iz_S) : Option (Int32 × iz_S) :=
  (iz_bI (Ic_within x1 0 99 S) (fun r2 S1 =>
  if r2 = 0 then
    (Sh_warmthOf_21 a0 10 S1)
  else
    iz_ck (iz_in x1 100) (
    (Sh_warmthOf_21 a0 (iz_g S1 (iz_rf a0 2) x1) S1))))
set_option maxRecDepth 10000 in
theorem c_Sh_warmthOf_21 {X : iz_X} {l : Launch} {a0 : Nat} (h0 : iz_sh a0 = (7 + 3, 3)) (s0 : Int32) (S : iz_S) : iz_Y X l RX7 tX7_warmthOf 2 1 (iz_Kc X l yX7_warmthOf cX7_warmthOf 2 (some .int) 1 iz_eI) 21 [] [.int s0] S (Sh_warmthOf_21 a0 s0 S) := by
  unfold Sh_warmthOf_21
  exact iz_iret 11 rfl
set_option maxRecDepth 10000 in
theorem c_Sh_warmthOf {X : iz_X} {l : Launch} {a0 : Nat} (h0 : iz_sh a0 = (7 + 3, 3)) (x1 : Int32) (S : iz_S) : iz_Y X l RX7 tX7_warmthOf 2 1 (iz_Kc X l yX7_warmthOf cX7_warmthOf 2 (some .int) 1 iz_eI) 0 [(0, .ref (X.1 a0)), (1, .int x1)] [] S (Sh_warmthOf a0 x1 S) := by
  unfold Sh_warmthOf
  refine iz_iload_n (n := 1) 0 1 rfl rfl ?_
  refine iz_iconst (v := 0) 1 (by decide) rfl ?_
  refine iz_bipush (v := 99) 2 (by decide) rfl ?_
  refine iz_callSNI (As := [.int x1, .int 0, .int 99]) (rest := []) 3 ml_X7_27 cw_X9_within ci_X9_within (fun r9 hr9 => m_Ic_within  hr9) rfl (by decide) rfl rfl (Nat.le_of_ble_eq_true rfl) (fun r2 S1 => ?_)
  refine iz_if_eq (tgt := 19) 4 rfl (by decide) ?_ ?_
  · refine iz_bipush (v := 10) 10 (by decide) rfl ?_
    exact iz_sub [] rfl (c_Sh_warmthOf_21 h0 10 S1)
  · refine iz_aload_n (n := 0) 5 0 rfl rfl ?_
    refine iz_getR 6 2 h0 fl_X7_18 rfl (by decide) (by decide) rfl ?_
    refine iz_iload_n (n := 1) 7 1 rfl rfl ?_
    refine iz_iald 8 (sf_7_2 h0) rfl ?_
    refine iz_goto (tgt := 21) 9 (by decide) rfl ?_
    exact iz_sub [] rfl (c_Sh_warmthOf_21 h0 (iz_g S1 (iz_rf a0 2) x1) S1)
theorem m_Sh_warmthOf {X : iz_X} {l : Launch} {a0 : Nat} (h0 : iz_sh a0 = (7 + 3, 3)) {x1 : Int32} {S : iz_S} {r9 : Int32 × iz_S} (hr : Sh_warmthOf a0 x1 S = some r9) : iz_Mt X l 1 yX7_warmthOf cX7_warmthOf 2 (some .int) [.ref (X.1 a0), .int x1] S (iz_eI r9) :=
  iz_Mt_of (dt := tX7_warmthOf) dX7_warmthOf (by decide) hr (Nat.le_of_ble_eq_true rfl) (c_Sh_warmthOf h0 x1 S)
def Ho_sideTenths_16 (a0 : Nat) (s0 : Int32) (S : iz_S) : Option (Int32 × iz_S) :=
  some (s0, S)
def Ho_sideTenths (a0 : Nat) (x1 : Int32) (x2 : Int32) (S : iz_S) : Option (Int32 × iz_S) :=
  (iz_ck (iz_in x1 16) (
  if (iz_g S (iz_rf a0 4) x1) ≤ x2 then
    (Ho_sideTenths_16 a0 10 S)
  else
    (Ho_sideTenths_16 a0 0 S)))
set_option maxRecDepth 10000 in
theorem c_Ho_sideTenths_16 {X : iz_X} {l : Launch} {a0 : Nat} (h0 : iz_sh a0 = (1 + 3, 13)) (s0 : Int32) (S : iz_S) : iz_Y X l RX1 tX1_sideTenths 3 0 (iz_Kc X l yX1_sideTenths cX1_sideTenths 3 (some .int) 0 iz_eI) 16 [] [.int s0] S (Ho_sideTenths_16 a0 s0 S) := by
  unfold Ho_sideTenths_16
  exact iz_iret 9 rfl
set_option maxRecDepth 10000 in
theorem c_Ho_sideTenths {X : iz_X} {l : Launch} {a0 : Nat} (h0 : iz_sh a0 = (1 + 3, 13)) (x1 : Int32) (x2 : Int32) (S : iz_S) : iz_Y X l RX1 tX1_sideTenths 3 0 (iz_Kc X l yX1_sideTenths cX1_sideTenths 3 (some .int) 0 iz_eI) 0 [(0, .ref (X.1 a0)), (1, .int x1), (2, .int x2)] [] S (Ho_sideTenths a0 x1 x2 S) := by
  unfold Ho_sideTenths
  refine iz_aload_n (n := 0) 0 0 rfl rfl ?_
  refine iz_getR 1 4 h0 fl_X1_21 rfl (by decide) (by decide) rfl ?_
  refine iz_iload_n (n := 1) 2 1 rfl rfl ?_
  refine iz_iald 3 (sf_1_4 h0) rfl ?_
  refine iz_iload_n (n := 2) 4 2 rfl rfl ?_
  refine iz_cmp_le (tgt := 14) 5 rfl (by decide) ?_ ?_
  · refine iz_bipush (v := 10) 8 (by decide) rfl ?_
    exact iz_sub [] rfl (c_Ho_sideTenths_16 h0 10 S)
  · refine iz_iconst (v := 0) 6 (by decide) rfl ?_
    refine iz_goto (tgt := 16) 7 (by decide) rfl ?_
    exact iz_sub [] rfl (c_Ho_sideTenths_16 h0 0 S)
theorem m_Ho_sideTenths {X : iz_X} {l : Launch} {a0 : Nat} (h0 : iz_sh a0 = (1 + 3, 13)) {x1 : Int32} {x2 : Int32} {S : iz_S} {r9 : Int32 × iz_S} (hr : Ho_sideTenths a0 x1 x2 S = some r9) : iz_Mt X l 0 yX1_sideTenths cX1_sideTenths 3 (some .int) [.ref (X.1 a0), .int x1, .int x2] S (iz_eI r9) :=
  iz_Mt_of (dt := tX1_sideTenths) dX1_sideTenths (by decide) hr (Nat.le_of_ble_eq_true rfl) (c_Ho_sideTenths h0 x1 x2 S)
def Ho_openTenths_111 (a0 : Nat) (x5 : Int32) (S : iz_S) : Option (Int32 × iz_S) :=
  some (x5, S)
def Ho_openTenths_92 (a0 : Nat) (x1 : Int32) (x2 : Int32) (x4 : Int32) (x5 : Int32) (S : iz_S) : Option (Int32 × iz_S) :=
  (if x4 < 3 then
    iz_bI (Ho_sideTenths a0 (x1 + 1) x2 S) (fun r13 S12 =>
    iz_lt (x5 + r13) (fun v14 =>
    (Ho_openTenths_111 a0 v14 S12)))
  else
    (Ho_openTenths_111 a0 x5 S))
def Ho_openTenths_74 (a0 : Nat) (x1 : Int32) (x2 : Int32) (x4 : Int32) (x5 : Int32) (S : iz_S) : Option (Int32 × iz_S) :=
  (if x4 ≤ 0 then
    (Ho_openTenths_92 a0 x1 x2 x4 x5 S)
  else
    iz_bI (Ho_sideTenths a0 (x1 - 1) x2 S) (fun r10 S9 =>
    iz_lt (x5 + r10) (fun v11 =>
    (Ho_openTenths_92 a0 x1 x2 x4 v11 S9))))
def Ho_openTenths_56 (a0 : Nat) (x1 : Int32) (x2 : Int32) (x3 : Int32) (x4 : Int32) (x5 : Int32) (S : iz_S) : Option (Int32 × iz_S) :=
  (if x3 < 3 then
    iz_bI (Ho_sideTenths a0 (x1 + 4) x2 S) (fun r7 S6 =>
    iz_lt (x5 + r7) (fun v8 =>
    (Ho_openTenths_74 a0 x1 x2 x4 v8 S6)))
  else
    (Ho_openTenths_74 a0 x1 x2 x4 x5 S))
def Ho_openTenths_37 (a0 : Nat) (x1 : Int32) (x2 : Int32) (x3 : Int32) (x4 : Int32) (s0 : Int32) (S : iz_S) : Option (Int32 × iz_S) :=
  (if x3 ≤ 0 then
    (Ho_openTenths_56 a0 x1 x2 x3 x4 s0 S)
  else
    iz_bI (Ho_sideTenths a0 (x1 - 4) x2 S) (fun r4 S3 =>
    iz_lt (s0 + r4) (fun v5 =>
    (Ho_openTenths_56 a0 x1 x2 x3 x4 v5 S3))))
def Ho_openTenths (a0 : Nat) (x1 : Int32) (x2 : Int32) (S : iz_S) : Option (Int32 × iz_S) :=
  (iz_lt (x1 / 4) (fun v1 =>
  iz_lt (x1 - x1 / 4 * 4) (fun v2 =>
  iz_ck (iz_in x1 16) (
  if x2 = ((iz_g S (iz_rf a0 4) x1) - 1) then
    iz_ck (iz_in x1 16) (
    (Ho_openTenths_37 a0 x1 x2 v1 v2 ((10 : Int32) - (iz_g S (iz_rf (iz_rf a0 11) 1) x1)) S))
  else
    (Ho_openTenths_37 a0 x1 x2 v1 v2 0 S)))))
set_option maxRecDepth 10000 in
theorem c_Ho_openTenths_111 {X : iz_X} {l : Launch} {a0 : Nat} (h0 : iz_sh a0 = (1 + 3, 13)) (x5 : Int32) (S : iz_S) : iz_Y X l RX1 tX1_openTenths 6 1 (iz_Kc X l yX1_openTenths cX1_openTenths 6 (some .int) 1 iz_eI) 111 [(5, .int x5)] [] S (Ho_openTenths_111 a0 x5 S) := by
  unfold Ho_openTenths_111
  refine iz_iload (n := 5) 72 0 rfl rfl ?_
  exact iz_iret 73 rfl
set_option maxRecDepth 10000 in
theorem c_Ho_openTenths_92 {X : iz_X} {l : Launch} {a0 : Nat} (h0 : iz_sh a0 = (1 + 3, 13)) (x1 : Int32) (x2 : Int32) (x4 : Int32) (x5 : Int32) (S : iz_S) : iz_Y X l RX1 tX1_openTenths 6 1 (iz_Kc X l yX1_openTenths cX1_openTenths 6 (some .int) 1 iz_eI) 92 [(0, .ref (X.1 a0)), (1, .int x1), (2, .int x2), (4, .int x4), (5, .int x5)] [] S (Ho_openTenths_92 a0 x1 x2 x4 x5 S) := by
  unfold Ho_openTenths_92
  refine iz_iload (n := 4) 60 3 rfl rfl ?_
  refine iz_iconst (v := 3) 61 (by decide) rfl ?_
  refine iz_cmp_ge (tgt := 111) 62 rfl (by decide) ?_ ?_
  · exact iz_sub [4] rfl (c_Ho_openTenths_111 h0 x5 S)
  · refine iz_iload (n := 5) 63 4 rfl rfl ?_
    refine iz_aload_n (n := 0) 64 0 rfl rfl ?_
    refine iz_iload_n (n := 1) 65 1 rfl rfl ?_
    refine iz_iconst (v := 1) 66 (by decide) rfl ?_
    refine iz_iadd 67 rfl ?_
    refine iz_iload_n (n := 2) 68 2 rfl rfl ?_
    refine iz_callVI (As := [.int (x1 + 1), .int x2]) (rest := [.int x5]) 69 ml_X1_124 cw_X1_sideTenths ci_X1_sideTenths h0 (fun r9 hr9 => m_Ho_sideTenths h0 hr9) rfl (by decide) (by decide) rfl rfl (Nat.le_of_ble_eq_true rfl) (fun r13 S12 => ?_)
    refine iz_iadd 70 rfl ?_
    refine iz_let (fun v14 => ?_)
    refine iz_istore (n := 5) (ls2 := [(5, .int v14)]) 71 [0] rfl (by decide) rfl ?_
    exact c_Ho_openTenths_111 h0 v14 S12
set_option maxRecDepth 10000 in
theorem c_Ho_openTenths_74 {X : iz_X} {l : Launch} {a0 : Nat} (h0 : iz_sh a0 = (1 + 3, 13)) (x1 : Int32) (x2 : Int32) (x4 : Int32) (x5 : Int32) (S : iz_S) : iz_Y X l RX1 tX1_openTenths 6 1 (iz_Kc X l yX1_openTenths cX1_openTenths 6 (some .int) 1 iz_eI) 74 [(0, .ref (X.1 a0)), (1, .int x1), (2, .int x2), (4, .int x4), (5, .int x5)] [] S (Ho_openTenths_74 a0 x1 x2 x4 x5 S) := by
  unfold Ho_openTenths_74
  refine iz_iload (n := 4) 49 3 rfl rfl ?_
  refine iz_if_le (tgt := 92) 50 rfl (by decide) ?_ ?_
  · exact c_Ho_openTenths_92 h0 x1 x2 x4 x5 S
  · refine iz_iload (n := 5) 51 4 rfl rfl ?_
    refine iz_aload_n (n := 0) 52 0 rfl rfl ?_
    refine iz_iload_n (n := 1) 53 1 rfl rfl ?_
    refine iz_iconst (v := 1) 54 (by decide) rfl ?_
    refine iz_isub 55 rfl ?_
    refine iz_iload_n (n := 2) 56 2 rfl rfl ?_
    refine iz_callVI (As := [.int (x1 - 1), .int x2]) (rest := [.int x5]) 57 ml_X1_124 cw_X1_sideTenths ci_X1_sideTenths h0 (fun r9 hr9 => m_Ho_sideTenths h0 hr9) rfl (by decide) (by decide) rfl rfl (Nat.le_of_ble_eq_true rfl) (fun r10 S9 => ?_)
    refine iz_iadd 58 rfl ?_
    refine iz_let (fun v11 => ?_)
    refine iz_istore (n := 5) (ls2 := [(0, .ref (X.1 a0)), (1, .int x1), (2, .int x2), (4, .int x4), (5, .int v11)]) 59 [1, 2, 3, 4, 0] rfl (by decide) rfl ?_
    exact c_Ho_openTenths_92 h0 x1 x2 x4 v11 S9
set_option maxRecDepth 10000 in
theorem c_Ho_openTenths_56 {X : iz_X} {l : Launch} {a0 : Nat} (h0 : iz_sh a0 = (1 + 3, 13)) (x1 : Int32) (x2 : Int32) (x3 : Int32) (x4 : Int32) (x5 : Int32) (S : iz_S) : iz_Y X l RX1 tX1_openTenths 6 1 (iz_Kc X l yX1_openTenths cX1_openTenths 6 (some .int) 1 iz_eI) 56 [(0, .ref (X.1 a0)), (1, .int x1), (2, .int x2), (3, .int x3), (4, .int x4), (5, .int x5)] [] S (Ho_openTenths_56 a0 x1 x2 x3 x4 x5 S) := by
  unfold Ho_openTenths_56
  refine iz_iload_n (n := 3) 37 3 rfl rfl ?_
  refine iz_iconst (v := 3) 38 (by decide) rfl ?_
  refine iz_cmp_ge (tgt := 74) 39 rfl (by decide) ?_ ?_
  · exact iz_sub [0, 1, 2, 4, 5] rfl (c_Ho_openTenths_74 h0 x1 x2 x4 x5 S)
  · refine iz_iload (n := 5) 40 5 rfl rfl ?_
    refine iz_aload_n (n := 0) 41 0 rfl rfl ?_
    refine iz_iload_n (n := 1) 42 1 rfl rfl ?_
    refine iz_iconst (v := 4) 43 (by decide) rfl ?_
    refine iz_iadd 44 rfl ?_
    refine iz_iload_n (n := 2) 45 2 rfl rfl ?_
    refine iz_callVI (As := [.int (x1 + 4), .int x2]) (rest := [.int x5]) 46 ml_X1_124 cw_X1_sideTenths ci_X1_sideTenths h0 (fun r9 hr9 => m_Ho_sideTenths h0 hr9) rfl (by decide) (by decide) rfl rfl (Nat.le_of_ble_eq_true rfl) (fun r7 S6 => ?_)
    refine iz_iadd 47 rfl ?_
    refine iz_let (fun v8 => ?_)
    refine iz_istore (n := 5) (ls2 := [(0, .ref (X.1 a0)), (1, .int x1), (2, .int x2), (4, .int x4), (5, .int v8)]) 48 [1, 2, 3, 5, 0] rfl (by decide) rfl ?_
    exact c_Ho_openTenths_74 h0 x1 x2 x4 v8 S6
set_option maxRecDepth 10000 in
theorem c_Ho_openTenths_37 {X : iz_X} {l : Launch} {a0 : Nat} (h0 : iz_sh a0 = (1 + 3, 13)) (x1 : Int32) (x2 : Int32) (x3 : Int32) (x4 : Int32) (s0 : Int32) (S : iz_S) : iz_Y X l RX1 tX1_openTenths 6 1 (iz_Kc X l yX1_openTenths cX1_openTenths 6 (some .int) 1 iz_eI) 37 [(0, .ref (X.1 a0)), (1, .int x1), (2, .int x2), (3, .int x3), (4, .int x4)] [.int s0] S (Ho_openTenths_37 a0 x1 x2 x3 x4 s0 S) := by
  unfold Ho_openTenths_37
  refine iz_istore (n := 5) (ls2 := [(0, .ref (X.1 a0)), (1, .int x1), (2, .int x2), (3, .int x3), (4, .int x4), (5, .int s0)]) 25 [1, 2, 3, 4, 5, 0] rfl (by decide) rfl ?_
  refine iz_iload_n (n := 3) 26 3 rfl rfl ?_
  refine iz_if_le (tgt := 56) 27 rfl (by decide) ?_ ?_
  · exact c_Ho_openTenths_56 h0 x1 x2 x3 x4 s0 S
  · refine iz_iload (n := 5) 28 5 rfl rfl ?_
    refine iz_aload_n (n := 0) 29 0 rfl rfl ?_
    refine iz_iload_n (n := 1) 30 1 rfl rfl ?_
    refine iz_iconst (v := 4) 31 (by decide) rfl ?_
    refine iz_isub 32 rfl ?_
    refine iz_iload_n (n := 2) 33 2 rfl rfl ?_
    refine iz_callVI (As := [.int (x1 - 4), .int x2]) (rest := [.int s0]) 34 ml_X1_124 cw_X1_sideTenths ci_X1_sideTenths h0 (fun r9 hr9 => m_Ho_sideTenths h0 hr9) rfl (by decide) (by decide) rfl rfl (Nat.le_of_ble_eq_true rfl) (fun r4 S3 => ?_)
    refine iz_iadd 35 rfl ?_
    refine iz_let (fun v5 => ?_)
    refine iz_istore (n := 5) (ls2 := [(0, .ref (X.1 a0)), (1, .int x1), (2, .int x2), (3, .int x3), (4, .int x4), (5, .int v5)]) 36 [1, 2, 3, 4, 5, 0] rfl (by decide) rfl ?_
    exact c_Ho_openTenths_56 h0 x1 x2 x3 x4 v5 S3
set_option maxRecDepth 10000 in
theorem c_Ho_openTenths {X : iz_X} {l : Launch} {a0 : Nat} (h0 : iz_sh a0 = (1 + 3, 13)) (x1 : Int32) (x2 : Int32) (S : iz_S) : iz_Y X l RX1 tX1_openTenths 6 1 (iz_Kc X l yX1_openTenths cX1_openTenths 6 (some .int) 1 iz_eI) 0 [(0, .ref (X.1 a0)), (1, .int x1), (2, .int x2)] [] S (Ho_openTenths a0 x1 x2 S) := by
  unfold Ho_openTenths
  refine iz_iload_n (n := 1) 0 1 rfl rfl ?_
  refine iz_iconst (v := 4) 1 (by decide) rfl ?_
  refine iz_idiv 2 (by decide) rfl ?_
  refine iz_let (fun v1 => ?_)
  refine iz_istore_n (n := 3) (ls2 := [(0, .ref (X.1 a0)), (1, .int x1), (2, .int x2), (3, .int v1)]) 3 [1, 2, 3, 0] rfl (by decide) rfl ?_
  refine iz_iload_n (n := 1) 4 1 rfl rfl ?_
  refine iz_iconst (v := 4) 5 (by decide) rfl ?_
  refine iz_irem 6 (by decide) rfl ?_
  refine iz_let (fun v2 => ?_)
  refine iz_istore (n := 4) (ls2 := [(0, .ref (X.1 a0)), (1, .int x1), (2, .int x2), (3, .int v1), (4, .int v2)]) 7 [1, 2, 3, 4, 0] rfl (by decide) rfl ?_
  refine iz_iload_n (n := 2) 8 2 rfl rfl ?_
  refine iz_aload_n (n := 0) 9 0 rfl rfl ?_
  refine iz_getR 10 4 h0 fl_X1_21 rfl (by decide) (by decide) rfl ?_
  refine iz_iload_n (n := 1) 11 1 rfl rfl ?_
  refine iz_iald 12 (sf_1_4 h0) rfl ?_
  refine iz_iconst (v := 1) 13 (by decide) rfl ?_
  refine iz_isub 14 rfl ?_
  refine iz_cmp_ne (tgt := 36) 15 rfl (by decide) ?_ ?_
  · refine iz_iconst (v := 0) 24 (by decide) rfl ?_
    exact c_Ho_openTenths_37 h0 x1 x2 v1 v2 0 S
  · refine iz_bipush (v := 10) 16 (by decide) rfl ?_
    refine iz_aload_n (n := 0) 17 0 rfl rfl ?_
    refine iz_getR 18 11 h0 fl_X1_27 rfl (by decide) (by decide) rfl ?_
    refine iz_getR 19 1 (sf_1_11 h0) fl_X1_121 rfl (by decide) (by decide) rfl ?_
    refine iz_iload_n (n := 1) 20 1 rfl rfl ?_
    refine iz_iald 21 (sf_7_1 (sf_1_11 h0)) rfl ?_
    refine iz_isub 22 rfl ?_
    refine iz_goto (tgt := 37) 23 (by decide) rfl ?_
    exact c_Ho_openTenths_37 h0 x1 x2 v1 v2 ((10 : Int32) - (iz_g S (iz_rf (iz_rf a0 11) 1) x1)) S
theorem m_Ho_openTenths {X : iz_X} {l : Launch} {a0 : Nat} (h0 : iz_sh a0 = (1 + 3, 13)) {x1 : Int32} {x2 : Int32} {S : iz_S} {r9 : Int32 × iz_S} (hr : Ho_openTenths a0 x1 x2 S = some r9) : iz_Mt X l 1 yX1_openTenths cX1_openTenths 6 (some .int) [.ref (X.1 a0), .int x1, .int x2] S (iz_eI r9) :=
  iz_Mt_of (dt := tX1_openTenths) dX1_openTenths (by decide) hr (Nat.le_of_ble_eq_true rfl) (c_Ho_openTenths h0 x1 x2 S)
def Ho_meltBehind (a0 : Nat) (x1 : Int32) (x2 : Int32) (x3 : Int32) (S : iz_S) : Option (Int32 × iz_S) :=
  iz_bI (Ho_blockAt a0 x1 x2 S) (fun r2 S1 =>
  iz_bI (Sh_warmthOf (iz_rf a0 11) (S1.1 a0 5) S1) (fun r4 S3 =>
  iz_bI (Ho_openTenths a0 x1 x2 S3) (fun r6 S5 =>
  iz_lt (r4 * (r6 + x3)) (fun v7 =>
  iz_ck (iz_in r2 60) (
  iz_ck (iz_in r2 60) (
  iz_ck (iz_in (iz_g S5 (iz_rf a0 1) r2) 4) (
  some ((if ((v7 * (iz_zV 2 (Int32.toNatClampNeg (iz_g S5 (iz_rf a0 1) r2)))) / 400) < (iz_g S5 (iz_rf a0 2) r2) then ((v7 * (iz_zV 2 (Int32.toNatClampNeg (iz_g S5 (iz_rf a0 1) r2)))) / 400) else (iz_g S5 (iz_rf a0 2) r2)), S5))))))))
set_option maxRecDepth 10000 in
theorem c_Ho_meltBehind {X : iz_X} {l : Launch} {a0 : Nat} (h0 : iz_sh a0 = (1 + 3, 13)) (x1 : Int32) (x2 : Int32) (x3 : Int32) (S : iz_S) : iz_Y X l RX1 tX1_meltBehind 6 2 (iz_Kc X l yX1_meltBehind cX1_meltBehind 6 (some .int) 2 iz_eI) 0 [(0, .ref (X.1 a0)), (1, .int x1), (2, .int x2), (3, .int x3)] [] S (Ho_meltBehind a0 x1 x2 x3 S) := by
  unfold Ho_meltBehind
  refine iz_aload_n (n := 0) 0 0 rfl rfl ?_
  refine iz_iload_n (n := 1) 1 1 rfl rfl ?_
  refine iz_iload_n (n := 2) 2 2 rfl rfl ?_
  refine iz_callVI (As := [.int x1, .int x2]) (rest := []) 3 ml_X1_48 cw_X1_blockAt ci_X1_blockAt h0 (fun r9 hr9 => m_Ho_blockAt h0 hr9) rfl (by decide) (by decide) rfl rfl (Nat.le_of_ble_eq_true rfl) (fun r2 S1 => ?_)
  refine iz_istore (n := 4) (ls2 := [(0, .ref (X.1 a0)), (1, .int x1), (2, .int x2), (3, .int x3), (4, .int r2)]) 4 [1, 2, 3, 4, 0] rfl (by decide) rfl ?_
  refine iz_aload_n (n := 0) 5 0 rfl rfl ?_
  refine iz_getR 6 11 h0 fl_X1_27 rfl (by decide) (by decide) rfl ?_
  refine iz_aload_n (n := 0) 7 0 rfl rfl ?_
  refine iz_getI 8 5 h0 fl_X1_35 rfl (by decide) (by decide) rfl ?_
  refine iz_callVI (As := [.int (S1.1 a0 5)]) (rest := []) 9 ml_X1_107 cw_X7_warmthOf ci_X7_warmthOf (sf_1_11 h0) (fun r9 hr9 => m_Sh_warmthOf (sf_1_11 h0) hr9) rfl (by decide) (by decide) rfl rfl (Nat.le_of_ble_eq_true rfl) (fun r4 S3 => ?_)
  refine iz_aload_n (n := 0) 10 0 rfl rfl ?_
  refine iz_iload_n (n := 1) 11 1 rfl rfl ?_
  refine iz_iload_n (n := 2) 12 2 rfl rfl ?_
  refine iz_callVI (As := [.int x1, .int x2]) (rest := [.int r4]) 13 ml_X1_110 cw_X1_openTenths ci_X1_openTenths h0 (fun r9 hr9 => m_Ho_openTenths h0 hr9) rfl (by decide) (by decide) rfl rfl (Nat.le_of_ble_eq_true rfl) (fun r6 S5 => ?_)
  refine iz_iload_n (n := 3) 14 3 rfl rfl ?_
  refine iz_iadd 15 rfl ?_
  refine iz_imul 16 rfl ?_
  refine iz_let (fun v7 => ?_)
  refine iz_istore (n := 5) (ls2 := [(0, .ref (X.1 a0)), (4, .int r2), (5, .int v7)]) 17 [1, 5, 0] rfl (by decide) rfl ?_
  refine iz_aload_n (n := 0) 18 0 rfl rfl ?_
  refine iz_getR 19 2 h0 fl_X1_15 rfl (by decide) (by decide) rfl ?_
  refine iz_iload (n := 4) 20 1 rfl rfl ?_
  refine iz_iald 21 (sf_1_2 h0) rfl ?_
  refine iz_iload (n := 5) 22 2 rfl rfl ?_
  refine iz_getsN 23 2 (by decide) sl_X1_113 rfl ?_
  refine iz_aload_n (n := 0) 24 0 rfl rfl ?_
  refine iz_getR 25 1 h0 fl_X1_9 rfl (by decide) (by decide) rfl ?_
  refine iz_iload (n := 4) 26 1 rfl rfl ?_
  refine iz_iald 27 (sf_1_1 h0) rfl ?_
  refine iz_tald 28 2 (by decide) rfl ?_
  refine iz_imul 29 rfl ?_
  refine iz_sipush (v := 400) 30 (by decide) rfl ?_
  refine iz_idiv 31 (by decide) rfl ?_
  refine iz_mmin 32 mm_X1_116 (by decide) (Nat.le_of_ble_eq_true rfl) rfl ?_
  exact iz_iret 33 rfl
theorem m_Ho_meltBehind {X : iz_X} {l : Launch} {a0 : Nat} (h0 : iz_sh a0 = (1 + 3, 13)) {x1 : Int32} {x2 : Int32} {x3 : Int32} {S : iz_S} {r9 : Int32 × iz_S} (hr : Ho_meltBehind a0 x1 x2 x3 S = some r9) : iz_Mt X l 2 yX1_meltBehind cX1_meltBehind 6 (some .int) [.ref (X.1 a0), .int x1, .int x2, .int x3] S (iz_eI r9) :=
  iz_Mt_of (dt := tX1_meltBehind) dX1_meltBehind (by decide) hr (Nat.le_of_ble_eq_true rfl) (c_Ho_meltBehind h0 x1 x2 x3 S)
def Ho_columnMelts_5b (a0 : Nat) (k5 : Int32 → Int32 → Int32 → Int32 → iz_S → Option (Int32 × iz_S)) (x1 : Int32) (x2 : Int32) (x3 : Int32) (x4 : Int32) (S : iz_S) : Option (Int32 × iz_S) :=
  (iz_ck (iz_in x1 16) (
  if x4 < (iz_g S (iz_rf a0 4) x1) then
    iz_bI (Ho_meltBehind a0 x1 x4 x2 S) (fun r2 S1 =>
    iz_lt (x3 + r2) (fun v3 =>
    (k5 x1 x2 v3 (x4 + 1) S1)))
  else
    some (x3, S)))
def Ho_columnMelts_5 (a0 : Nat) : Nat → Int32 → Int32 → Int32 → Int32 → iz_S → Option (Int32 × iz_S)
  | 0 => fun _ _ _ _ _ => none
  | n9 + 1 => Ho_columnMelts_5b a0 (Ho_columnMelts_5 a0 n9)
def Ho_columnMelts (a0 : Nat) (x1 : Int32) (x2 : Int32) (S : iz_S) : Option (Int32 × iz_S) :=
  (Ho_columnMelts_5 a0 iz_FU x1 x2 0 0 S)
set_option maxRecDepth 10000 in
theorem c_Ho_columnMelts_5b {X : iz_X} {l : Launch} {a0 : Nat} (h0 : iz_sh a0 = (1 + 3, 13)) {k5 : Int32 → Int32 → Int32 → Int32 → iz_S → Option (Int32 × iz_S)} (hk5 : ∀ (x1 : Int32) (x2 : Int32) (x3 : Int32) (x4 : Int32) (S : iz_S), iz_Y X l RX1 tX1_columnMelts 5 3 (iz_Kc X l yX1_columnMelts cX1_columnMelts 5 (some .int) 3 iz_eI) 5 [(0, .ref (X.1 a0)), (1, .int x1), (2, .int x2), (3, .int x3), (4, .int x4)] [] S (k5 x1 x2 x3 x4 S)) (x1 : Int32) (x2 : Int32) (x3 : Int32) (x4 : Int32) (S : iz_S) : iz_Y X l RX1 tX1_columnMelts 5 3 (iz_Kc X l yX1_columnMelts cX1_columnMelts 5 (some .int) 3 iz_eI) 5 [(0, .ref (X.1 a0)), (1, .int x1), (2, .int x2), (3, .int x3), (4, .int x4)] [] S (Ho_columnMelts_5b a0 k5 x1 x2 x3 x4 S) := by
  unfold Ho_columnMelts_5b
  refine iz_iload (n := 4) 4 4 rfl rfl ?_
  refine iz_aload_n (n := 0) 5 0 rfl rfl ?_
  refine iz_getR 6 4 h0 fl_X1_21 rfl (by decide) (by decide) rfl ?_
  refine iz_iload_n (n := 1) 7 1 rfl rfl ?_
  refine iz_iald 8 (sf_1_4 h0) rfl ?_
  refine iz_cmp_ge (tgt := 33) 9 rfl (by decide) ?_ ?_
  · refine iz_iload_n (n := 3) 20 3 rfl rfl ?_
    exact iz_iret 21 rfl
  · refine iz_iload_n (n := 3) 10 3 rfl rfl ?_
    refine iz_aload_n (n := 0) 11 0 rfl rfl ?_
    refine iz_iload_n (n := 1) 12 1 rfl rfl ?_
    refine iz_iload (n := 4) 13 4 rfl rfl ?_
    refine iz_iload_n (n := 2) 14 2 rfl rfl ?_
    refine iz_callVI (As := [.int x1, .int x4, .int x2]) (rest := [.int x3]) 15 ml_X1_103 cw_X1_meltBehind ci_X1_meltBehind h0 (fun r9 hr9 => m_Ho_meltBehind h0 hr9) rfl (by decide) (by decide) rfl rfl (Nat.le_of_ble_eq_true rfl) (fun r2 S1 => ?_)
    refine iz_iadd 16 rfl ?_
    refine iz_let (fun v3 => ?_)
    refine iz_istore_n (n := 3) (ls2 := [(0, .ref (X.1 a0)), (1, .int x1), (2, .int x2), (3, .int v3), (4, .int x4)]) 17 [1, 2, 3, 0, 4] rfl (by decide) rfl ?_
    refine iz_iinc (v := (x4 + 1)) (ls2 := [(0, .ref (X.1 a0)), (1, .int x1), (2, .int x2), (3, .int v3), (4, .int (x4 + 1))]) 18 4 [1, 2, 3, 4, 0] rfl rfl rfl (by decide) rfl ?_
    refine iz_goto (tgt := 5) 19 (by decide) rfl ?_
    exact hk5 x1 x2 v3 (x4 + 1) S1
theorem c_Ho_columnMelts_5 {X : iz_X} {l : Launch} {a0 : Nat} (h0 : iz_sh a0 = (1 + 3, 13)) : ∀ (n9 : Nat) (x1 : Int32) (x2 : Int32) (x3 : Int32) (x4 : Int32) (S : iz_S), iz_Y X l RX1 tX1_columnMelts 5 3 (iz_Kc X l yX1_columnMelts cX1_columnMelts 5 (some .int) 3 iz_eI) 5 [(0, .ref (X.1 a0)), (1, .int x1), (2, .int x2), (3, .int x3), (4, .int x4)] [] S (Ho_columnMelts_5 a0 n9 x1 x2 x3 x4 S)
  | 0 => by
    intros
    exact iz_none
  | n9 + 1 => c_Ho_columnMelts_5b h0 (c_Ho_columnMelts_5 h0 n9)
set_option maxRecDepth 10000 in
theorem c_Ho_columnMelts {X : iz_X} {l : Launch} {a0 : Nat} (h0 : iz_sh a0 = (1 + 3, 13)) (x1 : Int32) (x2 : Int32) (S : iz_S) : iz_Y X l RX1 tX1_columnMelts 5 3 (iz_Kc X l yX1_columnMelts cX1_columnMelts 5 (some .int) 3 iz_eI) 0 [(0, .ref (X.1 a0)), (1, .int x1), (2, .int x2)] [] S (Ho_columnMelts a0 x1 x2 S) := by
  unfold Ho_columnMelts
  refine iz_iconst (v := 0) 0 (by decide) rfl ?_
  refine iz_istore_n (n := 3) (ls2 := [(0, .ref (X.1 a0)), (1, .int x1), (2, .int x2), (3, .int 0)]) 1 [1, 2, 3, 0] rfl (by decide) rfl ?_
  refine iz_iconst (v := 0) 2 (by decide) rfl ?_
  refine iz_istore (n := 4) (ls2 := [(0, .ref (X.1 a0)), (1, .int x1), (2, .int x2), (3, .int 0), (4, .int 0)]) 3 [1, 2, 3, 4, 0] rfl (by decide) rfl ?_
  exact c_Ho_columnMelts_5 h0 iz_FU x1 x2 0 0 S
theorem m_Ho_columnMelts {X : iz_X} {l : Launch} {a0 : Nat} (h0 : iz_sh a0 = (1 + 3, 13)) {x1 : Int32} {x2 : Int32} {S : iz_S} {r9 : Int32 × iz_S} (hr : Ho_columnMelts a0 x1 x2 S = some r9) : iz_Mt X l 3 yX1_columnMelts cX1_columnMelts 5 (some .int) [.ref (X.1 a0), .int x1, .int x2] S (iz_eI r9) :=
  iz_Mt_of (dt := tX1_columnMelts) dX1_columnMelts (by decide) hr (Nat.le_of_ble_eq_true rfl) (c_Ho_columnMelts h0 x1 x2 S)
def Du_addColumn_132 (a0 : Nat) (a1 : Nat) (S : iz_S) : Option iz_S :=
  some S
def Du_addColumn_78b (a0 : Nat) (a1 : Nat) (k78 : Int32 → Int32 → Int32 → iz_S → Option iz_S) (x2 : Int32) (x5 : Int32) (x6 : Int32) (S : iz_S) : Option iz_S :=
  (if x6 ≤ 10 then
    iz_ck (iz_in x5 4) (
    iz_ck (iz_in x6 11) (
    iz_bI (Ho_columnMelts a1 x2 ((10 : Int32) - x6) S) (fun r12 S11 =>
    iz_ck (iz_in x6 11) (iz_lt (iz_s S11 (iz_rf (iz_rf a0 4) (Int32.toNatClampNeg x5)) x6 ((iz_g S (iz_rf (iz_rf a0 4) (Int32.toNatClampNeg x5)) x6) + r12)) (fun S13 =>
    (k78 x2 x5 (x6 + 1) S13))))))
  else
    (Du_addColumn_132 a0 a1 S))
def Du_addColumn_78 (a0 : Nat) (a1 : Nat) : Nat → Int32 → Int32 → Int32 → iz_S → Option iz_S
  | 0 => fun _ _ _ _ => none
  | n9 + 1 => Du_addColumn_78b a0 a1 (Du_addColumn_78 a0 a1 n9)
def Du_addColumn_67 (a0 : Nat) (a1 : Nat) (x2 : Int32) (x3 : Int32) (x4 : Int32) (S : iz_S) : Option iz_S :=
  iz_lt (if x3 < x4 then x4 else x3) (fun v9 =>
  (Du_addColumn_78 a0 a1 iz_FU x2 v9 0 S))
def Du_addColumn_58 (a0 : Nat) (a1 : Nat) (x2 : Int32) (x3 : Int32) (x4 : Int32) (S : iz_S) : Option iz_S :=
  (if x3 < 0 then
    (if x4 < 0 then
      iz_bI (Ho_columnMelts a1 x2 0 S) (fun r3 S2 =>
      iz_lt (iz_up S2 a0 3 ((S.1 a0 3) + r3)) (fun S4 =>
      (Du_addColumn_132 a0 a1 S4)))
    else
      (Du_addColumn_67 a0 a1 x2 x3 x4 S))
  else
    (Du_addColumn_67 a0 a1 x2 x3 x4 S))
def Du_addColumn_22b (a0 : Nat) (a1 : Nat) (k22 : Int32 → Int32 → Int32 → iz_S → Option iz_S) (x2 : Int32) (x5 : Int32) (x6 : Int32) (S : iz_S) : Option iz_S :=
  (if x6 ≤ 20 then
    iz_ck (iz_in x5 4) (
    iz_bI (Ho_columnMelts a1 x2 ((20 : Int32) - x6) S) (fun r7 S6 =>
    iz_ck (iz_in x6 21) (iz_lt (iz_s S6 (iz_rf (iz_rf a0 5) (Int32.toNatClampNeg x5)) x6 r7) (fun S8 =>
    (k22 x2 x5 (x6 + 1) S8)))))
  else
    (Du_addColumn_132 a0 a1 S))
def Du_addColumn_22 (a0 : Nat) (a1 : Nat) : Nat → Int32 → Int32 → Int32 → iz_S → Option iz_S
  | 0 => fun _ _ _ _ => none
  | n9 + 1 => Du_addColumn_22b a0 a1 (Du_addColumn_22 a0 a1 n9)
def Du_addColumn (a0 : Nat) (a1 : Nat) (x2 : Int32) (x3 : Int32) (x4 : Int32) (S : iz_S) : Option iz_S :=
  (if x3 < 0 then
    (Du_addColumn_58 a0 a1 x2 x3 x4 S)
  else
    (if x4 < 0 then
      (Du_addColumn_58 a0 a1 x2 x3 x4 S)
    else
      iz_lt ((((2 : Int32) * x3) + x4) - 2) (fun v1 =>
      (Du_addColumn_22 a0 a1 iz_FU x2 v1 0 S))))
set_option maxRecDepth 10000 in
theorem c_Du_addColumn_132 {X : iz_X} {l : Launch} {a0 : Nat} (h0 : iz_sh a0 = (0 + 3, 7)) {a1 : Nat} (h1 : iz_sh a1 = (1 + 3, 13)) (S : iz_S) : iz_Y X l RX0 tX0_addColumn 7 4 (iz_Kc X l yX0_addColumn cX0_addColumn 7 none 4 iz_eV) 132 [] [] S (Du_addColumn_132 a0 a1 S) := by
  unfold Du_addColumn_132
  exact iz_vret 72 rfl
set_option maxRecDepth 10000 in
theorem c_Du_addColumn_78b {X : iz_X} {l : Launch} {a0 : Nat} (h0 : iz_sh a0 = (0 + 3, 7)) {a1 : Nat} (h1 : iz_sh a1 = (1 + 3, 13)) {k78 : Int32 → Int32 → Int32 → iz_S → Option iz_S} (hk78 : ∀ (x2 : Int32) (x5 : Int32) (x6 : Int32) (S : iz_S), iz_Y X l RX0 tX0_addColumn 7 4 (iz_Kc X l yX0_addColumn cX0_addColumn 7 none 4 iz_eV) 78 [(0, .ref (X.1 a0)), (1, .ref (X.1 a1)), (2, .int x2), (5, .int x5), (6, .int x6)] [] S (k78 x2 x5 x6 S)) (x2 : Int32) (x5 : Int32) (x6 : Int32) (S : iz_S) : iz_Y X l RX0 tX0_addColumn 7 4 (iz_Kc X l yX0_addColumn cX0_addColumn 7 none 4 iz_eV) 78 [(0, .ref (X.1 a0)), (1, .ref (X.1 a1)), (2, .int x2), (5, .int x5), (6, .int x6)] [] S (Du_addColumn_78b a0 a1 k78 x2 x5 x6 S) := by
  unfold Du_addColumn_78b
  refine iz_iload (n := 6) 42 4 rfl rfl ?_
  refine iz_bipush (v := 10) 43 (by decide) rfl ?_
  refine iz_cmp_gt (tgt := 114) 44 rfl (by decide) ?_ ?_
  · refine iz_goto (tgt := 132) 62 (by decide) rfl ?_
    exact iz_sub [] rfl (c_Du_addColumn_132 h0 h1 S)
  · refine iz_aload_n (n := 0) 45 0 rfl rfl ?_
    refine iz_getR 46 4 h0 fl_X0_17 rfl (by decide) (by decide) rfl ?_
    refine iz_iload (n := 5) 47 3 rfl rfl ?_
    refine iz_aald 48 (sf_0_4 h0) rfl (fun hc10 => ?_)
    refine iz_iload (n := 6) 49 4 rfl rfl ?_
    refine iz_dup2 50 rfl rfl rfl ?_
    refine iz_iald 51 (sr_0_4 h0 hc10) rfl ?_
    refine iz_aload_n (n := 1) 52 1 rfl rfl ?_
    refine iz_iload_n (n := 2) 53 2 rfl rfl ?_
    refine iz_bipush (v := 10) 54 (by decide) rfl ?_
    refine iz_iload (n := 6) 55 4 rfl rfl ?_
    refine iz_isub 56 rfl ?_
    refine iz_callVI (As := [.int x2, .int ((10 : Int32) - x6)]) (rest := [.int (iz_g S (iz_rf (iz_rf a0 4) (Int32.toNatClampNeg x5)) x6), .int x6, .ref (X.1 (iz_rf (iz_rf a0 4) (Int32.toNatClampNeg x5)))]) 57 ml_X0_65 cw_X1_columnMelts ci_X1_columnMelts h1 (fun r9 hr9 => m_Ho_columnMelts h1 hr9) rfl (by decide) (by decide) rfl rfl (Nat.le_of_ble_eq_true rfl) (fun r12 S11 => ?_)
    refine iz_iadd 58 rfl ?_
    refine iz_iast 59 (sr_0_4 h0 hc10) rfl (fun S13 => ?_)
    refine iz_iinc (v := (x6 + 1)) (ls2 := [(0, .ref (X.1 a0)), (1, .ref (X.1 a1)), (2, .int x2), (5, .int x5), (6, .int (x6 + 1))]) 60 4 [1, 2, 3, 4, 0] rfl rfl rfl (by decide) rfl ?_
    refine iz_goto (tgt := 78) 61 (by decide) rfl ?_
    exact hk78 x2 x5 (x6 + 1) S13
theorem c_Du_addColumn_78 {X : iz_X} {l : Launch} {a0 : Nat} (h0 : iz_sh a0 = (0 + 3, 7)) {a1 : Nat} (h1 : iz_sh a1 = (1 + 3, 13)) : ∀ (n9 : Nat) (x2 : Int32) (x5 : Int32) (x6 : Int32) (S : iz_S), iz_Y X l RX0 tX0_addColumn 7 4 (iz_Kc X l yX0_addColumn cX0_addColumn 7 none 4 iz_eV) 78 [(0, .ref (X.1 a0)), (1, .ref (X.1 a1)), (2, .int x2), (5, .int x5), (6, .int x6)] [] S (Du_addColumn_78 a0 a1 n9 x2 x5 x6 S)
  | 0 => by
    intros
    exact iz_none
  | n9 + 1 => c_Du_addColumn_78b h0 h1 (c_Du_addColumn_78 h0 h1 n9)
set_option maxRecDepth 10000 in
theorem c_Du_addColumn_67 {X : iz_X} {l : Launch} {a0 : Nat} (h0 : iz_sh a0 = (0 + 3, 7)) {a1 : Nat} (h1 : iz_sh a1 = (1 + 3, 13)) (x2 : Int32) (x3 : Int32) (x4 : Int32) (S : iz_S) : iz_Y X l RX0 tX0_addColumn 7 4 (iz_Kc X l yX0_addColumn cX0_addColumn 7 none 4 iz_eV) 67 [(0, .ref (X.1 a0)), (1, .ref (X.1 a1)), (2, .int x2), (3, .int x3), (4, .int x4)] [] S (Du_addColumn_67 a0 a1 x2 x3 x4 S) := by
  unfold Du_addColumn_67
  refine iz_iload_n (n := 3) 36 3 rfl rfl ?_
  refine iz_iload (n := 4) 37 4 rfl rfl ?_
  refine iz_mmax 38 mm_X0_71 (by decide) (Nat.le_of_ble_eq_true rfl) rfl ?_
  refine iz_let (fun v9 => ?_)
  refine iz_istore (n := 5) (ls2 := [(0, .ref (X.1 a0)), (1, .ref (X.1 a1)), (2, .int x2), (5, .int v9)]) 39 [1, 2, 3, 0] rfl (by decide) rfl ?_
  refine iz_iconst (v := 0) 40 (by decide) rfl ?_
  refine iz_istore (n := 6) (ls2 := [(0, .ref (X.1 a0)), (1, .ref (X.1 a1)), (2, .int x2), (5, .int v9), (6, .int 0)]) 41 [1, 2, 3, 4, 0] rfl (by decide) rfl ?_
  exact c_Du_addColumn_78 h0 h1 iz_FU x2 v9 0 S
set_option maxRecDepth 10000 in
theorem c_Du_addColumn_58 {X : iz_X} {l : Launch} {a0 : Nat} (h0 : iz_sh a0 = (0 + 3, 7)) {a1 : Nat} (h1 : iz_sh a1 = (1 + 3, 13)) (x2 : Int32) (x3 : Int32) (x4 : Int32) (S : iz_S) : iz_Y X l RX0 tX0_addColumn 7 4 (iz_Kc X l yX0_addColumn cX0_addColumn 7 none 4 iz_eV) 58 [(0, .ref (X.1 a0)), (1, .ref (X.1 a1)), (2, .int x2), (3, .int x3), (4, .int x4)] [] S (Du_addColumn_58 a0 a1 x2 x3 x4 S) := by
  unfold Du_addColumn_58
  refine iz_iload_n (n := 3) 32 3 rfl rfl ?_
  refine iz_if_ge (tgt := 67) 33 rfl (by decide) ?_ ?_
  · exact c_Du_addColumn_67 h0 h1 x2 x3 x4 S
  · refine iz_iload (n := 4) 34 4 rfl rfl ?_
    refine iz_if_lt (tgt := 117) 35 rfl (by decide) ?_ ?_
    · refine iz_aload_n (n := 0) 63 0 rfl rfl ?_
      refine iz_dup 64 rfl rfl ?_
      refine iz_getI 65 3 h0 fl_X0_56 rfl (by decide) (by decide) rfl ?_
      refine iz_aload_n (n := 1) 66 1 rfl rfl ?_
      refine iz_iload_n (n := 2) 67 2 rfl rfl ?_
      refine iz_iconst (v := 0) 68 (by decide) rfl ?_
      refine iz_callVI (As := [.int x2, .int 0]) (rest := [.int (S.1 a0 3), .ref (X.1 a0)]) 69 ml_X0_65 cw_X1_columnMelts ci_X1_columnMelts h1 (fun r9 hr9 => m_Ho_columnMelts h1 hr9) rfl (by decide) (by decide) rfl rfl (Nat.le_of_ble_eq_true rfl) (fun r3 S2 => ?_)
      refine iz_iadd 70 rfl ?_
      refine iz_putI 71 3 h0 fl_X0_56 rfl (by decide) (by decide) rfl (fun S4 => ?_)
      exact iz_sub [] rfl (c_Du_addColumn_132 h0 h1 S4)
    · exact c_Du_addColumn_67 h0 h1 x2 x3 x4 S
set_option maxRecDepth 10000 in
theorem c_Du_addColumn_22b {X : iz_X} {l : Launch} {a0 : Nat} (h0 : iz_sh a0 = (0 + 3, 7)) {a1 : Nat} (h1 : iz_sh a1 = (1 + 3, 13)) {k22 : Int32 → Int32 → Int32 → iz_S → Option iz_S} (hk22 : ∀ (x2 : Int32) (x5 : Int32) (x6 : Int32) (S : iz_S), iz_Y X l RX0 tX0_addColumn 7 4 (iz_Kc X l yX0_addColumn cX0_addColumn 7 none 4 iz_eV) 22 [(0, .ref (X.1 a0)), (1, .ref (X.1 a1)), (2, .int x2), (5, .int x5), (6, .int x6)] [] S (k22 x2 x5 x6 S)) (x2 : Int32) (x5 : Int32) (x6 : Int32) (S : iz_S) : iz_Y X l RX0 tX0_addColumn 7 4 (iz_Kc X l yX0_addColumn cX0_addColumn 7 none 4 iz_eV) 22 [(0, .ref (X.1 a0)), (1, .ref (X.1 a1)), (2, .int x2), (5, .int x5), (6, .int x6)] [] S (Du_addColumn_22b a0 a1 k22 x2 x5 x6 S) := by
  unfold Du_addColumn_22b
  refine iz_iload (n := 6) 14 4 rfl rfl ?_
  refine iz_bipush (v := 20) 15 (by decide) rfl ?_
  refine iz_cmp_gt (tgt := 55) 16 rfl (by decide) ?_ ?_
  · refine iz_goto (tgt := 132) 31 (by decide) rfl ?_
    exact iz_sub [] rfl (c_Du_addColumn_132 h0 h1 S)
  · refine iz_aload_n (n := 0) 17 0 rfl rfl ?_
    refine iz_getR 18 5 h0 fl_X0_20 rfl (by decide) (by decide) rfl ?_
    refine iz_iload (n := 5) 19 3 rfl rfl ?_
    refine iz_aald 20 (sf_0_5 h0) rfl (fun hc5 => ?_)
    refine iz_iload (n := 6) 21 4 rfl rfl ?_
    refine iz_aload_n (n := 1) 22 1 rfl rfl ?_
    refine iz_iload_n (n := 2) 23 2 rfl rfl ?_
    refine iz_bipush (v := 20) 24 (by decide) rfl ?_
    refine iz_iload (n := 6) 25 4 rfl rfl ?_
    refine iz_isub 26 rfl ?_
    refine iz_callVI (As := [.int x2, .int ((20 : Int32) - x6)]) (rest := [.int x6, .ref (X.1 (iz_rf (iz_rf a0 5) (Int32.toNatClampNeg x5)))]) 27 ml_X0_65 cw_X1_columnMelts ci_X1_columnMelts h1 (fun r9 hr9 => m_Ho_columnMelts h1 hr9) rfl (by decide) (by decide) rfl rfl (Nat.le_of_ble_eq_true rfl) (fun r7 S6 => ?_)
    refine iz_iast 28 (sr_0_5 h0 hc5) rfl (fun S8 => ?_)
    refine iz_iinc (v := (x6 + 1)) (ls2 := [(0, .ref (X.1 a0)), (1, .ref (X.1 a1)), (2, .int x2), (5, .int x5), (6, .int (x6 + 1))]) 29 4 [1, 2, 3, 4, 0] rfl rfl rfl (by decide) rfl ?_
    refine iz_goto (tgt := 22) 30 (by decide) rfl ?_
    exact hk22 x2 x5 (x6 + 1) S8
theorem c_Du_addColumn_22 {X : iz_X} {l : Launch} {a0 : Nat} (h0 : iz_sh a0 = (0 + 3, 7)) {a1 : Nat} (h1 : iz_sh a1 = (1 + 3, 13)) : ∀ (n9 : Nat) (x2 : Int32) (x5 : Int32) (x6 : Int32) (S : iz_S), iz_Y X l RX0 tX0_addColumn 7 4 (iz_Kc X l yX0_addColumn cX0_addColumn 7 none 4 iz_eV) 22 [(0, .ref (X.1 a0)), (1, .ref (X.1 a1)), (2, .int x2), (5, .int x5), (6, .int x6)] [] S (Du_addColumn_22 a0 a1 n9 x2 x5 x6 S)
  | 0 => by
    intros
    exact iz_none
  | n9 + 1 => c_Du_addColumn_22b h0 h1 (c_Du_addColumn_22 h0 h1 n9)
set_option maxRecDepth 10000 in
theorem c_Du_addColumn {X : iz_X} {l : Launch} {a0 : Nat} (h0 : iz_sh a0 = (0 + 3, 7)) {a1 : Nat} (h1 : iz_sh a1 = (1 + 3, 13)) (x2 : Int32) (x3 : Int32) (x4 : Int32) (S : iz_S) : iz_Y X l RX0 tX0_addColumn 7 4 (iz_Kc X l yX0_addColumn cX0_addColumn 7 none 4 iz_eV) 0 [(0, .ref (X.1 a0)), (1, .ref (X.1 a1)), (2, .int x2), (3, .int x3), (4, .int x4)] [] S (Du_addColumn a0 a1 x2 x3 x4 S) := by
  unfold Du_addColumn
  refine iz_iload_n (n := 3) 0 3 rfl rfl ?_
  refine iz_if_lt (tgt := 58) 1 rfl (by decide) ?_ ?_
  · exact c_Du_addColumn_58 h0 h1 x2 x3 x4 S
  · refine iz_iload (n := 4) 2 4 rfl rfl ?_
    refine iz_if_lt (tgt := 58) 3 rfl (by decide) ?_ ?_
    · exact c_Du_addColumn_58 h0 h1 x2 x3 x4 S
    · refine iz_iconst (v := 2) 4 (by decide) rfl ?_
      refine iz_iload_n (n := 3) 5 3 rfl rfl ?_
      refine iz_imul 6 rfl ?_
      refine iz_iload (n := 4) 7 4 rfl rfl ?_
      refine iz_iadd 8 rfl ?_
      refine iz_iconst (v := 2) 9 (by decide) rfl ?_
      refine iz_isub 10 rfl ?_
      refine iz_let (fun v1 => ?_)
      refine iz_istore (n := 5) (ls2 := [(0, .ref (X.1 a0)), (1, .ref (X.1 a1)), (2, .int x2), (5, .int v1)]) 11 [1, 2, 3, 0] rfl (by decide) rfl ?_
      refine iz_iconst (v := 0) 12 (by decide) rfl ?_
      refine iz_istore (n := 6) (ls2 := [(0, .ref (X.1 a0)), (1, .ref (X.1 a1)), (2, .int x2), (5, .int v1), (6, .int 0)]) 13 [1, 2, 3, 4, 0] rfl (by decide) rfl ?_
      exact c_Du_addColumn_22 h0 h1 iz_FU x2 v1 0 S
theorem m_Du_addColumn {X : iz_X} {l : Launch} {a0 : Nat} (h0 : iz_sh a0 = (0 + 3, 7)) {a1 : Nat} (h1 : iz_sh a1 = (1 + 3, 13)) {x2 : Int32} {x3 : Int32} {x4 : Int32} {S : iz_S} {r9 : iz_S} (hr : Du_addColumn a0 a1 x2 x3 x4 S = some r9) : iz_Mt X l 4 yX0_addColumn cX0_addColumn 7 none [.ref (X.1 a0), .ref (X.1 a1), .int x2, .int x3, .int x4] S (iz_eV r9) :=
  iz_Mt_of (dt := tX0_addColumn) dX0_addColumn (by decide) hr (Nat.le_of_ble_eq_true rfl) (c_Du_addColumn h0 h1 x2 x3 x4 S)
def Du_sideMelts (a0 : Nat) (x1 : Int32) (x2 : Int32) (x3 : Int32) (x4 : Int32) (S : iz_S) : Option (Int32 × iz_S) :=
  iz_ck (iz_in x1 4) (
  iz_ck (iz_in x4 11) (
  iz_ck (iz_in (x1 - 2) 4) (
  iz_ck (iz_in (x2 + x4) 21) (
  iz_ck (iz_in x1 4) (
  iz_ck (iz_in (x3 + x4) 21) (
  some ((((iz_g S (iz_rf (iz_rf a0 4) (Int32.toNatClampNeg x1)) x4) + (iz_g S (iz_rf (iz_rf a0 5) (Int32.toNatClampNeg (x1 - 2))) (x2 + x4))) + (iz_g S (iz_rf (iz_rf a0 5) (Int32.toNatClampNeg x1)) (x3 + x4))), S)))))))
set_option maxRecDepth 10000 in
theorem c_Du_sideMelts {X : iz_X} {l : Launch} {a0 : Nat} (h0 : iz_sh a0 = (0 + 3, 7)) (x1 : Int32) (x2 : Int32) (x3 : Int32) (x4 : Int32) (S : iz_S) : iz_Y X l RX0 tX0_sideMelts 5 0 (iz_Kc X l yX0_sideMelts cX0_sideMelts 5 (some .int) 0 iz_eI) 0 [(0, .ref (X.1 a0)), (1, .int x1), (2, .int x2), (3, .int x3), (4, .int x4)] [] S (Du_sideMelts a0 x1 x2 x3 x4 S) := by
  unfold Du_sideMelts
  refine iz_aload_n (n := 0) 0 0 rfl rfl ?_
  refine iz_getR 1 4 h0 fl_X0_17 rfl (by decide) (by decide) rfl ?_
  refine iz_iload_n (n := 1) 2 1 rfl rfl ?_
  refine iz_aald 3 (sf_0_4 h0) rfl (fun hc1 => ?_)
  refine iz_iload (n := 4) 4 4 rfl rfl ?_
  refine iz_iald 5 (sr_0_4 h0 hc1) rfl ?_
  refine iz_aload_n (n := 0) 6 0 rfl rfl ?_
  refine iz_getR 7 5 h0 fl_X0_20 rfl (by decide) (by decide) rfl ?_
  refine iz_iload_n (n := 1) 8 1 rfl rfl ?_
  refine iz_iconst (v := 2) 9 (by decide) rfl ?_
  refine iz_isub 10 rfl ?_
  refine iz_aald 11 (sf_0_5 h0) rfl (fun hc2 => ?_)
  refine iz_iload_n (n := 2) 12 2 rfl rfl ?_
  refine iz_iload (n := 4) 13 4 rfl rfl ?_
  refine iz_iadd 14 rfl ?_
  refine iz_iald 15 (sr_0_5 h0 hc2) rfl ?_
  refine iz_iadd 16 rfl ?_
  refine iz_aload_n (n := 0) 17 0 rfl rfl ?_
  refine iz_getR 18 5 h0 fl_X0_20 rfl (by decide) (by decide) rfl ?_
  refine iz_iload_n (n := 1) 19 1 rfl rfl ?_
  refine iz_aald 20 (sf_0_5 h0) rfl (fun hc3 => ?_)
  refine iz_iload_n (n := 3) 21 3 rfl rfl ?_
  refine iz_iload (n := 4) 22 4 rfl rfl ?_
  refine iz_iadd 23 rfl ?_
  refine iz_iald 24 (sr_0_5 h0 hc3) rfl ?_
  refine iz_iadd 25 rfl ?_
  exact iz_iret 26 rfl
theorem m_Du_sideMelts {X : iz_X} {l : Launch} {a0 : Nat} (h0 : iz_sh a0 = (0 + 3, 7)) {x1 : Int32} {x2 : Int32} {x3 : Int32} {x4 : Int32} {S : iz_S} {r9 : Int32 × iz_S} (hr : Du_sideMelts a0 x1 x2 x3 x4 S = some r9) : iz_Mt X l 0 yX0_sideMelts cX0_sideMelts 5 (some .int) [.ref (X.1 a0), .int x1, .int x2, .int x3, .int x4] S (iz_eI r9) :=
  iz_Mt_of (dt := tX0_sideMelts) dX0_sideMelts (by decide) hr (Nat.le_of_ble_eq_true rfl) (c_Du_sideMelts h0 x1 x2 x3 x4 S)
def Du_fillFewest_35 (a0 : Nat) (k5 : Int32 → Int32 → Int32 → Int32 → iz_S → Option iz_S) (x1 : Int32) (x2 : Int32) (x3 : Int32) (x4 : Int32) (S : iz_S) : Option iz_S :=
  iz_ck (iz_in x4 11) (iz_lt (iz_s S (iz_rf a0 6) x4 x3) (fun S5 =>
  (k5 x1 x2 x3 (x4 + 1) S5)))
def Du_fillFewest_5b (a0 : Nat) (k5 : Int32 → Int32 → Int32 → Int32 → iz_S → Option iz_S) (x1 : Int32) (x2 : Int32) (x3 : Int32) (x4 : Int32) (S : iz_S) : Option iz_S :=
  (if x4 ≤ 10 then
    (iz_bI (Du_sideMelts a0 3 x1 x2 x4 S) (fun r2 S1 =>
    iz_bI (Du_sideMelts a0 3 x1 x2 x3 S1) (fun r4 S3 =>
    if r2 < r4 then
      (Du_fillFewest_35 a0 k5 x1 x2 x4 x4 S3)
    else
      (Du_fillFewest_35 a0 k5 x1 x2 x3 x4 S3))))
  else
    some S)
def Du_fillFewest_5 (a0 : Nat) : Nat → Int32 → Int32 → Int32 → Int32 → iz_S → Option iz_S
  | 0 => fun _ _ _ _ _ => none
  | n9 + 1 => Du_fillFewest_5b a0 (Du_fillFewest_5 a0 n9)
def Du_fillFewest (a0 : Nat) (x1 : Int32) (x2 : Int32) (S : iz_S) : Option iz_S :=
  (Du_fillFewest_5 a0 iz_FU x1 x2 0 0 S)
set_option maxRecDepth 10000 in
theorem c_Du_fillFewest_35 {X : iz_X} {l : Launch} {a0 : Nat} (h0 : iz_sh a0 = (0 + 3, 7)) {k5 : Int32 → Int32 → Int32 → Int32 → iz_S → Option iz_S} (hk5 : ∀ (x1 : Int32) (x2 : Int32) (x3 : Int32) (x4 : Int32) (S : iz_S), iz_Y X l RX0 tX0_fillFewest 5 1 (iz_Kc X l yX0_fillFewest cX0_fillFewest 5 none 1 iz_eV) 5 [(0, .ref (X.1 a0)), (1, .int x1), (2, .int x2), (3, .int x3), (4, .int x4)] [] S (k5 x1 x2 x3 x4 S)) (x1 : Int32) (x2 : Int32) (x3 : Int32) (x4 : Int32) (S : iz_S) : iz_Y X l RX0 tX0_fillFewest 5 1 (iz_Kc X l yX0_fillFewest cX0_fillFewest 5 none 1 iz_eV) 35 [(0, .ref (X.1 a0)), (1, .int x1), (2, .int x2), (3, .int x3), (4, .int x4)] [] S (Du_fillFewest_35 a0 k5 x1 x2 x3 x4 S) := by
  unfold Du_fillFewest_35
  refine iz_aload_n (n := 0) 22 0 rfl rfl ?_
  refine iz_getR 23 6 h0 fl_X0_23 rfl (by decide) (by decide) rfl ?_
  refine iz_iload (n := 4) 24 4 rfl rfl ?_
  refine iz_iload_n (n := 3) 25 3 rfl rfl ?_
  refine iz_iast 26 (sf_0_6 h0) rfl (fun S5 => ?_)
  refine iz_iinc (v := (x4 + 1)) (ls2 := [(0, .ref (X.1 a0)), (1, .int x1), (2, .int x2), (3, .int x3), (4, .int (x4 + 1))]) 27 4 [1, 2, 3, 4, 0] rfl rfl rfl (by decide) rfl ?_
  refine iz_goto (tgt := 5) 28 (by decide) rfl ?_
  exact hk5 x1 x2 x3 (x4 + 1) S5
set_option maxRecDepth 10000 in
theorem c_Du_fillFewest_5b {X : iz_X} {l : Launch} {a0 : Nat} (h0 : iz_sh a0 = (0 + 3, 7)) {k5 : Int32 → Int32 → Int32 → Int32 → iz_S → Option iz_S} (hk5 : ∀ (x1 : Int32) (x2 : Int32) (x3 : Int32) (x4 : Int32) (S : iz_S), iz_Y X l RX0 tX0_fillFewest 5 1 (iz_Kc X l yX0_fillFewest cX0_fillFewest 5 none 1 iz_eV) 5 [(0, .ref (X.1 a0)), (1, .int x1), (2, .int x2), (3, .int x3), (4, .int x4)] [] S (k5 x1 x2 x3 x4 S)) (x1 : Int32) (x2 : Int32) (x3 : Int32) (x4 : Int32) (S : iz_S) : iz_Y X l RX0 tX0_fillFewest 5 1 (iz_Kc X l yX0_fillFewest cX0_fillFewest 5 none 1 iz_eV) 5 [(0, .ref (X.1 a0)), (1, .int x1), (2, .int x2), (3, .int x3), (4, .int x4)] [] S (Du_fillFewest_5b a0 k5 x1 x2 x3 x4 S) := by
  unfold Du_fillFewest_5b
  refine iz_iload (n := 4) 4 4 rfl rfl ?_
  refine iz_bipush (v := 10) 5 (by decide) rfl ?_
  refine iz_cmp_gt (tgt := 49) 6 rfl (by decide) ?_ ?_
  · exact iz_vret 29 rfl
  · refine iz_aload_n (n := 0) 7 0 rfl rfl ?_
    refine iz_iconst (v := 3) 8 (by decide) rfl ?_
    refine iz_iload_n (n := 1) 9 1 rfl rfl ?_
    refine iz_iload_n (n := 2) 10 2 rfl rfl ?_
    refine iz_iload (n := 4) 11 4 rfl rfl ?_
    refine iz_callVI (As := [.int 3, .int x1, .int x2, .int x4]) (rest := []) 12 ml_X0_83 cw_X0_sideMelts ci_X0_sideMelts h0 (fun r9 hr9 => m_Du_sideMelts h0 hr9) rfl (by decide) (by decide) rfl rfl (Nat.le_of_ble_eq_true rfl) (fun r2 S1 => ?_)
    refine iz_aload_n (n := 0) 13 0 rfl rfl ?_
    refine iz_iconst (v := 3) 14 (by decide) rfl ?_
    refine iz_iload_n (n := 1) 15 1 rfl rfl ?_
    refine iz_iload_n (n := 2) 16 2 rfl rfl ?_
    refine iz_iload_n (n := 3) 17 3 rfl rfl ?_
    refine iz_callVI (As := [.int 3, .int x1, .int x2, .int x3]) (rest := [.int r2]) 18 ml_X0_83 cw_X0_sideMelts ci_X0_sideMelts h0 (fun r9 hr9 => m_Du_sideMelts h0 hr9) rfl (by decide) (by decide) rfl rfl (Nat.le_of_ble_eq_true rfl) (fun r4 S3 => ?_)
    refine iz_cmp_ge (tgt := 35) 19 rfl (by decide) ?_ ?_
    · exact c_Du_fillFewest_35 h0 hk5 x1 x2 x3 x4 S3
    · refine iz_iload (n := 4) 20 4 rfl rfl ?_
      refine iz_istore_n (n := 3) (ls2 := [(0, .ref (X.1 a0)), (1, .int x1), (2, .int x2), (3, .int x4), (4, .int x4)]) 21 [1, 2, 3, 0, 4] rfl (by decide) rfl ?_
      exact c_Du_fillFewest_35 h0 hk5 x1 x2 x4 x4 S3
theorem c_Du_fillFewest_5 {X : iz_X} {l : Launch} {a0 : Nat} (h0 : iz_sh a0 = (0 + 3, 7)) : ∀ (n9 : Nat) (x1 : Int32) (x2 : Int32) (x3 : Int32) (x4 : Int32) (S : iz_S), iz_Y X l RX0 tX0_fillFewest 5 1 (iz_Kc X l yX0_fillFewest cX0_fillFewest 5 none 1 iz_eV) 5 [(0, .ref (X.1 a0)), (1, .int x1), (2, .int x2), (3, .int x3), (4, .int x4)] [] S (Du_fillFewest_5 a0 n9 x1 x2 x3 x4 S)
  | 0 => by
    intros
    exact iz_none
  | n9 + 1 => c_Du_fillFewest_5b h0 (c_Du_fillFewest_5 h0 n9)
set_option maxRecDepth 10000 in
theorem c_Du_fillFewest {X : iz_X} {l : Launch} {a0 : Nat} (h0 : iz_sh a0 = (0 + 3, 7)) (x1 : Int32) (x2 : Int32) (S : iz_S) : iz_Y X l RX0 tX0_fillFewest 5 1 (iz_Kc X l yX0_fillFewest cX0_fillFewest 5 none 1 iz_eV) 0 [(0, .ref (X.1 a0)), (1, .int x1), (2, .int x2)] [] S (Du_fillFewest a0 x1 x2 S) := by
  unfold Du_fillFewest
  refine iz_iconst (v := 0) 0 (by decide) rfl ?_
  refine iz_istore_n (n := 3) (ls2 := [(0, .ref (X.1 a0)), (1, .int x1), (2, .int x2), (3, .int 0)]) 1 [1, 2, 3, 0] rfl (by decide) rfl ?_
  refine iz_iconst (v := 0) 2 (by decide) rfl ?_
  refine iz_istore (n := 4) (ls2 := [(0, .ref (X.1 a0)), (1, .int x1), (2, .int x2), (3, .int 0), (4, .int 0)]) 3 [1, 2, 3, 4, 0] rfl (by decide) rfl ?_
  exact c_Du_fillFewest_5 h0 iz_FU x1 x2 0 0 S
theorem m_Du_fillFewest {X : iz_X} {l : Launch} {a0 : Nat} (h0 : iz_sh a0 = (0 + 3, 7)) {x1 : Int32} {x2 : Int32} {S : iz_S} {r9 : iz_S} (hr : Du_fillFewest a0 x1 x2 S = some r9) : iz_Mt X l 1 yX0_fillFewest cX0_fillFewest 5 none [.ref (X.1 a0), .int x1, .int x2] S (iz_eV r9) :=
  iz_Mt_of (dt := tX0_fillFewest) dX0_fillFewest (by decide) hr (Nat.le_of_ble_eq_true rfl) (c_Du_fillFewest h0 x1 x2 S)
def Du_keep (a0 : Nat) (x1 : Int32) (x2 : Int32) (x3 : Int32) (x4 : Int32) (x5 : Int32) (S : iz_S) : Option iz_S :=
  iz_lt (iz_up S a0 0 x1) (fun S1 =>
  iz_lt (iz_up S1 a0 2 (((x2 + x3) + x4) + x5)) (fun S2 =>
  iz_ck (iz_in 0 4) (iz_lt (iz_s S2 (iz_rf a0 1) 0 x2) (fun S3 =>
  iz_ck (iz_in 1 4) (iz_lt (iz_s S3 (iz_rf a0 1) 1 x3) (fun S4 =>
  iz_ck (iz_in 2 4) (iz_lt (iz_s S4 (iz_rf a0 1) 2 x4) (fun S5 =>
  iz_ck (iz_in 3 4) (iz_lt (iz_s S5 (iz_rf a0 1) 3 x5) (fun S6 =>
  some S6))))))))))
set_option maxRecDepth 10000 in
theorem c_Du_keep {X : iz_X} {l : Launch} {a0 : Nat} (h0 : iz_sh a0 = (0 + 3, 7)) (x1 : Int32) (x2 : Int32) (x3 : Int32) (x4 : Int32) (x5 : Int32) (S : iz_S) : iz_Y X l RX0 tX0_keep 6 0 (iz_Kc X l yX0_keep cX0_keep 6 none 0 iz_eV) 0 [(0, .ref (X.1 a0)), (1, .int x1), (2, .int x2), (3, .int x3), (4, .int x4), (5, .int x5)] [] S (Du_keep a0 x1 x2 x3 x4 x5 S) := by
  unfold Du_keep
  refine iz_aload_n (n := 0) 0 0 rfl rfl ?_
  refine iz_iload_n (n := 1) 1 1 rfl rfl ?_
  refine iz_putI 2 0 h0 fl_X0_49 rfl (by decide) (by decide) rfl (fun S1 => ?_)
  refine iz_aload_n (n := 0) 3 0 rfl rfl ?_
  refine iz_iload_n (n := 2) 4 2 rfl rfl ?_
  refine iz_iload_n (n := 3) 5 3 rfl rfl ?_
  refine iz_iadd 6 rfl ?_
  refine iz_iload (n := 4) 7 4 rfl rfl ?_
  refine iz_iadd 8 rfl ?_
  refine iz_iload (n := 5) 9 5 rfl rfl ?_
  refine iz_iadd 10 rfl ?_
  refine iz_putI 11 2 h0 fl_X0_53 rfl (by decide) (by decide) rfl (fun S2 => ?_)
  refine iz_aload_n (n := 0) 12 0 rfl rfl ?_
  refine iz_getR 13 1 h0 fl_X0_9 rfl (by decide) (by decide) rfl ?_
  refine iz_iconst (v := 0) 14 (by decide) rfl ?_
  refine iz_iload_n (n := 2) 15 2 rfl rfl ?_
  refine iz_iast 16 (sf_0_1 h0) rfl (fun S3 => ?_)
  refine iz_aload_n (n := 0) 17 0 rfl rfl ?_
  refine iz_getR 18 1 h0 fl_X0_9 rfl (by decide) (by decide) rfl ?_
  refine iz_iconst (v := 1) 19 (by decide) rfl ?_
  refine iz_iload_n (n := 3) 20 3 rfl rfl ?_
  refine iz_iast 21 (sf_0_1 h0) rfl (fun S4 => ?_)
  refine iz_aload_n (n := 0) 22 0 rfl rfl ?_
  refine iz_getR 23 1 h0 fl_X0_9 rfl (by decide) (by decide) rfl ?_
  refine iz_iconst (v := 2) 24 (by decide) rfl ?_
  refine iz_iload (n := 4) 25 4 rfl rfl ?_
  refine iz_iast 26 (sf_0_1 h0) rfl (fun S5 => ?_)
  refine iz_aload_n (n := 0) 27 0 rfl rfl ?_
  refine iz_getR 28 1 h0 fl_X0_9 rfl (by decide) (by decide) rfl ?_
  refine iz_iconst (v := 3) 29 (by decide) rfl ?_
  refine iz_iload (n := 5) 30 5 rfl rfl ?_
  refine iz_iast 31 (sf_0_1 h0) rfl (fun S6 => ?_)
  exact iz_vret 32 rfl
theorem m_Du_keep {X : iz_X} {l : Launch} {a0 : Nat} (h0 : iz_sh a0 = (0 + 3, 7)) {x1 : Int32} {x2 : Int32} {x3 : Int32} {x4 : Int32} {x5 : Int32} {S : iz_S} {r9 : iz_S} (hr : Du_keep a0 x1 x2 x3 x4 x5 S = some r9) : iz_Mt X l 0 yX0_keep cX0_keep 6 none [.ref (X.1 a0), .int x1, .int x2, .int x3, .int x4, .int x5] S (iz_eV r9) :=
  iz_Mt_of (dt := tX0_keep) dX0_keep (by decide) hr (Nat.le_of_ble_eq_true rfl) (c_Du_keep h0 x1 x2 x3 x4 x5 S)
def Du_trySides_142 (a0 : Nat) (S : iz_S) : Option iz_S :=
  some S
def Du_trySides_136 (a0 : Nat) (k33 : Int32 → Int32 → Int32 → Int32 → Int32 → iz_S → Option iz_S) (x1 : Int32) (x2 : Int32) (x3 : Int32) (x4 : Int32) (x5 : Int32) (S : iz_S) : Option iz_S :=
  (k33 x1 x2 x3 x4 (x5 + 1) S)
def Du_trySides_124 (a0 : Nat) (k33 : Int32 → Int32 → Int32 → Int32 → Int32 → iz_S → Option iz_S) (x1 : Int32) (x2 : Int32) (x3 : Int32) (x4 : Int32) (x5 : Int32) (x6 : Int32) (x7 : Int32) (S : iz_S) : Option iz_S :=
  iz_bV (Du_keep a0 x7 x1 x2 x5 x6 S) (fun S12 =>
  (Du_trySides_136 a0 k33 x1 x2 x3 x4 x5 S12))
def Du_trySides_33b (a0 : Nat) (k33 : Int32 → Int32 → Int32 → Int32 → Int32 → iz_S → Option iz_S) (x1 : Int32) (x2 : Int32) (x3 : Int32) (x4 : Int32) (x5 : Int32) (S : iz_S) : Option iz_S :=
  (if x5 ≤ 10 then
    (if x5 ≤ x3 then
      (iz_ck (iz_in (if (x3 - x5) < 10 then (x3 - x5) else 10) 11) (
      iz_lt (iz_g S (iz_rf a0 6) (if (x3 - x5) < 10 then (x3 - x5) else 10)) (fun v5 =>
      iz_bI (Du_sideMelts a0 2 x1 x2 x5 S) (fun r7 S6 =>
      iz_bI (Du_sideMelts a0 3 x1 x2 v5 S6) (fun r9 S8 =>
      iz_lt ((x4 + r7) + r9) (fun v10 =>
      iz_lt (((x1 + x2) + x5) + v5) (fun v11 =>
      if v10 < (S8.1 a0 0) then
        (Du_trySides_124 a0 k33 x1 x2 x3 x4 x5 v5 v10 S8)
      else
        (if v10 = (S8.1 a0 0) then
          (if v11 < (S8.1 a0 2) then
            (Du_trySides_124 a0 k33 x1 x2 x3 x4 x5 v5 v10 S8)
          else
            (Du_trySides_136 a0 k33 x1 x2 x3 x4 x5 S8))
        else
          (Du_trySides_136 a0 k33 x1 x2 x3 x4 x5 S8)))))))))
    else
      (Du_trySides_142 a0 S))
  else
    (Du_trySides_142 a0 S))
def Du_trySides_33 (a0 : Nat) : Nat → Int32 → Int32 → Int32 → Int32 → Int32 → iz_S → Option iz_S
  | 0 => fun _ _ _ _ _ _ => none
  | n9 + 1 => Du_trySides_33b a0 (Du_trySides_33 a0 n9)
def Du_trySides (a0 : Nat) (x1 : Int32) (x2 : Int32) (x3 : Int32) (S : iz_S) : Option iz_S :=
  iz_ck (iz_in 0 4) (
  iz_ck (iz_in x1 11) (
  iz_ck (iz_in 1 4) (
  iz_ck (iz_in x2 11) (
  iz_lt (((S.1 a0 3) + (iz_g S (iz_rf (iz_rf a0 4) (Int32.toNatClampNeg 0)) x1)) + (iz_g S (iz_rf (iz_rf a0 4) (Int32.toNatClampNeg 1)) x2)) (fun v3 =>
  iz_bV (Du_fillFewest a0 x1 x2 S) (fun S4 =>
  (Du_trySides_33 a0 iz_FU x1 x2 x3 v3 0 S4)))))))
set_option maxRecDepth 10000 in
theorem c_Du_trySides_142 {X : iz_X} {l : Launch} {a0 : Nat} (h0 : iz_sh a0 = (0 + 3, 7)) (S : iz_S) : iz_Y X l RX0 tX0_trySides 9 2 (iz_Kc X l yX0_trySides cX0_trySides 9 none 2 iz_eV) 142 [] [] S (Du_trySides_142 a0 S) := by
  unfold Du_trySides_142
  exact iz_vret 83 rfl
set_option maxRecDepth 10000 in
theorem c_Du_trySides_136 {X : iz_X} {l : Launch} {a0 : Nat} (h0 : iz_sh a0 = (0 + 3, 7)) {k33 : Int32 → Int32 → Int32 → Int32 → Int32 → iz_S → Option iz_S} (hk33 : ∀ (x1 : Int32) (x2 : Int32) (x3 : Int32) (x4 : Int32) (x5 : Int32) (S : iz_S), iz_Y X l RX0 tX0_trySides 9 2 (iz_Kc X l yX0_trySides cX0_trySides 9 none 2 iz_eV) 33 [(0, .ref (X.1 a0)), (1, .int x1), (2, .int x2), (3, .int x3), (4, .int x4), (5, .int x5)] [] S (k33 x1 x2 x3 x4 x5 S)) (x1 : Int32) (x2 : Int32) (x3 : Int32) (x4 : Int32) (x5 : Int32) (S : iz_S) : iz_Y X l RX0 tX0_trySides 9 2 (iz_Kc X l yX0_trySides cX0_trySides 9 none 2 iz_eV) 136 [(0, .ref (X.1 a0)), (1, .int x1), (2, .int x2), (3, .int x3), (4, .int x4), (5, .int x5)] [] S (Du_trySides_136 a0 k33 x1 x2 x3 x4 x5 S) := by
  unfold Du_trySides_136
  refine iz_iinc (v := (x5 + 1)) (ls2 := [(0, .ref (X.1 a0)), (1, .int x1), (2, .int x2), (3, .int x3), (4, .int x4), (5, .int (x5 + 1))]) 81 5 [1, 2, 3, 4, 5, 0] rfl rfl rfl (by decide) rfl ?_
  refine iz_goto (tgt := 33) 82 (by decide) rfl ?_
  exact hk33 x1 x2 x3 x4 (x5 + 1) S
set_option maxRecDepth 10000 in
theorem c_Du_trySides_124 {X : iz_X} {l : Launch} {a0 : Nat} (h0 : iz_sh a0 = (0 + 3, 7)) {k33 : Int32 → Int32 → Int32 → Int32 → Int32 → iz_S → Option iz_S} (hk33 : ∀ (x1 : Int32) (x2 : Int32) (x3 : Int32) (x4 : Int32) (x5 : Int32) (S : iz_S), iz_Y X l RX0 tX0_trySides 9 2 (iz_Kc X l yX0_trySides cX0_trySides 9 none 2 iz_eV) 33 [(0, .ref (X.1 a0)), (1, .int x1), (2, .int x2), (3, .int x3), (4, .int x4), (5, .int x5)] [] S (k33 x1 x2 x3 x4 x5 S)) (x1 : Int32) (x2 : Int32) (x3 : Int32) (x4 : Int32) (x5 : Int32) (x6 : Int32) (x7 : Int32) (S : iz_S) : iz_Y X l RX0 tX0_trySides 9 2 (iz_Kc X l yX0_trySides cX0_trySides 9 none 2 iz_eV) 124 [(0, .ref (X.1 a0)), (1, .int x1), (2, .int x2), (3, .int x3), (4, .int x4), (5, .int x5), (6, .int x6), (7, .int x7)] [] S (Du_trySides_124 a0 k33 x1 x2 x3 x4 x5 x6 x7 S) := by
  unfold Du_trySides_124
  refine iz_aload_n (n := 0) 74 0 rfl rfl ?_
  refine iz_iload (n := 7) 75 7 rfl rfl ?_
  refine iz_iload_n (n := 1) 76 1 rfl rfl ?_
  refine iz_iload_n (n := 2) 77 2 rfl rfl ?_
  refine iz_iload (n := 5) 78 5 rfl rfl ?_
  refine iz_iload (n := 6) 79 6 rfl rfl ?_
  refine iz_callVV (As := [.int x7, .int x1, .int x2, .int x5, .int x6]) (rest := []) 80 ml_X0_87 cw_X0_keep ci_X0_keep h0 (fun r9 hr9 => m_Du_keep h0 hr9) rfl (by decide) (by decide) rfl rfl (Nat.le_of_ble_eq_true rfl) (fun S12 => ?_)
  exact iz_sub [0, 1, 2, 3, 4, 5] rfl (c_Du_trySides_136 h0 hk33 x1 x2 x3 x4 x5 S12)
set_option maxRecDepth 10000 in
theorem c_Du_trySides_33b {X : iz_X} {l : Launch} {a0 : Nat} (h0 : iz_sh a0 = (0 + 3, 7)) {k33 : Int32 → Int32 → Int32 → Int32 → Int32 → iz_S → Option iz_S} (hk33 : ∀ (x1 : Int32) (x2 : Int32) (x3 : Int32) (x4 : Int32) (x5 : Int32) (S : iz_S), iz_Y X l RX0 tX0_trySides 9 2 (iz_Kc X l yX0_trySides cX0_trySides 9 none 2 iz_eV) 33 [(0, .ref (X.1 a0)), (1, .int x1), (2, .int x2), (3, .int x3), (4, .int x4), (5, .int x5)] [] S (k33 x1 x2 x3 x4 x5 S)) (x1 : Int32) (x2 : Int32) (x3 : Int32) (x4 : Int32) (x5 : Int32) (S : iz_S) : iz_Y X l RX0 tX0_trySides 9 2 (iz_Kc X l yX0_trySides cX0_trySides 9 none 2 iz_eV) 33 [(0, .ref (X.1 a0)), (1, .int x1), (2, .int x2), (3, .int x3), (4, .int x4), (5, .int x5)] [] S (Du_trySides_33b a0 k33 x1 x2 x3 x4 x5 S) := by
  unfold Du_trySides_33b
  refine iz_iload (n := 5) 23 5 rfl rfl ?_
  refine iz_bipush (v := 10) 24 (by decide) rfl ?_
  refine iz_cmp_gt (tgt := 142) 25 rfl (by decide) ?_ ?_
  · exact iz_sub [] rfl (c_Du_trySides_142 h0 S)
  · refine iz_iload (n := 5) 26 5 rfl rfl ?_
    refine iz_iload_n (n := 3) 27 3 rfl rfl ?_
    refine iz_cmp_gt (tgt := 142) 28 rfl (by decide) ?_ ?_
    · exact iz_sub [] rfl (c_Du_trySides_142 h0 S)
    · refine iz_aload_n (n := 0) 29 0 rfl rfl ?_
      refine iz_getR 30 6 h0 fl_X0_23 rfl (by decide) (by decide) rfl ?_
      refine iz_bipush (v := 10) 31 (by decide) rfl ?_
      refine iz_iload_n (n := 3) 32 3 rfl rfl ?_
      refine iz_iload (n := 5) 33 5 rfl rfl ?_
      refine iz_isub 34 rfl ?_
      refine iz_mmin 35 mm_X0_80 (by decide) (Nat.le_of_ble_eq_true rfl) rfl ?_
      refine iz_iald 36 (sf_0_6 h0) rfl ?_
      refine iz_let (fun v5 => ?_)
      refine iz_istore (n := 6) (ls2 := [(0, .ref (X.1 a0)), (1, .int x1), (2, .int x2), (3, .int x3), (4, .int x4), (5, .int x5), (6, .int v5)]) 37 [1, 2, 3, 4, 5, 6, 0] rfl (by decide) rfl ?_
      refine iz_iload (n := 4) 38 4 rfl rfl ?_
      refine iz_aload_n (n := 0) 39 0 rfl rfl ?_
      refine iz_iconst (v := 2) 40 (by decide) rfl ?_
      refine iz_iload_n (n := 1) 41 1 rfl rfl ?_
      refine iz_iload_n (n := 2) 42 2 rfl rfl ?_
      refine iz_iload (n := 5) 43 5 rfl rfl ?_
      refine iz_callVI (As := [.int 2, .int x1, .int x2, .int x5]) (rest := [.int x4]) 44 ml_X0_83 cw_X0_sideMelts ci_X0_sideMelts h0 (fun r9 hr9 => m_Du_sideMelts h0 hr9) rfl (by decide) (by decide) rfl rfl (Nat.le_of_ble_eq_true rfl) (fun r7 S6 => ?_)
      refine iz_iadd 45 rfl ?_
      refine iz_aload_n (n := 0) 46 0 rfl rfl ?_
      refine iz_iconst (v := 3) 47 (by decide) rfl ?_
      refine iz_iload_n (n := 1) 48 1 rfl rfl ?_
      refine iz_iload_n (n := 2) 49 2 rfl rfl ?_
      refine iz_iload (n := 6) 50 6 rfl rfl ?_
      refine iz_callVI (As := [.int 3, .int x1, .int x2, .int v5]) (rest := [.int (x4 + r7)]) 51 ml_X0_83 cw_X0_sideMelts ci_X0_sideMelts h0 (fun r9 hr9 => m_Du_sideMelts h0 hr9) rfl (by decide) (by decide) rfl rfl (Nat.le_of_ble_eq_true rfl) (fun r9 S8 => ?_)
      refine iz_iadd 52 rfl ?_
      refine iz_let (fun v10 => ?_)
      refine iz_istore (n := 7) (ls2 := [(0, .ref (X.1 a0)), (1, .int x1), (2, .int x2), (3, .int x3), (4, .int x4), (5, .int x5), (6, .int v5), (7, .int v10)]) 53 [1, 2, 3, 4, 5, 6, 7, 0] rfl (by decide) rfl ?_
      refine iz_iload_n (n := 1) 54 1 rfl rfl ?_
      refine iz_iload_n (n := 2) 55 2 rfl rfl ?_
      refine iz_iadd 56 rfl ?_
      refine iz_iload (n := 5) 57 5 rfl rfl ?_
      refine iz_iadd 58 rfl ?_
      refine iz_iload (n := 6) 59 6 rfl rfl ?_
      refine iz_iadd 60 rfl ?_
      refine iz_let (fun v11 => ?_)
      refine iz_istore (n := 8) (ls2 := [(0, .ref (X.1 a0)), (1, .int x1), (2, .int x2), (3, .int x3), (4, .int x4), (5, .int x5), (6, .int v5), (7, .int v10), (8, .int v11)]) 61 [1, 2, 3, 4, 5, 6, 7, 8, 0] rfl (by decide) rfl ?_
      refine iz_iload (n := 7) 62 7 rfl rfl ?_
      refine iz_aload_n (n := 0) 63 0 rfl rfl ?_
      refine iz_getI 64 0 h0 fl_X0_49 rfl (by decide) (by decide) rfl ?_
      refine iz_cmp_lt (tgt := 124) 65 rfl (by decide) ?_ ?_
      · exact iz_sub [0, 1, 2, 3, 4, 5, 6, 7] rfl (c_Du_trySides_124 h0 hk33 x1 x2 x3 x4 x5 v5 v10 S8)
      · refine iz_iload (n := 7) 66 7 rfl rfl ?_
        refine iz_aload_n (n := 0) 67 0 rfl rfl ?_
        refine iz_getI 68 0 h0 fl_X0_49 rfl (by decide) (by decide) rfl ?_
        refine iz_cmp_ne (tgt := 136) 69 rfl (by decide) ?_ ?_
        · exact iz_sub [0, 1, 2, 3, 4, 5] rfl (c_Du_trySides_136 h0 hk33 x1 x2 x3 x4 x5 S8)
        · refine iz_iload (n := 8) 70 8 rfl rfl ?_
          refine iz_aload_n (n := 0) 71 0 rfl rfl ?_
          refine iz_getI 72 2 h0 fl_X0_53 rfl (by decide) (by decide) rfl ?_
          refine iz_cmp_ge (tgt := 136) 73 rfl (by decide) ?_ ?_
          · exact iz_sub [0, 1, 2, 3, 4, 5] rfl (c_Du_trySides_136 h0 hk33 x1 x2 x3 x4 x5 S8)
          · exact iz_sub [0, 1, 2, 3, 4, 5, 6, 7] rfl (c_Du_trySides_124 h0 hk33 x1 x2 x3 x4 x5 v5 v10 S8)
theorem c_Du_trySides_33 {X : iz_X} {l : Launch} {a0 : Nat} (h0 : iz_sh a0 = (0 + 3, 7)) : ∀ (n9 : Nat) (x1 : Int32) (x2 : Int32) (x3 : Int32) (x4 : Int32) (x5 : Int32) (S : iz_S), iz_Y X l RX0 tX0_trySides 9 2 (iz_Kc X l yX0_trySides cX0_trySides 9 none 2 iz_eV) 33 [(0, .ref (X.1 a0)), (1, .int x1), (2, .int x2), (3, .int x3), (4, .int x4), (5, .int x5)] [] S (Du_trySides_33 a0 n9 x1 x2 x3 x4 x5 S)
  | 0 => by
    intros
    exact iz_none
  | n9 + 1 => c_Du_trySides_33b h0 (c_Du_trySides_33 h0 n9)
set_option maxRecDepth 10000 in
theorem c_Du_trySides {X : iz_X} {l : Launch} {a0 : Nat} (h0 : iz_sh a0 = (0 + 3, 7)) (x1 : Int32) (x2 : Int32) (x3 : Int32) (S : iz_S) : iz_Y X l RX0 tX0_trySides 9 2 (iz_Kc X l yX0_trySides cX0_trySides 9 none 2 iz_eV) 0 [(0, .ref (X.1 a0)), (1, .int x1), (2, .int x2), (3, .int x3)] [] S (Du_trySides a0 x1 x2 x3 S) := by
  unfold Du_trySides
  refine iz_aload_n (n := 0) 0 0 rfl rfl ?_
  refine iz_getI 1 3 h0 fl_X0_56 rfl (by decide) (by decide) rfl ?_
  refine iz_aload_n (n := 0) 2 0 rfl rfl ?_
  refine iz_getR 3 4 h0 fl_X0_17 rfl (by decide) (by decide) rfl ?_
  refine iz_iconst (v := 0) 4 (by decide) rfl ?_
  refine iz_aald 5 (sf_0_4 h0) rfl (fun hc1 => ?_)
  refine iz_iload_n (n := 1) 6 1 rfl rfl ?_
  refine iz_iald 7 (sr_0_4 h0 hc1) rfl ?_
  refine iz_iadd 8 rfl ?_
  refine iz_aload_n (n := 0) 9 0 rfl rfl ?_
  refine iz_getR 10 4 h0 fl_X0_17 rfl (by decide) (by decide) rfl ?_
  refine iz_iconst (v := 1) 11 (by decide) rfl ?_
  refine iz_aald 12 (sf_0_4 h0) rfl (fun hc2 => ?_)
  refine iz_iload_n (n := 2) 13 2 rfl rfl ?_
  refine iz_iald 14 (sr_0_4 h0 hc2) rfl ?_
  refine iz_iadd 15 rfl ?_
  refine iz_let (fun v3 => ?_)
  refine iz_istore (n := 4) (ls2 := [(0, .ref (X.1 a0)), (1, .int x1), (2, .int x2), (3, .int x3), (4, .int v3)]) 16 [1, 2, 3, 4, 0] rfl (by decide) rfl ?_
  refine iz_aload_n (n := 0) 17 0 rfl rfl ?_
  refine iz_iload_n (n := 1) 18 1 rfl rfl ?_
  refine iz_iload_n (n := 2) 19 2 rfl rfl ?_
  refine iz_callVV (As := [.int x1, .int x2]) (rest := []) 20 ml_X0_76 cw_X0_fillFewest ci_X0_fillFewest h0 (fun r9 hr9 => m_Du_fillFewest h0 hr9) rfl (by decide) (by decide) rfl rfl (Nat.le_of_ble_eq_true rfl) (fun S4 => ?_)
  refine iz_iconst (v := 0) 21 (by decide) rfl ?_
  refine iz_istore (n := 5) (ls2 := [(0, .ref (X.1 a0)), (1, .int x1), (2, .int x2), (3, .int x3), (4, .int v3), (5, .int 0)]) 22 [1, 2, 3, 4, 5, 0] rfl (by decide) rfl ?_
  exact c_Du_trySides_33 h0 iz_FU x1 x2 x3 v3 0 S4
theorem m_Du_trySides {X : iz_X} {l : Launch} {a0 : Nat} (h0 : iz_sh a0 = (0 + 3, 7)) {x1 : Int32} {x2 : Int32} {x3 : Int32} {S : iz_S} {r9 : iz_S} (hr : Du_trySides a0 x1 x2 x3 S = some r9) : iz_Mt X l 2 yX0_trySides cX0_trySides 9 none [.ref (X.1 a0), .int x1, .int x2, .int x3] S (iz_eV r9) :=
  iz_Mt_of (dt := tX0_trySides) dX0_trySides (by decide) hr (Nat.le_of_ble_eq_true rfl) (c_Du_trySides h0 x1 x2 x3 S)
def Du_plan_77 (a0 : Nat) (a1 : Nat) (k34 : Int32 → Int32 → iz_S → Option iz_S) (x2 : Int32) (x3 : Int32) (S : iz_S) : Option iz_S :=
  (k34 x2 (x3 + 1) S)
def Du_plan_43b (a0 : Nat) (a1 : Nat) (k34 : Int32 → Int32 → iz_S → Option iz_S) (k43 : Int32 → Int32 → Int32 → iz_S → Option iz_S) (x2 : Int32) (x3 : Int32) (x4 : Int32) (S : iz_S) : Option iz_S :=
  (if x4 ≤ 10 then
    (if (x3 + x4) ≤ x2 then
      iz_bV (Du_trySides a0 x3 x4 ((x2 - x3) - x4) S) (fun S7 =>
      (k43 x2 x3 (x4 + 1) S7))
    else
      (Du_plan_77 a0 a1 k34 x2 x3 S))
  else
    (Du_plan_77 a0 a1 k34 x2 x3 S))
def Du_plan_43 (a0 : Nat) (a1 : Nat) (k34 : Int32 → Int32 → iz_S → Option iz_S) : Nat → Int32 → Int32 → Int32 → iz_S → Option iz_S
  | 0 => fun _ _ _ _ => none
  | n9 + 1 => Du_plan_43b a0 a1 k34 (Du_plan_43 a0 a1 k34 n9)
def Du_plan_34b (a0 : Nat) (a1 : Nat) (k34 : Int32 → Int32 → iz_S → Option iz_S) (x2 : Int32) (x3 : Int32) (S : iz_S) : Option iz_S :=
  (if x3 ≤ 10 then
    (Du_plan_43 a0 a1 k34 iz_FU x2 x3 0 S)
  else
    some S)
def Du_plan_34 (a0 : Nat) (a1 : Nat) : Nat → Int32 → Int32 → iz_S → Option iz_S
  | 0 => fun _ _ _ => none
  | n9 + 1 => Du_plan_34b a0 a1 (Du_plan_34 a0 a1 n9)
def Du_plan_6b (a0 : Nat) (a1 : Nat) (k6 : Int32 → Int32 → iz_S → Option iz_S) (x2 : Int32) (x3 : Int32) (S : iz_S) : Option iz_S :=
  (if x3 < 16 then
    iz_bI (Sh_rowWall x3 S) (fun r3 S2 =>
    iz_bI (Sh_sideWall x3 S2) (fun r5 S4 =>
    iz_bV (Du_addColumn a0 a1 x3 r3 r5 S4) (fun S6 =>
    (k6 x2 (x3 + 1) S6))))
  else
    (Du_plan_34 a0 a1 iz_FU x2 0 S))
def Du_plan_6 (a0 : Nat) (a1 : Nat) : Nat → Int32 → Int32 → iz_S → Option iz_S
  | 0 => fun _ _ _ => none
  | n9 + 1 => Du_plan_6b a0 a1 (Du_plan_6 a0 a1 n9)
def Du_plan (a0 : Nat) (a1 : Nat) (x2 : Int32) (S : iz_S) : Option iz_S :=
  iz_bV (Du_clearTables a0 S) (fun S1 =>
  (Du_plan_6 a0 a1 iz_FU x2 0 S1))
set_option maxRecDepth 10000 in
theorem c_Du_plan_77 {X : iz_X} {l : Launch} {a0 : Nat} (h0 : iz_sh a0 = (0 + 3, 7)) {a1 : Nat} (h1 : iz_sh a1 = (1 + 3, 13)) {k34 : Int32 → Int32 → iz_S → Option iz_S} (hk34 : ∀ (x2 : Int32) (x3 : Int32) (S : iz_S), iz_Y X l RX0 tX0_plan 5 5 (iz_Kc X l yX0_plan cX0_plan 5 none 5 iz_eV) 34 [(0, .ref (X.1 a0)), (2, .int x2), (3, .int x3)] [] S (k34 x2 x3 S)) (x2 : Int32) (x3 : Int32) (S : iz_S) : iz_Y X l RX0 tX0_plan 5 5 (iz_Kc X l yX0_plan cX0_plan 5 none 5 iz_eV) 77 [(0, .ref (X.1 a0)), (2, .int x2), (3, .int x3)] [] S (Du_plan_77 a0 a1 k34 x2 x3 S) := by
  unfold Du_plan_77
  refine iz_iinc (v := (x3 + 1)) (ls2 := [(0, .ref (X.1 a0)), (2, .int x2), (3, .int (x3 + 1))]) 43 2 [1, 2, 0] rfl rfl rfl (by decide) rfl ?_
  refine iz_goto (tgt := 34) 44 (by decide) rfl ?_
  exact hk34 x2 (x3 + 1) S
set_option maxRecDepth 10000 in
theorem c_Du_plan_43b {X : iz_X} {l : Launch} {a0 : Nat} (h0 : iz_sh a0 = (0 + 3, 7)) {a1 : Nat} (h1 : iz_sh a1 = (1 + 3, 13)) {k34 : Int32 → Int32 → iz_S → Option iz_S} {k43 : Int32 → Int32 → Int32 → iz_S → Option iz_S} (hk34 : ∀ (x2 : Int32) (x3 : Int32) (S : iz_S), iz_Y X l RX0 tX0_plan 5 5 (iz_Kc X l yX0_plan cX0_plan 5 none 5 iz_eV) 34 [(0, .ref (X.1 a0)), (2, .int x2), (3, .int x3)] [] S (k34 x2 x3 S)) (hk43 : ∀ (x2 : Int32) (x3 : Int32) (x4 : Int32) (S : iz_S), iz_Y X l RX0 tX0_plan 5 5 (iz_Kc X l yX0_plan cX0_plan 5 none 5 iz_eV) 43 [(0, .ref (X.1 a0)), (2, .int x2), (3, .int x3), (4, .int x4)] [] S (k43 x2 x3 x4 S)) (x2 : Int32) (x3 : Int32) (x4 : Int32) (S : iz_S) : iz_Y X l RX0 tX0_plan 5 5 (iz_Kc X l yX0_plan cX0_plan 5 none 5 iz_eV) 43 [(0, .ref (X.1 a0)), (2, .int x2), (3, .int x3), (4, .int x4)] [] S (Du_plan_43b a0 a1 k34 k43 x2 x3 x4 S) := by
  unfold Du_plan_43b
  refine iz_iload (n := 4) 24 3 rfl rfl ?_
  refine iz_bipush (v := 10) 25 (by decide) rfl ?_
  refine iz_cmp_gt (tgt := 77) 26 rfl (by decide) ?_ ?_
  · exact iz_sub [0, 1, 2] rfl (c_Du_plan_77 h0 h1 hk34 x2 x3 S)
  · refine iz_iload_n (n := 3) 27 2 rfl rfl ?_
    refine iz_iload (n := 4) 28 3 rfl rfl ?_
    refine iz_iadd 29 rfl ?_
    refine iz_iload_n (n := 2) 30 1 rfl rfl ?_
    refine iz_cmp_gt (tgt := 77) 31 rfl (by decide) ?_ ?_
    · exact iz_sub [0, 1, 2] rfl (c_Du_plan_77 h0 h1 hk34 x2 x3 S)
    · refine iz_aload_n (n := 0) 32 0 rfl rfl ?_
      refine iz_iload_n (n := 3) 33 2 rfl rfl ?_
      refine iz_iload (n := 4) 34 3 rfl rfl ?_
      refine iz_iload_n (n := 2) 35 1 rfl rfl ?_
      refine iz_iload_n (n := 3) 36 2 rfl rfl ?_
      refine iz_isub 37 rfl ?_
      refine iz_iload (n := 4) 38 3 rfl rfl ?_
      refine iz_isub 39 rfl ?_
      refine iz_callVV (As := [.int x3, .int x4, .int ((x2 - x3) - x4)]) (rest := []) 40 ml_X0_42 cw_X0_trySides ci_X0_trySides h0 (fun r9 hr9 => m_Du_trySides h0 hr9) rfl (by decide) (by decide) rfl rfl (Nat.le_of_ble_eq_true rfl) (fun S7 => ?_)
      refine iz_iinc (v := (x4 + 1)) (ls2 := [(0, .ref (X.1 a0)), (2, .int x2), (3, .int x3), (4, .int (x4 + 1))]) 41 3 [1, 2, 3, 0] rfl rfl rfl (by decide) rfl ?_
      refine iz_goto (tgt := 43) 42 (by decide) rfl ?_
      exact hk43 x2 x3 (x4 + 1) S7
theorem c_Du_plan_43 {X : iz_X} {l : Launch} {a0 : Nat} (h0 : iz_sh a0 = (0 + 3, 7)) {a1 : Nat} (h1 : iz_sh a1 = (1 + 3, 13)) {k34 : Int32 → Int32 → iz_S → Option iz_S} (hk34 : ∀ (x2 : Int32) (x3 : Int32) (S : iz_S), iz_Y X l RX0 tX0_plan 5 5 (iz_Kc X l yX0_plan cX0_plan 5 none 5 iz_eV) 34 [(0, .ref (X.1 a0)), (2, .int x2), (3, .int x3)] [] S (k34 x2 x3 S)) : ∀ (n9 : Nat) (x2 : Int32) (x3 : Int32) (x4 : Int32) (S : iz_S), iz_Y X l RX0 tX0_plan 5 5 (iz_Kc X l yX0_plan cX0_plan 5 none 5 iz_eV) 43 [(0, .ref (X.1 a0)), (2, .int x2), (3, .int x3), (4, .int x4)] [] S (Du_plan_43 a0 a1 k34 n9 x2 x3 x4 S)
  | 0 => by
    intros
    exact iz_none
  | n9 + 1 => c_Du_plan_43b h0 h1 hk34 (c_Du_plan_43 h0 h1 hk34 n9)
set_option maxRecDepth 10000 in
theorem c_Du_plan_34b {X : iz_X} {l : Launch} {a0 : Nat} (h0 : iz_sh a0 = (0 + 3, 7)) {a1 : Nat} (h1 : iz_sh a1 = (1 + 3, 13)) {k34 : Int32 → Int32 → iz_S → Option iz_S} (hk34 : ∀ (x2 : Int32) (x3 : Int32) (S : iz_S), iz_Y X l RX0 tX0_plan 5 5 (iz_Kc X l yX0_plan cX0_plan 5 none 5 iz_eV) 34 [(0, .ref (X.1 a0)), (2, .int x2), (3, .int x3)] [] S (k34 x2 x3 S)) (x2 : Int32) (x3 : Int32) (S : iz_S) : iz_Y X l RX0 tX0_plan 5 5 (iz_Kc X l yX0_plan cX0_plan 5 none 5 iz_eV) 34 [(0, .ref (X.1 a0)), (2, .int x2), (3, .int x3)] [] S (Du_plan_34b a0 a1 k34 x2 x3 S) := by
  unfold Du_plan_34b
  refine iz_iload_n (n := 3) 19 2 rfl rfl ?_
  refine iz_bipush (v := 10) 20 (by decide) rfl ?_
  refine iz_cmp_gt (tgt := 83) 21 rfl (by decide) ?_ ?_
  · exact iz_vret 45 rfl
  · refine iz_iconst (v := 0) 22 (by decide) rfl ?_
    refine iz_istore (n := 4) (ls2 := [(0, .ref (X.1 a0)), (2, .int x2), (3, .int x3), (4, .int 0)]) 23 [1, 2, 3, 0] rfl (by decide) rfl ?_
    exact c_Du_plan_43 h0 h1 hk34 iz_FU x2 x3 0 S
theorem c_Du_plan_34 {X : iz_X} {l : Launch} {a0 : Nat} (h0 : iz_sh a0 = (0 + 3, 7)) {a1 : Nat} (h1 : iz_sh a1 = (1 + 3, 13)) : ∀ (n9 : Nat) (x2 : Int32) (x3 : Int32) (S : iz_S), iz_Y X l RX0 tX0_plan 5 5 (iz_Kc X l yX0_plan cX0_plan 5 none 5 iz_eV) 34 [(0, .ref (X.1 a0)), (2, .int x2), (3, .int x3)] [] S (Du_plan_34 a0 a1 n9 x2 x3 S)
  | 0 => by
    intros
    exact iz_none
  | n9 + 1 => c_Du_plan_34b h0 h1 (c_Du_plan_34 h0 h1 n9)
set_option maxRecDepth 10000 in
theorem c_Du_plan_6b {X : iz_X} {l : Launch} {a0 : Nat} (h0 : iz_sh a0 = (0 + 3, 7)) {a1 : Nat} (h1 : iz_sh a1 = (1 + 3, 13)) {k6 : Int32 → Int32 → iz_S → Option iz_S} (hk6 : ∀ (x2 : Int32) (x3 : Int32) (S : iz_S), iz_Y X l RX0 tX0_plan 5 5 (iz_Kc X l yX0_plan cX0_plan 5 none 5 iz_eV) 6 [(0, .ref (X.1 a0)), (1, .ref (X.1 a1)), (2, .int x2), (3, .int x3)] [] S (k6 x2 x3 S)) (x2 : Int32) (x3 : Int32) (S : iz_S) : iz_Y X l RX0 tX0_plan 5 5 (iz_Kc X l yX0_plan cX0_plan 5 none 5 iz_eV) 6 [(0, .ref (X.1 a0)), (1, .ref (X.1 a1)), (2, .int x2), (3, .int x3)] [] S (Du_plan_6b a0 a1 k6 x2 x3 S) := by
  unfold Du_plan_6b
  refine iz_iload_n (n := 3) 4 3 rfl rfl ?_
  refine iz_bipush (v := 16) 5 (by decide) rfl ?_
  refine iz_cmp_ge (tgt := 32) 6 rfl (by decide) ?_ ?_
  · refine iz_iconst (v := 0) 17 (by decide) rfl ?_
    refine iz_istore_n (n := 3) (ls2 := [(0, .ref (X.1 a0)), (2, .int x2), (3, .int 0)]) 18 [1, 3, 0] rfl (by decide) rfl ?_
    exact c_Du_plan_34 h0 h1 iz_FU x2 0 S
  · refine iz_aload_n (n := 0) 7 0 rfl rfl ?_
    refine iz_aload_n (n := 1) 8 1 rfl rfl ?_
    refine iz_iload_n (n := 3) 9 3 rfl rfl ?_
    refine iz_iload_n (n := 3) 10 3 rfl rfl ?_
    refine iz_callSI (As := [.int x3]) (rest := [.int x3, .ref (X.1 a1), .ref (X.1 a0)]) 11 ml_X0_29 cw_X7_rowWall ci_X7_rowWall (fun r9 hr9 => m_Sh_rowWall  hr9) rfl (by decide) rfl rfl (Nat.le_of_ble_eq_true rfl) (fun r3 S2 => ?_)
    refine iz_iload_n (n := 3) 12 3 rfl rfl ?_
    refine iz_callSI (As := [.int x3]) (rest := [.int r3, .int x3, .ref (X.1 a1), .ref (X.1 a0)]) 13 ml_X0_35 cw_X7_sideWall ci_X7_sideWall (fun r9 hr9 => m_Sh_sideWall  hr9) rfl (by decide) rfl rfl (Nat.le_of_ble_eq_true rfl) (fun r5 S4 => ?_)
    refine iz_callVV (As := [.ref (X.1 a1), .int x3, .int r3, .int r5]) (rest := []) 14 ml_X0_38 cw_X0_addColumn ci_X0_addColumn h0 (fun r9 hr9 => m_Du_addColumn h0 h1 hr9) rfl (by decide) (by decide) rfl rfl (Nat.le_of_ble_eq_true rfl) (fun S6 => ?_)
    refine iz_iinc (v := (x3 + 1)) (ls2 := [(0, .ref (X.1 a0)), (1, .ref (X.1 a1)), (2, .int x2), (3, .int (x3 + 1))]) 15 3 [1, 2, 3, 0] rfl rfl rfl (by decide) rfl ?_
    refine iz_goto (tgt := 6) 16 (by decide) rfl ?_
    exact hk6 x2 (x3 + 1) S6
theorem c_Du_plan_6 {X : iz_X} {l : Launch} {a0 : Nat} (h0 : iz_sh a0 = (0 + 3, 7)) {a1 : Nat} (h1 : iz_sh a1 = (1 + 3, 13)) : ∀ (n9 : Nat) (x2 : Int32) (x3 : Int32) (S : iz_S), iz_Y X l RX0 tX0_plan 5 5 (iz_Kc X l yX0_plan cX0_plan 5 none 5 iz_eV) 6 [(0, .ref (X.1 a0)), (1, .ref (X.1 a1)), (2, .int x2), (3, .int x3)] [] S (Du_plan_6 a0 a1 n9 x2 x3 S)
  | 0 => by
    intros
    exact iz_none
  | n9 + 1 => c_Du_plan_6b h0 h1 (c_Du_plan_6 h0 h1 n9)
set_option maxRecDepth 10000 in
theorem c_Du_plan {X : iz_X} {l : Launch} {a0 : Nat} (h0 : iz_sh a0 = (0 + 3, 7)) {a1 : Nat} (h1 : iz_sh a1 = (1 + 3, 13)) (x2 : Int32) (S : iz_S) : iz_Y X l RX0 tX0_plan 5 5 (iz_Kc X l yX0_plan cX0_plan 5 none 5 iz_eV) 0 [(0, .ref (X.1 a0)), (1, .ref (X.1 a1)), (2, .int x2)] [] S (Du_plan a0 a1 x2 S) := by
  unfold Du_plan
  refine iz_aload_n (n := 0) 0 0 rfl rfl ?_
  refine iz_callVV (As := []) (rest := []) 1 ml_X0_26 cw_X0_clearTables ci_X0_clearTables h0 (fun r9 hr9 => m_Du_clearTables h0 hr9) rfl (by decide) (by decide) rfl rfl (Nat.le_of_ble_eq_true rfl) (fun S1 => ?_)
  refine iz_iconst (v := 0) 2 (by decide) rfl ?_
  refine iz_istore_n (n := 3) (ls2 := [(0, .ref (X.1 a0)), (1, .ref (X.1 a1)), (2, .int x2), (3, .int 0)]) 3 [1, 2, 3, 0] rfl (by decide) rfl ?_
  exact c_Du_plan_6 h0 h1 iz_FU x2 0 S1
theorem m_Du_plan {X : iz_X} {l : Launch} {a0 : Nat} (h0 : iz_sh a0 = (0 + 3, 7)) {a1 : Nat} (h1 : iz_sh a1 = (1 + 3, 13)) {x2 : Int32} {S : iz_S} {r9 : iz_S} (hr : Du_plan a0 a1 x2 S = some r9) : iz_Mt X l 5 yX0_plan cX0_plan 5 none [.ref (X.1 a0), .ref (X.1 a1), .int x2] S (iz_eV r9) :=
  iz_Mt_of (dt := tX0_plan) dX0_plan (by decide) hr (Nat.le_of_ble_eq_true rfl) (c_Du_plan h0 h1 x2 S)
def Ho_becomeLike (a0 : Nat) (a1 : Nat) (S : iz_S) : Option iz_S :=
  iz_lt (iz_up S a0 0 (S.1 a1 0)) (fun S1 =>
  iz_lt (iz_up S1 a0 5 (S1.1 a1 5)) (fun S2 =>
  iz_ck (iz_cpk 0 0 60 60 60) (iz_lt (iz_cpy S2 (iz_rf a1 1) (Int32.toNatClampNeg 0) (iz_rf a0 1) (Int32.toNatClampNeg 0) (Int32.toNatClampNeg 60)) (fun S3 =>
  iz_ck (iz_cpk 0 0 60 60 60) (iz_lt (iz_cpy S3 (iz_rf a1 2) (Int32.toNatClampNeg 0) (iz_rf a0 2) (Int32.toNatClampNeg 0) (Int32.toNatClampNeg 60)) (fun S4 =>
  iz_ck (iz_cpk 0 0 60 60 60) (iz_lt (iz_cpy S4 (iz_rf a1 3) (Int32.toNatClampNeg 0) (iz_rf a0 3) (Int32.toNatClampNeg 0) (Int32.toNatClampNeg 60)) (fun S5 =>
  iz_ck (iz_cpk 0 0 16 16 16) (iz_lt (iz_cpy S5 (iz_rf a1 4) (Int32.toNatClampNeg 0) (iz_rf a0 4) (Int32.toNatClampNeg 0) (Int32.toNatClampNeg 16)) (fun S6 =>
  iz_ck (iz_cpk 0 0 96 96 96) (iz_lt (iz_cpy S6 (iz_rf a1 12) (Int32.toNatClampNeg 0) (iz_rf a0 12) (Int32.toNatClampNeg 0) (Int32.toNatClampNeg 96)) (fun S7 =>
  some S7))))))))))))
set_option maxRecDepth 10000 in
theorem c_Ho_becomeLike {X : iz_X} {l : Launch} {a0 : Nat} (h0 : iz_sh a0 = (1 + 3, 13)) {a1 : Nat} (h1 : iz_sh a1 = (1 + 3, 13)) (S : iz_S) : iz_Y X l RX1 tX1_becomeLike 2 1 (iz_Kc X l yX1_becomeLike cX1_becomeLike 2 none 1 iz_eV) 0 [(0, .ref (X.1 a0)), (1, .ref (X.1 a1))] [] S (Ho_becomeLike a0 a1 S) := by
  unfold Ho_becomeLike
  refine iz_aload_n (n := 0) 0 0 rfl rfl ?_
  refine iz_aload_n (n := 1) 1 1 rfl rfl ?_
  refine iz_getI 2 0 h1 fl_X1_31 rfl (by decide) (by decide) rfl ?_
  refine iz_putI 3 0 h0 fl_X1_31 rfl (by decide) (by decide) rfl (fun S1 => ?_)
  refine iz_aload_n (n := 0) 4 0 rfl rfl ?_
  refine iz_aload_n (n := 1) 5 1 rfl rfl ?_
  refine iz_getI 6 5 h1 fl_X1_35 rfl (by decide) (by decide) rfl ?_
  refine iz_putI 7 5 h0 fl_X1_35 rfl (by decide) (by decide) rfl (fun S2 => ?_)
  refine iz_aload_n (n := 1) 8 1 rfl rfl ?_
  refine iz_getR 9 1 h1 fl_X1_9 rfl (by decide) (by decide) rfl ?_
  refine iz_iconst (v := 0) 10 (by decide) rfl ?_
  refine iz_aload_n (n := 0) 11 0 rfl rfl ?_
  refine iz_getR 12 1 h0 fl_X1_9 rfl (by decide) (by decide) rfl ?_
  refine iz_iconst (v := 0) 13 (by decide) rfl ?_
  refine iz_bipush (v := 60) 14 (by decide) rfl ?_
  refine iz_acopy 15 (sf_1_1 h1) (sf_1_1 h0) ml_X1_38 ac_nat ac_sta ac_ini (by decide) (Nat.le_of_ble_eq_true rfl) rfl (fun S3 => ?_)
  refine iz_aload_n (n := 1) 16 1 rfl rfl ?_
  refine iz_getR 17 2 h1 fl_X1_15 rfl (by decide) (by decide) rfl ?_
  refine iz_iconst (v := 0) 18 (by decide) rfl ?_
  refine iz_aload_n (n := 0) 19 0 rfl rfl ?_
  refine iz_getR 20 2 h0 fl_X1_15 rfl (by decide) (by decide) rfl ?_
  refine iz_iconst (v := 0) 21 (by decide) rfl ?_
  refine iz_bipush (v := 60) 22 (by decide) rfl ?_
  refine iz_acopy 23 (sf_1_2 h1) (sf_1_2 h0) ml_X1_38 ac_nat ac_sta ac_ini (by decide) (Nat.le_of_ble_eq_true rfl) rfl (fun S4 => ?_)
  refine iz_aload_n (n := 1) 24 1 rfl rfl ?_
  refine iz_getR 25 3 h1 fl_X1_18 rfl (by decide) (by decide) rfl ?_
  refine iz_iconst (v := 0) 26 (by decide) rfl ?_
  refine iz_aload_n (n := 0) 27 0 rfl rfl ?_
  refine iz_getR 28 3 h0 fl_X1_18 rfl (by decide) (by decide) rfl ?_
  refine iz_iconst (v := 0) 29 (by decide) rfl ?_
  refine iz_bipush (v := 60) 30 (by decide) rfl ?_
  refine iz_acopy 31 (sf_1_3 h1) (sf_1_3 h0) ml_X1_38 ac_nat ac_sta ac_ini (by decide) (Nat.le_of_ble_eq_true rfl) rfl (fun S5 => ?_)
  refine iz_aload_n (n := 1) 32 1 rfl rfl ?_
  refine iz_getR 33 4 h1 fl_X1_21 rfl (by decide) (by decide) rfl ?_
  refine iz_iconst (v := 0) 34 (by decide) rfl ?_
  refine iz_aload_n (n := 0) 35 0 rfl rfl ?_
  refine iz_getR 36 4 h0 fl_X1_21 rfl (by decide) (by decide) rfl ?_
  refine iz_iconst (v := 0) 37 (by decide) rfl ?_
  refine iz_bipush (v := 16) 38 (by decide) rfl ?_
  refine iz_acopy 39 (sf_1_4 h1) (sf_1_4 h0) ml_X1_38 ac_nat ac_sta ac_ini (by decide) (Nat.le_of_ble_eq_true rfl) rfl (fun S6 => ?_)
  refine iz_aload_n (n := 1) 40 1 rfl rfl ?_
  refine iz_getR 41 12 h1 fl_X1_24 rfl (by decide) (by decide) rfl ?_
  refine iz_iconst (v := 0) 42 (by decide) rfl ?_
  refine iz_aload_n (n := 0) 43 0 rfl rfl ?_
  refine iz_getR 44 12 h0 fl_X1_24 rfl (by decide) (by decide) rfl ?_
  refine iz_iconst (v := 0) 45 (by decide) rfl ?_
  refine iz_bipush (v := 96) 46 (by decide) rfl ?_
  refine iz_acopy 47 (sf_1_12 h1) (sf_1_12 h0) ml_X1_38 ac_nat ac_sta ac_ini (by decide) (Nat.le_of_ble_eq_true rfl) rfl (fun S7 => ?_)
  exact iz_vret 48 rfl
theorem m_Ho_becomeLike {X : iz_X} {l : Launch} {a0 : Nat} (h0 : iz_sh a0 = (1 + 3, 13)) {a1 : Nat} (h1 : iz_sh a1 = (1 + 3, 13)) {S : iz_S} {r9 : iz_S} (hr : Ho_becomeLike a0 a1 S = some r9) : iz_Mt X l 1 yX1_becomeLike cX1_becomeLike 2 none [.ref (X.1 a0), .ref (X.1 a1)] S (iz_eV r9) :=
  iz_Mt_of (dt := tX1_becomeLike) dX1_becomeLike (by decide) hr (Nat.le_of_ble_eq_true rfl) (c_Ho_becomeLike h0 h1 S)
def Ho_newBlock (a0 : Nat) (x1 : Int32) (x2 : Int32) (S : iz_S) : Option (Int32 × iz_S) :=
  iz_ck (iz_in (S.1 a0 0) 60) (iz_lt (iz_s S (iz_rf a0 1) (S.1 a0 0) x1) (fun S1 =>
  iz_ck (iz_in (S1.1 a0 0) 60) (iz_lt (iz_s S1 (iz_rf a0 2) (S1.1 a0 0) x2) (fun S2 =>
  iz_ck (iz_in (S2.1 a0 0) 60) (iz_lt (iz_s S2 (iz_rf a0 3) (S2.1 a0 0) 0) (fun S3 =>
  iz_lt (iz_up S3 a0 0 ((S3.1 a0 0) + 1)) (fun S4 =>
  some (((S4.1 a0 0) - 1), S4))))))))
set_option maxRecDepth 10000 in
theorem c_Ho_newBlock {X : iz_X} {l : Launch} {a0 : Nat} (h0 : iz_sh a0 = (1 + 3, 13)) (x1 : Int32) (x2 : Int32) (S : iz_S) : iz_Y X l RX1 tX1_newBlock 3 0 (iz_Kc X l yX1_newBlock cX1_newBlock 3 (some .int) 0 iz_eI) 0 [(0, .ref (X.1 a0)), (1, .int x1), (2, .int x2)] [] S (Ho_newBlock a0 x1 x2 S) := by
  unfold Ho_newBlock
  refine iz_aload_n (n := 0) 0 0 rfl rfl ?_
  refine iz_getR 1 1 h0 fl_X1_9 rfl (by decide) (by decide) rfl ?_
  refine iz_aload_n (n := 0) 2 0 rfl rfl ?_
  refine iz_getI 3 0 h0 fl_X1_31 rfl (by decide) (by decide) rfl ?_
  refine iz_iload_n (n := 1) 4 1 rfl rfl ?_
  refine iz_iast 5 (sf_1_1 h0) rfl (fun S1 => ?_)
  refine iz_aload_n (n := 0) 6 0 rfl rfl ?_
  refine iz_getR 7 2 h0 fl_X1_15 rfl (by decide) (by decide) rfl ?_
  refine iz_aload_n (n := 0) 8 0 rfl rfl ?_
  refine iz_getI 9 0 h0 fl_X1_31 rfl (by decide) (by decide) rfl ?_
  refine iz_iload_n (n := 2) 10 2 rfl rfl ?_
  refine iz_iast 11 (sf_1_2 h0) rfl (fun S2 => ?_)
  refine iz_aload_n (n := 0) 12 0 rfl rfl ?_
  refine iz_getR 13 3 h0 fl_X1_18 rfl (by decide) (by decide) rfl ?_
  refine iz_aload_n (n := 0) 14 0 rfl rfl ?_
  refine iz_getI 15 0 h0 fl_X1_31 rfl (by decide) (by decide) rfl ?_
  refine iz_iconst (v := 0) 16 (by decide) rfl ?_
  refine iz_iast 17 (sf_1_3 h0) rfl (fun S3 => ?_)
  refine iz_aload_n (n := 0) 18 0 rfl rfl ?_
  refine iz_dup 19 rfl rfl ?_
  refine iz_getI 20 0 h0 fl_X1_31 rfl (by decide) (by decide) rfl ?_
  refine iz_iconst (v := 1) 21 (by decide) rfl ?_
  refine iz_iadd 22 rfl ?_
  refine iz_putI 23 0 h0 fl_X1_31 rfl (by decide) (by decide) rfl (fun S4 => ?_)
  refine iz_aload_n (n := 0) 24 0 rfl rfl ?_
  refine iz_getI 25 0 h0 fl_X1_31 rfl (by decide) (by decide) rfl ?_
  refine iz_iconst (v := 1) 26 (by decide) rfl ?_
  refine iz_isub 27 rfl ?_
  exact iz_iret 28 rfl
theorem m_Ho_newBlock {X : iz_X} {l : Launch} {a0 : Nat} (h0 : iz_sh a0 = (1 + 3, 13)) {x1 : Int32} {x2 : Int32} {S : iz_S} {r9 : Int32 × iz_S} (hr : Ho_newBlock a0 x1 x2 S = some r9) : iz_Mt X l 0 yX1_newBlock cX1_newBlock 3 (some .int) [.ref (X.1 a0), .int x1, .int x2] S (iz_eI r9) :=
  iz_Mt_of (dt := tX1_newBlock) dX1_newBlock (by decide) hr (Nat.le_of_ble_eq_true rfl) (c_Ho_newBlock h0 x1 x2 S)
def Ho_hasBlock (a0 : Nat) (x1 : Int32) (S : iz_S) : Option (Int32 × iz_S) :=
  iz_bI (Ic_within x1 0 ((S.1 a0 0) - 1) S) (fun r2 S1 =>
  iz_ck (decide (iz_nb r2 = r2)) (some (r2, S1)))
set_option maxRecDepth 10000 in
theorem c_Ho_hasBlock {X : iz_X} {l : Launch} {a0 : Nat} (h0 : iz_sh a0 = (1 + 3, 13)) (x1 : Int32) (S : iz_S) : iz_Y X l RX1 tX1_hasBlock 2 1 (iz_Kc X l yX1_hasBlock cX1_hasBlock 2 (some .boolean) 1 iz_eI) 0 [(0, .ref (X.1 a0)), (1, .int x1)] [] S (Ho_hasBlock a0 x1 S) := by
  unfold Ho_hasBlock
  refine iz_iload_n (n := 1) 0 1 rfl rfl ?_
  refine iz_iconst (v := 0) 1 (by decide) rfl ?_
  refine iz_aload_n (n := 0) 2 0 rfl rfl ?_
  refine iz_getI 3 0 h0 fl_X1_31 rfl (by decide) (by decide) rfl ?_
  refine iz_iconst (v := 1) 4 (by decide) rfl ?_
  refine iz_isub 5 rfl ?_
  refine iz_callSNI (As := [.int x1, .int 0, .int ((S.1 a0 0) - 1)]) (rest := []) 6 ml_X1_44 cw_X9_within ci_X9_within (fun r9 hr9 => m_Ic_within  hr9) rfl (by decide) rfl rfl (Nat.le_of_ble_eq_true rfl) (fun r2 S1 => ?_)
  exact iz_zret 7 rfl
theorem m_Ho_hasBlock {X : iz_X} {l : Launch} {a0 : Nat} (h0 : iz_sh a0 = (1 + 3, 13)) {x1 : Int32} {S : iz_S} {r9 : Int32 × iz_S} (hr : Ho_hasBlock a0 x1 S = some r9) : iz_Mt X l 1 yX1_hasBlock cX1_hasBlock 2 (some .boolean) [.ref (X.1 a0), .int x1] S (iz_eI r9) :=
  iz_Mt_of (dt := tX1_hasBlock) dX1_hasBlock (by decide) hr (Nat.le_of_ble_eq_true rfl) (c_Ho_hasBlock h0 x1 S)
def Ho_blocksWhere_25 (a0 : Nat) (k4 : Int32 → Int32 → Int32 → iz_S → Option (Int32 × iz_S)) (x1 : Int32) (x2 : Int32) (x3 : Int32) (S : iz_S) : Option (Int32 × iz_S) :=
  (k4 x1 x2 (x3 + 1) S)
def Ho_blocksWhere_4b (a0 : Nat) (k4 : Int32 → Int32 → Int32 → iz_S → Option (Int32 × iz_S)) (x1 : Int32) (x2 : Int32) (x3 : Int32) (S : iz_S) : Option (Int32 × iz_S) :=
  (if x3 < (S.1 a0 0) then
    (iz_ck (iz_in x3 60) (
    if (iz_g S (iz_rf a0 3) x3) = x1 then
      (Ho_blocksWhere_25 a0 k4 x1 (x2 + 1) x3 S)
    else
      (Ho_blocksWhere_25 a0 k4 x1 x2 x3 S)))
  else
    some (x2, S))
def Ho_blocksWhere_4 (a0 : Nat) : Nat → Int32 → Int32 → Int32 → iz_S → Option (Int32 × iz_S)
  | 0 => fun _ _ _ _ => none
  | n9 + 1 => Ho_blocksWhere_4b a0 (Ho_blocksWhere_4 a0 n9)
def Ho_blocksWhere (a0 : Nat) (x1 : Int32) (S : iz_S) : Option (Int32 × iz_S) :=
  (Ho_blocksWhere_4 a0 iz_FU x1 0 0 S)
set_option maxRecDepth 10000 in
theorem c_Ho_blocksWhere_25 {X : iz_X} {l : Launch} {a0 : Nat} (h0 : iz_sh a0 = (1 + 3, 13)) {k4 : Int32 → Int32 → Int32 → iz_S → Option (Int32 × iz_S)} (hk4 : ∀ (x1 : Int32) (x2 : Int32) (x3 : Int32) (S : iz_S), iz_Y X l RX1 tX1_blocksWhere 4 0 (iz_Kc X l yX1_blocksWhere cX1_blocksWhere 4 (some .int) 0 iz_eI) 4 [(0, .ref (X.1 a0)), (1, .int x1), (2, .int x2), (3, .int x3)] [] S (k4 x1 x2 x3 S)) (x1 : Int32) (x2 : Int32) (x3 : Int32) (S : iz_S) : iz_Y X l RX1 tX1_blocksWhere 4 0 (iz_Kc X l yX1_blocksWhere cX1_blocksWhere 4 (some .int) 0 iz_eI) 25 [(0, .ref (X.1 a0)), (1, .int x1), (2, .int x2), (3, .int x3)] [] S (Ho_blocksWhere_25 a0 k4 x1 x2 x3 S) := by
  unfold Ho_blocksWhere_25
  refine iz_iinc (v := (x3 + 1)) (ls2 := [(0, .ref (X.1 a0)), (1, .int x1), (2, .int x2), (3, .int (x3 + 1))]) 15 3 [1, 2, 3, 0] rfl rfl rfl (by decide) rfl ?_
  refine iz_goto (tgt := 4) 16 (by decide) rfl ?_
  exact hk4 x1 x2 (x3 + 1) S
set_option maxRecDepth 10000 in
theorem c_Ho_blocksWhere_4b {X : iz_X} {l : Launch} {a0 : Nat} (h0 : iz_sh a0 = (1 + 3, 13)) {k4 : Int32 → Int32 → Int32 → iz_S → Option (Int32 × iz_S)} (hk4 : ∀ (x1 : Int32) (x2 : Int32) (x3 : Int32) (S : iz_S), iz_Y X l RX1 tX1_blocksWhere 4 0 (iz_Kc X l yX1_blocksWhere cX1_blocksWhere 4 (some .int) 0 iz_eI) 4 [(0, .ref (X.1 a0)), (1, .int x1), (2, .int x2), (3, .int x3)] [] S (k4 x1 x2 x3 S)) (x1 : Int32) (x2 : Int32) (x3 : Int32) (S : iz_S) : iz_Y X l RX1 tX1_blocksWhere 4 0 (iz_Kc X l yX1_blocksWhere cX1_blocksWhere 4 (some .int) 0 iz_eI) 4 [(0, .ref (X.1 a0)), (1, .int x1), (2, .int x2), (3, .int x3)] [] S (Ho_blocksWhere_4b a0 k4 x1 x2 x3 S) := by
  unfold Ho_blocksWhere_4b
  refine iz_iload_n (n := 3) 4 3 rfl rfl ?_
  refine iz_aload_n (n := 0) 5 0 rfl rfl ?_
  refine iz_getI 6 0 h0 fl_X1_31 rfl (by decide) (by decide) rfl ?_
  refine iz_cmp_ge (tgt := 31) 7 rfl (by decide) ?_ ?_
  · refine iz_iload_n (n := 2) 17 2 rfl rfl ?_
    exact iz_iret 18 rfl
  · refine iz_aload_n (n := 0) 8 0 rfl rfl ?_
    refine iz_getR 9 3 h0 fl_X1_18 rfl (by decide) (by decide) rfl ?_
    refine iz_iload_n (n := 3) 10 3 rfl rfl ?_
    refine iz_iald 11 (sf_1_3 h0) rfl ?_
    refine iz_iload_n (n := 1) 12 1 rfl rfl ?_
    refine iz_cmp_ne (tgt := 25) 13 rfl (by decide) ?_ ?_
    · exact c_Ho_blocksWhere_25 h0 hk4 x1 x2 x3 S
    · refine iz_iinc (v := (x2 + 1)) (ls2 := [(0, .ref (X.1 a0)), (1, .int x1), (2, .int (x2 + 1)), (3, .int x3)]) 14 2 [1, 2, 0, 3] rfl rfl rfl (by decide) rfl ?_
      exact c_Ho_blocksWhere_25 h0 hk4 x1 (x2 + 1) x3 S
theorem c_Ho_blocksWhere_4 {X : iz_X} {l : Launch} {a0 : Nat} (h0 : iz_sh a0 = (1 + 3, 13)) : ∀ (n9 : Nat) (x1 : Int32) (x2 : Int32) (x3 : Int32) (S : iz_S), iz_Y X l RX1 tX1_blocksWhere 4 0 (iz_Kc X l yX1_blocksWhere cX1_blocksWhere 4 (some .int) 0 iz_eI) 4 [(0, .ref (X.1 a0)), (1, .int x1), (2, .int x2), (3, .int x3)] [] S (Ho_blocksWhere_4 a0 n9 x1 x2 x3 S)
  | 0 => by
    intros
    exact iz_none
  | n9 + 1 => c_Ho_blocksWhere_4b h0 (c_Ho_blocksWhere_4 h0 n9)
set_option maxRecDepth 10000 in
theorem c_Ho_blocksWhere {X : iz_X} {l : Launch} {a0 : Nat} (h0 : iz_sh a0 = (1 + 3, 13)) (x1 : Int32) (S : iz_S) : iz_Y X l RX1 tX1_blocksWhere 4 0 (iz_Kc X l yX1_blocksWhere cX1_blocksWhere 4 (some .int) 0 iz_eI) 0 [(0, .ref (X.1 a0)), (1, .int x1)] [] S (Ho_blocksWhere a0 x1 S) := by
  unfold Ho_blocksWhere
  refine iz_iconst (v := 0) 0 (by decide) rfl ?_
  refine iz_istore_n (n := 2) (ls2 := [(0, .ref (X.1 a0)), (1, .int x1), (2, .int 0)]) 1 [1, 2, 0] rfl (by decide) rfl ?_
  refine iz_iconst (v := 0) 2 (by decide) rfl ?_
  refine iz_istore_n (n := 3) (ls2 := [(0, .ref (X.1 a0)), (1, .int x1), (2, .int 0), (3, .int 0)]) 3 [1, 2, 3, 0] rfl (by decide) rfl ?_
  exact c_Ho_blocksWhere_4 h0 iz_FU x1 0 0 S
theorem m_Ho_blocksWhere {X : iz_X} {l : Launch} {a0 : Nat} (h0 : iz_sh a0 = (1 + 3, 13)) {x1 : Int32} {S : iz_S} {r9 : Int32 × iz_S} (hr : Ho_blocksWhere a0 x1 S = some r9) : iz_Mt X l 0 yX1_blocksWhere cX1_blocksWhere 4 (some .int) [.ref (X.1 a0), .int x1] S (iz_eI r9) :=
  iz_Mt_of (dt := tX1_blocksWhere) dX1_blocksWhere (by decide) hr (Nat.le_of_ble_eq_true rfl) (c_Ho_blocksWhere h0 x1 S)
def Ho_isEmpty_14 (a0 : Nat) (s0 : Int32) (S : iz_S) : Option (Int32 × iz_S) :=
  iz_ck (decide (iz_nb s0 = s0)) (some (s0, S))
def Ho_isEmpty (a0 : Nat) (x1 : Int32) (S : iz_S) : Option (Int32 × iz_S) :=
  (iz_ck (iz_in x1 16) (
  if (iz_g S (iz_rf a0 4) x1) = 0 then
    (Ho_isEmpty_14 a0 1 S)
  else
    (Ho_isEmpty_14 a0 0 S)))
set_option maxRecDepth 10000 in
theorem c_Ho_isEmpty_14 {X : iz_X} {l : Launch} {a0 : Nat} (h0 : iz_sh a0 = (1 + 3, 13)) (s0 : Int32) (S : iz_S) : iz_Y X l RX1 tX1_isEmpty 2 0 (iz_Kc X l yX1_isEmpty cX1_isEmpty 2 (some .boolean) 0 iz_eI) 14 [] [.int s0] S (Ho_isEmpty_14 a0 s0 S) := by
  unfold Ho_isEmpty_14
  exact iz_zret 8 rfl
set_option maxRecDepth 10000 in
theorem c_Ho_isEmpty {X : iz_X} {l : Launch} {a0 : Nat} (h0 : iz_sh a0 = (1 + 3, 13)) (x1 : Int32) (S : iz_S) : iz_Y X l RX1 tX1_isEmpty 2 0 (iz_Kc X l yX1_isEmpty cX1_isEmpty 2 (some .boolean) 0 iz_eI) 0 [(0, .ref (X.1 a0)), (1, .int x1)] [] S (Ho_isEmpty a0 x1 S) := by
  unfold Ho_isEmpty
  refine iz_aload_n (n := 0) 0 0 rfl rfl ?_
  refine iz_getR 1 4 h0 fl_X1_21 rfl (by decide) (by decide) rfl ?_
  refine iz_iload_n (n := 1) 2 1 rfl rfl ?_
  refine iz_iald 3 (sf_1_4 h0) rfl ?_
  refine iz_if_ne (tgt := 13) 4 rfl (by decide) ?_ ?_
  · refine iz_iconst (v := 0) 7 (by decide) rfl ?_
    exact iz_sub [] rfl (c_Ho_isEmpty_14 h0 0 S)
  · refine iz_iconst (v := 1) 5 (by decide) rfl ?_
    refine iz_goto (tgt := 14) 6 (by decide) rfl ?_
    exact iz_sub [] rfl (c_Ho_isEmpty_14 h0 1 S)
theorem m_Ho_isEmpty {X : iz_X} {l : Launch} {a0 : Nat} (h0 : iz_sh a0 = (1 + 3, 13)) {x1 : Int32} {S : iz_S} {r9 : Int32 × iz_S} (hr : Ho_isEmpty a0 x1 S = some r9) : iz_Mt X l 0 yX1_isEmpty cX1_isEmpty 2 (some .boolean) [.ref (X.1 a0), .int x1] S (iz_eI r9) :=
  iz_Mt_of (dt := tX1_isEmpty) dX1_isEmpty (by decide) hr (Nat.le_of_ble_eq_true rfl) (c_Ho_isEmpty h0 x1 S)
def Ho_isFull_16 (a0 : Nat) (s0 : Int32) (S : iz_S) : Option (Int32 × iz_S) :=
  iz_ck (decide (iz_nb s0 = s0)) (some (s0, S))
def Ho_isFull (a0 : Nat) (x1 : Int32) (S : iz_S) : Option (Int32 × iz_S) :=
  (iz_ck (iz_in x1 16) (
  if (iz_g S (iz_rf a0 4) x1) < 6 then
    (Ho_isFull_16 a0 0 S)
  else
    (Ho_isFull_16 a0 1 S)))
set_option maxRecDepth 10000 in
theorem c_Ho_isFull_16 {X : iz_X} {l : Launch} {a0 : Nat} (h0 : iz_sh a0 = (1 + 3, 13)) (s0 : Int32) (S : iz_S) : iz_Y X l RX1 tX1_isFull 2 0 (iz_Kc X l yX1_isFull cX1_isFull 2 (some .boolean) 0 iz_eI) 16 [] [.int s0] S (Ho_isFull_16 a0 s0 S) := by
  unfold Ho_isFull_16
  exact iz_zret 9 rfl
set_option maxRecDepth 10000 in
theorem c_Ho_isFull {X : iz_X} {l : Launch} {a0 : Nat} (h0 : iz_sh a0 = (1 + 3, 13)) (x1 : Int32) (S : iz_S) : iz_Y X l RX1 tX1_isFull 2 0 (iz_Kc X l yX1_isFull cX1_isFull 2 (some .boolean) 0 iz_eI) 0 [(0, .ref (X.1 a0)), (1, .int x1)] [] S (Ho_isFull a0 x1 S) := by
  unfold Ho_isFull
  refine iz_aload_n (n := 0) 0 0 rfl rfl ?_
  refine iz_getR 1 4 h0 fl_X1_21 rfl (by decide) (by decide) rfl ?_
  refine iz_iload_n (n := 1) 2 1 rfl rfl ?_
  refine iz_iald 3 (sf_1_4 h0) rfl ?_
  refine iz_bipush (v := 6) 4 (by decide) rfl ?_
  refine iz_cmp_lt (tgt := 15) 5 rfl (by decide) ?_ ?_
  · refine iz_iconst (v := 0) 8 (by decide) rfl ?_
    exact iz_sub [] rfl (c_Ho_isFull_16 h0 0 S)
  · refine iz_iconst (v := 1) 6 (by decide) rfl ?_
    refine iz_goto (tgt := 16) 7 (by decide) rfl ?_
    exact iz_sub [] rfl (c_Ho_isFull_16 h0 1 S)
theorem m_Ho_isFull {X : iz_X} {l : Launch} {a0 : Nat} (h0 : iz_sh a0 = (1 + 3, 13)) {x1 : Int32} {S : iz_S} {r9 : Int32 × iz_S} (hr : Ho_isFull a0 x1 S = some r9) : iz_Mt X l 0 yX1_isFull cX1_isFull 2 (some .boolean) [.ref (X.1 a0), .int x1] S (iz_eI r9) :=
  iz_Mt_of (dt := tX1_isFull) dX1_isFull (by decide) hr (Nat.le_of_ble_eq_true rfl) (c_Ho_isFull h0 x1 S)
def Ho_topOf (a0 : Nat) (x1 : Int32) (S : iz_S) : Option (Int32 × iz_S) :=
  iz_ck (iz_in x1 16) (
  iz_bI (Ho_blockAt a0 x1 ((iz_g S (iz_rf a0 4) x1) - 1) S) (fun r2 S1 =>
  some (r2, S1)))
set_option maxRecDepth 10000 in
theorem c_Ho_topOf {X : iz_X} {l : Launch} {a0 : Nat} (h0 : iz_sh a0 = (1 + 3, 13)) (x1 : Int32) (S : iz_S) : iz_Y X l RX1 tX1_topOf 2 2 (iz_Kc X l yX1_topOf cX1_topOf 2 (some .int) 2 iz_eI) 0 [(0, .ref (X.1 a0)), (1, .int x1)] [] S (Ho_topOf a0 x1 S) := by
  unfold Ho_topOf
  refine iz_aload_n (n := 0) 0 0 rfl rfl ?_
  refine iz_iload_n (n := 1) 1 1 rfl rfl ?_
  refine iz_aload_n (n := 0) 2 0 rfl rfl ?_
  refine iz_getR 3 4 h0 fl_X1_21 rfl (by decide) (by decide) rfl ?_
  refine iz_iload_n (n := 1) 4 1 rfl rfl ?_
  refine iz_iald 5 (sf_1_4 h0) rfl ?_
  refine iz_iconst (v := 1) 6 (by decide) rfl ?_
  refine iz_isub 7 rfl ?_
  refine iz_callVI (As := [.int x1, .int ((iz_g S (iz_rf a0 4) x1) - 1)]) (rest := []) 8 ml_X1_48 cw_X1_blockAt ci_X1_blockAt h0 (fun r9 hr9 => m_Ho_blockAt h0 hr9) rfl (by decide) (by decide) rfl rfl (Nat.le_of_ble_eq_true rfl) (fun r2 S1 => ?_)
  exact iz_iret 9 rfl
theorem m_Ho_topOf {X : iz_X} {l : Launch} {a0 : Nat} (h0 : iz_sh a0 = (1 + 3, 13)) {x1 : Int32} {S : iz_S} {r9 : Int32 × iz_S} (hr : Ho_topOf a0 x1 S = some r9) : iz_Mt X l 2 yX1_topOf cX1_topOf 2 (some .int) [.ref (X.1 a0), .int x1] S (iz_eI r9) :=
  iz_Mt_of (dt := tX1_topOf) dX1_topOf (by decide) hr (Nat.le_of_ble_eq_true rfl) (c_Ho_topOf h0 x1 S)
def Ho_slotOf_14b (a0 : Nat) (k14 : Int32 → Int32 → iz_S → Option (Int32 × iz_S)) (x1 : Int32) (x2 : Int32) (S : iz_S) : Option (Int32 × iz_S) :=
  (if x2 < 96 then
    (iz_bI (Ho_blockAt a0 (x2 / 6) (x2 - x2 / 6 * 6) S) (fun r2 S1 =>
    if r2 = x1 then
      some (x2, S1)
    else
      (k14 x1 (x2 + 1) S1)))
  else
    some ((-1), S))
def Ho_slotOf_14 (a0 : Nat) : Nat → Int32 → Int32 → iz_S → Option (Int32 × iz_S)
  | 0 => fun _ _ _ => none
  | n9 + 1 => Ho_slotOf_14b a0 (Ho_slotOf_14 a0 n9)
def Ho_slotOf (a0 : Nat) (x1 : Int32) (S : iz_S) : Option (Int32 × iz_S) :=
  (iz_ck (iz_in x1 60) (
  if (iz_g S (iz_rf a0 3) x1) = 1 then
    (Ho_slotOf_14 a0 iz_FU x1 0 S)
  else
    some ((-1), S)))
set_option maxRecDepth 10000 in
theorem c_Ho_slotOf_14b {X : iz_X} {l : Launch} {a0 : Nat} (h0 : iz_sh a0 = (1 + 3, 13)) {k14 : Int32 → Int32 → iz_S → Option (Int32 × iz_S)} (hk14 : ∀ (x1 : Int32) (x2 : Int32) (S : iz_S), iz_Y X l RX1 tX1_slotOf 3 2 (iz_Kc X l yX1_slotOf cX1_slotOf 3 (some .int) 2 iz_eI) 14 [(0, .ref (X.1 a0)), (1, .int x1), (2, .int x2)] [] S (k14 x1 x2 S)) (x1 : Int32) (x2 : Int32) (S : iz_S) : iz_Y X l RX1 tX1_slotOf 3 2 (iz_Kc X l yX1_slotOf cX1_slotOf 3 (some .int) 2 iz_eI) 14 [(0, .ref (X.1 a0)), (1, .int x1), (2, .int x2)] [] S (Ho_slotOf_14b a0 k14 x1 x2 S) := by
  unfold Ho_slotOf_14b
  refine iz_iload_n (n := 2) 10 2 rfl rfl ?_
  refine iz_bipush (v := 96) 11 (by decide) rfl ?_
  refine iz_cmp_ge (tgt := 44) 12 rfl (by decide) ?_ ?_
  · refine iz_iconst (v := (-1)) 27 (by decide) rfl ?_
    exact iz_iret 28 rfl
  · refine iz_aload_n (n := 0) 13 0 rfl rfl ?_
    refine iz_iload_n (n := 2) 14 2 rfl rfl ?_
    refine iz_bipush (v := 6) 15 (by decide) rfl ?_
    refine iz_idiv 16 (by decide) rfl ?_
    refine iz_iload_n (n := 2) 17 2 rfl rfl ?_
    refine iz_bipush (v := 6) 18 (by decide) rfl ?_
    refine iz_irem 19 (by decide) rfl ?_
    refine iz_callVI (As := [.int (x2 / 6), .int (x2 - x2 / 6 * 6)]) (rest := []) 20 ml_X1_48 cw_X1_blockAt ci_X1_blockAt h0 (fun r9 hr9 => m_Ho_blockAt h0 hr9) rfl (by decide) (by decide) rfl rfl (Nat.le_of_ble_eq_true rfl) (fun r2 S1 => ?_)
    refine iz_iload_n (n := 1) 21 1 rfl rfl ?_
    refine iz_cmp_ne (tgt := 38) 22 rfl (by decide) ?_ ?_
    · refine iz_iinc (v := (x2 + 1)) (ls2 := [(0, .ref (X.1 a0)), (1, .int x1), (2, .int (x2 + 1))]) 25 2 [1, 2, 0] rfl rfl rfl (by decide) rfl ?_
      refine iz_goto (tgt := 14) 26 (by decide) rfl ?_
      exact hk14 x1 (x2 + 1) S1
    · refine iz_iload_n (n := 2) 23 2 rfl rfl ?_
      exact iz_iret 24 rfl
theorem c_Ho_slotOf_14 {X : iz_X} {l : Launch} {a0 : Nat} (h0 : iz_sh a0 = (1 + 3, 13)) : ∀ (n9 : Nat) (x1 : Int32) (x2 : Int32) (S : iz_S), iz_Y X l RX1 tX1_slotOf 3 2 (iz_Kc X l yX1_slotOf cX1_slotOf 3 (some .int) 2 iz_eI) 14 [(0, .ref (X.1 a0)), (1, .int x1), (2, .int x2)] [] S (Ho_slotOf_14 a0 n9 x1 x2 S)
  | 0 => by
    intros
    exact iz_none
  | n9 + 1 => c_Ho_slotOf_14b h0 (c_Ho_slotOf_14 h0 n9)
set_option maxRecDepth 10000 in
theorem c_Ho_slotOf {X : iz_X} {l : Launch} {a0 : Nat} (h0 : iz_sh a0 = (1 + 3, 13)) (x1 : Int32) (S : iz_S) : iz_Y X l RX1 tX1_slotOf 3 2 (iz_Kc X l yX1_slotOf cX1_slotOf 3 (some .int) 2 iz_eI) 0 [(0, .ref (X.1 a0)), (1, .int x1)] [] S (Ho_slotOf a0 x1 S) := by
  unfold Ho_slotOf
  refine iz_aload_n (n := 0) 0 0 rfl rfl ?_
  refine iz_getR 1 3 h0 fl_X1_18 rfl (by decide) (by decide) rfl ?_
  refine iz_iload_n (n := 1) 2 1 rfl rfl ?_
  refine iz_iald 3 (sf_1_3 h0) rfl ?_
  refine iz_iconst (v := 1) 4 (by decide) rfl ?_
  refine iz_cmp_eq (tgt := 12) 5 rfl (by decide) ?_ ?_
  · refine iz_iconst (v := 0) 8 (by decide) rfl ?_
    refine iz_istore_n (n := 2) (ls2 := [(0, .ref (X.1 a0)), (1, .int x1), (2, .int 0)]) 9 [1, 2, 0] rfl (by decide) rfl ?_
    exact c_Ho_slotOf_14 h0 iz_FU x1 0 S
  · refine iz_iconst (v := (-1)) 6 (by decide) rfl ?_
    exact iz_iret 7 rfl
theorem m_Ho_slotOf {X : iz_X} {l : Launch} {a0 : Nat} (h0 : iz_sh a0 = (1 + 3, 13)) {x1 : Int32} {S : iz_S} {r9 : Int32 × iz_S} (hr : Ho_slotOf a0 x1 S = some r9) : iz_Mt X l 2 yX1_slotOf cX1_slotOf 3 (some .int) [.ref (X.1 a0), .int x1] S (iz_eI r9) :=
  iz_Mt_of (dt := tX1_slotOf) dX1_slotOf (by decide) hr (Nat.le_of_ble_eq_true rfl) (c_Ho_slotOf h0 x1 S)
def Ho_loadOver_7b (a0 : Nat) (k7 : Int32 → Int32 → Int32 → iz_S → Option (Int32 × iz_S)) (x1 : Int32) (x3 : Int32) (x4 : Int32) (S : iz_S) : Option (Int32 × iz_S) :=
  (iz_ck (iz_in x1 16) (
  if x4 < (iz_g S (iz_rf a0 4) x1) then
    iz_ck (iz_in ((x1 * 6) + x4) 96) (
    iz_ck (iz_in (iz_g S (iz_rf a0 12) ((x1 * 6) + x4)) 60) (
    iz_lt (x3 + (iz_g S (iz_rf a0 2) (iz_g S (iz_rf a0 12) ((x1 * 6) + x4)))) (fun v2 =>
    (k7 x1 v2 (x4 + 1) S))))
  else
    some (x3, S)))
def Ho_loadOver_7 (a0 : Nat) : Nat → Int32 → Int32 → Int32 → iz_S → Option (Int32 × iz_S)
  | 0 => fun _ _ _ _ => none
  | n9 + 1 => Ho_loadOver_7b a0 (Ho_loadOver_7 a0 n9)
def Ho_loadOver (a0 : Nat) (x1 : Int32) (x2 : Int32) (S : iz_S) : Option (Int32 × iz_S) :=
  iz_lt (x2 + 1) (fun v1 =>
  (Ho_loadOver_7 a0 iz_FU x1 0 v1 S))
set_option maxRecDepth 10000 in
theorem c_Ho_loadOver_7b {X : iz_X} {l : Launch} {a0 : Nat} (h0 : iz_sh a0 = (1 + 3, 13)) {k7 : Int32 → Int32 → Int32 → iz_S → Option (Int32 × iz_S)} (hk7 : ∀ (x1 : Int32) (x3 : Int32) (x4 : Int32) (S : iz_S), iz_Y X l RX1 tX1_loadOver 5 0 (iz_Kc X l yX1_loadOver cX1_loadOver 5 (some .int) 0 iz_eI) 7 [(0, .ref (X.1 a0)), (1, .int x1), (3, .int x3), (4, .int x4)] [] S (k7 x1 x3 x4 S)) (x1 : Int32) (x3 : Int32) (x4 : Int32) (S : iz_S) : iz_Y X l RX1 tX1_loadOver 5 0 (iz_Kc X l yX1_loadOver cX1_loadOver 5 (some .int) 0 iz_eI) 7 [(0, .ref (X.1 a0)), (1, .int x1), (3, .int x3), (4, .int x4)] [] S (Ho_loadOver_7b a0 k7 x1 x3 x4 S) := by
  unfold Ho_loadOver_7b
  refine iz_iload (n := 4) 6 3 rfl rfl ?_
  refine iz_aload_n (n := 0) 7 0 rfl rfl ?_
  refine iz_getR 8 4 h0 fl_X1_21 rfl (by decide) (by decide) rfl ?_
  refine iz_iload_n (n := 1) 9 1 rfl rfl ?_
  refine iz_iald 10 (sf_1_4 h0) rfl ?_
  refine iz_cmp_ge (tgt := 44) 11 rfl (by decide) ?_ ?_
  · refine iz_iload_n (n := 3) 28 2 rfl rfl ?_
    exact iz_iret 29 rfl
  · refine iz_iload_n (n := 3) 12 2 rfl rfl ?_
    refine iz_aload_n (n := 0) 13 0 rfl rfl ?_
    refine iz_getR 14 2 h0 fl_X1_15 rfl (by decide) (by decide) rfl ?_
    refine iz_aload_n (n := 0) 15 0 rfl rfl ?_
    refine iz_getR 16 12 h0 fl_X1_24 rfl (by decide) (by decide) rfl ?_
    refine iz_iload_n (n := 1) 17 1 rfl rfl ?_
    refine iz_bipush (v := 6) 18 (by decide) rfl ?_
    refine iz_imul 19 rfl ?_
    refine iz_iload (n := 4) 20 3 rfl rfl ?_
    refine iz_iadd 21 rfl ?_
    refine iz_iald 22 (sf_1_12 h0) rfl ?_
    refine iz_iald 23 (sf_1_2 h0) rfl ?_
    refine iz_iadd 24 rfl ?_
    refine iz_let (fun v2 => ?_)
    refine iz_istore_n (n := 3) (ls2 := [(0, .ref (X.1 a0)), (1, .int x1), (3, .int v2), (4, .int x4)]) 25 [1, 2, 0, 3] rfl (by decide) rfl ?_
    refine iz_iinc (v := (x4 + 1)) (ls2 := [(0, .ref (X.1 a0)), (1, .int x1), (3, .int v2), (4, .int (x4 + 1))]) 26 3 [1, 2, 3, 0] rfl rfl rfl (by decide) rfl ?_
    refine iz_goto (tgt := 7) 27 (by decide) rfl ?_
    exact hk7 x1 v2 (x4 + 1) S
theorem c_Ho_loadOver_7 {X : iz_X} {l : Launch} {a0 : Nat} (h0 : iz_sh a0 = (1 + 3, 13)) : ∀ (n9 : Nat) (x1 : Int32) (x3 : Int32) (x4 : Int32) (S : iz_S), iz_Y X l RX1 tX1_loadOver 5 0 (iz_Kc X l yX1_loadOver cX1_loadOver 5 (some .int) 0 iz_eI) 7 [(0, .ref (X.1 a0)), (1, .int x1), (3, .int x3), (4, .int x4)] [] S (Ho_loadOver_7 a0 n9 x1 x3 x4 S)
  | 0 => by
    intros
    exact iz_none
  | n9 + 1 => c_Ho_loadOver_7b h0 (c_Ho_loadOver_7 h0 n9)
set_option maxRecDepth 10000 in
theorem c_Ho_loadOver {X : iz_X} {l : Launch} {a0 : Nat} (h0 : iz_sh a0 = (1 + 3, 13)) (x1 : Int32) (x2 : Int32) (S : iz_S) : iz_Y X l RX1 tX1_loadOver 5 0 (iz_Kc X l yX1_loadOver cX1_loadOver 5 (some .int) 0 iz_eI) 0 [(0, .ref (X.1 a0)), (1, .int x1), (2, .int x2)] [] S (Ho_loadOver a0 x1 x2 S) := by
  unfold Ho_loadOver
  refine iz_iconst (v := 0) 0 (by decide) rfl ?_
  refine iz_istore_n (n := 3) (ls2 := [(0, .ref (X.1 a0)), (1, .int x1), (2, .int x2), (3, .int 0)]) 1 [1, 2, 3, 0] rfl (by decide) rfl ?_
  refine iz_iload_n (n := 2) 2 2 rfl rfl ?_
  refine iz_iconst (v := 1) 3 (by decide) rfl ?_
  refine iz_iadd 4 rfl ?_
  refine iz_let (fun v1 => ?_)
  refine iz_istore (n := 4) (ls2 := [(0, .ref (X.1 a0)), (1, .int x1), (3, .int 0), (4, .int v1)]) 5 [1, 2, 4, 0] rfl (by decide) rfl ?_
  exact c_Ho_loadOver_7 h0 iz_FU x1 0 v1 S
theorem m_Ho_loadOver {X : iz_X} {l : Launch} {a0 : Nat} (h0 : iz_sh a0 = (1 + 3, 13)) {x1 : Int32} {x2 : Int32} {S : iz_S} {r9 : Int32 × iz_S} (hr : Ho_loadOver a0 x1 x2 S = some r9) : iz_Mt X l 0 yX1_loadOver cX1_loadOver 5 (some .int) [.ref (X.1 a0), .int x1, .int x2] S (iz_eI r9) :=
  iz_Mt_of (dt := tX1_loadOver) dX1_loadOver (by decide) hr (Nat.le_of_ble_eq_true rfl) (c_Ho_loadOver h0 x1 x2 S)
def Ho_breaksAt_39 (a0 : Nat) (s0 : Int32) (S : iz_S) : Option (Int32 × iz_S) :=
  iz_ck (decide (iz_nb s0 = s0)) (some (s0, S))
def Ho_breaksAt_38 (a0 : Nat) (S : iz_S) : Option (Int32 × iz_S) :=
  (Ho_breaksAt_39 a0 0 S)
def Ho_breaksAt (a0 : Nat) (x1 : Int32) (x2 : Int32) (S : iz_S) : Option (Int32 × iz_S) :=
  (iz_bI (Ho_blockAt a0 x1 x2 S) (fun r2 S1 =>
  iz_ck (iz_in r2 60) (
  if (iz_g S1 (iz_rf a0 1) r2) = 3 then
    (iz_bI (Ho_loadOver a0 x1 x2 S1) (fun r4 S3 =>
    iz_ck (iz_in r2 60) (
    if r4 ≤ ((2 : Int32) * (iz_g S3 (iz_rf a0 2) r2)) then
      (Ho_breaksAt_38 a0 S3)
    else
      (Ho_breaksAt_39 a0 1 S3))))
  else
    (Ho_breaksAt_38 a0 S1))))
set_option maxRecDepth 10000 in
theorem c_Ho_breaksAt_39 {X : iz_X} {l : Launch} {a0 : Nat} (h0 : iz_sh a0 = (1 + 3, 13)) (s0 : Int32) (S : iz_S) : iz_Y X l RX1 tX1_breaksAt 4 2 (iz_Kc X l yX1_breaksAt cX1_breaksAt 4 (some .boolean) 2 iz_eI) 39 [] [.int s0] S (Ho_breaksAt_39 a0 s0 S) := by
  unfold Ho_breaksAt_39
  exact iz_zret 25 rfl
set_option maxRecDepth 10000 in
theorem c_Ho_breaksAt_38 {X : iz_X} {l : Launch} {a0 : Nat} (h0 : iz_sh a0 = (1 + 3, 13)) (S : iz_S) : iz_Y X l RX1 tX1_breaksAt 4 2 (iz_Kc X l yX1_breaksAt cX1_breaksAt 4 (some .boolean) 2 iz_eI) 38 [] [] S (Ho_breaksAt_38 a0 S) := by
  unfold Ho_breaksAt_38
  refine iz_iconst (v := 0) 24 (by decide) rfl ?_
  exact c_Ho_breaksAt_39 h0 0 S
set_option maxRecDepth 10000 in
theorem c_Ho_breaksAt {X : iz_X} {l : Launch} {a0 : Nat} (h0 : iz_sh a0 = (1 + 3, 13)) (x1 : Int32) (x2 : Int32) (S : iz_S) : iz_Y X l RX1 tX1_breaksAt 4 2 (iz_Kc X l yX1_breaksAt cX1_breaksAt 4 (some .boolean) 2 iz_eI) 0 [(0, .ref (X.1 a0)), (1, .int x1), (2, .int x2)] [] S (Ho_breaksAt a0 x1 x2 S) := by
  unfold Ho_breaksAt
  refine iz_aload_n (n := 0) 0 0 rfl rfl ?_
  refine iz_iload_n (n := 1) 1 1 rfl rfl ?_
  refine iz_iload_n (n := 2) 2 2 rfl rfl ?_
  refine iz_callVI (As := [.int x1, .int x2]) (rest := []) 3 ml_X1_48 cw_X1_blockAt ci_X1_blockAt h0 (fun r9 hr9 => m_Ho_blockAt h0 hr9) rfl (by decide) (by decide) rfl rfl (Nat.le_of_ble_eq_true rfl) (fun r2 S1 => ?_)
  refine iz_istore_n (n := 3) (ls2 := [(0, .ref (X.1 a0)), (1, .int x1), (2, .int x2), (3, .int r2)]) 4 [1, 2, 3, 0] rfl (by decide) rfl ?_
  refine iz_aload_n (n := 0) 5 0 rfl rfl ?_
  refine iz_getR 6 1 h0 fl_X1_9 rfl (by decide) (by decide) rfl ?_
  refine iz_iload_n (n := 3) 7 3 rfl rfl ?_
  refine iz_iald 8 (sf_1_1 h0) rfl ?_
  refine iz_iconst (v := 3) 9 (by decide) rfl ?_
  refine iz_cmp_ne (tgt := 38) 10 rfl (by decide) ?_ ?_
  · exact iz_sub [] rfl (c_Ho_breaksAt_38 h0 S1)
  · refine iz_aload_n (n := 0) 11 0 rfl rfl ?_
    refine iz_iload_n (n := 1) 12 1 rfl rfl ?_
    refine iz_iload_n (n := 2) 13 2 rfl rfl ?_
    refine iz_callVI (As := [.int x1, .int x2]) (rest := []) 14 ml_X1_85 cw_X1_loadOver ci_X1_loadOver h0 (fun r9 hr9 => m_Ho_loadOver h0 hr9) rfl (by decide) (by decide) rfl rfl (Nat.le_of_ble_eq_true rfl) (fun r4 S3 => ?_)
    refine iz_iconst (v := 2) 15 (by decide) rfl ?_
    refine iz_aload_n (n := 0) 16 0 rfl rfl ?_
    refine iz_getR 17 2 h0 fl_X1_15 rfl (by decide) (by decide) rfl ?_
    refine iz_iload_n (n := 3) 18 3 rfl rfl ?_
    refine iz_iald 19 (sf_1_2 h0) rfl ?_
    refine iz_imul 20 rfl ?_
    refine iz_cmp_le (tgt := 38) 21 rfl (by decide) ?_ ?_
    · exact iz_sub [] rfl (c_Ho_breaksAt_38 h0 S3)
    · refine iz_iconst (v := 1) 22 (by decide) rfl ?_
      refine iz_goto (tgt := 39) 23 (by decide) rfl ?_
      exact iz_sub [] rfl (c_Ho_breaksAt_39 h0 1 S3)
theorem m_Ho_breaksAt {X : iz_X} {l : Launch} {a0 : Nat} (h0 : iz_sh a0 = (1 + 3, 13)) {x1 : Int32} {x2 : Int32} {S : iz_S} {r9 : Int32 × iz_S} (hr : Ho_breaksAt a0 x1 x2 S = some r9) : iz_Mt X l 2 yX1_breaksAt cX1_breaksAt 4 (some .boolean) [.ref (X.1 a0), .int x1, .int x2] S (iz_eI r9) :=
  iz_Mt_of (dt := tX1_breaksAt) dX1_breaksAt (by decide) hr (Nat.le_of_ble_eq_true rfl) (c_Ho_breaksAt h0 x1 x2 S)
def Ho_removeAt_10b (a0 : Nat) (k10 : Int32 → Int32 → Int32 → iz_S → Option iz_S) (x1 : Int32) (x3 : Int32) (x4 : Int32) (S : iz_S) : Option iz_S :=
  (iz_ck (iz_in x1 16) (
  if x4 < ((x3 + (iz_g S (iz_rf a0 4) x1)) - 1) then
    iz_ck (iz_in (x4 + 1) 96) (
    iz_ck (iz_in x4 96) (iz_lt (iz_s S (iz_rf a0 12) x4 (iz_g S (iz_rf a0 12) (x4 + 1))) (fun S4 =>
    (k10 x1 x3 (x4 + 1) S4))))
  else
    iz_ck (iz_in x1 16) (
    iz_ck (iz_in x1 16) (iz_lt (iz_s S (iz_rf a0 4) x1 ((iz_g S (iz_rf a0 4) x1) - 1)) (fun S3 =>
    some S3)))))
def Ho_removeAt_10 (a0 : Nat) : Nat → Int32 → Int32 → Int32 → iz_S → Option iz_S
  | 0 => fun _ _ _ _ => none
  | n9 + 1 => Ho_removeAt_10b a0 (Ho_removeAt_10 a0 n9)
def Ho_removeAt (a0 : Nat) (x1 : Int32) (x2 : Int32) (S : iz_S) : Option iz_S :=
  iz_lt (x1 * 6) (fun v1 =>
  iz_lt (v1 + x2) (fun v2 =>
  (Ho_removeAt_10 a0 iz_FU x1 v1 v2 S)))
set_option maxRecDepth 10000 in
theorem c_Ho_removeAt_10b {X : iz_X} {l : Launch} {a0 : Nat} (h0 : iz_sh a0 = (1 + 3, 13)) {k10 : Int32 → Int32 → Int32 → iz_S → Option iz_S} (hk10 : ∀ (x1 : Int32) (x3 : Int32) (x4 : Int32) (S : iz_S), iz_Y X l RX1 tX1_removeAt 5 0 (iz_Kc X l yX1_removeAt cX1_removeAt 5 none 0 iz_eV) 10 [(0, .ref (X.1 a0)), (1, .int x1), (3, .int x3), (4, .int x4)] [] S (k10 x1 x3 x4 S)) (x1 : Int32) (x3 : Int32) (x4 : Int32) (S : iz_S) : iz_Y X l RX1 tX1_removeAt 5 0 (iz_Kc X l yX1_removeAt cX1_removeAt 5 none 0 iz_eV) 10 [(0, .ref (X.1 a0)), (1, .int x1), (3, .int x3), (4, .int x4)] [] S (Ho_removeAt_10b a0 k10 x1 x3 x4 S) := by
  unfold Ho_removeAt_10b
  refine iz_iload (n := 4) 8 3 rfl rfl ?_
  refine iz_iload_n (n := 3) 9 2 rfl rfl ?_
  refine iz_aload_n (n := 0) 10 0 rfl rfl ?_
  refine iz_getR 11 4 h0 fl_X1_21 rfl (by decide) (by decide) rfl ?_
  refine iz_iload_n (n := 1) 12 1 rfl rfl ?_
  refine iz_iald 13 (sf_1_4 h0) rfl ?_
  refine iz_iadd 14 rfl ?_
  refine iz_iconst (v := 1) 15 (by decide) rfl ?_
  refine iz_isub 16 rfl ?_
  refine iz_cmp_ge (tgt := 47) 17 rfl (by decide) ?_ ?_
  · refine iz_aload_n (n := 0) 30 0 rfl rfl ?_
    refine iz_getR 31 4 h0 fl_X1_21 rfl (by decide) (by decide) rfl ?_
    refine iz_iload_n (n := 1) 32 1 rfl rfl ?_
    refine iz_dup2 33 rfl rfl rfl ?_
    refine iz_iald 34 (sf_1_4 h0) rfl ?_
    refine iz_iconst (v := 1) 35 (by decide) rfl ?_
    refine iz_isub 36 rfl ?_
    refine iz_iast 37 (sf_1_4 h0) rfl (fun S3 => ?_)
    exact iz_vret 38 rfl
  · refine iz_aload_n (n := 0) 18 0 rfl rfl ?_
    refine iz_getR 19 12 h0 fl_X1_24 rfl (by decide) (by decide) rfl ?_
    refine iz_iload (n := 4) 20 3 rfl rfl ?_
    refine iz_aload_n (n := 0) 21 0 rfl rfl ?_
    refine iz_getR 22 12 h0 fl_X1_24 rfl (by decide) (by decide) rfl ?_
    refine iz_iload (n := 4) 23 3 rfl rfl ?_
    refine iz_iconst (v := 1) 24 (by decide) rfl ?_
    refine iz_iadd 25 rfl ?_
    refine iz_iald 26 (sf_1_12 h0) rfl ?_
    refine iz_iast 27 (sf_1_12 h0) rfl (fun S4 => ?_)
    refine iz_iinc (v := (x4 + 1)) (ls2 := [(0, .ref (X.1 a0)), (1, .int x1), (3, .int x3), (4, .int (x4 + 1))]) 28 3 [1, 2, 3, 0] rfl rfl rfl (by decide) rfl ?_
    refine iz_goto (tgt := 10) 29 (by decide) rfl ?_
    exact hk10 x1 x3 (x4 + 1) S4
theorem c_Ho_removeAt_10 {X : iz_X} {l : Launch} {a0 : Nat} (h0 : iz_sh a0 = (1 + 3, 13)) : ∀ (n9 : Nat) (x1 : Int32) (x3 : Int32) (x4 : Int32) (S : iz_S), iz_Y X l RX1 tX1_removeAt 5 0 (iz_Kc X l yX1_removeAt cX1_removeAt 5 none 0 iz_eV) 10 [(0, .ref (X.1 a0)), (1, .int x1), (3, .int x3), (4, .int x4)] [] S (Ho_removeAt_10 a0 n9 x1 x3 x4 S)
  | 0 => by
    intros
    exact iz_none
  | n9 + 1 => c_Ho_removeAt_10b h0 (c_Ho_removeAt_10 h0 n9)
set_option maxRecDepth 10000 in
theorem c_Ho_removeAt {X : iz_X} {l : Launch} {a0 : Nat} (h0 : iz_sh a0 = (1 + 3, 13)) (x1 : Int32) (x2 : Int32) (S : iz_S) : iz_Y X l RX1 tX1_removeAt 5 0 (iz_Kc X l yX1_removeAt cX1_removeAt 5 none 0 iz_eV) 0 [(0, .ref (X.1 a0)), (1, .int x1), (2, .int x2)] [] S (Ho_removeAt a0 x1 x2 S) := by
  unfold Ho_removeAt
  refine iz_iload_n (n := 1) 0 1 rfl rfl ?_
  refine iz_bipush (v := 6) 1 (by decide) rfl ?_
  refine iz_imul 2 rfl ?_
  refine iz_let (fun v1 => ?_)
  refine iz_istore_n (n := 3) (ls2 := [(0, .ref (X.1 a0)), (1, .int x1), (2, .int x2), (3, .int v1)]) 3 [1, 2, 3, 0] rfl (by decide) rfl ?_
  refine iz_iload_n (n := 3) 4 3 rfl rfl ?_
  refine iz_iload_n (n := 2) 5 2 rfl rfl ?_
  refine iz_iadd 6 rfl ?_
  refine iz_let (fun v2 => ?_)
  refine iz_istore (n := 4) (ls2 := [(0, .ref (X.1 a0)), (1, .int x1), (3, .int v1), (4, .int v2)]) 7 [1, 2, 4, 0] rfl (by decide) rfl ?_
  exact c_Ho_removeAt_10 h0 iz_FU x1 v1 v2 S
theorem m_Ho_removeAt {X : iz_X} {l : Launch} {a0 : Nat} (h0 : iz_sh a0 = (1 + 3, 13)) {x1 : Int32} {x2 : Int32} {S : iz_S} {r9 : iz_S} (hr : Ho_removeAt a0 x1 x2 S = some r9) : iz_Mt X l 0 yX1_removeAt cX1_removeAt 5 none [.ref (X.1 a0), .int x1, .int x2] S (iz_eV r9) :=
  iz_Mt_of (dt := tX1_removeAt) dX1_removeAt (by decide) hr (Nat.le_of_ble_eq_true rfl) (c_Ho_removeAt h0 x1 x2 S)
def Ho_letGo (a0 : Nat) (x1 : Int32) (S : iz_S) : Option iz_S :=
  iz_ck (iz_in x1 60) (iz_lt (iz_s S (iz_rf a0 2) x1 0) (fun S1 =>
  iz_ck (iz_in x1 60) (iz_lt (iz_s S1 (iz_rf a0 3) x1 2) (fun S2 =>
  some S2))))
set_option maxRecDepth 10000 in
theorem c_Ho_letGo {X : iz_X} {l : Launch} {a0 : Nat} (h0 : iz_sh a0 = (1 + 3, 13)) (x1 : Int32) (S : iz_S) : iz_Y X l RX1 tX1_letGo 2 0 (iz_Kc X l yX1_letGo cX1_letGo 2 none 0 iz_eV) 0 [(0, .ref (X.1 a0)), (1, .int x1)] [] S (Ho_letGo a0 x1 S) := by
  unfold Ho_letGo
  refine iz_aload_n (n := 0) 0 0 rfl rfl ?_
  refine iz_getR 1 2 h0 fl_X1_15 rfl (by decide) (by decide) rfl ?_
  refine iz_iload_n (n := 1) 2 1 rfl rfl ?_
  refine iz_iconst (v := 0) 3 (by decide) rfl ?_
  refine iz_iast 4 (sf_1_2 h0) rfl (fun S1 => ?_)
  refine iz_aload_n (n := 0) 5 0 rfl rfl ?_
  refine iz_getR 6 3 h0 fl_X1_18 rfl (by decide) (by decide) rfl ?_
  refine iz_iload_n (n := 1) 7 1 rfl rfl ?_
  refine iz_iconst (v := 2) 8 (by decide) rfl ?_
  refine iz_iast 9 (sf_1_3 h0) rfl (fun S2 => ?_)
  exact iz_vret 10 rfl
theorem m_Ho_letGo {X : iz_X} {l : Launch} {a0 : Nat} (h0 : iz_sh a0 = (1 + 3, 13)) {x1 : Int32} {S : iz_S} {r9 : iz_S} (hr : Ho_letGo a0 x1 S = some r9) : iz_Mt X l 0 yX1_letGo cX1_letGo 2 none [.ref (X.1 a0), .int x1] S (iz_eV r9) :=
  iz_Mt_of (dt := tX1_letGo) dX1_letGo (by decide) hr (Nat.le_of_ble_eq_true rfl) (c_Ho_letGo h0 x1 S)
def Ho_breakShelves_66 (a0 : Nat) (k4 : Int32 → Int32 → Int32 → iz_S → Option iz_S) (x1 : Int32) (x2 : Int32) (x3 : Int32) (S : iz_S) : Option iz_S :=
  (k4 x1 x2 (x3 + 1) S)
def Ho_breakShelves_63 (a0 : Nat) (k4 : Int32 → Int32 → Int32 → iz_S → Option iz_S) (x1 : Int32) (x2 : Int32) (x3 : Int32) (S : iz_S) : Option iz_S :=
  (Ho_breakShelves_66 a0 k4 x1 (x2 + 1) x3 S)
def Ho_breakShelves_4b (a0 : Nat) (k4 : Int32 → Int32 → Int32 → iz_S → Option iz_S) (x1 : Int32) (x2 : Int32) (x3 : Int32) (S : iz_S) : Option iz_S :=
  (if x3 < 6 then
    (iz_bI (Ho_blockAt a0 x1 x2 S) (fun r2 S1 =>
    if r2 < 0 then
      (Ho_breakShelves_63 a0 k4 x1 x2 x3 S1)
    else
      (iz_bI (Ho_breaksAt a0 x1 x2 S1) (fun r4 S3 =>
      if r4 = 0 then
        (Ho_breakShelves_63 a0 k4 x1 x2 x3 S3)
      else
        iz_ck (iz_in r2 60) (
        iz_lt (iz_up S3 a0 8 ((S3.1 a0 8) + (iz_g S3 (iz_rf a0 2) r2))) (fun S5 =>
        iz_bV (Ho_removeAt a0 x1 x2 S5) (fun S6 =>
        iz_bV (Ho_letGo a0 r2 S6) (fun S7 =>
        (Ho_breakShelves_66 a0 k4 x1 x2 x3 S7)))))))))
  else
    some S)
def Ho_breakShelves_4 (a0 : Nat) : Nat → Int32 → Int32 → Int32 → iz_S → Option iz_S
  | 0 => fun _ _ _ _ => none
  | n9 + 1 => Ho_breakShelves_4b a0 (Ho_breakShelves_4 a0 n9)
def Ho_breakShelves (a0 : Nat) (x1 : Int32) (S : iz_S) : Option iz_S :=
  (Ho_breakShelves_4 a0 iz_FU x1 0 0 S)
set_option maxRecDepth 10000 in
theorem c_Ho_breakShelves_66 {X : iz_X} {l : Launch} {a0 : Nat} (h0 : iz_sh a0 = (1 + 3, 13)) {k4 : Int32 → Int32 → Int32 → iz_S → Option iz_S} (hk4 : ∀ (x1 : Int32) (x2 : Int32) (x3 : Int32) (S : iz_S), iz_Y X l RX1 tX1_breakShelves 5 3 (iz_Kc X l yX1_breakShelves cX1_breakShelves 5 none 3 iz_eV) 4 [(0, .ref (X.1 a0)), (1, .int x1), (2, .int x2), (3, .int x3)] [] S (k4 x1 x2 x3 S)) (x1 : Int32) (x2 : Int32) (x3 : Int32) (S : iz_S) : iz_Y X l RX1 tX1_breakShelves 5 3 (iz_Kc X l yX1_breakShelves cX1_breakShelves 5 none 3 iz_eV) 66 [(0, .ref (X.1 a0)), (1, .int x1), (2, .int x2), (3, .int x3)] [] S (Ho_breakShelves_66 a0 k4 x1 x2 x3 S) := by
  unfold Ho_breakShelves_66
  refine iz_iinc (v := (x3 + 1)) (ls2 := [(0, .ref (X.1 a0)), (1, .int x1), (2, .int x2), (3, .int (x3 + 1))]) 37 3 [1, 2, 3, 0] rfl rfl rfl (by decide) rfl ?_
  refine iz_goto (tgt := 4) 38 (by decide) rfl ?_
  exact hk4 x1 x2 (x3 + 1) S
set_option maxRecDepth 10000 in
theorem c_Ho_breakShelves_63 {X : iz_X} {l : Launch} {a0 : Nat} (h0 : iz_sh a0 = (1 + 3, 13)) {k4 : Int32 → Int32 → Int32 → iz_S → Option iz_S} (hk4 : ∀ (x1 : Int32) (x2 : Int32) (x3 : Int32) (S : iz_S), iz_Y X l RX1 tX1_breakShelves 5 3 (iz_Kc X l yX1_breakShelves cX1_breakShelves 5 none 3 iz_eV) 4 [(0, .ref (X.1 a0)), (1, .int x1), (2, .int x2), (3, .int x3)] [] S (k4 x1 x2 x3 S)) (x1 : Int32) (x2 : Int32) (x3 : Int32) (S : iz_S) : iz_Y X l RX1 tX1_breakShelves 5 3 (iz_Kc X l yX1_breakShelves cX1_breakShelves 5 none 3 iz_eV) 63 [(0, .ref (X.1 a0)), (1, .int x1), (2, .int x2), (3, .int x3)] [] S (Ho_breakShelves_63 a0 k4 x1 x2 x3 S) := by
  unfold Ho_breakShelves_63
  refine iz_iinc (v := (x2 + 1)) (ls2 := [(0, .ref (X.1 a0)), (1, .int x1), (2, .int (x2 + 1)), (3, .int x3)]) 36 2 [1, 2, 0, 3] rfl rfl rfl (by decide) rfl ?_
  exact c_Ho_breakShelves_66 h0 hk4 x1 (x2 + 1) x3 S
set_option maxRecDepth 10000 in
theorem c_Ho_breakShelves_4b {X : iz_X} {l : Launch} {a0 : Nat} (h0 : iz_sh a0 = (1 + 3, 13)) {k4 : Int32 → Int32 → Int32 → iz_S → Option iz_S} (hk4 : ∀ (x1 : Int32) (x2 : Int32) (x3 : Int32) (S : iz_S), iz_Y X l RX1 tX1_breakShelves 5 3 (iz_Kc X l yX1_breakShelves cX1_breakShelves 5 none 3 iz_eV) 4 [(0, .ref (X.1 a0)), (1, .int x1), (2, .int x2), (3, .int x3)] [] S (k4 x1 x2 x3 S)) (x1 : Int32) (x2 : Int32) (x3 : Int32) (S : iz_S) : iz_Y X l RX1 tX1_breakShelves 5 3 (iz_Kc X l yX1_breakShelves cX1_breakShelves 5 none 3 iz_eV) 4 [(0, .ref (X.1 a0)), (1, .int x1), (2, .int x2), (3, .int x3)] [] S (Ho_breakShelves_4b a0 k4 x1 x2 x3 S) := by
  unfold Ho_breakShelves_4b
  refine iz_iload_n (n := 3) 4 3 rfl rfl ?_
  refine iz_bipush (v := 6) 5 (by decide) rfl ?_
  refine iz_cmp_ge (tgt := 72) 6 rfl (by decide) ?_ ?_
  · exact iz_vret 39 rfl
  · refine iz_aload_n (n := 0) 7 0 rfl rfl ?_
    refine iz_iload_n (n := 1) 8 1 rfl rfl ?_
    refine iz_iload_n (n := 2) 9 2 rfl rfl ?_
    refine iz_callVI (As := [.int x1, .int x2]) (rest := []) 10 ml_X1_48 cw_X1_blockAt ci_X1_blockAt h0 (fun r9 hr9 => m_Ho_blockAt h0 hr9) rfl (by decide) (by decide) rfl rfl (Nat.le_of_ble_eq_true rfl) (fun r2 S1 => ?_)
    refine iz_istore (n := 4) (ls2 := [(0, .ref (X.1 a0)), (1, .int x1), (2, .int x2), (3, .int x3), (4, .int r2)]) 11 [1, 2, 3, 4, 0] rfl (by decide) rfl ?_
    refine iz_iload (n := 4) 12 4 rfl rfl ?_
    refine iz_if_lt (tgt := 63) 13 rfl (by decide) ?_ ?_
    · exact iz_sub [0, 1, 2, 3] rfl (c_Ho_breakShelves_63 h0 hk4 x1 x2 x3 S1)
    · refine iz_aload_n (n := 0) 14 0 rfl rfl ?_
      refine iz_iload_n (n := 1) 15 1 rfl rfl ?_
      refine iz_iload_n (n := 2) 16 2 rfl rfl ?_
      refine iz_callVI (As := [.int x1, .int x2]) (rest := []) 17 ml_X1_91 cw_X1_breaksAt ci_X1_breaksAt h0 (fun r9 hr9 => m_Ho_breaksAt h0 hr9) rfl (by decide) (by decide) rfl rfl (Nat.le_of_ble_eq_true rfl) (fun r4 S3 => ?_)
      refine iz_if_eq (tgt := 63) 18 rfl (by decide) ?_ ?_
      · exact iz_sub [0, 1, 2, 3] rfl (c_Ho_breakShelves_63 h0 hk4 x1 x2 x3 S3)
      · refine iz_aload_n (n := 0) 19 0 rfl rfl ?_
        refine iz_dup 20 rfl rfl ?_
        refine iz_getI 21 8 h0 fl_X1_95 rfl (by decide) (by decide) rfl ?_
        refine iz_aload_n (n := 0) 22 0 rfl rfl ?_
        refine iz_getR 23 2 h0 fl_X1_15 rfl (by decide) (by decide) rfl ?_
        refine iz_iload (n := 4) 24 4 rfl rfl ?_
        refine iz_iald 25 (sf_1_2 h0) rfl ?_
        refine iz_iadd 26 rfl ?_
        refine iz_putI 27 8 h0 fl_X1_95 rfl (by decide) (by decide) rfl (fun S5 => ?_)
        refine iz_aload_n (n := 0) 28 0 rfl rfl ?_
        refine iz_iload_n (n := 1) 29 1 rfl rfl ?_
        refine iz_iload_n (n := 2) 30 2 rfl rfl ?_
        refine iz_callVV (As := [.int x1, .int x2]) (rest := []) 31 ml_X1_67 cw_X1_removeAt ci_X1_removeAt h0 (fun r9 hr9 => m_Ho_removeAt h0 hr9) rfl (by decide) (by decide) rfl rfl (Nat.le_of_ble_eq_true rfl) (fun S6 => ?_)
        refine iz_aload_n (n := 0) 32 0 rfl rfl ?_
        refine iz_iload (n := 4) 33 4 rfl rfl ?_
        refine iz_callVV (As := [.int r2]) (rest := []) 34 ml_X1_76 cw_X1_letGo ci_X1_letGo h0 (fun r9 hr9 => m_Ho_letGo h0 hr9) rfl (by decide) (by decide) rfl rfl (Nat.le_of_ble_eq_true rfl) (fun S7 => ?_)
        refine iz_goto (tgt := 66) 35 (by decide) rfl ?_
        exact iz_sub [0, 1, 2, 3] rfl (c_Ho_breakShelves_66 h0 hk4 x1 x2 x3 S7)
theorem c_Ho_breakShelves_4 {X : iz_X} {l : Launch} {a0 : Nat} (h0 : iz_sh a0 = (1 + 3, 13)) : ∀ (n9 : Nat) (x1 : Int32) (x2 : Int32) (x3 : Int32) (S : iz_S), iz_Y X l RX1 tX1_breakShelves 5 3 (iz_Kc X l yX1_breakShelves cX1_breakShelves 5 none 3 iz_eV) 4 [(0, .ref (X.1 a0)), (1, .int x1), (2, .int x2), (3, .int x3)] [] S (Ho_breakShelves_4 a0 n9 x1 x2 x3 S)
  | 0 => by
    intros
    exact iz_none
  | n9 + 1 => c_Ho_breakShelves_4b h0 (c_Ho_breakShelves_4 h0 n9)
set_option maxRecDepth 10000 in
theorem c_Ho_breakShelves {X : iz_X} {l : Launch} {a0 : Nat} (h0 : iz_sh a0 = (1 + 3, 13)) (x1 : Int32) (S : iz_S) : iz_Y X l RX1 tX1_breakShelves 5 3 (iz_Kc X l yX1_breakShelves cX1_breakShelves 5 none 3 iz_eV) 0 [(0, .ref (X.1 a0)), (1, .int x1)] [] S (Ho_breakShelves a0 x1 S) := by
  unfold Ho_breakShelves
  refine iz_iconst (v := 0) 0 (by decide) rfl ?_
  refine iz_istore_n (n := 2) (ls2 := [(0, .ref (X.1 a0)), (1, .int x1), (2, .int 0)]) 1 [1, 2, 0] rfl (by decide) rfl ?_
  refine iz_iconst (v := 0) 2 (by decide) rfl ?_
  refine iz_istore_n (n := 3) (ls2 := [(0, .ref (X.1 a0)), (1, .int x1), (2, .int 0), (3, .int 0)]) 3 [1, 2, 3, 0] rfl (by decide) rfl ?_
  exact c_Ho_breakShelves_4 h0 iz_FU x1 0 0 S
theorem m_Ho_breakShelves {X : iz_X} {l : Launch} {a0 : Nat} (h0 : iz_sh a0 = (1 + 3, 13)) {x1 : Int32} {S : iz_S} {r9 : iz_S} (hr : Ho_breakShelves a0 x1 S = some r9) : iz_Mt X l 3 yX1_breakShelves cX1_breakShelves 5 none [.ref (X.1 a0), .int x1] S (iz_eV r9) :=
  iz_Mt_of (dt := tX1_breakShelves) dX1_breakShelves (by decide) hr (Nat.le_of_ble_eq_true rfl) (c_Ho_breakShelves h0 x1 S)
def Ho_layOn (a0 : Nat) (x1 : Int32) (x2 : Int32) (S : iz_S) : Option iz_S :=
  iz_ck (iz_in x2 16) (
  iz_ck (iz_in ((x2 * 6) + (iz_g S (iz_rf a0 4) x2)) 96) (iz_lt (iz_s S (iz_rf a0 12) ((x2 * 6) + (iz_g S (iz_rf a0 4) x2)) x1) (fun S1 =>
  iz_ck (iz_in x2 16) (
  iz_ck (iz_in x2 16) (iz_lt (iz_s S1 (iz_rf a0 4) x2 ((iz_g S1 (iz_rf a0 4) x2) + 1)) (fun S2 =>
  iz_bV (Ho_breakShelves a0 x2 S2) (fun S3 =>
  some S3)))))))
set_option maxRecDepth 10000 in
theorem c_Ho_layOn {X : iz_X} {l : Launch} {a0 : Nat} (h0 : iz_sh a0 = (1 + 3, 13)) (x1 : Int32) (x2 : Int32) (S : iz_S) : iz_Y X l RX1 tX1_layOn 3 4 (iz_Kc X l yX1_layOn cX1_layOn 3 none 4 iz_eV) 0 [(0, .ref (X.1 a0)), (1, .int x1), (2, .int x2)] [] S (Ho_layOn a0 x1 x2 S) := by
  unfold Ho_layOn
  refine iz_aload_n (n := 0) 0 0 rfl rfl ?_
  refine iz_getR 1 12 h0 fl_X1_24 rfl (by decide) (by decide) rfl ?_
  refine iz_iload_n (n := 2) 2 2 rfl rfl ?_
  refine iz_bipush (v := 6) 3 (by decide) rfl ?_
  refine iz_imul 4 rfl ?_
  refine iz_aload_n (n := 0) 5 0 rfl rfl ?_
  refine iz_getR 6 4 h0 fl_X1_21 rfl (by decide) (by decide) rfl ?_
  refine iz_iload_n (n := 2) 7 2 rfl rfl ?_
  refine iz_iald 8 (sf_1_4 h0) rfl ?_
  refine iz_iadd 9 rfl ?_
  refine iz_iload_n (n := 1) 10 1 rfl rfl ?_
  refine iz_iast 11 (sf_1_12 h0) rfl (fun S1 => ?_)
  refine iz_aload_n (n := 0) 12 0 rfl rfl ?_
  refine iz_getR 13 4 h0 fl_X1_21 rfl (by decide) (by decide) rfl ?_
  refine iz_iload_n (n := 2) 14 2 rfl rfl ?_
  refine iz_dup2 15 rfl rfl rfl ?_
  refine iz_iald 16 (sf_1_4 h0) rfl ?_
  refine iz_iconst (v := 1) 17 (by decide) rfl ?_
  refine iz_iadd 18 rfl ?_
  refine iz_iast 19 (sf_1_4 h0) rfl (fun S2 => ?_)
  refine iz_aload_n (n := 0) 20 0 rfl rfl ?_
  refine iz_iload_n (n := 2) 21 2 rfl rfl ?_
  refine iz_callVV (As := [.int x2]) (rest := []) 22 ml_X1_59 cw_X1_breakShelves ci_X1_breakShelves h0 (fun r9 hr9 => m_Ho_breakShelves h0 hr9) rfl (by decide) (by decide) rfl rfl (Nat.le_of_ble_eq_true rfl) (fun S3 => ?_)
  exact iz_vret 23 rfl
theorem m_Ho_layOn {X : iz_X} {l : Launch} {a0 : Nat} (h0 : iz_sh a0 = (1 + 3, 13)) {x1 : Int32} {x2 : Int32} {S : iz_S} {r9 : iz_S} (hr : Ho_layOn a0 x1 x2 S = some r9) : iz_Mt X l 4 yX1_layOn cX1_layOn 3 none [.ref (X.1 a0), .int x1, .int x2] S (iz_eV r9) :=
  iz_Mt_of (dt := tX1_layOn) dX1_layOn (by decide) hr (Nat.le_of_ble_eq_true rfl) (c_Ho_layOn h0 x1 x2 S)
def Ho_bringIn (a0 : Nat) (x1 : Int32) (x2 : Int32) (S : iz_S) : Option iz_S :=
  iz_ck (iz_in x1 60) (iz_lt (iz_s S (iz_rf a0 3) x1 1) (fun S1 =>
  iz_ck (iz_in x1 60) (
  iz_lt (iz_up S1 a0 6 ((S1.1 a0 6) + (iz_g S1 (iz_rf a0 2) x1))) (fun S2 =>
  iz_bV (Ho_layOn a0 x1 x2 S2) (fun S3 =>
  some S3)))))
set_option maxRecDepth 10000 in
theorem c_Ho_bringIn {X : iz_X} {l : Launch} {a0 : Nat} (h0 : iz_sh a0 = (1 + 3, 13)) (x1 : Int32) (x2 : Int32) (S : iz_S) : iz_Y X l RX1 tX1_bringIn 3 5 (iz_Kc X l yX1_bringIn cX1_bringIn 3 none 5 iz_eV) 0 [(0, .ref (X.1 a0)), (1, .int x1), (2, .int x2)] [] S (Ho_bringIn a0 x1 x2 S) := by
  unfold Ho_bringIn
  refine iz_aload_n (n := 0) 0 0 rfl rfl ?_
  refine iz_getR 1 3 h0 fl_X1_18 rfl (by decide) (by decide) rfl ?_
  refine iz_iload_n (n := 1) 2 1 rfl rfl ?_
  refine iz_iconst (v := 1) 3 (by decide) rfl ?_
  refine iz_iast 4 (sf_1_3 h0) rfl (fun S1 => ?_)
  refine iz_aload_n (n := 0) 5 0 rfl rfl ?_
  refine iz_dup 6 rfl rfl ?_
  refine iz_getI 7 6 h0 fl_X1_52 rfl (by decide) (by decide) rfl ?_
  refine iz_aload_n (n := 0) 8 0 rfl rfl ?_
  refine iz_getR 9 2 h0 fl_X1_15 rfl (by decide) (by decide) rfl ?_
  refine iz_iload_n (n := 1) 10 1 rfl rfl ?_
  refine iz_iald 11 (sf_1_2 h0) rfl ?_
  refine iz_iadd 12 rfl ?_
  refine iz_putI 13 6 h0 fl_X1_52 rfl (by decide) (by decide) rfl (fun S2 => ?_)
  refine iz_aload_n (n := 0) 14 0 rfl rfl ?_
  refine iz_iload_n (n := 1) 15 1 rfl rfl ?_
  refine iz_iload_n (n := 2) 16 2 rfl rfl ?_
  refine iz_callVV (As := [.int x1, .int x2]) (rest := []) 17 ml_X1_55 cw_X1_layOn ci_X1_layOn h0 (fun r9 hr9 => m_Ho_layOn h0 hr9) rfl (by decide) (by decide) rfl rfl (Nat.le_of_ble_eq_true rfl) (fun S3 => ?_)
  exact iz_vret 18 rfl
theorem m_Ho_bringIn {X : iz_X} {l : Launch} {a0 : Nat} (h0 : iz_sh a0 = (1 + 3, 13)) {x1 : Int32} {x2 : Int32} {S : iz_S} {r9 : iz_S} (hr : Ho_bringIn a0 x1 x2 S = some r9) : iz_Mt X l 5 yX1_bringIn cX1_bringIn 3 none [.ref (X.1 a0), .int x1, .int x2] S (iz_eV r9) :=
  iz_Mt_of (dt := tX1_bringIn) dX1_bringIn (by decide) hr (Nat.le_of_ble_eq_true rfl) (c_Ho_bringIn h0 x1 x2 S)
def Ho_liftTop (a0 : Nat) (x1 : Int32) (S : iz_S) : Option (Int32 × iz_S) :=
  iz_bI (Ho_topOf a0 x1 S) (fun r2 S1 =>
  iz_ck (iz_in x1 16) (
  iz_bV (Ho_removeAt a0 x1 ((iz_g S1 (iz_rf a0 4) x1) - 1) S1) (fun S3 =>
  some (r2, S3))))
set_option maxRecDepth 10000 in
theorem c_Ho_liftTop {X : iz_X} {l : Launch} {a0 : Nat} (h0 : iz_sh a0 = (1 + 3, 13)) (x1 : Int32) (S : iz_S) : iz_Y X l RX1 tX1_liftTop 3 3 (iz_Kc X l yX1_liftTop cX1_liftTop 3 (some .int) 3 iz_eI) 0 [(0, .ref (X.1 a0)), (1, .int x1)] [] S (Ho_liftTop a0 x1 S) := by
  unfold Ho_liftTop
  refine iz_aload_n (n := 0) 0 0 rfl rfl ?_
  refine iz_iload_n (n := 1) 1 1 rfl rfl ?_
  refine iz_callVI (As := [.int x1]) (rest := []) 2 ml_X1_63 cw_X1_topOf ci_X1_topOf h0 (fun r9 hr9 => m_Ho_topOf h0 hr9) rfl (by decide) (by decide) rfl rfl (Nat.le_of_ble_eq_true rfl) (fun r2 S1 => ?_)
  refine iz_istore_n (n := 2) (ls2 := [(0, .ref (X.1 a0)), (1, .int x1), (2, .int r2)]) 3 [1, 2, 0] rfl (by decide) rfl ?_
  refine iz_aload_n (n := 0) 4 0 rfl rfl ?_
  refine iz_iload_n (n := 1) 5 1 rfl rfl ?_
  refine iz_aload_n (n := 0) 6 0 rfl rfl ?_
  refine iz_getR 7 4 h0 fl_X1_21 rfl (by decide) (by decide) rfl ?_
  refine iz_iload_n (n := 1) 8 1 rfl rfl ?_
  refine iz_iald 9 (sf_1_4 h0) rfl ?_
  refine iz_iconst (v := 1) 10 (by decide) rfl ?_
  refine iz_isub 11 rfl ?_
  refine iz_callVV (As := [.int x1, .int ((iz_g S1 (iz_rf a0 4) x1) - 1)]) (rest := []) 12 ml_X1_67 cw_X1_removeAt ci_X1_removeAt h0 (fun r9 hr9 => m_Ho_removeAt h0 hr9) rfl (by decide) (by decide) rfl rfl (Nat.le_of_ble_eq_true rfl) (fun S3 => ?_)
  refine iz_iload_n (n := 2) 13 2 rfl rfl ?_
  exact iz_iret 14 rfl
theorem m_Ho_liftTop {X : iz_X} {l : Launch} {a0 : Nat} (h0 : iz_sh a0 = (1 + 3, 13)) {x1 : Int32} {S : iz_S} {r9 : Int32 × iz_S} (hr : Ho_liftTop a0 x1 S = some r9) : iz_Mt X l 3 yX1_liftTop cX1_liftTop 3 (some .int) [.ref (X.1 a0), .int x1] S (iz_eI r9) :=
  iz_Mt_of (dt := tX1_liftTop) dX1_liftTop (by decide) hr (Nat.le_of_ble_eq_true rfl) (c_Ho_liftTop h0 x1 S)
def Ho_throwOut (a0 : Nat) (x1 : Int32) (S : iz_S) : Option (Int32 × iz_S) :=
  iz_bI (Ho_liftTop a0 x1 S) (fun r2 S1 =>
  iz_ck (iz_in r2 60) (
  iz_lt (iz_up S1 a0 10 ((S1.1 a0 10) + (iz_g S1 (iz_rf a0 2) r2))) (fun S3 =>
  iz_bV (Ho_letGo a0 r2 S3) (fun S4 =>
  some (r2, S4)))))
set_option maxRecDepth 10000 in
theorem c_Ho_throwOut {X : iz_X} {l : Launch} {a0 : Nat} (h0 : iz_sh a0 = (1 + 3, 13)) (x1 : Int32) (S : iz_S) : iz_Y X l RX1 tX1_throwOut 3 4 (iz_Kc X l yX1_throwOut cX1_throwOut 3 (some .int) 4 iz_eI) 0 [(0, .ref (X.1 a0)), (1, .int x1)] [] S (Ho_throwOut a0 x1 S) := by
  unfold Ho_throwOut
  refine iz_aload_n (n := 0) 0 0 rfl rfl ?_
  refine iz_iload_n (n := 1) 1 1 rfl rfl ?_
  refine iz_callVI (As := [.int x1]) (rest := []) 2 ml_X1_70 cw_X1_liftTop ci_X1_liftTop h0 (fun r9 hr9 => m_Ho_liftTop h0 hr9) rfl (by decide) (by decide) rfl rfl (Nat.le_of_ble_eq_true rfl) (fun r2 S1 => ?_)
  refine iz_istore_n (n := 2) (ls2 := [(0, .ref (X.1 a0)), (2, .int r2)]) 3 [1, 0] rfl (by decide) rfl ?_
  refine iz_aload_n (n := 0) 4 0 rfl rfl ?_
  refine iz_dup 5 rfl rfl ?_
  refine iz_getI 6 10 h0 fl_X1_73 rfl (by decide) (by decide) rfl ?_
  refine iz_aload_n (n := 0) 7 0 rfl rfl ?_
  refine iz_getR 8 2 h0 fl_X1_15 rfl (by decide) (by decide) rfl ?_
  refine iz_iload_n (n := 2) 9 1 rfl rfl ?_
  refine iz_iald 10 (sf_1_2 h0) rfl ?_
  refine iz_iadd 11 rfl ?_
  refine iz_putI 12 10 h0 fl_X1_73 rfl (by decide) (by decide) rfl (fun S3 => ?_)
  refine iz_aload_n (n := 0) 13 0 rfl rfl ?_
  refine iz_iload_n (n := 2) 14 1 rfl rfl ?_
  refine iz_callVV (As := [.int r2]) (rest := []) 15 ml_X1_76 cw_X1_letGo ci_X1_letGo h0 (fun r9 hr9 => m_Ho_letGo h0 hr9) rfl (by decide) (by decide) rfl rfl (Nat.le_of_ble_eq_true rfl) (fun S4 => ?_)
  refine iz_iload_n (n := 2) 16 1 rfl rfl ?_
  exact iz_iret 17 rfl
theorem m_Ho_throwOut {X : iz_X} {l : Launch} {a0 : Nat} (h0 : iz_sh a0 = (1 + 3, 13)) {x1 : Int32} {S : iz_S} {r9 : Int32 × iz_S} (hr : Ho_throwOut a0 x1 S = some r9) : iz_Mt X l 4 yX1_throwOut cX1_throwOut 3 (some .int) [.ref (X.1 a0), .int x1] S (iz_eI r9) :=
  iz_Mt_of (dt := tX1_throwOut) dX1_throwOut (by decide) hr (Nat.le_of_ble_eq_true rfl) (c_Ho_throwOut h0 x1 S)
def Ho_sellTop (a0 : Nat) (x1 : Int32) (x2 : Int32) (S : iz_S) : Option iz_S :=
  iz_bI (Ho_liftTop a0 x1 S) (fun r2 S1 =>
  iz_lt (iz_up S1 a0 9 ((S1.1 a0 9) + x2)) (fun S3 =>
  iz_ck (iz_in r2 60) (
  iz_lt (iz_up S3 a0 7 ((S3.1 a0 7) + ((iz_g S3 (iz_rf a0 2) r2) - x2))) (fun S4 =>
  iz_bV (Ho_letGo a0 r2 S4) (fun S5 =>
  some S5)))))
set_option maxRecDepth 10000 in
theorem c_Ho_sellTop {X : iz_X} {l : Launch} {a0 : Nat} (h0 : iz_sh a0 = (1 + 3, 13)) (x1 : Int32) (x2 : Int32) (S : iz_S) : iz_Y X l RX1 tX1_sellTop 4 4 (iz_Kc X l yX1_sellTop cX1_sellTop 4 none 4 iz_eV) 0 [(0, .ref (X.1 a0)), (1, .int x1), (2, .int x2)] [] S (Ho_sellTop a0 x1 x2 S) := by
  unfold Ho_sellTop
  refine iz_aload_n (n := 0) 0 0 rfl rfl ?_
  refine iz_iload_n (n := 1) 1 1 rfl rfl ?_
  refine iz_callVI (As := [.int x1]) (rest := []) 2 ml_X1_70 cw_X1_liftTop ci_X1_liftTop h0 (fun r9 hr9 => m_Ho_liftTop h0 hr9) rfl (by decide) (by decide) rfl rfl (Nat.le_of_ble_eq_true rfl) (fun r2 S1 => ?_)
  refine iz_istore_n (n := 3) (ls2 := [(0, .ref (X.1 a0)), (2, .int x2), (3, .int r2)]) 3 [1, 3, 0] rfl (by decide) rfl ?_
  refine iz_aload_n (n := 0) 4 0 rfl rfl ?_
  refine iz_dup 5 rfl rfl ?_
  refine iz_getI 6 9 h0 fl_X1_79 rfl (by decide) (by decide) rfl ?_
  refine iz_iload_n (n := 2) 7 1 rfl rfl ?_
  refine iz_iadd 8 rfl ?_
  refine iz_putI 9 9 h0 fl_X1_79 rfl (by decide) (by decide) rfl (fun S3 => ?_)
  refine iz_aload_n (n := 0) 10 0 rfl rfl ?_
  refine iz_dup 11 rfl rfl ?_
  refine iz_getI 12 7 h0 fl_X1_82 rfl (by decide) (by decide) rfl ?_
  refine iz_aload_n (n := 0) 13 0 rfl rfl ?_
  refine iz_getR 14 2 h0 fl_X1_15 rfl (by decide) (by decide) rfl ?_
  refine iz_iload_n (n := 3) 15 2 rfl rfl ?_
  refine iz_iald 16 (sf_1_2 h0) rfl ?_
  refine iz_iload_n (n := 2) 17 1 rfl rfl ?_
  refine iz_isub 18 rfl ?_
  refine iz_iadd 19 rfl ?_
  refine iz_putI 20 7 h0 fl_X1_82 rfl (by decide) (by decide) rfl (fun S4 => ?_)
  refine iz_aload_n (n := 0) 21 0 rfl rfl ?_
  refine iz_iload_n (n := 3) 22 2 rfl rfl ?_
  refine iz_callVV (As := [.int r2]) (rest := []) 23 ml_X1_76 cw_X1_letGo ci_X1_letGo h0 (fun r9 hr9 => m_Ho_letGo h0 hr9) rfl (by decide) (by decide) rfl rfl (Nat.le_of_ble_eq_true rfl) (fun S5 => ?_)
  exact iz_vret 24 rfl
theorem m_Ho_sellTop {X : iz_X} {l : Launch} {a0 : Nat} (h0 : iz_sh a0 = (1 + 3, 13)) {x1 : Int32} {x2 : Int32} {S : iz_S} {r9 : iz_S} (hr : Ho_sellTop a0 x1 x2 S = some r9) : iz_Mt X l 4 yX1_sellTop cX1_sellTop 4 none [.ref (X.1 a0), .int x1, .int x2] S (iz_eV r9) :=
  iz_Mt_of (dt := tX1_sellTop) dX1_sellTop (by decide) hr (Nat.le_of_ble_eq_true rfl) (c_Ho_sellTop h0 x1 x2 S)
def Ho_columnWeight (a0 : Nat) (x1 : Int32) (S : iz_S) : Option (Int32 × iz_S) :=
  iz_bI (Ho_loadOver a0 x1 (-1) S) (fun r2 S1 =>
  some (r2, S1))
set_option maxRecDepth 10000 in
theorem c_Ho_columnWeight {X : iz_X} {l : Launch} {a0 : Nat} (h0 : iz_sh a0 = (1 + 3, 13)) (x1 : Int32) (S : iz_S) : iz_Y X l RX1 tX1_columnWeight 2 1 (iz_Kc X l yX1_columnWeight cX1_columnWeight 2 (some .int) 1 iz_eI) 0 [(0, .ref (X.1 a0)), (1, .int x1)] [] S (Ho_columnWeight a0 x1 S) := by
  unfold Ho_columnWeight
  refine iz_aload_n (n := 0) 0 0 rfl rfl ?_
  refine iz_iload_n (n := 1) 1 1 rfl rfl ?_
  refine iz_iconst (v := (-1)) 2 (by decide) rfl ?_
  refine iz_callVI (As := [.int x1, .int (-1)]) (rest := []) 3 ml_X1_85 cw_X1_loadOver ci_X1_loadOver h0 (fun r9 hr9 => m_Ho_loadOver h0 hr9) rfl (by decide) (by decide) rfl rfl (Nat.le_of_ble_eq_true rfl) (fun r2 S1 => ?_)
  exact iz_iret 4 rfl
theorem m_Ho_columnWeight {X : iz_X} {l : Launch} {a0 : Nat} (h0 : iz_sh a0 = (1 + 3, 13)) {x1 : Int32} {S : iz_S} {r9 : Int32 × iz_S} (hr : Ho_columnWeight a0 x1 S = some r9) : iz_Mt X l 1 yX1_columnWeight cX1_columnWeight 2 (some .int) [.ref (X.1 a0), .int x1] S (iz_eI r9) :=
  iz_Mt_of (dt := tX1_columnWeight) dX1_columnWeight (by decide) hr (Nat.le_of_ble_eq_true rfl) (c_Ho_columnWeight h0 x1 S)
def Ho_allWeight_4b (a0 : Nat) (k4 : Int32 → Int32 → iz_S → Option (Int32 × iz_S)) (x1 : Int32) (x2 : Int32) (S : iz_S) : Option (Int32 × iz_S) :=
  (if x2 < 16 then
    iz_bI (Ho_columnWeight a0 x2 S) (fun r2 S1 =>
    iz_lt (x1 + r2) (fun v3 =>
    (k4 v3 (x2 + 1) S1)))
  else
    some (x1, S))
def Ho_allWeight_4 (a0 : Nat) : Nat → Int32 → Int32 → iz_S → Option (Int32 × iz_S)
  | 0 => fun _ _ _ => none
  | n9 + 1 => Ho_allWeight_4b a0 (Ho_allWeight_4 a0 n9)
def Ho_allWeight (a0 : Nat) (S : iz_S) : Option (Int32 × iz_S) :=
  (Ho_allWeight_4 a0 iz_FU 0 0 S)
set_option maxRecDepth 10000 in
theorem c_Ho_allWeight_4b {X : iz_X} {l : Launch} {a0 : Nat} (h0 : iz_sh a0 = (1 + 3, 13)) {k4 : Int32 → Int32 → iz_S → Option (Int32 × iz_S)} (hk4 : ∀ (x1 : Int32) (x2 : Int32) (S : iz_S), iz_Y X l RX1 tX1_allWeight 3 2 (iz_Kc X l yX1_allWeight cX1_allWeight 3 (some .int) 2 iz_eI) 4 [(0, .ref (X.1 a0)), (1, .int x1), (2, .int x2)] [] S (k4 x1 x2 S)) (x1 : Int32) (x2 : Int32) (S : iz_S) : iz_Y X l RX1 tX1_allWeight 3 2 (iz_Kc X l yX1_allWeight cX1_allWeight 3 (some .int) 2 iz_eI) 4 [(0, .ref (X.1 a0)), (1, .int x1), (2, .int x2)] [] S (Ho_allWeight_4b a0 k4 x1 x2 S) := by
  unfold Ho_allWeight_4b
  refine iz_iload_n (n := 2) 4 2 rfl rfl ?_
  refine iz_bipush (v := 16) 5 (by decide) rfl ?_
  refine iz_cmp_ge (tgt := 24) 6 rfl (by decide) ?_ ?_
  · refine iz_iload_n (n := 1) 15 1 rfl rfl ?_
    exact iz_iret 16 rfl
  · refine iz_iload_n (n := 1) 7 1 rfl rfl ?_
    refine iz_aload_n (n := 0) 8 0 rfl rfl ?_
    refine iz_iload_n (n := 2) 9 2 rfl rfl ?_
    refine iz_callVI (As := [.int x2]) (rest := [.int x1]) 10 ml_X1_88 cw_X1_columnWeight ci_X1_columnWeight h0 (fun r9 hr9 => m_Ho_columnWeight h0 hr9) rfl (by decide) (by decide) rfl rfl (Nat.le_of_ble_eq_true rfl) (fun r2 S1 => ?_)
    refine iz_iadd 11 rfl ?_
    refine iz_let (fun v3 => ?_)
    refine iz_istore_n (n := 1) (ls2 := [(0, .ref (X.1 a0)), (1, .int v3), (2, .int x2)]) 12 [1, 0, 2] rfl (by decide) rfl ?_
    refine iz_iinc (v := (x2 + 1)) (ls2 := [(0, .ref (X.1 a0)), (1, .int v3), (2, .int (x2 + 1))]) 13 2 [1, 2, 0] rfl rfl rfl (by decide) rfl ?_
    refine iz_goto (tgt := 4) 14 (by decide) rfl ?_
    exact hk4 v3 (x2 + 1) S1
theorem c_Ho_allWeight_4 {X : iz_X} {l : Launch} {a0 : Nat} (h0 : iz_sh a0 = (1 + 3, 13)) : ∀ (n9 : Nat) (x1 : Int32) (x2 : Int32) (S : iz_S), iz_Y X l RX1 tX1_allWeight 3 2 (iz_Kc X l yX1_allWeight cX1_allWeight 3 (some .int) 2 iz_eI) 4 [(0, .ref (X.1 a0)), (1, .int x1), (2, .int x2)] [] S (Ho_allWeight_4 a0 n9 x1 x2 S)
  | 0 => by
    intros
    exact iz_none
  | n9 + 1 => c_Ho_allWeight_4b h0 (c_Ho_allWeight_4 h0 n9)
set_option maxRecDepth 10000 in
theorem c_Ho_allWeight {X : iz_X} {l : Launch} {a0 : Nat} (h0 : iz_sh a0 = (1 + 3, 13)) (S : iz_S) : iz_Y X l RX1 tX1_allWeight 3 2 (iz_Kc X l yX1_allWeight cX1_allWeight 3 (some .int) 2 iz_eI) 0 [(0, .ref (X.1 a0))] [] S (Ho_allWeight a0 S) := by
  unfold Ho_allWeight
  refine iz_iconst (v := 0) 0 (by decide) rfl ?_
  refine iz_istore_n (n := 1) (ls2 := [(0, .ref (X.1 a0)), (1, .int 0)]) 1 [1, 0] rfl (by decide) rfl ?_
  refine iz_iconst (v := 0) 2 (by decide) rfl ?_
  refine iz_istore_n (n := 2) (ls2 := [(0, .ref (X.1 a0)), (1, .int 0), (2, .int 0)]) 3 [1, 2, 0] rfl (by decide) rfl ?_
  exact c_Ho_allWeight_4 h0 iz_FU 0 0 S
theorem m_Ho_allWeight {X : iz_X} {l : Launch} {a0 : Nat} (h0 : iz_sh a0 = (1 + 3, 13)) {S : iz_S} {r9 : Int32 × iz_S} (hr : Ho_allWeight a0 S = some r9) : iz_Mt X l 2 yX1_allWeight cX1_allWeight 3 (some .int) [.ref (X.1 a0)] S (iz_eI r9) :=
  iz_Mt_of (dt := tX1_allWeight) dX1_allWeight (by decide) hr (Nat.le_of_ble_eq_true rfl) (c_Ho_allWeight h0 S)
def Sh_tenthsAt_17 (a0 : Nat) (s0 : Int32) (S : iz_S) : Option (Int32 × iz_S) :=
  some (s0, S)
def Sh_tenthsAt (a0 : Nat) (x1 : Int32) (S : iz_S) : Option (Int32 × iz_S) :=
  (if x1 < 0 then
    (Sh_tenthsAt_17 a0 0 S)
  else
    iz_ck (iz_in x1 4) (
    (Sh_tenthsAt_17 a0 ((10 : Int32) - (iz_g S (iz_rf a0 0) x1)) S)))
set_option maxRecDepth 10000 in
theorem c_Sh_tenthsAt_17 {X : iz_X} {l : Launch} {a0 : Nat} (h0 : iz_sh a0 = (7 + 3, 3)) (s0 : Int32) (S : iz_S) : iz_Y X l RX7 tX7_tenthsAt 2 0 (iz_Kc X l yX7_tenthsAt cX7_tenthsAt 2 (some .int) 0 iz_eI) 17 [] [.int s0] S (Sh_tenthsAt_17 a0 s0 S) := by
  unfold Sh_tenthsAt_17
  exact iz_iret 10 rfl
set_option maxRecDepth 10000 in
theorem c_Sh_tenthsAt {X : iz_X} {l : Launch} {a0 : Nat} (h0 : iz_sh a0 = (7 + 3, 3)) (x1 : Int32) (S : iz_S) : iz_Y X l RX7 tX7_tenthsAt 2 0 (iz_Kc X l yX7_tenthsAt cX7_tenthsAt 2 (some .int) 0 iz_eI) 0 [(0, .ref (X.1 a0)), (1, .int x1)] [] S (Sh_tenthsAt a0 x1 S) := by
  unfold Sh_tenthsAt
  refine iz_iload_n (n := 1) 0 1 rfl rfl ?_
  refine iz_if_ge (tgt := 8) 1 rfl (by decide) ?_ ?_
  · refine iz_bipush (v := 10) 4 (by decide) rfl ?_
    refine iz_aload_n (n := 0) 5 0 rfl rfl ?_
    refine iz_getR 6 0 h0 fl_X7_9 rfl (by decide) (by decide) rfl ?_
    refine iz_iload_n (n := 1) 7 1 rfl rfl ?_
    refine iz_iald 8 (sf_7_0 h0) rfl ?_
    refine iz_isub 9 rfl ?_
    exact iz_sub [] rfl (c_Sh_tenthsAt_17 h0 ((10 : Int32) - (iz_g S (iz_rf a0 0) x1)) S)
  · refine iz_iconst (v := 0) 2 (by decide) rfl ?_
    refine iz_goto (tgt := 17) 3 (by decide) rfl ?_
    exact iz_sub [] rfl (c_Sh_tenthsAt_17 h0 0 S)
theorem m_Sh_tenthsAt {X : iz_X} {l : Launch} {a0 : Nat} (h0 : iz_sh a0 = (7 + 3, 3)) {x1 : Int32} {S : iz_S} {r9 : Int32 × iz_S} (hr : Sh_tenthsAt a0 x1 S = some r9) : iz_Mt X l 0 yX7_tenthsAt cX7_tenthsAt 2 (some .int) [.ref (X.1 a0), .int x1] S (iz_eI r9) :=
  iz_Mt_of (dt := tX7_tenthsAt) dX7_tenthsAt (by decide) hr (Nat.le_of_ble_eq_true rfl) (c_Sh_tenthsAt h0 x1 S)
def Sh_wallTenths (a0 : Nat) (x1 : Int32) (S : iz_S) : Option (Int32 × iz_S) :=
  iz_bI (Sh_rowWall x1 S) (fun r2 S1 =>
  iz_bI (Sh_tenthsAt a0 r2 S1) (fun r4 S3 =>
  iz_bI (Sh_sideWall x1 S3) (fun r6 S5 =>
  iz_bI (Sh_tenthsAt a0 r6 S5) (fun r8 S7 =>
  some ((r4 + r8), S7)))))
set_option maxRecDepth 10000 in
theorem c_Sh_wallTenths {X : iz_X} {l : Launch} {a0 : Nat} (h0 : iz_sh a0 = (7 + 3, 3)) (x1 : Int32) (S : iz_S) : iz_Y X l RX7 tX7_wallTenths 2 1 (iz_Kc X l yX7_wallTenths cX7_wallTenths 2 (some .int) 1 iz_eI) 0 [(0, .ref (X.1 a0)), (1, .int x1)] [] S (Sh_wallTenths a0 x1 S) := by
  unfold Sh_wallTenths
  refine iz_aload_n (n := 0) 0 0 rfl rfl ?_
  refine iz_iload_n (n := 1) 1 1 rfl rfl ?_
  refine iz_callSI (As := [.int x1]) (rest := [.ref (X.1 a0)]) 2 ml_X7_31 cw_X7_rowWall ci_X7_rowWall (fun r9 hr9 => m_Sh_rowWall  hr9) rfl (by decide) rfl rfl (Nat.le_of_ble_eq_true rfl) (fun r2 S1 => ?_)
  refine iz_callVI (As := [.int r2]) (rest := []) 3 ml_X7_35 cw_X7_tenthsAt ci_X7_tenthsAt h0 (fun r9 hr9 => m_Sh_tenthsAt h0 hr9) rfl (by decide) (by decide) rfl rfl (Nat.le_of_ble_eq_true rfl) (fun r4 S3 => ?_)
  refine iz_aload_n (n := 0) 4 0 rfl rfl ?_
  refine iz_iload_n (n := 1) 5 1 rfl rfl ?_
  refine iz_callSI (As := [.int x1]) (rest := [.ref (X.1 a0), .int r4]) 6 ml_X7_38 cw_X7_sideWall ci_X7_sideWall (fun r9 hr9 => m_Sh_sideWall  hr9) rfl (by decide) rfl rfl (Nat.le_of_ble_eq_true rfl) (fun r6 S5 => ?_)
  refine iz_callVI (As := [.int r6]) (rest := [.int r4]) 7 ml_X7_35 cw_X7_tenthsAt ci_X7_tenthsAt h0 (fun r9 hr9 => m_Sh_tenthsAt h0 hr9) rfl (by decide) (by decide) rfl rfl (Nat.le_of_ble_eq_true rfl) (fun r8 S7 => ?_)
  refine iz_iadd 8 rfl ?_
  exact iz_iret 9 rfl
theorem m_Sh_wallTenths {X : iz_X} {l : Launch} {a0 : Nat} (h0 : iz_sh a0 = (7 + 3, 3)) {x1 : Int32} {S : iz_S} {r9 : Int32 × iz_S} (hr : Sh_wallTenths a0 x1 S = some r9) : iz_Mt X l 1 yX7_wallTenths cX7_wallTenths 2 (some .int) [.ref (X.1 a0), .int x1] S (iz_eI r9) :=
  iz_Mt_of (dt := tX7_wallTenths) dX7_wallTenths (by decide) hr (Nat.le_of_ble_eq_true rfl) (c_Sh_wallTenths h0 x1 S)
def Ho_meltAt (a0 : Nat) (x1 : Int32) (x2 : Int32) (S : iz_S) : Option (Int32 × iz_S) :=
  iz_bI (Sh_wallTenths (iz_rf a0 11) x1 S) (fun r2 S1 =>
  iz_bI (Ho_meltBehind a0 x1 x2 r2 S1) (fun r4 S3 =>
  some (r4, S3)))
set_option maxRecDepth 10000 in
theorem c_Ho_meltAt {X : iz_X} {l : Launch} {a0 : Nat} (h0 : iz_sh a0 = (1 + 3, 13)) (x1 : Int32) (x2 : Int32) (S : iz_S) : iz_Y X l RX1 tX1_meltAt 3 3 (iz_Kc X l yX1_meltAt cX1_meltAt 3 (some .int) 3 iz_eI) 0 [(0, .ref (X.1 a0)), (1, .int x1), (2, .int x2)] [] S (Ho_meltAt a0 x1 x2 S) := by
  unfold Ho_meltAt
  refine iz_aload_n (n := 0) 0 0 rfl rfl ?_
  refine iz_iload_n (n := 1) 1 1 rfl rfl ?_
  refine iz_iload_n (n := 2) 2 2 rfl rfl ?_
  refine iz_aload_n (n := 0) 3 0 rfl rfl ?_
  refine iz_getR 4 11 h0 fl_X1_27 rfl (by decide) (by decide) rfl ?_
  refine iz_iload_n (n := 1) 5 1 rfl rfl ?_
  refine iz_callVI (As := [.int x1]) (rest := [.int x2, .int x1, .ref (X.1 a0)]) 6 ml_X1_98 cw_X7_wallTenths ci_X7_wallTenths (sf_1_11 h0) (fun r9 hr9 => m_Sh_wallTenths (sf_1_11 h0) hr9) rfl (by decide) (by decide) rfl rfl (Nat.le_of_ble_eq_true rfl) (fun r2 S1 => ?_)
  refine iz_callVI (As := [.int x1, .int x2, .int r2]) (rest := []) 7 ml_X1_103 cw_X1_meltBehind ci_X1_meltBehind h0 (fun r9 hr9 => m_Ho_meltBehind h0 hr9) rfl (by decide) (by decide) rfl rfl (Nat.le_of_ble_eq_true rfl) (fun r4 S3 => ?_)
  exact iz_iret 8 rfl
theorem m_Ho_meltAt {X : iz_X} {l : Launch} {a0 : Nat} (h0 : iz_sh a0 = (1 + 3, 13)) {x1 : Int32} {x2 : Int32} {S : iz_S} {r9 : Int32 × iz_S} (hr : Ho_meltAt a0 x1 x2 S = some r9) : iz_Mt X l 3 yX1_meltAt cX1_meltAt 3 (some .int) [.ref (X.1 a0), .int x1, .int x2] S (iz_eI r9) :=
  iz_Mt_of (dt := tX1_meltAt) dX1_meltAt (by decide) hr (Nat.le_of_ble_eq_true rfl) (c_Ho_meltAt h0 x1 x2 S)
def Ho_allMelts_4b (a0 : Nat) (k4 : Int32 → Int32 → iz_S → Option (Int32 × iz_S)) (x1 : Int32) (x2 : Int32) (S : iz_S) : Option (Int32 × iz_S) :=
  (if x2 < 16 then
    iz_bI (Sh_wallTenths (iz_rf a0 11) x2 S) (fun r2 S1 =>
    iz_bI (Ho_columnMelts a0 x2 r2 S1) (fun r4 S3 =>
    iz_lt (x1 + r4) (fun v5 =>
    (k4 v5 (x2 + 1) S3))))
  else
    some (x1, S))
def Ho_allMelts_4 (a0 : Nat) : Nat → Int32 → Int32 → iz_S → Option (Int32 × iz_S)
  | 0 => fun _ _ _ => none
  | n9 + 1 => Ho_allMelts_4b a0 (Ho_allMelts_4 a0 n9)
def Ho_allMelts (a0 : Nat) (S : iz_S) : Option (Int32 × iz_S) :=
  (Ho_allMelts_4 a0 iz_FU 0 0 S)
set_option maxRecDepth 10000 in
theorem c_Ho_allMelts_4b {X : iz_X} {l : Launch} {a0 : Nat} (h0 : iz_sh a0 = (1 + 3, 13)) {k4 : Int32 → Int32 → iz_S → Option (Int32 × iz_S)} (hk4 : ∀ (x1 : Int32) (x2 : Int32) (S : iz_S), iz_Y X l RX1 tX1_allMelts 3 4 (iz_Kc X l yX1_allMelts cX1_allMelts 3 (some .int) 4 iz_eI) 4 [(0, .ref (X.1 a0)), (1, .int x1), (2, .int x2)] [] S (k4 x1 x2 S)) (x1 : Int32) (x2 : Int32) (S : iz_S) : iz_Y X l RX1 tX1_allMelts 3 4 (iz_Kc X l yX1_allMelts cX1_allMelts 3 (some .int) 4 iz_eI) 4 [(0, .ref (X.1 a0)), (1, .int x1), (2, .int x2)] [] S (Ho_allMelts_4b a0 k4 x1 x2 S) := by
  unfold Ho_allMelts_4b
  refine iz_iload_n (n := 2) 4 2 rfl rfl ?_
  refine iz_bipush (v := 16) 5 (by decide) rfl ?_
  refine iz_cmp_ge (tgt := 32) 6 rfl (by decide) ?_ ?_
  · refine iz_iload_n (n := 1) 19 1 rfl rfl ?_
    exact iz_iret 20 rfl
  · refine iz_iload_n (n := 1) 7 1 rfl rfl ?_
    refine iz_aload_n (n := 0) 8 0 rfl rfl ?_
    refine iz_iload_n (n := 2) 9 2 rfl rfl ?_
    refine iz_aload_n (n := 0) 10 0 rfl rfl ?_
    refine iz_getR 11 11 h0 fl_X1_27 rfl (by decide) (by decide) rfl ?_
    refine iz_iload_n (n := 2) 12 2 rfl rfl ?_
    refine iz_callVI (As := [.int x2]) (rest := [.int x2, .ref (X.1 a0), .int x1]) 13 ml_X1_98 cw_X7_wallTenths ci_X7_wallTenths (sf_1_11 h0) (fun r9 hr9 => m_Sh_wallTenths (sf_1_11 h0) hr9) rfl (by decide) (by decide) rfl rfl (Nat.le_of_ble_eq_true rfl) (fun r2 S1 => ?_)
    refine iz_callVI (As := [.int x2, .int r2]) (rest := [.int x1]) 14 ml_X1_127 cw_X1_columnMelts ci_X1_columnMelts h0 (fun r9 hr9 => m_Ho_columnMelts h0 hr9) rfl (by decide) (by decide) rfl rfl (Nat.le_of_ble_eq_true rfl) (fun r4 S3 => ?_)
    refine iz_iadd 15 rfl ?_
    refine iz_let (fun v5 => ?_)
    refine iz_istore_n (n := 1) (ls2 := [(0, .ref (X.1 a0)), (1, .int v5), (2, .int x2)]) 16 [1, 0, 2] rfl (by decide) rfl ?_
    refine iz_iinc (v := (x2 + 1)) (ls2 := [(0, .ref (X.1 a0)), (1, .int v5), (2, .int (x2 + 1))]) 17 2 [1, 2, 0] rfl rfl rfl (by decide) rfl ?_
    refine iz_goto (tgt := 4) 18 (by decide) rfl ?_
    exact hk4 v5 (x2 + 1) S3
theorem c_Ho_allMelts_4 {X : iz_X} {l : Launch} {a0 : Nat} (h0 : iz_sh a0 = (1 + 3, 13)) : ∀ (n9 : Nat) (x1 : Int32) (x2 : Int32) (S : iz_S), iz_Y X l RX1 tX1_allMelts 3 4 (iz_Kc X l yX1_allMelts cX1_allMelts 3 (some .int) 4 iz_eI) 4 [(0, .ref (X.1 a0)), (1, .int x1), (2, .int x2)] [] S (Ho_allMelts_4 a0 n9 x1 x2 S)
  | 0 => by
    intros
    exact iz_none
  | n9 + 1 => c_Ho_allMelts_4b h0 (c_Ho_allMelts_4 h0 n9)
set_option maxRecDepth 10000 in
theorem c_Ho_allMelts {X : iz_X} {l : Launch} {a0 : Nat} (h0 : iz_sh a0 = (1 + 3, 13)) (S : iz_S) : iz_Y X l RX1 tX1_allMelts 3 4 (iz_Kc X l yX1_allMelts cX1_allMelts 3 (some .int) 4 iz_eI) 0 [(0, .ref (X.1 a0))] [] S (Ho_allMelts a0 S) := by
  unfold Ho_allMelts
  refine iz_iconst (v := 0) 0 (by decide) rfl ?_
  refine iz_istore_n (n := 1) (ls2 := [(0, .ref (X.1 a0)), (1, .int 0)]) 1 [1, 0] rfl (by decide) rfl ?_
  refine iz_iconst (v := 0) 2 (by decide) rfl ?_
  refine iz_istore_n (n := 2) (ls2 := [(0, .ref (X.1 a0)), (1, .int 0), (2, .int 0)]) 3 [1, 2, 0] rfl (by decide) rfl ?_
  exact c_Ho_allMelts_4 h0 iz_FU 0 0 S
theorem m_Ho_allMelts {X : iz_X} {l : Launch} {a0 : Nat} (h0 : iz_sh a0 = (1 + 3, 13)) {S : iz_S} {r9 : Int32 × iz_S} (hr : Ho_allMelts a0 S = some r9) : iz_Mt X l 4 yX1_allMelts cX1_allMelts 3 (some .int) [.ref (X.1 a0)] S (iz_eI r9) :=
  iz_Mt_of (dt := tX1_allMelts) dX1_allMelts (by decide) hr (Nat.le_of_ble_eq_true rfl) (c_Ho_allMelts h0 S)
def Ho_meltAll_10b (a0 : Nat) (k2 : Int32 → iz_S → Option iz_S) (k10 : Int32 → Int32 → iz_S → Option iz_S) (x1 : Int32) (x2 : Int32) (S : iz_S) : Option iz_S :=
  (iz_ck (iz_in x1 16) (
  if x2 < (iz_g S (iz_rf a0 4) x1) then
    iz_bI (Ho_meltAt a0 x1 x2 S) (fun r2 S1 =>
    iz_bI (Ho_blockAt a0 x1 x2 S1) (fun r4 S3 =>
    iz_ck (iz_in r4 60) (
    iz_ck (iz_in r4 60) (iz_lt (iz_s S3 (iz_rf a0 2) r4 ((iz_g S3 (iz_rf a0 2) r4) - r2)) (fun S5 =>
    iz_lt (iz_up S5 a0 7 ((S5.1 a0 7) + r2)) (fun S6 =>
    (k10 x1 (x2 + 1) S6)))))))
  else
    (k2 (x1 + 1) S)))
def Ho_meltAll_10 (a0 : Nat) (k2 : Int32 → iz_S → Option iz_S) : Nat → Int32 → Int32 → iz_S → Option iz_S
  | 0 => fun _ _ _ => none
  | n9 + 1 => Ho_meltAll_10b a0 k2 (Ho_meltAll_10 a0 k2 n9)
def Ho_meltAll_2b (a0 : Nat) (k2 : Int32 → iz_S → Option iz_S) (x1 : Int32) (S : iz_S) : Option iz_S :=
  (if x1 < 16 then
    (Ho_meltAll_10 a0 k2 iz_FU x1 0 S)
  else
    some S)
def Ho_meltAll_2 (a0 : Nat) : Nat → Int32 → iz_S → Option iz_S
  | 0 => fun _ _ => none
  | n9 + 1 => Ho_meltAll_2b a0 (Ho_meltAll_2 a0 n9)
def Ho_meltAll (a0 : Nat) (S : iz_S) : Option iz_S :=
  (Ho_meltAll_2 a0 iz_FU 0 S)
set_option maxRecDepth 10000 in
theorem c_Ho_meltAll_10b {X : iz_X} {l : Launch} {a0 : Nat} (h0 : iz_sh a0 = (1 + 3, 13)) {k2 : Int32 → iz_S → Option iz_S} {k10 : Int32 → Int32 → iz_S → Option iz_S} (hk2 : ∀ (x1 : Int32) (S : iz_S), iz_Y X l RX1 tX1_meltAll 4 4 (iz_Kc X l yX1_meltAll cX1_meltAll 4 none 4 iz_eV) 2 [(0, .ref (X.1 a0)), (1, .int x1)] [] S (k2 x1 S)) (hk10 : ∀ (x1 : Int32) (x2 : Int32) (S : iz_S), iz_Y X l RX1 tX1_meltAll 4 4 (iz_Kc X l yX1_meltAll cX1_meltAll 4 none 4 iz_eV) 10 [(0, .ref (X.1 a0)), (1, .int x1), (2, .int x2)] [] S (k10 x1 x2 S)) (x1 : Int32) (x2 : Int32) (S : iz_S) : iz_Y X l RX1 tX1_meltAll 4 4 (iz_Kc X l yX1_meltAll cX1_meltAll 4 none 4 iz_eV) 10 [(0, .ref (X.1 a0)), (1, .int x1), (2, .int x2)] [] S (Ho_meltAll_10b a0 k2 k10 x1 x2 S) := by
  unfold Ho_meltAll_10b
  refine iz_iload_n (n := 2) 7 2 rfl rfl ?_
  refine iz_aload_n (n := 0) 8 0 rfl rfl ?_
  refine iz_getR 9 4 h0 fl_X1_21 rfl (by decide) (by decide) rfl ?_
  refine iz_iload_n (n := 1) 10 1 rfl rfl ?_
  refine iz_iald 11 (sf_1_4 h0) rfl ?_
  refine iz_cmp_ge (tgt := 58) 12 rfl (by decide) ?_ ?_
  · refine iz_iinc (v := (x1 + 1)) (ls2 := [(0, .ref (X.1 a0)), (1, .int (x1 + 1))]) 37 1 [1, 0] rfl rfl rfl (by decide) rfl ?_
    refine iz_goto (tgt := 2) 38 (by decide) rfl ?_
    exact hk2 (x1 + 1) S
  · refine iz_aload_n (n := 0) 13 0 rfl rfl ?_
    refine iz_iload_n (n := 1) 14 1 rfl rfl ?_
    refine iz_iload_n (n := 2) 15 2 rfl rfl ?_
    refine iz_callVI (As := [.int x1, .int x2]) (rest := []) 16 ml_X1_136 cw_X1_meltAt ci_X1_meltAt h0 (fun r9 hr9 => m_Ho_meltAt h0 hr9) rfl (by decide) (by decide) rfl rfl (Nat.le_of_ble_eq_true rfl) (fun r2 S1 => ?_)
    refine iz_istore_n (n := 3) (ls2 := [(0, .ref (X.1 a0)), (1, .int x1), (2, .int x2), (3, .int r2)]) 17 [1, 2, 3, 0] rfl (by decide) rfl ?_
    refine iz_aload_n (n := 0) 18 0 rfl rfl ?_
    refine iz_getR 19 2 h0 fl_X1_15 rfl (by decide) (by decide) rfl ?_
    refine iz_aload_n (n := 0) 20 0 rfl rfl ?_
    refine iz_iload_n (n := 1) 21 1 rfl rfl ?_
    refine iz_iload_n (n := 2) 22 2 rfl rfl ?_
    refine iz_callVI (As := [.int x1, .int x2]) (rest := [.ref (X.1 (iz_rf a0 2))]) 23 ml_X1_48 cw_X1_blockAt ci_X1_blockAt h0 (fun r9 hr9 => m_Ho_blockAt h0 hr9) rfl (by decide) (by decide) rfl rfl (Nat.le_of_ble_eq_true rfl) (fun r4 S3 => ?_)
    refine iz_dup2 24 rfl rfl rfl ?_
    refine iz_iald 25 (sf_1_2 h0) rfl ?_
    refine iz_iload_n (n := 3) 26 3 rfl rfl ?_
    refine iz_isub 27 rfl ?_
    refine iz_iast 28 (sf_1_2 h0) rfl (fun S5 => ?_)
    refine iz_aload_n (n := 0) 29 0 rfl rfl ?_
    refine iz_dup 30 rfl rfl ?_
    refine iz_getI 31 7 h0 fl_X1_82 rfl (by decide) (by decide) rfl ?_
    refine iz_iload_n (n := 3) 32 3 rfl rfl ?_
    refine iz_iadd 33 rfl ?_
    refine iz_putI 34 7 h0 fl_X1_82 rfl (by decide) (by decide) rfl (fun S6 => ?_)
    refine iz_iinc (v := (x2 + 1)) (ls2 := [(0, .ref (X.1 a0)), (1, .int x1), (2, .int (x2 + 1))]) 35 2 [1, 2, 0] rfl rfl rfl (by decide) rfl ?_
    refine iz_goto (tgt := 10) 36 (by decide) rfl ?_
    exact hk10 x1 (x2 + 1) S6
theorem c_Ho_meltAll_10 {X : iz_X} {l : Launch} {a0 : Nat} (h0 : iz_sh a0 = (1 + 3, 13)) {k2 : Int32 → iz_S → Option iz_S} (hk2 : ∀ (x1 : Int32) (S : iz_S), iz_Y X l RX1 tX1_meltAll 4 4 (iz_Kc X l yX1_meltAll cX1_meltAll 4 none 4 iz_eV) 2 [(0, .ref (X.1 a0)), (1, .int x1)] [] S (k2 x1 S)) : ∀ (n9 : Nat) (x1 : Int32) (x2 : Int32) (S : iz_S), iz_Y X l RX1 tX1_meltAll 4 4 (iz_Kc X l yX1_meltAll cX1_meltAll 4 none 4 iz_eV) 10 [(0, .ref (X.1 a0)), (1, .int x1), (2, .int x2)] [] S (Ho_meltAll_10 a0 k2 n9 x1 x2 S)
  | 0 => by
    intros
    exact iz_none
  | n9 + 1 => c_Ho_meltAll_10b h0 hk2 (c_Ho_meltAll_10 h0 hk2 n9)
set_option maxRecDepth 10000 in
theorem c_Ho_meltAll_2b {X : iz_X} {l : Launch} {a0 : Nat} (h0 : iz_sh a0 = (1 + 3, 13)) {k2 : Int32 → iz_S → Option iz_S} (hk2 : ∀ (x1 : Int32) (S : iz_S), iz_Y X l RX1 tX1_meltAll 4 4 (iz_Kc X l yX1_meltAll cX1_meltAll 4 none 4 iz_eV) 2 [(0, .ref (X.1 a0)), (1, .int x1)] [] S (k2 x1 S)) (x1 : Int32) (S : iz_S) : iz_Y X l RX1 tX1_meltAll 4 4 (iz_Kc X l yX1_meltAll cX1_meltAll 4 none 4 iz_eV) 2 [(0, .ref (X.1 a0)), (1, .int x1)] [] S (Ho_meltAll_2b a0 k2 x1 S) := by
  unfold Ho_meltAll_2b
  refine iz_iload_n (n := 1) 2 1 rfl rfl ?_
  refine iz_bipush (v := 16) 3 (by decide) rfl ?_
  refine iz_cmp_ge (tgt := 64) 4 rfl (by decide) ?_ ?_
  · exact iz_vret 39 rfl
  · refine iz_iconst (v := 0) 5 (by decide) rfl ?_
    refine iz_istore_n (n := 2) (ls2 := [(0, .ref (X.1 a0)), (1, .int x1), (2, .int 0)]) 6 [1, 2, 0] rfl (by decide) rfl ?_
    exact c_Ho_meltAll_10 h0 hk2 iz_FU x1 0 S
theorem c_Ho_meltAll_2 {X : iz_X} {l : Launch} {a0 : Nat} (h0 : iz_sh a0 = (1 + 3, 13)) : ∀ (n9 : Nat) (x1 : Int32) (S : iz_S), iz_Y X l RX1 tX1_meltAll 4 4 (iz_Kc X l yX1_meltAll cX1_meltAll 4 none 4 iz_eV) 2 [(0, .ref (X.1 a0)), (1, .int x1)] [] S (Ho_meltAll_2 a0 n9 x1 S)
  | 0 => by
    intros
    exact iz_none
  | n9 + 1 => c_Ho_meltAll_2b h0 (c_Ho_meltAll_2 h0 n9)
set_option maxRecDepth 10000 in
theorem c_Ho_meltAll {X : iz_X} {l : Launch} {a0 : Nat} (h0 : iz_sh a0 = (1 + 3, 13)) (S : iz_S) : iz_Y X l RX1 tX1_meltAll 4 4 (iz_Kc X l yX1_meltAll cX1_meltAll 4 none 4 iz_eV) 0 [(0, .ref (X.1 a0))] [] S (Ho_meltAll a0 S) := by
  unfold Ho_meltAll
  refine iz_iconst (v := 0) 0 (by decide) rfl ?_
  refine iz_istore_n (n := 1) (ls2 := [(0, .ref (X.1 a0)), (1, .int 0)]) 1 [1, 0] rfl (by decide) rfl ?_
  exact c_Ho_meltAll_2 h0 iz_FU 0 S
theorem m_Ho_meltAll {X : iz_X} {l : Launch} {a0 : Nat} (h0 : iz_sh a0 = (1 + 3, 13)) {S : iz_S} {r9 : iz_S} (hr : Ho_meltAll a0 S = some r9) : iz_Mt X l 4 yX1_meltAll cX1_meltAll 4 none [.ref (X.1 a0)] S (iz_eV r9) :=
  iz_Mt_of (dt := tX1_meltAll) dX1_meltAll (by decide) hr (Nat.le_of_ble_eq_true rfl) (c_Ho_meltAll h0 S)
def Ho_dropMelted_40 (a0 : Nat) (k9 : Int32 → Int32 → iz_S → Option iz_S) (x1 : Int32) (x2 : Int32) (S : iz_S) : Option iz_S :=
  (k9 x1 (x2 + (-1)) S)
def Ho_dropMelted_9b (a0 : Nat) (k9 : Int32 → Int32 → iz_S → Option iz_S) (x1 : Int32) (x2 : Int32) (S : iz_S) : Option iz_S :=
  (if x2 < 0 then
    some S
  else
    (iz_bI (Ho_blockAt a0 x1 x2 S) (fun r3 S2 =>
    iz_ck (iz_in r3 60) (
    if (iz_g S2 (iz_rf a0 2) r3) = 0 then
      iz_bV (Ho_removeAt a0 x1 x2 S2) (fun S4 =>
      iz_bV (Ho_letGo a0 r3 S4) (fun S5 =>
      (Ho_dropMelted_40 a0 k9 x1 x2 S5)))
    else
      (Ho_dropMelted_40 a0 k9 x1 x2 S2)))))
def Ho_dropMelted_9 (a0 : Nat) : Nat → Int32 → Int32 → iz_S → Option iz_S
  | 0 => fun _ _ _ => none
  | n9 + 1 => Ho_dropMelted_9b a0 (Ho_dropMelted_9 a0 n9)
def Ho_dropMelted (a0 : Nat) (x1 : Int32) (S : iz_S) : Option iz_S :=
  iz_ck (iz_in x1 16) (
  iz_lt ((iz_g S (iz_rf a0 4) x1) - 1) (fun v1 =>
  (Ho_dropMelted_9 a0 iz_FU x1 v1 S)))
set_option maxRecDepth 10000 in
theorem c_Ho_dropMelted_40 {X : iz_X} {l : Launch} {a0 : Nat} (h0 : iz_sh a0 = (1 + 3, 13)) {k9 : Int32 → Int32 → iz_S → Option iz_S} (hk9 : ∀ (x1 : Int32) (x2 : Int32) (S : iz_S), iz_Y X l RX1 tX1_dropMelted 4 2 (iz_Kc X l yX1_dropMelted cX1_dropMelted 4 none 2 iz_eV) 9 [(0, .ref (X.1 a0)), (1, .int x1), (2, .int x2)] [] S (k9 x1 x2 S)) (x1 : Int32) (x2 : Int32) (S : iz_S) : iz_Y X l RX1 tX1_dropMelted 4 2 (iz_Kc X l yX1_dropMelted cX1_dropMelted 4 none 2 iz_eV) 40 [(0, .ref (X.1 a0)), (1, .int x1), (2, .int x2)] [] S (Ho_dropMelted_40 a0 k9 x1 x2 S) := by
  unfold Ho_dropMelted_40
  refine iz_iinc (v := (x2 + (-1))) (ls2 := [(0, .ref (X.1 a0)), (1, .int x1), (2, .int (x2 + (-1)))]) 26 2 [1, 2, 0] rfl rfl rfl (by decide) rfl ?_
  refine iz_goto (tgt := 9) 27 (by decide) rfl ?_
  exact hk9 x1 (x2 + (-1)) S
set_option maxRecDepth 10000 in
theorem c_Ho_dropMelted_9b {X : iz_X} {l : Launch} {a0 : Nat} (h0 : iz_sh a0 = (1 + 3, 13)) {k9 : Int32 → Int32 → iz_S → Option iz_S} (hk9 : ∀ (x1 : Int32) (x2 : Int32) (S : iz_S), iz_Y X l RX1 tX1_dropMelted 4 2 (iz_Kc X l yX1_dropMelted cX1_dropMelted 4 none 2 iz_eV) 9 [(0, .ref (X.1 a0)), (1, .int x1), (2, .int x2)] [] S (k9 x1 x2 S)) (x1 : Int32) (x2 : Int32) (S : iz_S) : iz_Y X l RX1 tX1_dropMelted 4 2 (iz_Kc X l yX1_dropMelted cX1_dropMelted 4 none 2 iz_eV) 9 [(0, .ref (X.1 a0)), (1, .int x1), (2, .int x2)] [] S (Ho_dropMelted_9b a0 k9 x1 x2 S) := by
  unfold Ho_dropMelted_9b
  refine iz_iload_n (n := 2) 7 2 rfl rfl ?_
  refine iz_if_lt (tgt := 46) 8 rfl (by decide) ?_ ?_
  · exact iz_vret 28 rfl
  · refine iz_aload_n (n := 0) 9 0 rfl rfl ?_
    refine iz_iload_n (n := 1) 10 1 rfl rfl ?_
    refine iz_iload_n (n := 2) 11 2 rfl rfl ?_
    refine iz_callVI (As := [.int x1, .int x2]) (rest := []) 12 ml_X1_48 cw_X1_blockAt ci_X1_blockAt h0 (fun r9 hr9 => m_Ho_blockAt h0 hr9) rfl (by decide) (by decide) rfl rfl (Nat.le_of_ble_eq_true rfl) (fun r3 S2 => ?_)
    refine iz_istore_n (n := 3) (ls2 := [(0, .ref (X.1 a0)), (1, .int x1), (2, .int x2), (3, .int r3)]) 13 [1, 2, 3, 0] rfl (by decide) rfl ?_
    refine iz_aload_n (n := 0) 14 0 rfl rfl ?_
    refine iz_getR 15 2 h0 fl_X1_15 rfl (by decide) (by decide) rfl ?_
    refine iz_iload_n (n := 3) 16 3 rfl rfl ?_
    refine iz_iald 17 (sf_1_2 h0) rfl ?_
    refine iz_if_ne (tgt := 40) 18 rfl (by decide) ?_ ?_
    · exact iz_sub [0, 1, 2] rfl (c_Ho_dropMelted_40 h0 hk9 x1 x2 S2)
    · refine iz_aload_n (n := 0) 19 0 rfl rfl ?_
      refine iz_iload_n (n := 1) 20 1 rfl rfl ?_
      refine iz_iload_n (n := 2) 21 2 rfl rfl ?_
      refine iz_callVV (As := [.int x1, .int x2]) (rest := []) 22 ml_X1_67 cw_X1_removeAt ci_X1_removeAt h0 (fun r9 hr9 => m_Ho_removeAt h0 hr9) rfl (by decide) (by decide) rfl rfl (Nat.le_of_ble_eq_true rfl) (fun S4 => ?_)
      refine iz_aload_n (n := 0) 23 0 rfl rfl ?_
      refine iz_iload_n (n := 3) 24 3 rfl rfl ?_
      refine iz_callVV (As := [.int r3]) (rest := []) 25 ml_X1_76 cw_X1_letGo ci_X1_letGo h0 (fun r9 hr9 => m_Ho_letGo h0 hr9) rfl (by decide) (by decide) rfl rfl (Nat.le_of_ble_eq_true rfl) (fun S5 => ?_)
      exact iz_sub [0, 1, 2] rfl (c_Ho_dropMelted_40 h0 hk9 x1 x2 S5)
theorem c_Ho_dropMelted_9 {X : iz_X} {l : Launch} {a0 : Nat} (h0 : iz_sh a0 = (1 + 3, 13)) : ∀ (n9 : Nat) (x1 : Int32) (x2 : Int32) (S : iz_S), iz_Y X l RX1 tX1_dropMelted 4 2 (iz_Kc X l yX1_dropMelted cX1_dropMelted 4 none 2 iz_eV) 9 [(0, .ref (X.1 a0)), (1, .int x1), (2, .int x2)] [] S (Ho_dropMelted_9 a0 n9 x1 x2 S)
  | 0 => by
    intros
    exact iz_none
  | n9 + 1 => c_Ho_dropMelted_9b h0 (c_Ho_dropMelted_9 h0 n9)
set_option maxRecDepth 10000 in
theorem c_Ho_dropMelted {X : iz_X} {l : Launch} {a0 : Nat} (h0 : iz_sh a0 = (1 + 3, 13)) (x1 : Int32) (S : iz_S) : iz_Y X l RX1 tX1_dropMelted 4 2 (iz_Kc X l yX1_dropMelted cX1_dropMelted 4 none 2 iz_eV) 0 [(0, .ref (X.1 a0)), (1, .int x1)] [] S (Ho_dropMelted a0 x1 S) := by
  unfold Ho_dropMelted
  refine iz_aload_n (n := 0) 0 0 rfl rfl ?_
  refine iz_getR 1 4 h0 fl_X1_21 rfl (by decide) (by decide) rfl ?_
  refine iz_iload_n (n := 1) 2 1 rfl rfl ?_
  refine iz_iald 3 (sf_1_4 h0) rfl ?_
  refine iz_iconst (v := 1) 4 (by decide) rfl ?_
  refine iz_isub 5 rfl ?_
  refine iz_let (fun v1 => ?_)
  refine iz_istore_n (n := 2) (ls2 := [(0, .ref (X.1 a0)), (1, .int x1), (2, .int v1)]) 6 [1, 2, 0] rfl (by decide) rfl ?_
  exact c_Ho_dropMelted_9 h0 iz_FU x1 v1 S
theorem m_Ho_dropMelted {X : iz_X} {l : Launch} {a0 : Nat} (h0 : iz_sh a0 = (1 + 3, 13)) {x1 : Int32} {S : iz_S} {r9 : iz_S} (hr : Ho_dropMelted a0 x1 S = some r9) : iz_Mt X l 2 yX1_dropMelted cX1_dropMelted 4 none [.ref (X.1 a0), .int x1] S (iz_eV r9) :=
  iz_Mt_of (dt := tX1_dropMelted) dX1_dropMelted (by decide) hr (Nat.le_of_ble_eq_true rfl) (c_Ho_dropMelted h0 x1 S)
def Ho_passWeeks_13b (a0 : Nat) (k2 : Int32 → Int32 → iz_S → Option iz_S) (k13 : Int32 → Int32 → Int32 → iz_S → Option iz_S) (x1 : Int32) (x2 : Int32) (x3 : Int32) (S : iz_S) : Option iz_S :=
  (if x3 < 16 then
    iz_bV (Ho_dropMelted a0 x3 S) (fun S3 =>
    iz_bV (Ho_breakShelves a0 x3 S3) (fun S4 =>
    (k13 x1 x2 (x3 + 1) S4)))
  else
    iz_lt (iz_up S a0 5 ((S.1 a0 5) + 1)) (fun S2 =>
    (k2 x1 (x2 + 1) S2)))
def Ho_passWeeks_13 (a0 : Nat) (k2 : Int32 → Int32 → iz_S → Option iz_S) : Nat → Int32 → Int32 → Int32 → iz_S → Option iz_S
  | 0 => fun _ _ _ _ => none
  | n9 + 1 => Ho_passWeeks_13b a0 k2 (Ho_passWeeks_13 a0 k2 n9)
def Ho_passWeeks_2b (a0 : Nat) (k2 : Int32 → Int32 → iz_S → Option iz_S) (x1 : Int32) (x2 : Int32) (S : iz_S) : Option iz_S :=
  (if x2 < x1 then
    iz_bV (Ho_meltAll a0 S) (fun S1 =>
    (Ho_passWeeks_13 a0 k2 iz_FU x1 x2 0 S1))
  else
    some S)
def Ho_passWeeks_2 (a0 : Nat) : Nat → Int32 → Int32 → iz_S → Option iz_S
  | 0 => fun _ _ _ => none
  | n9 + 1 => Ho_passWeeks_2b a0 (Ho_passWeeks_2 a0 n9)
def Ho_passWeeks (a0 : Nat) (x1 : Int32) (S : iz_S) : Option iz_S :=
  (Ho_passWeeks_2 a0 iz_FU x1 0 S)
set_option maxRecDepth 10000 in
theorem c_Ho_passWeeks_13b {X : iz_X} {l : Launch} {a0 : Nat} (h0 : iz_sh a0 = (1 + 3, 13)) {k2 : Int32 → Int32 → iz_S → Option iz_S} {k13 : Int32 → Int32 → Int32 → iz_S → Option iz_S} (hk2 : ∀ (x1 : Int32) (x2 : Int32) (S : iz_S), iz_Y X l RX1 tX1_passWeeks 4 5 (iz_Kc X l yX1_passWeeks cX1_passWeeks 4 none 5 iz_eV) 2 [(0, .ref (X.1 a0)), (1, .int x1), (2, .int x2)] [] S (k2 x1 x2 S)) (hk13 : ∀ (x1 : Int32) (x2 : Int32) (x3 : Int32) (S : iz_S), iz_Y X l RX1 tX1_passWeeks 4 5 (iz_Kc X l yX1_passWeeks cX1_passWeeks 4 none 5 iz_eV) 13 [(0, .ref (X.1 a0)), (1, .int x1), (2, .int x2), (3, .int x3)] [] S (k13 x1 x2 x3 S)) (x1 : Int32) (x2 : Int32) (x3 : Int32) (S : iz_S) : iz_Y X l RX1 tX1_passWeeks 4 5 (iz_Kc X l yX1_passWeeks cX1_passWeeks 4 none 5 iz_eV) 13 [(0, .ref (X.1 a0)), (1, .int x1), (2, .int x2), (3, .int x3)] [] S (Ho_passWeeks_13b a0 k2 k13 x1 x2 x3 S) := by
  unfold Ho_passWeeks_13b
  refine iz_iload_n (n := 3) 9 3 rfl rfl ?_
  refine iz_bipush (v := 16) 10 (by decide) rfl ?_
  refine iz_cmp_ge (tgt := 35) 11 rfl (by decide) ?_ ?_
  · refine iz_aload_n (n := 0) 20 0 rfl rfl ?_
    refine iz_dup 21 rfl rfl ?_
    refine iz_getI 22 5 h0 fl_X1_35 rfl (by decide) (by decide) rfl ?_
    refine iz_iconst (v := 1) 23 (by decide) rfl ?_
    refine iz_iadd 24 rfl ?_
    refine iz_putI 25 5 h0 fl_X1_35 rfl (by decide) (by decide) rfl (fun S2 => ?_)
    refine iz_iinc (v := (x2 + 1)) (ls2 := [(0, .ref (X.1 a0)), (1, .int x1), (2, .int (x2 + 1))]) 26 2 [1, 2, 0] rfl rfl rfl (by decide) rfl ?_
    refine iz_goto (tgt := 2) 27 (by decide) rfl ?_
    exact hk2 x1 (x2 + 1) S2
  · refine iz_aload_n (n := 0) 12 0 rfl rfl ?_
    refine iz_iload_n (n := 3) 13 3 rfl rfl ?_
    refine iz_callVV (As := [.int x3]) (rest := []) 14 ml_X1_133 cw_X1_dropMelted ci_X1_dropMelted h0 (fun r9 hr9 => m_Ho_dropMelted h0 hr9) rfl (by decide) (by decide) rfl rfl (Nat.le_of_ble_eq_true rfl) (fun S3 => ?_)
    refine iz_aload_n (n := 0) 15 0 rfl rfl ?_
    refine iz_iload_n (n := 3) 16 3 rfl rfl ?_
    refine iz_callVV (As := [.int x3]) (rest := []) 17 ml_X1_59 cw_X1_breakShelves ci_X1_breakShelves h0 (fun r9 hr9 => m_Ho_breakShelves h0 hr9) rfl (by decide) (by decide) rfl rfl (Nat.le_of_ble_eq_true rfl) (fun S4 => ?_)
    refine iz_iinc (v := (x3 + 1)) (ls2 := [(0, .ref (X.1 a0)), (1, .int x1), (2, .int x2), (3, .int (x3 + 1))]) 18 3 [1, 2, 3, 0] rfl rfl rfl (by decide) rfl ?_
    refine iz_goto (tgt := 13) 19 (by decide) rfl ?_
    exact hk13 x1 x2 (x3 + 1) S4
theorem c_Ho_passWeeks_13 {X : iz_X} {l : Launch} {a0 : Nat} (h0 : iz_sh a0 = (1 + 3, 13)) {k2 : Int32 → Int32 → iz_S → Option iz_S} (hk2 : ∀ (x1 : Int32) (x2 : Int32) (S : iz_S), iz_Y X l RX1 tX1_passWeeks 4 5 (iz_Kc X l yX1_passWeeks cX1_passWeeks 4 none 5 iz_eV) 2 [(0, .ref (X.1 a0)), (1, .int x1), (2, .int x2)] [] S (k2 x1 x2 S)) : ∀ (n9 : Nat) (x1 : Int32) (x2 : Int32) (x3 : Int32) (S : iz_S), iz_Y X l RX1 tX1_passWeeks 4 5 (iz_Kc X l yX1_passWeeks cX1_passWeeks 4 none 5 iz_eV) 13 [(0, .ref (X.1 a0)), (1, .int x1), (2, .int x2), (3, .int x3)] [] S (Ho_passWeeks_13 a0 k2 n9 x1 x2 x3 S)
  | 0 => by
    intros
    exact iz_none
  | n9 + 1 => c_Ho_passWeeks_13b h0 hk2 (c_Ho_passWeeks_13 h0 hk2 n9)
set_option maxRecDepth 10000 in
theorem c_Ho_passWeeks_2b {X : iz_X} {l : Launch} {a0 : Nat} (h0 : iz_sh a0 = (1 + 3, 13)) {k2 : Int32 → Int32 → iz_S → Option iz_S} (hk2 : ∀ (x1 : Int32) (x2 : Int32) (S : iz_S), iz_Y X l RX1 tX1_passWeeks 4 5 (iz_Kc X l yX1_passWeeks cX1_passWeeks 4 none 5 iz_eV) 2 [(0, .ref (X.1 a0)), (1, .int x1), (2, .int x2)] [] S (k2 x1 x2 S)) (x1 : Int32) (x2 : Int32) (S : iz_S) : iz_Y X l RX1 tX1_passWeeks 4 5 (iz_Kc X l yX1_passWeeks cX1_passWeeks 4 none 5 iz_eV) 2 [(0, .ref (X.1 a0)), (1, .int x1), (2, .int x2)] [] S (Ho_passWeeks_2b a0 k2 x1 x2 S) := by
  unfold Ho_passWeeks_2b
  refine iz_iload_n (n := 2) 2 2 rfl rfl ?_
  refine iz_iload_n (n := 1) 3 1 rfl rfl ?_
  refine iz_cmp_ge (tgt := 51) 4 rfl (by decide) ?_ ?_
  · exact iz_vret 28 rfl
  · refine iz_aload_n (n := 0) 5 0 rfl rfl ?_
    refine iz_callVV (As := []) (rest := []) 6 ml_X1_130 cw_X1_meltAll ci_X1_meltAll h0 (fun r9 hr9 => m_Ho_meltAll h0 hr9) rfl (by decide) (by decide) rfl rfl (Nat.le_of_ble_eq_true rfl) (fun S1 => ?_)
    refine iz_iconst (v := 0) 7 (by decide) rfl ?_
    refine iz_istore_n (n := 3) (ls2 := [(0, .ref (X.1 a0)), (1, .int x1), (2, .int x2), (3, .int 0)]) 8 [1, 2, 3, 0] rfl (by decide) rfl ?_
    exact c_Ho_passWeeks_13 h0 hk2 iz_FU x1 x2 0 S1
theorem c_Ho_passWeeks_2 {X : iz_X} {l : Launch} {a0 : Nat} (h0 : iz_sh a0 = (1 + 3, 13)) : ∀ (n9 : Nat) (x1 : Int32) (x2 : Int32) (S : iz_S), iz_Y X l RX1 tX1_passWeeks 4 5 (iz_Kc X l yX1_passWeeks cX1_passWeeks 4 none 5 iz_eV) 2 [(0, .ref (X.1 a0)), (1, .int x1), (2, .int x2)] [] S (Ho_passWeeks_2 a0 n9 x1 x2 S)
  | 0 => by
    intros
    exact iz_none
  | n9 + 1 => c_Ho_passWeeks_2b h0 (c_Ho_passWeeks_2 h0 n9)
set_option maxRecDepth 10000 in
theorem c_Ho_passWeeks {X : iz_X} {l : Launch} {a0 : Nat} (h0 : iz_sh a0 = (1 + 3, 13)) (x1 : Int32) (S : iz_S) : iz_Y X l RX1 tX1_passWeeks 4 5 (iz_Kc X l yX1_passWeeks cX1_passWeeks 4 none 5 iz_eV) 0 [(0, .ref (X.1 a0)), (1, .int x1)] [] S (Ho_passWeeks a0 x1 S) := by
  unfold Ho_passWeeks
  refine iz_iconst (v := 0) 0 (by decide) rfl ?_
  refine iz_istore_n (n := 2) (ls2 := [(0, .ref (X.1 a0)), (1, .int x1), (2, .int 0)]) 1 [1, 2, 0] rfl (by decide) rfl ?_
  exact c_Ho_passWeeks_2 h0 iz_FU x1 0 S
theorem m_Ho_passWeeks {X : iz_X} {l : Launch} {a0 : Nat} (h0 : iz_sh a0 = (1 + 3, 13)) {x1 : Int32} {S : iz_S} {r9 : iz_S} (hr : Ho_passWeeks a0 x1 S = some r9) : iz_Mt X l 5 yX1_passWeeks cX1_passWeeks 4 none [.ref (X.1 a0), .int x1] S (iz_eV r9) :=
  iz_Mt_of (dt := tX1_passWeeks) dX1_passWeeks (by decide) hr (Nat.le_of_ble_eq_true rfl) (c_Ho_passWeeks h0 x1 S)
def Or_has (a0 : Nat) (x1 : Int32) (S : iz_S) : Option (Int32 × iz_S) :=
  iz_bI (Ic_within x1 0 ((S.1 a0 0) - 1) S) (fun r2 S1 =>
  iz_ck (decide (iz_nb r2 = r2)) (some (r2, S1)))
set_option maxRecDepth 10000 in
theorem c_Or_has {X : iz_X} {l : Launch} {a0 : Nat} (h0 : iz_sh a0 = (3 + 3, 10)) (x1 : Int32) (S : iz_S) : iz_Y X l RX3 tX3_has 2 1 (iz_Kc X l yX3_has cX3_has 2 (some .boolean) 1 iz_eI) 0 [(0, .ref (X.1 a0)), (1, .int x1)] [] S (Or_has a0 x1 S) := by
  unfold Or_has
  refine iz_iload_n (n := 1) 0 1 rfl rfl ?_
  refine iz_iconst (v := 0) 1 (by decide) rfl ?_
  refine iz_aload_n (n := 0) 2 0 rfl rfl ?_
  refine iz_getI 3 0 h0 fl_X3_35 rfl (by decide) (by decide) rfl ?_
  refine iz_iconst (v := 1) 4 (by decide) rfl ?_
  refine iz_isub 5 rfl ?_
  refine iz_callSNI (As := [.int x1, .int 0, .int ((S.1 a0 0) - 1)]) (rest := []) 6 ml_X3_39 cw_X9_within ci_X9_within (fun r9 hr9 => m_Ic_within  hr9) rfl (by decide) rfl rfl (Nat.le_of_ble_eq_true rfl) (fun r2 S1 => ?_)
  exact iz_zret 7 rfl
theorem m_Or_has {X : iz_X} {l : Launch} {a0 : Nat} (h0 : iz_sh a0 = (3 + 3, 10)) {x1 : Int32} {S : iz_S} {r9 : Int32 × iz_S} (hr : Or_has a0 x1 S = some r9) : iz_Mt X l 1 yX3_has cX3_has 2 (some .boolean) [.ref (X.1 a0), .int x1] S (iz_eI r9) :=
  iz_Mt_of (dt := tX3_has) dX3_has (by decide) hr (Nat.le_of_ble_eq_true rfl) (c_Or_has h0 x1 S)
def Or_enter (a0 : Nat) (x1 : Int32) (x2 : Int32) (x3 : Int32) (x4 : Int32) (x5 : Int32) (S : iz_S) : Option (Int32 × iz_S) :=
  iz_ck (iz_in (S.1 a0 0) 10) (iz_lt (iz_s S (iz_rf a0 5) (S.1 a0 0) x1) (fun S1 =>
  iz_ck (iz_in (S1.1 a0 0) 10) (iz_lt (iz_s S1 (iz_rf a0 6) (S1.1 a0 0) x2) (fun S2 =>
  iz_ck (iz_in (S2.1 a0 0) 10) (iz_lt (iz_s S2 (iz_rf a0 7) (S2.1 a0 0) x3) (fun S3 =>
  iz_ck (iz_in (S3.1 a0 0) 10) (iz_lt (iz_s S3 (iz_rf a0 8) (S3.1 a0 0) x4) (fun S4 =>
  iz_ck (iz_in (S4.1 a0 0) 10) (iz_lt (iz_s S4 (iz_rf a0 3) (S4.1 a0 0) x5) (fun S5 =>
  iz_lt (iz_up S5 a0 0 ((S5.1 a0 0) + 1)) (fun S6 =>
  some (((S6.1 a0 0) - 1), S6))))))))))))
set_option maxRecDepth 10000 in
theorem c_Or_enter {X : iz_X} {l : Launch} {a0 : Nat} (h0 : iz_sh a0 = (3 + 3, 10)) (x1 : Int32) (x2 : Int32) (x3 : Int32) (x4 : Int32) (x5 : Int32) (S : iz_S) : iz_Y X l RX3 tX3_enter 6 0 (iz_Kc X l yX3_enter cX3_enter 6 (some .int) 0 iz_eI) 0 [(0, .ref (X.1 a0)), (1, .int x1), (2, .int x2), (3, .int x3), (4, .int x4), (5, .int x5)] [] S (Or_enter a0 x1 x2 x3 x4 x5 S) := by
  unfold Or_enter
  refine iz_aload_n (n := 0) 0 0 rfl rfl ?_
  refine iz_getR 1 5 h0 fl_X3_15 rfl (by decide) (by decide) rfl ?_
  refine iz_aload_n (n := 0) 2 0 rfl rfl ?_
  refine iz_getI 3 0 h0 fl_X3_35 rfl (by decide) (by decide) rfl ?_
  refine iz_iload_n (n := 1) 4 1 rfl rfl ?_
  refine iz_iast 5 (sf_3_5 h0) rfl (fun S1 => ?_)
  refine iz_aload_n (n := 0) 6 0 rfl rfl ?_
  refine iz_getR 7 6 h0 fl_X3_18 rfl (by decide) (by decide) rfl ?_
  refine iz_aload_n (n := 0) 8 0 rfl rfl ?_
  refine iz_getI 9 0 h0 fl_X3_35 rfl (by decide) (by decide) rfl ?_
  refine iz_iload_n (n := 2) 10 2 rfl rfl ?_
  refine iz_iast 11 (sf_3_6 h0) rfl (fun S2 => ?_)
  refine iz_aload_n (n := 0) 12 0 rfl rfl ?_
  refine iz_getR 13 7 h0 fl_X3_21 rfl (by decide) (by decide) rfl ?_
  refine iz_aload_n (n := 0) 14 0 rfl rfl ?_
  refine iz_getI 15 0 h0 fl_X3_35 rfl (by decide) (by decide) rfl ?_
  refine iz_iload_n (n := 3) 16 3 rfl rfl ?_
  refine iz_iast 17 (sf_3_7 h0) rfl (fun S3 => ?_)
  refine iz_aload_n (n := 0) 18 0 rfl rfl ?_
  refine iz_getR 19 8 h0 fl_X3_24 rfl (by decide) (by decide) rfl ?_
  refine iz_aload_n (n := 0) 20 0 rfl rfl ?_
  refine iz_getI 21 0 h0 fl_X3_35 rfl (by decide) (by decide) rfl ?_
  refine iz_iload (n := 4) 22 4 rfl rfl ?_
  refine iz_iast 23 (sf_3_8 h0) rfl (fun S4 => ?_)
  refine iz_aload_n (n := 0) 24 0 rfl rfl ?_
  refine iz_getR 25 3 h0 fl_X3_9 rfl (by decide) (by decide) rfl ?_
  refine iz_aload_n (n := 0) 26 0 rfl rfl ?_
  refine iz_getI 27 0 h0 fl_X3_35 rfl (by decide) (by decide) rfl ?_
  refine iz_iload (n := 5) 28 5 rfl rfl ?_
  refine iz_iast 29 (sf_3_3 h0) rfl (fun S5 => ?_)
  refine iz_aload_n (n := 0) 30 0 rfl rfl ?_
  refine iz_dup 31 rfl rfl ?_
  refine iz_getI 32 0 h0 fl_X3_35 rfl (by decide) (by decide) rfl ?_
  refine iz_iconst (v := 1) 33 (by decide) rfl ?_
  refine iz_iadd 34 rfl ?_
  refine iz_putI 35 0 h0 fl_X3_35 rfl (by decide) (by decide) rfl (fun S6 => ?_)
  refine iz_aload_n (n := 0) 36 0 rfl rfl ?_
  refine iz_getI 37 0 h0 fl_X3_35 rfl (by decide) (by decide) rfl ?_
  refine iz_iconst (v := 1) 38 (by decide) rfl ?_
  refine iz_isub 39 rfl ?_
  exact iz_iret 40 rfl
theorem m_Or_enter {X : iz_X} {l : Launch} {a0 : Nat} (h0 : iz_sh a0 = (3 + 3, 10)) {x1 : Int32} {x2 : Int32} {x3 : Int32} {x4 : Int32} {x5 : Int32} {S : iz_S} {r9 : Int32 × iz_S} (hr : Or_enter a0 x1 x2 x3 x4 x5 S = some r9) : iz_Mt X l 0 yX3_enter cX3_enter 6 (some .int) [.ref (X.1 a0), .int x1, .int x2, .int x3, .int x4, .int x5] S (iz_eI r9) :=
  iz_Mt_of (dt := tX3_enter) dX3_enter (by decide) hr (Nat.le_of_ble_eq_true rfl) (c_Or_enter h0 x1 x2 x3 x4 x5 S)
def Or_isOfGrade_30 (s0 : Int32) (S : iz_S) : Option (Int32 × iz_S) :=
  iz_ck (decide (iz_nb s0 = s0)) (some (s0, S))
def Or_isOfGrade_25 (S : iz_S) : Option (Int32 × iz_S) :=
  (Or_isOfGrade_30 1 S)
def Or_isOfGrade_17 (x0 : Int32) (S : iz_S) : Option (Int32 × iz_S) :=
  (iz_bI (Ic_isUnder x0 1 S) (fun r4 S3 =>
  if r4 = 0 then
    (Or_isOfGrade_30 0 S3)
  else
    (Or_isOfGrade_25 S3)))
def Or_isOfGrade (x0 : Int32) (x1 : Int32) (S : iz_S) : Option (Int32 × iz_S) :=
  (if x1 = 0 then
    (Or_isOfGrade_25 S)
  else
    (if x1 = 1 then
      (iz_bI (Ic_isUnder x0 2 S) (fun r2 S1 =>
      if r2 = 0 then
        (Or_isOfGrade_25 S1)
      else
        (Or_isOfGrade_17 x0 S1)))
    else
      (Or_isOfGrade_17 x0 S)))
set_option maxRecDepth 10000 in
theorem c_Or_isOfGrade_30 {X : iz_X} {l : Launch} (s0 : Int32) (S : iz_S) : iz_Y X l RX3 tX3_isOfGrade 2 2 (iz_Kc X l yX3_isOfGrade cX3_isOfGrade 2 (some .boolean) 2 iz_eI) 30 [] [.int s0] S (Or_isOfGrade_30 s0 S) := by
  unfold Or_isOfGrade_30
  exact iz_zret 16 rfl
set_option maxRecDepth 10000 in
theorem c_Or_isOfGrade_25 {X : iz_X} {l : Launch} (S : iz_S) : iz_Y X l RX3 tX3_isOfGrade 2 2 (iz_Kc X l yX3_isOfGrade cX3_isOfGrade 2 (some .boolean) 2 iz_eI) 25 [] [] S (Or_isOfGrade_25 S) := by
  unfold Or_isOfGrade_25
  refine iz_iconst (v := 1) 13 (by decide) rfl ?_
  refine iz_goto (tgt := 30) 14 (by decide) rfl ?_
  exact c_Or_isOfGrade_30 1 S
set_option maxRecDepth 10000 in
theorem c_Or_isOfGrade_17 {X : iz_X} {l : Launch} (x0 : Int32) (S : iz_S) : iz_Y X l RX3 tX3_isOfGrade 2 2 (iz_Kc X l yX3_isOfGrade cX3_isOfGrade 2 (some .boolean) 2 iz_eI) 17 [(0, .int x0)] [] S (Or_isOfGrade_17 x0 S) := by
  unfold Or_isOfGrade_17
  refine iz_iload_n (n := 0) 9 0 rfl rfl ?_
  refine iz_iconst (v := 1) 10 (by decide) rfl ?_
  refine iz_callSNI (As := [.int x0, .int 1]) (rest := []) 11 ml_X3_59 cw_X9_isUnder ci_X9_isUnder (fun r9 hr9 => m_Ic_isUnder  hr9) rfl (by decide) rfl rfl (Nat.le_of_ble_eq_true rfl) (fun r4 S3 => ?_)
  refine iz_if_eq (tgt := 29) 12 rfl (by decide) ?_ ?_
  · refine iz_iconst (v := 0) 15 (by decide) rfl ?_
    exact iz_sub [] rfl (c_Or_isOfGrade_30 0 S3)
  · exact iz_sub [] rfl (c_Or_isOfGrade_25 S3)
set_option maxRecDepth 10000 in
theorem c_Or_isOfGrade {X : iz_X} {l : Launch} (x0 : Int32) (x1 : Int32) (S : iz_S) : iz_Y X l RX3 tX3_isOfGrade 2 2 (iz_Kc X l yX3_isOfGrade cX3_isOfGrade 2 (some .boolean) 2 iz_eI) 0 [(0, .int x0), (1, .int x1)] [] S (Or_isOfGrade x0 x1 S) := by
  unfold Or_isOfGrade
  refine iz_iload_n (n := 1) 0 1 rfl rfl ?_
  refine iz_if_eq (tgt := 25) 1 rfl (by decide) ?_ ?_
  · exact iz_sub [] rfl (c_Or_isOfGrade_25 S)
  · refine iz_iload_n (n := 1) 2 1 rfl rfl ?_
    refine iz_iconst (v := 1) 3 (by decide) rfl ?_
    refine iz_cmp_ne (tgt := 17) 4 rfl (by decide) ?_ ?_
    · exact iz_sub [0] rfl (c_Or_isOfGrade_17 x0 S)
    · refine iz_iload_n (n := 0) 5 0 rfl rfl ?_
      refine iz_iconst (v := 2) 6 (by decide) rfl ?_
      refine iz_callSNI (As := [.int x0, .int 2]) (rest := []) 7 ml_X3_59 cw_X9_isUnder ci_X9_isUnder (fun r9 hr9 => m_Ic_isUnder  hr9) rfl (by decide) rfl rfl (Nat.le_of_ble_eq_true rfl) (fun r2 S1 => ?_)
      refine iz_if_eq (tgt := 25) 8 rfl (by decide) ?_ ?_
      · exact iz_sub [] rfl (c_Or_isOfGrade_25 S1)
      · exact iz_sub [0] rfl (c_Or_isOfGrade_17 x0 S1)
theorem m_Or_isOfGrade {X : iz_X} {l : Launch} {x0 : Int32} {x1 : Int32} {S : iz_S} {r9 : Int32 × iz_S} (hr : Or_isOfGrade x0 x1 S = some r9) : iz_Mt X l 2 yX3_isOfGrade cX3_isOfGrade 2 (some .boolean) [.int x0, .int x1] S (iz_eI r9) :=
  iz_Mt_of (dt := tX3_isOfGrade) dX3_isOfGrade (by decide) hr (Nat.le_of_ble_eq_true rfl) (c_Or_isOfGrade x0 x1 S)
def Or_whatComes (a0 : Nat) (x1 : Int32) (x2 : Int32) (S : iz_S) : Option (Int32 × iz_S) :=
  iz_ck (iz_in x1 10) (
  iz_bI (Sh_warmthOf (iz_rf (iz_rf a0 4) 11) (S.1 (iz_rf a0 4) 5) S) (fun r2 S1 =>
  iz_lt (((iz_g S (iz_rf a0 8) x1) * r2) / 10) (fun v3 =>
  iz_ck (iz_in x2 60) (
  some ((if 0 < ((iz_g S1 (iz_rf (iz_rf a0 4) 2) x2) - v3) then ((iz_g S1 (iz_rf (iz_rf a0 4) 2) x2) - v3) else 0), S1)))))
set_option maxRecDepth 10000 in
theorem c_Or_whatComes {X : iz_X} {l : Launch} {a0 : Nat} (h0 : iz_sh a0 = (3 + 3, 10)) (x1 : Int32) (x2 : Int32) (S : iz_S) : iz_Y X l RX3 tX3_whatComes 4 2 (iz_Kc X l yX3_whatComes cX3_whatComes 4 (some .int) 2 iz_eI) 0 [(0, .ref (X.1 a0)), (1, .int x1), (2, .int x2)] [] S (Or_whatComes a0 x1 x2 S) := by
  unfold Or_whatComes
  refine iz_aload_n (n := 0) 0 0 rfl rfl ?_
  refine iz_getR 1 8 h0 fl_X3_24 rfl (by decide) (by decide) rfl ?_
  refine iz_iload_n (n := 1) 2 1 rfl rfl ?_
  refine iz_iald 3 (sf_3_8 h0) rfl ?_
  refine iz_aload_n (n := 0) 4 0 rfl rfl ?_
  refine iz_getR 5 4 h0 fl_X3_31 rfl (by decide) (by decide) rfl ?_
  refine iz_getR 6 11 (sf_3_4 h0) fl_X3_62 rfl (by decide) (by decide) rfl ?_
  refine iz_aload_n (n := 0) 7 0 rfl rfl ?_
  refine iz_getR 8 4 h0 fl_X3_31 rfl (by decide) (by decide) rfl ?_
  refine iz_getI 9 5 (sf_3_4 h0) fl_X3_43 rfl (by decide) (by decide) rfl ?_
  refine iz_callVI (As := [.int (S.1 (iz_rf a0 4) 5)]) (rest := [.int (iz_g S (iz_rf a0 8) x1)]) 10 ml_X3_66 cw_X7_warmthOf ci_X7_warmthOf (sf_1_11 (sf_3_4 h0)) (fun r9 hr9 => m_Sh_warmthOf (sf_1_11 (sf_3_4 h0)) hr9) rfl (by decide) (by decide) rfl rfl (Nat.le_of_ble_eq_true rfl) (fun r2 S1 => ?_)
  refine iz_imul 11 rfl ?_
  refine iz_bipush (v := 10) 12 (by decide) rfl ?_
  refine iz_idiv 13 (by decide) rfl ?_
  refine iz_let (fun v3 => ?_)
  refine iz_istore_n (n := 3) (ls2 := [(0, .ref (X.1 a0)), (2, .int x2), (3, .int v3)]) 14 [1, 3, 0] rfl (by decide) rfl ?_
  refine iz_iconst (v := 0) 15 (by decide) rfl ?_
  refine iz_aload_n (n := 0) 16 0 rfl rfl ?_
  refine iz_getR 17 4 h0 fl_X3_31 rfl (by decide) (by decide) rfl ?_
  refine iz_getR 18 2 (sf_3_4 h0) fl_X3_72 rfl (by decide) (by decide) rfl ?_
  refine iz_iload_n (n := 2) 19 1 rfl rfl ?_
  refine iz_iald 20 (sf_1_2 (sf_3_4 h0)) rfl ?_
  refine iz_iload_n (n := 3) 21 2 rfl rfl ?_
  refine iz_isub 22 rfl ?_
  refine iz_mmax 23 mm_X3_75 (by decide) (Nat.le_of_ble_eq_true rfl) rfl ?_
  exact iz_iret 24 rfl
theorem m_Or_whatComes {X : iz_X} {l : Launch} {a0 : Nat} (h0 : iz_sh a0 = (3 + 3, 10)) {x1 : Int32} {x2 : Int32} {S : iz_S} {r9 : Int32 × iz_S} (hr : Or_whatComes a0 x1 x2 S = some r9) : iz_Mt X l 2 yX3_whatComes cX3_whatComes 4 (some .int) [.ref (X.1 a0), .int x1, .int x2] S (iz_eI r9) :=
  iz_Mt_of (dt := tX3_whatComes) dX3_whatComes (by decide) hr (Nat.le_of_ble_eq_true rfl) (c_Or_whatComes h0 x1 x2 S)
def Or_hindrance_78 (a0 : Nat) (s0 : Int32) (S : iz_S) : Option (Int32 × iz_S) :=
  some (s0, S)
def Or_hindrance (a0 : Nat) (x1 : Int32) (x2 : Int32) (S : iz_S) : Option (Int32 × iz_S) :=
  (iz_ck (iz_in x1 10) (
  if (iz_g S (iz_rf a0 9) x1) = 0 then
    (iz_ck (iz_in x1 10) (
    if (S.1 (iz_rf a0 4) 5) ≤ (iz_g S (iz_rf a0 7) x1) then
      (if x2 < 0 then
        some (3, S)
      else
        (iz_ck (iz_in x2 60) (
        iz_ck (iz_in x1 10) (
        iz_bI (Or_isOfGrade (iz_g S (iz_rf (iz_rf a0 4) 1) x2) (iz_g S (iz_rf a0 5) x1) S) (fun r2 S1 =>
        if r2 = 0 then
          some (4, S1)
        else
          (iz_bI (Or_whatComes a0 x1 x2 S1) (fun r4 S3 =>
          iz_ck (iz_in x1 10) (
          if r4 < (iz_g S3 (iz_rf a0 6) x1) then
            (Or_hindrance_78 a0 5 S3)
          else
            (Or_hindrance_78 a0 0 S3)))))))))
    else
      some (2, S)))
  else
    some (1, S)))
set_option maxRecDepth 10000 in
theorem c_Or_hindrance_78 {X : iz_X} {l : Launch} {a0 : Nat} (h0 : iz_sh a0 = (3 + 3, 10)) (s0 : Int32) (S : iz_S) : iz_Y X l RX3 tX3_hindrance 3 3 (iz_Kc X l yX3_hindrance cX3_hindrance 3 (some .int) 3 iz_eI) 78 [] [.int s0] S (Or_hindrance_78 a0 s0 S) := by
  unfold Or_hindrance_78
  exact iz_iret 46 rfl
set_option maxRecDepth 10000 in
theorem c_Or_hindrance {X : iz_X} {l : Launch} {a0 : Nat} (h0 : iz_sh a0 = (3 + 3, 10)) (x1 : Int32) (x2 : Int32) (S : iz_S) : iz_Y X l RX3 tX3_hindrance 3 3 (iz_Kc X l yX3_hindrance cX3_hindrance 3 (some .int) 3 iz_eI) 0 [(0, .ref (X.1 a0)), (1, .int x1), (2, .int x2)] [] S (Or_hindrance a0 x1 x2 S) := by
  unfold Or_hindrance
  refine iz_aload_n (n := 0) 0 0 rfl rfl ?_
  refine iz_getR 1 9 h0 fl_X3_27 rfl (by decide) (by decide) rfl ?_
  refine iz_iload_n (n := 1) 2 1 rfl rfl ?_
  refine iz_bald 3 (sf_3_9 h0) rfl ?_
  refine iz_if_eq (tgt := 11) 4 rfl (by decide) ?_ ?_
  · refine iz_aload_n (n := 0) 7 0 rfl rfl ?_
    refine iz_getR 8 4 h0 fl_X3_31 rfl (by decide) (by decide) rfl ?_
    refine iz_getI 9 5 (sf_3_4 h0) fl_X3_43 rfl (by decide) (by decide) rfl ?_
    refine iz_aload_n (n := 0) 10 0 rfl rfl ?_
    refine iz_getR 11 7 h0 fl_X3_21 rfl (by decide) (by decide) rfl ?_
    refine iz_iload_n (n := 1) 12 1 rfl rfl ?_
    refine iz_iald 13 (sf_3_7 h0) rfl ?_
    refine iz_cmp_le (tgt := 29) 14 rfl (by decide) ?_ ?_
    · refine iz_iload_n (n := 2) 17 2 rfl rfl ?_
      refine iz_if_ge (tgt := 35) 18 rfl (by decide) ?_ ?_
      · refine iz_aload_n (n := 0) 21 0 rfl rfl ?_
        refine iz_getR 22 4 h0 fl_X3_31 rfl (by decide) (by decide) rfl ?_
        refine iz_getR 23 1 (sf_3_4 h0) fl_X3_48 rfl (by decide) (by decide) rfl ?_
        refine iz_iload_n (n := 2) 24 2 rfl rfl ?_
        refine iz_iald 25 (sf_1_1 (sf_3_4 h0)) rfl ?_
        refine iz_aload_n (n := 0) 26 0 rfl rfl ?_
        refine iz_getR 27 5 h0 fl_X3_15 rfl (by decide) (by decide) rfl ?_
        refine iz_iload_n (n := 1) 28 1 rfl rfl ?_
        refine iz_iald 29 (sf_3_5 h0) rfl ?_
        refine iz_callSI (As := [.int (iz_g S (iz_rf (iz_rf a0 4) 1) x2), .int (iz_g S (iz_rf a0 5) x1)]) (rest := []) 30 ml_X3_51 cw_X3_isOfGrade ci_X3_isOfGrade (fun r9 hr9 => m_Or_isOfGrade  hr9) rfl (by decide) rfl rfl (Nat.le_of_ble_eq_true rfl) (fun r2 S1 => ?_)
        refine iz_if_ne (tgt := 58) 31 rfl (by decide) ?_ ?_
        · refine iz_aload_n (n := 0) 34 0 rfl rfl ?_
          refine iz_iload_n (n := 1) 35 1 rfl rfl ?_
          refine iz_iload_n (n := 2) 36 2 rfl rfl ?_
          refine iz_callVI (As := [.int x1, .int x2]) (rest := []) 37 ml_X3_55 cw_X3_whatComes ci_X3_whatComes h0 (fun r9 hr9 => m_Or_whatComes h0 hr9) rfl (by decide) (by decide) rfl rfl (Nat.le_of_ble_eq_true rfl) (fun r4 S3 => ?_)
          refine iz_aload_n (n := 0) 38 0 rfl rfl ?_
          refine iz_getR 39 6 h0 fl_X3_18 rfl (by decide) (by decide) rfl ?_
          refine iz_iload_n (n := 1) 40 1 rfl rfl ?_
          refine iz_iald 41 (sf_3_6 h0) rfl ?_
          refine iz_cmp_ge (tgt := 77) 42 rfl (by decide) ?_ ?_
          · refine iz_iconst (v := 0) 45 (by decide) rfl ?_
            exact iz_sub [] rfl (c_Or_hindrance_78 h0 0 S3)
          · refine iz_iconst (v := 5) 43 (by decide) rfl ?_
            refine iz_goto (tgt := 78) 44 (by decide) rfl ?_
            exact iz_sub [] rfl (c_Or_hindrance_78 h0 5 S3)
        · refine iz_iconst (v := 4) 32 (by decide) rfl ?_
          exact iz_iret 33 rfl
      · refine iz_iconst (v := 3) 19 (by decide) rfl ?_
        exact iz_iret 20 rfl
    · refine iz_iconst (v := 2) 15 (by decide) rfl ?_
      exact iz_iret 16 rfl
  · refine iz_iconst (v := 1) 5 (by decide) rfl ?_
    exact iz_iret 6 rfl
theorem m_Or_hindrance {X : iz_X} {l : Launch} {a0 : Nat} (h0 : iz_sh a0 = (3 + 3, 10)) {x1 : Int32} {x2 : Int32} {S : iz_S} {r9 : Int32 × iz_S} (hr : Or_hindrance a0 x1 x2 S = some r9) : iz_Mt X l 3 yX3_hindrance cX3_hindrance 3 (some .int) [.ref (X.1 a0), .int x1, .int x2] S (iz_eI r9) :=
  iz_Mt_of (dt := tX3_hindrance) dX3_hindrance (by decide) hr (Nat.le_of_ble_eq_true rfl) (c_Or_hindrance h0 x1 x2 S)
def Or_fulfil (a0 : Nat) (x1 : Int32) (x2 : Int32) (S : iz_S) : Option (Int32 × iz_S) :=
  iz_bI (Ho_topOf (iz_rf a0 4) x2 S) (fun r2 S1 =>
  iz_bI (Or_whatComes a0 x1 r2 S1) (fun r4 S3 =>
  iz_bV (Ho_sellTop (iz_rf a0 4) x2 r4 S3) (fun S5 =>
  iz_ck (iz_in x1 10) (iz_lt (iz_s S5 (iz_rf a0 9) x1 (iz_nb 1)) (fun S6 =>
  iz_lt (iz_up S6 a0 1 ((S6.1 a0 1) + 1)) (fun S7 =>
  iz_ck (iz_in x1 10) (
  iz_lt (iz_up S7 a0 2 ((S7.1 a0 2) + (iz_g S7 (iz_rf a0 3) x1))) (fun S8 =>
  some (r4, S8)))))))))
set_option maxRecDepth 10000 in
theorem c_Or_fulfil {X : iz_X} {l : Launch} {a0 : Nat} (h0 : iz_sh a0 = (3 + 3, 10)) (x1 : Int32) (x2 : Int32) (S : iz_S) : iz_Y X l RX3 tX3_fulfil 4 5 (iz_Kc X l yX3_fulfil cX3_fulfil 4 (some .int) 5 iz_eI) 0 [(0, .ref (X.1 a0)), (1, .int x1), (2, .int x2)] [] S (Or_fulfil a0 x1 x2 S) := by
  unfold Or_fulfil
  refine iz_aload_n (n := 0) 0 0 rfl rfl ?_
  refine iz_iload_n (n := 1) 1 1 rfl rfl ?_
  refine iz_aload_n (n := 0) 2 0 rfl rfl ?_
  refine iz_getR 3 4 h0 fl_X3_31 rfl (by decide) (by decide) rfl ?_
  refine iz_iload_n (n := 2) 4 2 rfl rfl ?_
  refine iz_callVI (As := [.int x2]) (rest := [.int x1, .ref (X.1 a0)]) 5 ml_X3_80 cw_X1_topOf ci_X1_topOf (sf_3_4 h0) (fun r9 hr9 => m_Ho_topOf (sf_3_4 h0) hr9) rfl (by decide) (by decide) rfl rfl (Nat.le_of_ble_eq_true rfl) (fun r2 S1 => ?_)
  refine iz_callVI (As := [.int x1, .int r2]) (rest := []) 6 ml_X3_55 cw_X3_whatComes ci_X3_whatComes h0 (fun r9 hr9 => m_Or_whatComes h0 hr9) rfl (by decide) (by decide) rfl rfl (Nat.le_of_ble_eq_true rfl) (fun r4 S3 => ?_)
  refine iz_istore_n (n := 3) (ls2 := [(0, .ref (X.1 a0)), (1, .int x1), (2, .int x2), (3, .int r4)]) 7 [1, 2, 3, 0] rfl (by decide) rfl ?_
  refine iz_aload_n (n := 0) 8 0 rfl rfl ?_
  refine iz_getR 9 4 h0 fl_X3_31 rfl (by decide) (by decide) rfl ?_
  refine iz_iload_n (n := 2) 10 2 rfl rfl ?_
  refine iz_iload_n (n := 3) 11 3 rfl rfl ?_
  refine iz_callVV (As := [.int x2, .int r4]) (rest := []) 12 ml_X3_83 cw_X1_sellTop ci_X1_sellTop (sf_3_4 h0) (fun r9 hr9 => m_Ho_sellTop (sf_3_4 h0) hr9) rfl (by decide) (by decide) rfl rfl (Nat.le_of_ble_eq_true rfl) (fun S5 => ?_)
  refine iz_aload_n (n := 0) 13 0 rfl rfl ?_
  refine iz_getR 14 9 h0 fl_X3_27 rfl (by decide) (by decide) rfl ?_
  refine iz_iload_n (n := 1) 15 1 rfl rfl ?_
  refine iz_iconst (v := 1) 16 (by decide) rfl ?_
  refine iz_bast 17 (sf_3_9 h0) rfl (fun S6 => ?_)
  refine iz_aload_n (n := 0) 18 0 rfl rfl ?_
  refine iz_dup 19 rfl rfl ?_
  refine iz_getI 20 1 h0 fl_X3_87 rfl (by decide) (by decide) rfl ?_
  refine iz_iconst (v := 1) 21 (by decide) rfl ?_
  refine iz_iadd 22 rfl ?_
  refine iz_putI 23 1 h0 fl_X3_87 rfl (by decide) (by decide) rfl (fun S7 => ?_)
  refine iz_aload_n (n := 0) 24 0 rfl rfl ?_
  refine iz_dup 25 rfl rfl ?_
  refine iz_getI 26 2 h0 fl_X3_90 rfl (by decide) (by decide) rfl ?_
  refine iz_aload_n (n := 0) 27 0 rfl rfl ?_
  refine iz_getR 28 3 h0 fl_X3_9 rfl (by decide) (by decide) rfl ?_
  refine iz_iload_n (n := 1) 29 1 rfl rfl ?_
  refine iz_iald 30 (sf_3_3 h0) rfl ?_
  refine iz_iadd 31 rfl ?_
  refine iz_putI 32 2 h0 fl_X3_90 rfl (by decide) (by decide) rfl (fun S8 => ?_)
  refine iz_iload_n (n := 3) 33 3 rfl rfl ?_
  exact iz_iret 34 rfl
theorem m_Or_fulfil {X : iz_X} {l : Launch} {a0 : Nat} (h0 : iz_sh a0 = (3 + 3, 10)) {x1 : Int32} {x2 : Int32} {S : iz_S} {r9 : Int32 × iz_S} (hr : Or_fulfil a0 x1 x2 S = some r9) : iz_Mt X l 5 yX3_fulfil cX3_fulfil 4 (some .int) [.ref (X.1 a0), .int x1, .int x2] S (iz_eI r9) :=
  iz_Mt_of (dt := tX3_fulfil) dX3_fulfil (by decide) hr (Nat.le_of_ble_eq_true rfl) (c_Or_fulfil h0 x1 x2 S)
def Ra_describe (a0 : Nat) (x1 : Int32) (x2 : Int32) (x3 : Int32) (x4 : Int32) (S : iz_S) : Option iz_S :=
  iz_ck (iz_in x1 9) (iz_lt (iz_s S (iz_rf a0 2) x1 x2) (fun S1 =>
  iz_ck (iz_in x1 9) (iz_lt (iz_s S1 (iz_rf a0 1) x1 x3) (fun S2 =>
  iz_ck (iz_in x1 9) (iz_lt (iz_s S2 (iz_rf a0 3) x1 x4) (fun S3 =>
  some S3))))))
set_option maxRecDepth 10000 in
theorem c_Ra_describe {X : iz_X} {l : Launch} {a0 : Nat} (h0 : iz_sh a0 = (4 + 3, 6)) (x1 : Int32) (x2 : Int32) (x3 : Int32) (x4 : Int32) (S : iz_S) : iz_Y X l RX4 tX4_describe 5 0 (iz_Kc X l yX4_describe cX4_describe 5 none 0 iz_eV) 0 [(0, .ref (X.1 a0)), (1, .int x1), (2, .int x2), (3, .int x3), (4, .int x4)] [] S (Ra_describe a0 x1 x2 x3 x4 S) := by
  unfold Ra_describe
  refine iz_aload_n (n := 0) 0 0 rfl rfl ?_
  refine iz_getR 1 2 h0 fl_X4_15 rfl (by decide) (by decide) rfl ?_
  refine iz_iload_n (n := 1) 2 1 rfl rfl ?_
  refine iz_iload_n (n := 2) 3 2 rfl rfl ?_
  refine iz_iast 4 (sf_4_2 h0) rfl (fun S1 => ?_)
  refine iz_aload_n (n := 0) 5 0 rfl rfl ?_
  refine iz_getR 6 1 h0 fl_X4_9 rfl (by decide) (by decide) rfl ?_
  refine iz_iload_n (n := 1) 7 1 rfl rfl ?_
  refine iz_iload_n (n := 3) 8 3 rfl rfl ?_
  refine iz_iast 9 (sf_4_1 h0) rfl (fun S2 => ?_)
  refine iz_aload_n (n := 0) 10 0 rfl rfl ?_
  refine iz_getR 11 3 h0 fl_X4_18 rfl (by decide) (by decide) rfl ?_
  refine iz_iload_n (n := 1) 12 1 rfl rfl ?_
  refine iz_iload (n := 4) 13 4 rfl rfl ?_
  refine iz_iast 14 (sf_4_3 h0) rfl (fun S3 => ?_)
  exact iz_vret 15 rfl
theorem m_Ra_describe {X : iz_X} {l : Launch} {a0 : Nat} (h0 : iz_sh a0 = (4 + 3, 6)) {x1 : Int32} {x2 : Int32} {x3 : Int32} {x4 : Int32} {S : iz_S} {r9 : iz_S} (hr : Ra_describe a0 x1 x2 x3 x4 S = some r9) : iz_Mt X l 0 yX4_describe cX4_describe 5 none [.ref (X.1 a0), .int x1, .int x2, .int x3, .int x4] S (iz_eV r9) :=
  iz_Mt_of (dt := tX4_describe) dX4_describe (by decide) hr (Nat.le_of_ble_eq_true rfl) (c_Ra_describe h0 x1 x2 x3 x4 S)
def Ra_enter (a0 : Nat) (x1 : Int32) (x2 : Int32) (x3 : Int32) (S : iz_S) : Option (Int32 × iz_S) :=
  iz_bV (Ra_describe a0 (S.1 a0 0) x1 x2 x3 S) (fun S1 =>
  iz_lt (iz_up S1 a0 0 ((S1.1 a0 0) + 1)) (fun S2 =>
  some ((S2.1 a0 0), S2)))
set_option maxRecDepth 10000 in
theorem c_Ra_enter {X : iz_X} {l : Launch} {a0 : Nat} (h0 : iz_sh a0 = (4 + 3, 6)) (x1 : Int32) (x2 : Int32) (x3 : Int32) (S : iz_S) : iz_Y X l RX4 tX4_enter 4 1 (iz_Kc X l yX4_enter cX4_enter 4 (some .int) 1 iz_eI) 0 [(0, .ref (X.1 a0)), (1, .int x1), (2, .int x2), (3, .int x3)] [] S (Ra_enter a0 x1 x2 x3 S) := by
  unfold Ra_enter
  refine iz_aload_n (n := 0) 0 0 rfl rfl ?_
  refine iz_aload_n (n := 0) 1 0 rfl rfl ?_
  refine iz_getI 2 0 h0 fl_X4_29 rfl (by decide) (by decide) rfl ?_
  refine iz_iload_n (n := 1) 3 1 rfl rfl ?_
  refine iz_iload_n (n := 2) 4 2 rfl rfl ?_
  refine iz_iload_n (n := 3) 5 3 rfl rfl ?_
  refine iz_callVV (As := [.int (S.1 a0 0), .int x1, .int x2, .int x3]) (rest := []) 6 ml_X4_33 cw_X4_describe ci_X4_describe h0 (fun r9 hr9 => m_Ra_describe h0 hr9) rfl (by decide) (by decide) rfl rfl (Nat.le_of_ble_eq_true rfl) (fun S1 => ?_)
  refine iz_aload_n (n := 0) 7 0 rfl rfl ?_
  refine iz_dup 8 rfl rfl ?_
  refine iz_getI 9 0 h0 fl_X4_29 rfl (by decide) (by decide) rfl ?_
  refine iz_iconst (v := 1) 10 (by decide) rfl ?_
  refine iz_iadd 11 rfl ?_
  refine iz_putI 12 0 h0 fl_X4_29 rfl (by decide) (by decide) rfl (fun S2 => ?_)
  refine iz_aload_n (n := 0) 13 0 rfl rfl ?_
  refine iz_getI 14 0 h0 fl_X4_29 rfl (by decide) (by decide) rfl ?_
  exact iz_iret 15 rfl
theorem m_Ra_enter {X : iz_X} {l : Launch} {a0 : Nat} (h0 : iz_sh a0 = (4 + 3, 6)) {x1 : Int32} {x2 : Int32} {x3 : Int32} {S : iz_S} {r9 : Int32 × iz_S} (hr : Ra_enter a0 x1 x2 x3 S = some r9) : iz_Mt X l 1 yX4_enter cX4_enter 4 (some .int) [.ref (X.1 a0), .int x1, .int x2, .int x3] S (iz_eI r9) :=
  iz_Mt_of (dt := tX4_enter) dX4_enter (by decide) hr (Nat.le_of_ble_eq_true rfl) (c_Ra_enter h0 x1 x2 x3 S)
def Ra_planAt_102 (a0 : Nat) (k34 : Int32 → Int32 → Int32 → Int32 → Int32 → Int32 → iz_S → Option iz_S) (x1 : Int32) (x2 : Int32) (x4 : Int32) (x5 : Int32) (x6 : Int32) (x7 : Int32) (S : iz_S) : Option iz_S :=
  (k34 x1 x2 x4 x5 x6 (x7 + 1) S)
def Ra_planAt_94 (a0 : Nat) (k34 : Int32 → Int32 → Int32 → Int32 → Int32 → Int32 → iz_S → Option iz_S) (x1 : Int32) (x2 : Int32) (x6 : Int32) (x7 : Int32) (x9 : Int32) (S : iz_S) : Option iz_S :=
  (Ra_planAt_102 a0 k34 x1 x2 x9 x7 x6 x7 S)
def Ra_planAt_34b (a0 : Nat) (k34 : Int32 → Int32 → Int32 → Int32 → Int32 → Int32 → iz_S → Option iz_S) (x1 : Int32) (x2 : Int32) (x4 : Int32) (x5 : Int32) (x6 : Int32) (x7 : Int32) (S : iz_S) : Option iz_S :=
  (if x7 ≤ x6 then
    (iz_ck (iz_in (x1 + 1) 9) (
    iz_ck (iz_in x1 9) (
    iz_ck (iz_in ((x2 + x7) - (iz_g S (iz_rf a0 3) x1)) 61) (
    iz_lt (iz_g S (iz_rf (iz_rf a0 4) (Int32.toNatClampNeg (x1 + 1))) ((x2 + x7) - (iz_g S (iz_rf a0 3) x1))) (fun v8 =>
    iz_ck (iz_in x1 9) (
    iz_lt (v8 + (x7 * (iz_g S (iz_rf a0 2) x1))) (fun v9 =>
    if v8 < 0 then
      (Ra_planAt_102 a0 k34 x1 x2 x4 x5 x6 x7 S)
    else
      (if x4 < 0 then
        (Ra_planAt_94 a0 k34 x1 x2 x6 x7 v9 S)
      else
        (if v9 < x4 then
          (Ra_planAt_94 a0 k34 x1 x2 x6 x7 v9 S)
        else
          (Ra_planAt_102 a0 k34 x1 x2 x4 x5 x6 x7 S))))))))))
  else
    iz_ck (iz_in x1 9) (
    iz_ck (iz_in x2 61) (iz_lt (iz_s S (iz_rf (iz_rf a0 4) (Int32.toNatClampNeg x1)) x2 x4) (fun S4 =>
    iz_ck (iz_in x1 9) (
    iz_ck (iz_in x2 61) (iz_lt (iz_s S4 (iz_rf (iz_rf a0 5) (Int32.toNatClampNeg x1)) x2 x5) (fun S6 =>
    some S6)))))))
def Ra_planAt_34 (a0 : Nat) : Nat → Int32 → Int32 → Int32 → Int32 → Int32 → Int32 → iz_S → Option iz_S
  | 0 => fun _ _ _ _ _ _ _ => none
  | n9 + 1 => Ra_planAt_34b a0 (Ra_planAt_34 a0 n9)
def Ra_planAt (a0 : Nat) (x1 : Int32) (x2 : Int32) (x3 : Int32) (S : iz_S) : Option iz_S :=
  iz_ck (iz_in x1 9) (
  iz_lt (if (x3 - x2) < (iz_g S (iz_rf a0 1) x1) then (x3 - x2) else (iz_g S (iz_rf a0 1) x1)) (fun v1 =>
  iz_ck (iz_in x1 9) (
  iz_lt (if 0 < ((iz_g S (iz_rf a0 3) x1) - x2) then ((iz_g S (iz_rf a0 3) x1) - x2) else 0) (fun v2 =>
  (Ra_planAt_34 a0 iz_FU x1 x2 (-1) 0 v1 v2 S)))))
set_option maxRecDepth 10000 in
theorem c_Ra_planAt_102 {X : iz_X} {l : Launch} {a0 : Nat} (h0 : iz_sh a0 = (4 + 3, 6)) {k34 : Int32 → Int32 → Int32 → Int32 → Int32 → Int32 → iz_S → Option iz_S} (hk34 : ∀ (x1 : Int32) (x2 : Int32) (x4 : Int32) (x5 : Int32) (x6 : Int32) (x7 : Int32) (S : iz_S), iz_Y X l RX4 tX4_planAt 10 1 (iz_Kc X l yX4_planAt cX4_planAt 10 none 1 iz_eV) 34 [(0, .ref (X.1 a0)), (1, .int x1), (2, .int x2), (4, .int x4), (5, .int x5), (6, .int x6), (7, .int x7)] [] S (k34 x1 x2 x4 x5 x6 x7 S)) (x1 : Int32) (x2 : Int32) (x4 : Int32) (x5 : Int32) (x6 : Int32) (x7 : Int32) (S : iz_S) : iz_Y X l RX4 tX4_planAt 10 1 (iz_Kc X l yX4_planAt cX4_planAt 10 none 1 iz_eV) 102 [(0, .ref (X.1 a0)), (1, .int x1), (2, .int x2), (4, .int x4), (5, .int x5), (6, .int x6), (7, .int x7)] [] S (Ra_planAt_102 a0 k34 x1 x2 x4 x5 x6 x7 S) := by
  unfold Ra_planAt_102
  refine iz_iinc (v := (x7 + 1)) (ls2 := [(0, .ref (X.1 a0)), (1, .int x1), (2, .int x2), (4, .int x4), (5, .int x5), (6, .int x6), (7, .int (x7 + 1))]) 61 6 [1, 2, 3, 4, 5, 6, 0] rfl rfl rfl (by decide) rfl ?_
  refine iz_goto (tgt := 34) 62 (by decide) rfl ?_
  exact hk34 x1 x2 x4 x5 x6 (x7 + 1) S
set_option maxRecDepth 10000 in
theorem c_Ra_planAt_94 {X : iz_X} {l : Launch} {a0 : Nat} (h0 : iz_sh a0 = (4 + 3, 6)) {k34 : Int32 → Int32 → Int32 → Int32 → Int32 → Int32 → iz_S → Option iz_S} (hk34 : ∀ (x1 : Int32) (x2 : Int32) (x4 : Int32) (x5 : Int32) (x6 : Int32) (x7 : Int32) (S : iz_S), iz_Y X l RX4 tX4_planAt 10 1 (iz_Kc X l yX4_planAt cX4_planAt 10 none 1 iz_eV) 34 [(0, .ref (X.1 a0)), (1, .int x1), (2, .int x2), (4, .int x4), (5, .int x5), (6, .int x6), (7, .int x7)] [] S (k34 x1 x2 x4 x5 x6 x7 S)) (x1 : Int32) (x2 : Int32) (x6 : Int32) (x7 : Int32) (x9 : Int32) (S : iz_S) : iz_Y X l RX4 tX4_planAt 10 1 (iz_Kc X l yX4_planAt cX4_planAt 10 none 1 iz_eV) 94 [(0, .ref (X.1 a0)), (1, .int x1), (2, .int x2), (6, .int x6), (7, .int x7), (9, .int x9)] [] S (Ra_planAt_94 a0 k34 x1 x2 x6 x7 x9 S) := by
  unfold Ra_planAt_94
  refine iz_iload (n := 9) 57 5 rfl rfl ?_
  refine iz_istore (n := 4) (ls2 := [(0, .ref (X.1 a0)), (1, .int x1), (2, .int x2), (4, .int x9), (6, .int x6), (7, .int x7)]) 58 [1, 2, 3, 0, 4, 5] rfl (by decide) rfl ?_
  refine iz_iload (n := 7) 59 5 rfl rfl ?_
  refine iz_istore (n := 5) (ls2 := [(0, .ref (X.1 a0)), (1, .int x1), (2, .int x2), (4, .int x9), (5, .int x7), (6, .int x6), (7, .int x7)]) 60 [1, 2, 3, 4, 0, 5, 6] rfl (by decide) rfl ?_
  exact c_Ra_planAt_102 h0 hk34 x1 x2 x9 x7 x6 x7 S
set_option maxRecDepth 10000 in
theorem c_Ra_planAt_34b {X : iz_X} {l : Launch} {a0 : Nat} (h0 : iz_sh a0 = (4 + 3, 6)) {k34 : Int32 → Int32 → Int32 → Int32 → Int32 → Int32 → iz_S → Option iz_S} (hk34 : ∀ (x1 : Int32) (x2 : Int32) (x4 : Int32) (x5 : Int32) (x6 : Int32) (x7 : Int32) (S : iz_S), iz_Y X l RX4 tX4_planAt 10 1 (iz_Kc X l yX4_planAt cX4_planAt 10 none 1 iz_eV) 34 [(0, .ref (X.1 a0)), (1, .int x1), (2, .int x2), (4, .int x4), (5, .int x5), (6, .int x6), (7, .int x7)] [] S (k34 x1 x2 x4 x5 x6 x7 S)) (x1 : Int32) (x2 : Int32) (x4 : Int32) (x5 : Int32) (x6 : Int32) (x7 : Int32) (S : iz_S) : iz_Y X l RX4 tX4_planAt 10 1 (iz_Kc X l yX4_planAt cX4_planAt 10 none 1 iz_eV) 34 [(0, .ref (X.1 a0)), (1, .int x1), (2, .int x2), (4, .int x4), (5, .int x5), (6, .int x6), (7, .int x7)] [] S (Ra_planAt_34b a0 k34 x1 x2 x4 x5 x6 x7 S) := by
  unfold Ra_planAt_34b
  refine iz_iload (n := 7) 22 6 rfl rfl ?_
  refine iz_iload (n := 6) 23 5 rfl rfl ?_
  refine iz_cmp_gt (tgt := 108) 24 rfl (by decide) ?_ ?_
  · refine iz_aload_n (n := 0) 63 0 rfl rfl ?_
    refine iz_getR 64 4 h0 fl_X4_23 rfl (by decide) (by decide) rfl ?_
    refine iz_iload_n (n := 1) 65 1 rfl rfl ?_
    refine iz_aald 66 (sf_4_4 h0) rfl (fun hc3 => ?_)
    refine iz_iload_n (n := 2) 67 2 rfl rfl ?_
    refine iz_iload (n := 4) 68 3 rfl rfl ?_
    refine iz_iast 69 (sr_4_4 h0 hc3) rfl (fun S4 => ?_)
    refine iz_aload_n (n := 0) 70 0 rfl rfl ?_
    refine iz_getR 71 5 h0 fl_X4_26 rfl (by decide) (by decide) rfl ?_
    refine iz_iload_n (n := 1) 72 1 rfl rfl ?_
    refine iz_aald 73 (sf_4_5 h0) rfl (fun hc5 => ?_)
    refine iz_iload_n (n := 2) 74 2 rfl rfl ?_
    refine iz_iload (n := 5) 75 4 rfl rfl ?_
    refine iz_iast 76 (sr_4_5 h0 hc5) rfl (fun S6 => ?_)
    exact iz_vret 77 rfl
  · refine iz_aload_n (n := 0) 25 0 rfl rfl ?_
    refine iz_getR 26 4 h0 fl_X4_23 rfl (by decide) (by decide) rfl ?_
    refine iz_iload_n (n := 1) 27 1 rfl rfl ?_
    refine iz_iconst (v := 1) 28 (by decide) rfl ?_
    refine iz_iadd 29 rfl ?_
    refine iz_aald 30 (sf_4_4 h0) rfl (fun hc7 => ?_)
    refine iz_iload_n (n := 2) 31 2 rfl rfl ?_
    refine iz_iload (n := 7) 32 6 rfl rfl ?_
    refine iz_iadd 33 rfl ?_
    refine iz_aload_n (n := 0) 34 0 rfl rfl ?_
    refine iz_getR 35 3 h0 fl_X4_18 rfl (by decide) (by decide) rfl ?_
    refine iz_iload_n (n := 1) 36 1 rfl rfl ?_
    refine iz_iald 37 (sf_4_3 h0) rfl ?_
    refine iz_isub 38 rfl ?_
    refine iz_iald 39 (sr_4_4 h0 hc7) rfl ?_
    refine iz_let (fun v8 => ?_)
    refine iz_istore (n := 8) (ls2 := [(0, .ref (X.1 a0)), (1, .int x1), (2, .int x2), (4, .int x4), (5, .int x5), (6, .int x6), (7, .int x7), (8, .int v8)]) 40 [1, 2, 3, 4, 5, 6, 7, 0] rfl (by decide) rfl ?_
    refine iz_iload (n := 8) 41 7 rfl rfl ?_
    refine iz_iload (n := 7) 42 6 rfl rfl ?_
    refine iz_aload_n (n := 0) 43 0 rfl rfl ?_
    refine iz_getR 44 2 h0 fl_X4_15 rfl (by decide) (by decide) rfl ?_
    refine iz_iload_n (n := 1) 45 1 rfl rfl ?_
    refine iz_iald 46 (sf_4_2 h0) rfl ?_
    refine iz_imul 47 rfl ?_
    refine iz_iadd 48 rfl ?_
    refine iz_let (fun v9 => ?_)
    refine iz_istore (n := 9) (ls2 := [(0, .ref (X.1 a0)), (1, .int x1), (2, .int x2), (4, .int x4), (5, .int x5), (6, .int x6), (7, .int x7), (8, .int v8), (9, .int v9)]) 49 [1, 2, 3, 4, 5, 6, 7, 8, 0] rfl (by decide) rfl ?_
    refine iz_iload (n := 8) 50 7 rfl rfl ?_
    refine iz_if_lt (tgt := 102) 51 rfl (by decide) ?_ ?_
    · exact iz_sub [0, 1, 2, 3, 4, 5, 6] rfl (c_Ra_planAt_102 h0 hk34 x1 x2 x4 x5 x6 x7 S)
    · refine iz_iload (n := 4) 52 3 rfl rfl ?_
      refine iz_if_lt (tgt := 94) 53 rfl (by decide) ?_ ?_
      · exact iz_sub [0, 1, 2, 5, 6, 8] rfl (c_Ra_planAt_94 h0 hk34 x1 x2 x6 x7 v9 S)
      · refine iz_iload (n := 9) 54 8 rfl rfl ?_
        refine iz_iload (n := 4) 55 3 rfl rfl ?_
        refine iz_cmp_ge (tgt := 102) 56 rfl (by decide) ?_ ?_
        · exact iz_sub [0, 1, 2, 3, 4, 5, 6] rfl (c_Ra_planAt_102 h0 hk34 x1 x2 x4 x5 x6 x7 S)
        · exact iz_sub [0, 1, 2, 5, 6, 8] rfl (c_Ra_planAt_94 h0 hk34 x1 x2 x6 x7 v9 S)
theorem c_Ra_planAt_34 {X : iz_X} {l : Launch} {a0 : Nat} (h0 : iz_sh a0 = (4 + 3, 6)) : ∀ (n9 : Nat) (x1 : Int32) (x2 : Int32) (x4 : Int32) (x5 : Int32) (x6 : Int32) (x7 : Int32) (S : iz_S), iz_Y X l RX4 tX4_planAt 10 1 (iz_Kc X l yX4_planAt cX4_planAt 10 none 1 iz_eV) 34 [(0, .ref (X.1 a0)), (1, .int x1), (2, .int x2), (4, .int x4), (5, .int x5), (6, .int x6), (7, .int x7)] [] S (Ra_planAt_34 a0 n9 x1 x2 x4 x5 x6 x7 S)
  | 0 => by
    intros
    exact iz_none
  | n9 + 1 => c_Ra_planAt_34b h0 (c_Ra_planAt_34 h0 n9)
set_option maxRecDepth 10000 in
theorem c_Ra_planAt {X : iz_X} {l : Launch} {a0 : Nat} (h0 : iz_sh a0 = (4 + 3, 6)) (x1 : Int32) (x2 : Int32) (x3 : Int32) (S : iz_S) : iz_Y X l RX4 tX4_planAt 10 1 (iz_Kc X l yX4_planAt cX4_planAt 10 none 1 iz_eV) 0 [(0, .ref (X.1 a0)), (1, .int x1), (2, .int x2), (3, .int x3)] [] S (Ra_planAt a0 x1 x2 x3 S) := by
  unfold Ra_planAt
  refine iz_iconst (v := (-1)) 0 (by decide) rfl ?_
  refine iz_istore (n := 4) (ls2 := [(0, .ref (X.1 a0)), (1, .int x1), (2, .int x2), (3, .int x3), (4, .int (-1))]) 1 [1, 2, 3, 4, 0] rfl (by decide) rfl ?_
  refine iz_iconst (v := 0) 2 (by decide) rfl ?_
  refine iz_istore (n := 5) (ls2 := [(0, .ref (X.1 a0)), (1, .int x1), (2, .int x2), (3, .int x3), (4, .int (-1)), (5, .int 0)]) 3 [1, 2, 3, 4, 5, 0] rfl (by decide) rfl ?_
  refine iz_aload_n (n := 0) 4 0 rfl rfl ?_
  refine iz_getR 5 1 h0 fl_X4_9 rfl (by decide) (by decide) rfl ?_
  refine iz_iload_n (n := 1) 6 1 rfl rfl ?_
  refine iz_iald 7 (sf_4_1 h0) rfl ?_
  refine iz_iload_n (n := 3) 8 3 rfl rfl ?_
  refine iz_iload_n (n := 2) 9 2 rfl rfl ?_
  refine iz_isub 10 rfl ?_
  refine iz_mmin 11 mm_X4_47 (by decide) (Nat.le_of_ble_eq_true rfl) rfl ?_
  refine iz_let (fun v1 => ?_)
  refine iz_istore (n := 6) (ls2 := [(0, .ref (X.1 a0)), (1, .int x1), (2, .int x2), (4, .int (-1)), (5, .int 0), (6, .int v1)]) 12 [1, 2, 3, 5, 6, 0] rfl (by decide) rfl ?_
  refine iz_iconst (v := 0) 13 (by decide) rfl ?_
  refine iz_aload_n (n := 0) 14 0 rfl rfl ?_
  refine iz_getR 15 3 h0 fl_X4_18 rfl (by decide) (by decide) rfl ?_
  refine iz_iload_n (n := 1) 16 1 rfl rfl ?_
  refine iz_iald 17 (sf_4_3 h0) rfl ?_
  refine iz_iload_n (n := 2) 18 2 rfl rfl ?_
  refine iz_isub 19 rfl ?_
  refine iz_mmax 20 mm_X4_53 (by decide) (Nat.le_of_ble_eq_true rfl) rfl ?_
  refine iz_let (fun v2 => ?_)
  refine iz_istore (n := 7) (ls2 := [(0, .ref (X.1 a0)), (1, .int x1), (2, .int x2), (4, .int (-1)), (5, .int 0), (6, .int v1), (7, .int v2)]) 21 [1, 2, 3, 4, 5, 6, 0] rfl (by decide) rfl ?_
  exact c_Ra_planAt_34 h0 iz_FU x1 x2 (-1) 0 v1 v2 S
theorem m_Ra_planAt {X : iz_X} {l : Launch} {a0 : Nat} (h0 : iz_sh a0 = (4 + 3, 6)) {x1 : Int32} {x2 : Int32} {x3 : Int32} {S : iz_S} {r9 : iz_S} (hr : Ra_planAt a0 x1 x2 x3 S = some r9) : iz_Mt X l 1 yX4_planAt cX4_planAt 10 none [.ref (X.1 a0), .int x1, .int x2, .int x3] S (iz_eV r9) :=
  iz_Mt_of (dt := tX4_planAt) dX4_planAt (by decide) hr (Nat.le_of_ble_eq_true rfl) (c_Ra_planAt h0 x1 x2 x3 S)
def Ra_plan_28b (a0 : Nat) (k22 : Int32 → Int32 → iz_S → Option iz_S) (k28 : Int32 → Int32 → Int32 → iz_S → Option iz_S) (x1 : Int32) (x2 : Int32) (x3 : Int32) (S : iz_S) : Option iz_S :=
  (if x3 ≤ x1 then
    iz_bV (Ra_planAt a0 x2 x3 x1 S) (fun S4 =>
    (k28 x1 x2 (x3 + 1) S4))
  else
    (k22 x1 (x2 + (-1)) S))
def Ra_plan_28 (a0 : Nat) (k22 : Int32 → Int32 → iz_S → Option iz_S) : Nat → Int32 → Int32 → Int32 → iz_S → Option iz_S
  | 0 => fun _ _ _ _ => none
  | n9 + 1 => Ra_plan_28b a0 k22 (Ra_plan_28 a0 k22 n9)
def Ra_plan_22b (a0 : Nat) (k22 : Int32 → Int32 → iz_S → Option iz_S) (x1 : Int32) (x2 : Int32) (S : iz_S) : Option iz_S :=
  (if x2 < 0 then
    some S
  else
    (Ra_plan_28 a0 k22 iz_FU x1 x2 0 S))
def Ra_plan_22 (a0 : Nat) : Nat → Int32 → Int32 → iz_S → Option iz_S
  | 0 => fun _ _ _ => none
  | n9 + 1 => Ra_plan_22b a0 (Ra_plan_22 a0 n9)
def Ra_plan (a0 : Nat) (x1 : Int32) (S : iz_S) : Option iz_S :=
  iz_ck (iz_in ((S.1 a0 0) - 1) 9) (
  iz_bV (Ja_fill (iz_rf (iz_rf a0 4) (Int32.toNatClampNeg ((S.1 a0 0) - 1))) 0 S) (fun S2 =>
  iz_lt ((S2.1 a0 0) - 2) (fun v3 =>
  (Ra_plan_22 a0 iz_FU x1 v3 S2))))
set_option maxRecDepth 10000 in
theorem c_Ra_plan_28b {X : iz_X} {l : Launch} {a0 : Nat} (h0 : iz_sh a0 = (4 + 3, 6)) {k22 : Int32 → Int32 → iz_S → Option iz_S} {k28 : Int32 → Int32 → Int32 → iz_S → Option iz_S} (hk22 : ∀ (x1 : Int32) (x2 : Int32) (S : iz_S), iz_Y X l RX4 tX4_plan 4 2 (iz_Kc X l yX4_plan cX4_plan 4 none 2 iz_eV) 22 [(0, .ref (X.1 a0)), (1, .int x1), (2, .int x2)] [] S (k22 x1 x2 S)) (hk28 : ∀ (x1 : Int32) (x2 : Int32) (x3 : Int32) (S : iz_S), iz_Y X l RX4 tX4_plan 4 2 (iz_Kc X l yX4_plan cX4_plan 4 none 2 iz_eV) 28 [(0, .ref (X.1 a0)), (1, .int x1), (2, .int x2), (3, .int x3)] [] S (k28 x1 x2 x3 S)) (x1 : Int32) (x2 : Int32) (x3 : Int32) (S : iz_S) : iz_Y X l RX4 tX4_plan 4 2 (iz_Kc X l yX4_plan cX4_plan 4 none 2 iz_eV) 28 [(0, .ref (X.1 a0)), (1, .int x1), (2, .int x2), (3, .int x3)] [] S (Ra_plan_28b a0 k22 k28 x1 x2 x3 S) := by
  unfold Ra_plan_28b
  refine iz_iload_n (n := 3) 18 3 rfl rfl ?_
  refine iz_iload_n (n := 1) 19 1 rfl rfl ?_
  refine iz_cmp_gt (tgt := 46) 20 rfl (by decide) ?_ ?_
  · refine iz_iinc (v := (x2 + (-1))) (ls2 := [(0, .ref (X.1 a0)), (1, .int x1), (2, .int (x2 + (-1)))]) 28 2 [1, 2, 0] rfl rfl rfl (by decide) rfl ?_
    refine iz_goto (tgt := 22) 29 (by decide) rfl ?_
    exact hk22 x1 (x2 + (-1)) S
  · refine iz_aload_n (n := 0) 21 0 rfl rfl ?_
    refine iz_iload_n (n := 2) 22 2 rfl rfl ?_
    refine iz_iload_n (n := 3) 23 3 rfl rfl ?_
    refine iz_iload_n (n := 1) 24 1 rfl rfl ?_
    refine iz_callVV (As := [.int x2, .int x3, .int x1]) (rest := []) 25 ml_X4_43 cw_X4_planAt ci_X4_planAt h0 (fun r9 hr9 => m_Ra_planAt h0 hr9) rfl (by decide) (by decide) rfl rfl (Nat.le_of_ble_eq_true rfl) (fun S4 => ?_)
    refine iz_iinc (v := (x3 + 1)) (ls2 := [(0, .ref (X.1 a0)), (1, .int x1), (2, .int x2), (3, .int (x3 + 1))]) 26 3 [1, 2, 3, 0] rfl rfl rfl (by decide) rfl ?_
    refine iz_goto (tgt := 28) 27 (by decide) rfl ?_
    exact hk28 x1 x2 (x3 + 1) S4
theorem c_Ra_plan_28 {X : iz_X} {l : Launch} {a0 : Nat} (h0 : iz_sh a0 = (4 + 3, 6)) {k22 : Int32 → Int32 → iz_S → Option iz_S} (hk22 : ∀ (x1 : Int32) (x2 : Int32) (S : iz_S), iz_Y X l RX4 tX4_plan 4 2 (iz_Kc X l yX4_plan cX4_plan 4 none 2 iz_eV) 22 [(0, .ref (X.1 a0)), (1, .int x1), (2, .int x2)] [] S (k22 x1 x2 S)) : ∀ (n9 : Nat) (x1 : Int32) (x2 : Int32) (x3 : Int32) (S : iz_S), iz_Y X l RX4 tX4_plan 4 2 (iz_Kc X l yX4_plan cX4_plan 4 none 2 iz_eV) 28 [(0, .ref (X.1 a0)), (1, .int x1), (2, .int x2), (3, .int x3)] [] S (Ra_plan_28 a0 k22 n9 x1 x2 x3 S)
  | 0 => by
    intros
    exact iz_none
  | n9 + 1 => c_Ra_plan_28b h0 hk22 (c_Ra_plan_28 h0 hk22 n9)
set_option maxRecDepth 10000 in
theorem c_Ra_plan_22b {X : iz_X} {l : Launch} {a0 : Nat} (h0 : iz_sh a0 = (4 + 3, 6)) {k22 : Int32 → Int32 → iz_S → Option iz_S} (hk22 : ∀ (x1 : Int32) (x2 : Int32) (S : iz_S), iz_Y X l RX4 tX4_plan 4 2 (iz_Kc X l yX4_plan cX4_plan 4 none 2 iz_eV) 22 [(0, .ref (X.1 a0)), (1, .int x1), (2, .int x2)] [] S (k22 x1 x2 S)) (x1 : Int32) (x2 : Int32) (S : iz_S) : iz_Y X l RX4 tX4_plan 4 2 (iz_Kc X l yX4_plan cX4_plan 4 none 2 iz_eV) 22 [(0, .ref (X.1 a0)), (1, .int x1), (2, .int x2)] [] S (Ra_plan_22b a0 k22 x1 x2 S) := by
  unfold Ra_plan_22b
  refine iz_iload_n (n := 2) 14 2 rfl rfl ?_
  refine iz_if_lt (tgt := 52) 15 rfl (by decide) ?_ ?_
  · exact iz_vret 30 rfl
  · refine iz_iconst (v := 0) 16 (by decide) rfl ?_
    refine iz_istore_n (n := 3) (ls2 := [(0, .ref (X.1 a0)), (1, .int x1), (2, .int x2), (3, .int 0)]) 17 [1, 2, 3, 0] rfl (by decide) rfl ?_
    exact c_Ra_plan_28 h0 hk22 iz_FU x1 x2 0 S
theorem c_Ra_plan_22 {X : iz_X} {l : Launch} {a0 : Nat} (h0 : iz_sh a0 = (4 + 3, 6)) : ∀ (n9 : Nat) (x1 : Int32) (x2 : Int32) (S : iz_S), iz_Y X l RX4 tX4_plan 4 2 (iz_Kc X l yX4_plan cX4_plan 4 none 2 iz_eV) 22 [(0, .ref (X.1 a0)), (1, .int x1), (2, .int x2)] [] S (Ra_plan_22 a0 n9 x1 x2 S)
  | 0 => by
    intros
    exact iz_none
  | n9 + 1 => c_Ra_plan_22b h0 (c_Ra_plan_22 h0 n9)
set_option maxRecDepth 10000 in
theorem c_Ra_plan {X : iz_X} {l : Launch} {a0 : Nat} (h0 : iz_sh a0 = (4 + 3, 6)) (x1 : Int32) (S : iz_S) : iz_Y X l RX4 tX4_plan 4 2 (iz_Kc X l yX4_plan cX4_plan 4 none 2 iz_eV) 0 [(0, .ref (X.1 a0)), (1, .int x1)] [] S (Ra_plan a0 x1 S) := by
  unfold Ra_plan
  refine iz_aload_n (n := 0) 0 0 rfl rfl ?_
  refine iz_getR 1 4 h0 fl_X4_23 rfl (by decide) (by decide) rfl ?_
  refine iz_aload_n (n := 0) 2 0 rfl rfl ?_
  refine iz_getI 3 0 h0 fl_X4_29 rfl (by decide) (by decide) rfl ?_
  refine iz_iconst (v := 1) 4 (by decide) rfl ?_
  refine iz_isub 5 rfl ?_
  refine iz_aald 6 (sf_4_4 h0) rfl (fun hc1 => ?_)
  refine iz_iconst (v := 0) 7 (by decide) rfl ?_
  refine iz_callSV (As := [.ref (X.1 (iz_rf (iz_rf a0 4) (Int32.toNatClampNeg ((S.1 a0 0) - 1)))), .int 0]) (rest := []) 8 ml_X4_37 cw_J7_fill_53178 ci_J7_fill_53178 (fun r9 hr9 => m_Ja_fill (iz_shI (sr_4_4 h0 hc1)) hr9) rfl (by decide) rfl rfl (Nat.le_of_ble_eq_true rfl) (fun S2 => ?_)
  refine iz_aload_n (n := 0) 9 0 rfl rfl ?_
  refine iz_getI 10 0 h0 fl_X4_29 rfl (by decide) (by decide) rfl ?_
  refine iz_iconst (v := 2) 11 (by decide) rfl ?_
  refine iz_isub 12 rfl ?_
  refine iz_let (fun v3 => ?_)
  refine iz_istore_n (n := 2) (ls2 := [(0, .ref (X.1 a0)), (1, .int x1), (2, .int v3)]) 13 [1, 2, 0] rfl (by decide) rfl ?_
  exact c_Ra_plan_22 h0 iz_FU x1 v3 S2
theorem m_Ra_plan {X : iz_X} {l : Launch} {a0 : Nat} (h0 : iz_sh a0 = (4 + 3, 6)) {x1 : Int32} {S : iz_S} {r9 : iz_S} (hr : Ra_plan a0 x1 S = some r9) : iz_Mt X l 2 yX4_plan cX4_plan 4 none [.ref (X.1 a0), .int x1] S (iz_eV r9) :=
  iz_Mt_of (dt := tX4_plan) dX4_plan (by decide) hr (Nat.le_of_ble_eq_true rfl) (c_Ra_plan h0 x1 S)
def Ra_costFrom (a0 : Nat) (x1 : Int32) (S : iz_S) : Option (Int32 × iz_S) :=
  iz_ck (iz_in 0 9) (
  iz_ck (iz_in x1 61) (
  some ((iz_g S (iz_rf (iz_rf a0 4) (Int32.toNatClampNeg 0)) x1), S)))
set_option maxRecDepth 10000 in
theorem c_Ra_costFrom {X : iz_X} {l : Launch} {a0 : Nat} (h0 : iz_sh a0 = (4 + 3, 6)) (x1 : Int32) (S : iz_S) : iz_Y X l RX4 tX4_costFrom 2 0 (iz_Kc X l yX4_costFrom cX4_costFrom 2 (some .int) 0 iz_eI) 0 [(0, .ref (X.1 a0)), (1, .int x1)] [] S (Ra_costFrom a0 x1 S) := by
  unfold Ra_costFrom
  refine iz_aload_n (n := 0) 0 0 rfl rfl ?_
  refine iz_getR 1 4 h0 fl_X4_23 rfl (by decide) (by decide) rfl ?_
  refine iz_iconst (v := 0) 2 (by decide) rfl ?_
  refine iz_aald 3 (sf_4_4 h0) rfl (fun hc1 => ?_)
  refine iz_iload_n (n := 1) 4 1 rfl rfl ?_
  refine iz_iald 5 (sr_4_4 h0 hc1) rfl ?_
  exact iz_iret 6 rfl
theorem m_Ra_costFrom {X : iz_X} {l : Launch} {a0 : Nat} (h0 : iz_sh a0 = (4 + 3, 6)) {x1 : Int32} {S : iz_S} {r9 : Int32 × iz_S} (hr : Ra_costFrom a0 x1 S = some r9) : iz_Mt X l 0 yX4_costFrom cX4_costFrom 2 (some .int) [.ref (X.1 a0), .int x1] S (iz_eI r9) :=
  iz_Mt_of (dt := tX4_costFrom) dX4_costFrom (by decide) hr (Nat.le_of_ble_eq_true rfl) (c_Ra_costFrom h0 x1 S)
def Ra_boughtAt_5b (a0 : Nat) (k5 : Int32 → Int32 → Int32 → iz_S → Option (Int32 × iz_S)) (x1 : Int32) (x3 : Int32) (x4 : Int32) (S : iz_S) : Option (Int32 × iz_S) :=
  (if x4 < x1 then
    iz_ck (iz_in x4 9) (
    iz_ck (iz_in x3 61) (
    iz_ck (iz_in x4 9) (
    iz_lt (x3 + ((iz_g S (iz_rf (iz_rf a0 5) (Int32.toNatClampNeg x4)) x3) - (iz_g S (iz_rf a0 3) x4))) (fun v3 =>
    (k5 x1 v3 (x4 + 1) S)))))
  else
    iz_ck (iz_in x1 9) (
    iz_ck (iz_in x3 61) (
    some ((iz_g S (iz_rf (iz_rf a0 5) (Int32.toNatClampNeg x1)) x3), S))))
def Ra_boughtAt_5 (a0 : Nat) : Nat → Int32 → Int32 → Int32 → iz_S → Option (Int32 × iz_S)
  | 0 => fun _ _ _ _ => none
  | n9 + 1 => Ra_boughtAt_5b a0 (Ra_boughtAt_5 a0 n9)
def Ra_boughtAt (a0 : Nat) (x1 : Int32) (x2 : Int32) (S : iz_S) : Option (Int32 × iz_S) :=
  (Ra_boughtAt_5 a0 iz_FU x1 x2 0 S)
set_option maxRecDepth 10000 in
theorem c_Ra_boughtAt_5b {X : iz_X} {l : Launch} {a0 : Nat} (h0 : iz_sh a0 = (4 + 3, 6)) {k5 : Int32 → Int32 → Int32 → iz_S → Option (Int32 × iz_S)} (hk5 : ∀ (x1 : Int32) (x3 : Int32) (x4 : Int32) (S : iz_S), iz_Y X l RX4 tX4_boughtAt 5 0 (iz_Kc X l yX4_boughtAt cX4_boughtAt 5 (some .int) 0 iz_eI) 5 [(0, .ref (X.1 a0)), (1, .int x1), (3, .int x3), (4, .int x4)] [] S (k5 x1 x3 x4 S)) (x1 : Int32) (x3 : Int32) (x4 : Int32) (S : iz_S) : iz_Y X l RX4 tX4_boughtAt 5 0 (iz_Kc X l yX4_boughtAt cX4_boughtAt 5 (some .int) 0 iz_eI) 5 [(0, .ref (X.1 a0)), (1, .int x1), (3, .int x3), (4, .int x4)] [] S (Ra_boughtAt_5b a0 k5 x1 x3 x4 S) := by
  unfold Ra_boughtAt_5b
  refine iz_iload (n := 4) 4 3 rfl rfl ?_
  refine iz_iload_n (n := 1) 5 1 rfl rfl ?_
  refine iz_cmp_ge (tgt := 37) 6 rfl (by decide) ?_ ?_
  · refine iz_aload_n (n := 0) 23 0 rfl rfl ?_
    refine iz_getR 24 5 h0 fl_X4_26 rfl (by decide) (by decide) rfl ?_
    refine iz_iload_n (n := 1) 25 1 rfl rfl ?_
    refine iz_aald 26 (sf_4_5 h0) rfl (fun hc1 => ?_)
    refine iz_iload_n (n := 3) 27 2 rfl rfl ?_
    refine iz_iald 28 (sr_4_5 h0 hc1) rfl ?_
    exact iz_iret 29 rfl
  · refine iz_iload_n (n := 3) 7 2 rfl rfl ?_
    refine iz_aload_n (n := 0) 8 0 rfl rfl ?_
    refine iz_getR 9 5 h0 fl_X4_26 rfl (by decide) (by decide) rfl ?_
    refine iz_iload (n := 4) 10 3 rfl rfl ?_
    refine iz_aald 11 (sf_4_5 h0) rfl (fun hc2 => ?_)
    refine iz_iload_n (n := 3) 12 2 rfl rfl ?_
    refine iz_iald 13 (sr_4_5 h0 hc2) rfl ?_
    refine iz_aload_n (n := 0) 14 0 rfl rfl ?_
    refine iz_getR 15 3 h0 fl_X4_18 rfl (by decide) (by decide) rfl ?_
    refine iz_iload (n := 4) 16 3 rfl rfl ?_
    refine iz_iald 17 (sf_4_3 h0) rfl ?_
    refine iz_isub 18 rfl ?_
    refine iz_iadd 19 rfl ?_
    refine iz_let (fun v3 => ?_)
    refine iz_istore_n (n := 3) (ls2 := [(0, .ref (X.1 a0)), (1, .int x1), (3, .int v3), (4, .int x4)]) 20 [1, 2, 0, 3] rfl (by decide) rfl ?_
    refine iz_iinc (v := (x4 + 1)) (ls2 := [(0, .ref (X.1 a0)), (1, .int x1), (3, .int v3), (4, .int (x4 + 1))]) 21 3 [1, 2, 3, 0] rfl rfl rfl (by decide) rfl ?_
    refine iz_goto (tgt := 5) 22 (by decide) rfl ?_
    exact hk5 x1 v3 (x4 + 1) S
theorem c_Ra_boughtAt_5 {X : iz_X} {l : Launch} {a0 : Nat} (h0 : iz_sh a0 = (4 + 3, 6)) : ∀ (n9 : Nat) (x1 : Int32) (x3 : Int32) (x4 : Int32) (S : iz_S), iz_Y X l RX4 tX4_boughtAt 5 0 (iz_Kc X l yX4_boughtAt cX4_boughtAt 5 (some .int) 0 iz_eI) 5 [(0, .ref (X.1 a0)), (1, .int x1), (3, .int x3), (4, .int x4)] [] S (Ra_boughtAt_5 a0 n9 x1 x3 x4 S)
  | 0 => by
    intros
    exact iz_none
  | n9 + 1 => c_Ra_boughtAt_5b h0 (c_Ra_boughtAt_5 h0 n9)
set_option maxRecDepth 10000 in
theorem c_Ra_boughtAt {X : iz_X} {l : Launch} {a0 : Nat} (h0 : iz_sh a0 = (4 + 3, 6)) (x1 : Int32) (x2 : Int32) (S : iz_S) : iz_Y X l RX4 tX4_boughtAt 5 0 (iz_Kc X l yX4_boughtAt cX4_boughtAt 5 (some .int) 0 iz_eI) 0 [(0, .ref (X.1 a0)), (1, .int x1), (2, .int x2)] [] S (Ra_boughtAt a0 x1 x2 S) := by
  unfold Ra_boughtAt
  refine iz_iload_n (n := 2) 0 2 rfl rfl ?_
  refine iz_istore_n (n := 3) (ls2 := [(0, .ref (X.1 a0)), (1, .int x1), (3, .int x2)]) 1 [1, 2, 0] rfl (by decide) rfl ?_
  refine iz_iconst (v := 0) 2 (by decide) rfl ?_
  refine iz_istore (n := 4) (ls2 := [(0, .ref (X.1 a0)), (1, .int x1), (3, .int x2), (4, .int 0)]) 3 [1, 2, 3, 0] rfl (by decide) rfl ?_
  exact c_Ra_boughtAt_5 h0 iz_FU x1 x2 0 S
theorem m_Ra_boughtAt {X : iz_X} {l : Launch} {a0 : Nat} (h0 : iz_sh a0 = (4 + 3, 6)) {x1 : Int32} {x2 : Int32} {S : iz_S} {r9 : Int32 × iz_S} (hr : Ra_boughtAt a0 x1 x2 S = some r9) : iz_Mt X l 0 yX4_boughtAt cX4_boughtAt 5 (some .int) [.ref (X.1 a0), .int x1, .int x2] S (iz_eI r9) :=
  iz_Mt_of (dt := tX4_boughtAt) dX4_boughtAt (by decide) hr (Nat.le_of_ble_eq_true rfl) (c_Ra_boughtAt h0 x1 x2 S)
def Sa_takeOver_54 (a0 : Nat) (a1 : Nat) (s0 : Int32) (S : iz_S) : Option (Int32 × iz_S) :=
  iz_ck (decide (iz_nb s0 = s0)) (some (s0, S))
def Sa_takeOver_14b (a0 : Nat) (a1 : Nat) (k14 : Int32 → iz_S → Option (Int32 × iz_S)) (x2 : Int32) (S : iz_S) : Option (Int32 × iz_S) :=
  (if x2 < (S.1 a0 7) then
    (iz_ck (iz_in x2 3) (
    iz_bI (Ic_isColumn (iz_g S (iz_rf a0 0) x2) S) (fun r5 S4 =>
    if r5 = 0 then
      iz_ck (decide (iz_nb 0 = 0)) (some (0, S4))
    else
      (k14 (x2 + 1) S4))))
  else
    (if (S.1 a0 7) ≤ 0 then
      (Sa_takeOver_54 a0 a1 0 S)
    else
      (Sa_takeOver_54 a0 a1 1 S)))
def Sa_takeOver_14 (a0 : Nat) (a1 : Nat) : Nat → Int32 → iz_S → Option (Int32 × iz_S)
  | 0 => fun _ _ => none
  | n9 + 1 => Sa_takeOver_14b a0 a1 (Sa_takeOver_14 a0 a1 n9)
def Sa_takeOver (a0 : Nat) (a1 : Nat) (S : iz_S) : Option (Int32 × iz_S) :=
  iz_bI (Wa_handOver a1 (iz_rf a0 0) S) (fun r2 S1 =>
  iz_lt (iz_up S1 a0 7 r2) (fun S3 =>
  (Sa_takeOver_14 a0 a1 iz_FU 0 S3)))
set_option maxRecDepth 10000 in
theorem c_Sa_takeOver_54 {X : iz_X} {l : Launch} {a0 : Nat} (h0 : iz_sh a0 = (5 + 3, 15)) {a1 : Nat} (h1 : iz_sh a1 = (8 + 3, 2)) (s0 : Int32) (S : iz_S) : iz_Y X l RX5 tX5_takeOver 3 2 (iz_Kc X l yX5_takeOver cX5_takeOver 3 (some .boolean) 2 iz_eI) 54 [] [.int s0] S (Sa_takeOver_54 a0 a1 s0 S) := by
  unfold Sa_takeOver_54
  exact iz_zret 28 rfl
set_option maxRecDepth 10000 in
theorem c_Sa_takeOver_14b {X : iz_X} {l : Launch} {a0 : Nat} (h0 : iz_sh a0 = (5 + 3, 15)) {a1 : Nat} (h1 : iz_sh a1 = (8 + 3, 2)) {k14 : Int32 → iz_S → Option (Int32 × iz_S)} (hk14 : ∀ (x2 : Int32) (S : iz_S), iz_Y X l RX5 tX5_takeOver 3 2 (iz_Kc X l yX5_takeOver cX5_takeOver 3 (some .boolean) 2 iz_eI) 14 [(0, .ref (X.1 a0)), (2, .int x2)] [] S (k14 x2 S)) (x2 : Int32) (S : iz_S) : iz_Y X l RX5 tX5_takeOver 3 2 (iz_Kc X l yX5_takeOver cX5_takeOver 3 (some .boolean) 2 iz_eI) 14 [(0, .ref (X.1 a0)), (2, .int x2)] [] S (Sa_takeOver_14b a0 a1 k14 x2 S) := by
  unfold Sa_takeOver_14b
  refine iz_iload_n (n := 2) 8 1 rfl rfl ?_
  refine iz_aload_n (n := 0) 9 0 rfl rfl ?_
  refine iz_getI 10 7 h0 fl_X5_54 rfl (by decide) (by decide) rfl ?_
  refine iz_cmp_ge (tgt := 42) 11 rfl (by decide) ?_ ?_
  · refine iz_aload_n (n := 0) 22 0 rfl rfl ?_
    refine iz_getI 23 7 h0 fl_X5_54 rfl (by decide) (by decide) rfl ?_
    refine iz_if_le (tgt := 53) 24 rfl (by decide) ?_ ?_
    · refine iz_iconst (v := 0) 27 (by decide) rfl ?_
      exact iz_sub [] rfl (c_Sa_takeOver_54 h0 h1 0 S)
    · refine iz_iconst (v := 1) 25 (by decide) rfl ?_
      refine iz_goto (tgt := 54) 26 (by decide) rfl ?_
      exact iz_sub [] rfl (c_Sa_takeOver_54 h0 h1 1 S)
  · refine iz_aload_n (n := 0) 12 0 rfl rfl ?_
    refine iz_getR 13 0 h0 fl_X5_9 rfl (by decide) (by decide) rfl ?_
    refine iz_iload_n (n := 2) 14 1 rfl rfl ?_
    refine iz_iald 15 (sf_5_0 h0) rfl ?_
    refine iz_callSNI (As := [.int (iz_g S (iz_rf a0 0) x2)]) (rest := []) 16 ml_X5_58 cw_X9_isColumn ci_X9_isColumn (fun r9 hr9 => m_Ic_isColumn  hr9) rfl (by decide) rfl rfl (Nat.le_of_ble_eq_true rfl) (fun r5 S4 => ?_)
    refine iz_if_ne (tgt := 36) 17 rfl (by decide) ?_ ?_
    · refine iz_iinc (v := (x2 + 1)) (ls2 := [(0, .ref (X.1 a0)), (2, .int (x2 + 1))]) 20 1 [1, 0] rfl rfl rfl (by decide) rfl ?_
      refine iz_goto (tgt := 14) 21 (by decide) rfl ?_
      exact hk14 (x2 + 1) S4
    · refine iz_iconst (v := 0) 18 (by decide) rfl ?_
      exact iz_zret 19 rfl
theorem c_Sa_takeOver_14 {X : iz_X} {l : Launch} {a0 : Nat} (h0 : iz_sh a0 = (5 + 3, 15)) {a1 : Nat} (h1 : iz_sh a1 = (8 + 3, 2)) : ∀ (n9 : Nat) (x2 : Int32) (S : iz_S), iz_Y X l RX5 tX5_takeOver 3 2 (iz_Kc X l yX5_takeOver cX5_takeOver 3 (some .boolean) 2 iz_eI) 14 [(0, .ref (X.1 a0)), (2, .int x2)] [] S (Sa_takeOver_14 a0 a1 n9 x2 S)
  | 0 => by
    intros
    exact iz_none
  | n9 + 1 => c_Sa_takeOver_14b h0 h1 (c_Sa_takeOver_14 h0 h1 n9)
set_option maxRecDepth 10000 in
theorem c_Sa_takeOver {X : iz_X} {l : Launch} {a0 : Nat} (h0 : iz_sh a0 = (5 + 3, 15)) {a1 : Nat} (h1 : iz_sh a1 = (8 + 3, 2)) (S : iz_S) : iz_Y X l RX5 tX5_takeOver 3 2 (iz_Kc X l yX5_takeOver cX5_takeOver 3 (some .boolean) 2 iz_eI) 0 [(0, .ref (X.1 a0)), (1, .ref (X.1 a1))] [] S (Sa_takeOver a0 a1 S) := by
  unfold Sa_takeOver
  refine iz_aload_n (n := 0) 0 0 rfl rfl ?_
  refine iz_aload_n (n := 1) 1 1 rfl rfl ?_
  refine iz_aload_n (n := 0) 2 0 rfl rfl ?_
  refine iz_getR 3 0 h0 fl_X5_9 rfl (by decide) (by decide) rfl ?_
  refine iz_callVI (As := [.ref (X.1 (iz_rf a0 0))]) (rest := [.ref (X.1 a0)]) 4 ml_X5_48 cw_X8_handOver ci_X8_handOver h1 (fun r9 hr9 => m_Wa_handOver h1 (iz_shI (sf_5_0 h0)) hr9) rfl (by decide) (by decide) rfl rfl (Nat.le_of_ble_eq_true rfl) (fun r2 S1 => ?_)
  refine iz_putI 5 7 h0 fl_X5_54 rfl (by decide) (by decide) rfl (fun S3 => ?_)
  refine iz_iconst (v := 0) 6 (by decide) rfl ?_
  refine iz_istore_n (n := 2) (ls2 := [(0, .ref (X.1 a0)), (2, .int 0)]) 7 [1, 0] rfl (by decide) rfl ?_
  exact c_Sa_takeOver_14 h0 h1 iz_FU 0 S3
theorem m_Sa_takeOver {X : iz_X} {l : Launch} {a0 : Nat} (h0 : iz_sh a0 = (5 + 3, 15)) {a1 : Nat} (h1 : iz_sh a1 = (8 + 3, 2)) {S : iz_S} {r9 : Int32 × iz_S} (hr : Sa_takeOver a0 a1 S = some r9) : iz_Mt X l 2 yX5_takeOver cX5_takeOver 3 (some .boolean) [.ref (X.1 a0), .ref (X.1 a1)] S (iz_eI r9) :=
  iz_Mt_of (dt := tX5_takeOver) dX5_takeOver (by decide) hr (Nat.le_of_ble_eq_true rfl) (c_Sa_takeOver h0 h1 S)
def Sa_slot (x0 : Int32) (x1 : Int32) (x2 : Int32) (S : iz_S) : Option (Int32 × iz_S) :=
  some (((((x0 * 3) + x1) * 4) + x2), S)
set_option maxRecDepth 10000 in
theorem c_Sa_slot {X : iz_X} {l : Launch} (x0 : Int32) (x1 : Int32) (x2 : Int32) (S : iz_S) : iz_Y X l RX5 tX5_slot 3 0 (iz_Kc X l yX5_slot cX5_slot 3 (some .int) 0 iz_eI) 0 [(0, .int x0), (1, .int x1), (2, .int x2)] [] S (Sa_slot x0 x1 x2 S) := by
  unfold Sa_slot
  refine iz_iload_n (n := 0) 0 0 rfl rfl ?_
  refine iz_iconst (v := 3) 1 (by decide) rfl ?_
  refine iz_imul 2 rfl ?_
  refine iz_iload_n (n := 1) 3 1 rfl rfl ?_
  refine iz_iadd 4 rfl ?_
  refine iz_iconst (v := 4) 5 (by decide) rfl ?_
  refine iz_imul 6 rfl ?_
  refine iz_iload_n (n := 2) 7 2 rfl rfl ?_
  refine iz_iadd 8 rfl ?_
  exact iz_iret 9 rfl
theorem m_Sa_slot {X : iz_X} {l : Launch} {x0 : Int32} {x1 : Int32} {x2 : Int32} {S : iz_S} {r9 : Int32 × iz_S} (hr : Sa_slot x0 x1 x2 S = some r9) : iz_Mt X l 0 yX5_slot cX5_slot 3 (some .int) [.int x0, .int x1, .int x2] S (iz_eI r9) :=
  iz_Mt_of (dt := tX5_slot) dX5_slot (by decide) hr (Nat.le_of_ble_eq_true rfl) (c_Sa_slot x0 x1 x2 S)
def Sa_fillFits_107 (a0 : Nat) (k4 : Int32 → Int32 → Int32 → iz_S → Option (Int32 × iz_S)) (k33 : Int32 → Int32 → Int32 → Int32 → Int32 → iz_S → Option (Int32 × iz_S)) (x1 : Int32) (x3 : Int32) (x4 : Int32) (x5 : Int32) (s0 : Int32) (S : iz_S) : Option (Int32 × iz_S) :=
  (k33 x1 s0 x3 x4 (x5 + 1) S)
def Sa_fillFits_102 (a0 : Nat) (k4 : Int32 → Int32 → Int32 → iz_S → Option (Int32 × iz_S)) (k33 : Int32 → Int32 → Int32 → Int32 → Int32 → iz_S → Option (Int32 × iz_S)) (x1 : Int32) (x3 : Int32) (x4 : Int32) (x5 : Int32) (S : iz_S) : Option (Int32 × iz_S) :=
  (Sa_fillFits_107 a0 k4 k33 x1 x3 x4 x5 1 S)
def Sa_fillFits_77 (a0 : Nat) (k4 : Int32 → Int32 → Int32 → iz_S → Option (Int32 × iz_S)) (k33 : Int32 → Int32 → Int32 → Int32 → Int32 → iz_S → Option (Int32 × iz_S)) (x1 : Int32) (x2 : Int32) (x3 : Int32) (x4 : Int32) (x5 : Int32) (s0 : Int32) (S : iz_S) : Option (Int32 × iz_S) :=
  (iz_bI (Sa_slot x1 x3 x5 S) (fun r7 S6 =>
  iz_ck (iz_in r7 120) (iz_lt (iz_s S6 (iz_rf a0 8) r7 (iz_nb s0)) (fun S8 =>
  if x2 = 0 then
    (if s0 = 0 then
      (Sa_fillFits_107 a0 k4 k33 x1 x3 x4 x5 0 S8)
    else
      (Sa_fillFits_102 a0 k4 k33 x1 x3 x4 x5 S8))
  else
    (Sa_fillFits_102 a0 k4 k33 x1 x3 x4 x5 S8)))))
def Sa_fillFits_33b (a0 : Nat) (k4 : Int32 → Int32 → Int32 → iz_S → Option (Int32 × iz_S)) (k33 : Int32 → Int32 → Int32 → Int32 → Int32 → iz_S → Option (Int32 × iz_S)) (x1 : Int32) (x2 : Int32) (x3 : Int32) (x4 : Int32) (x5 : Int32) (S : iz_S) : Option (Int32 × iz_S) :=
  (if x5 < 4 then
    (iz_ck (iz_in x3 3) (
    iz_bI (Ho_blockAt (iz_rf a0 5) (iz_g S (iz_rf a0 0) x3) (x4 - x5) S) (fun r3 S2 =>
    iz_bI (Or_hindrance (iz_rf a0 6) x1 r3 S2) (fun r5 S4 =>
    if r5 = 0 then
      (Sa_fillFits_77 a0 k4 k33 x1 x2 x3 x4 x5 1 S4)
    else
      (Sa_fillFits_77 a0 k4 k33 x1 x2 x3 x4 x5 0 S4)))))
  else
    (k4 x1 x2 (x3 + 1) S))
def Sa_fillFits_33 (a0 : Nat) (k4 : Int32 → Int32 → Int32 → iz_S → Option (Int32 × iz_S)) : Nat → Int32 → Int32 → Int32 → Int32 → Int32 → iz_S → Option (Int32 × iz_S)
  | 0 => fun _ _ _ _ _ _ => none
  | n9 + 1 => Sa_fillFits_33b a0 k4 (Sa_fillFits_33 a0 k4 n9)
def Sa_fillFits_4b (a0 : Nat) (k4 : Int32 → Int32 → Int32 → iz_S → Option (Int32 × iz_S)) (x1 : Int32) (x2 : Int32) (x3 : Int32) (S : iz_S) : Option (Int32 × iz_S) :=
  (if x3 < (S.1 a0 7) then
    iz_ck (iz_in x3 3) (
    iz_ck (iz_in (iz_g S (iz_rf a0 0) x3) 16) (
    iz_lt ((iz_g S (iz_rf (iz_rf a0 5) 4) (iz_g S (iz_rf a0 0) x3)) - 1) (fun v1 =>
    (Sa_fillFits_33 a0 k4 iz_FU x1 x2 x3 v1 0 S))))
  else
    iz_ck (decide (iz_nb x2 = x2)) (some (x2, S)))
def Sa_fillFits_4 (a0 : Nat) : Nat → Int32 → Int32 → Int32 → iz_S → Option (Int32 × iz_S)
  | 0 => fun _ _ _ _ => none
  | n9 + 1 => Sa_fillFits_4b a0 (Sa_fillFits_4 a0 n9)
def Sa_fillFits (a0 : Nat) (x1 : Int32) (S : iz_S) : Option (Int32 × iz_S) :=
  (Sa_fillFits_4 a0 iz_FU x1 0 0 S)
set_option maxRecDepth 10000 in
theorem c_Sa_fillFits_107 {X : iz_X} {l : Launch} {a0 : Nat} (h0 : iz_sh a0 = (5 + 3, 15)) {k4 : Int32 → Int32 → Int32 → iz_S → Option (Int32 × iz_S)} {k33 : Int32 → Int32 → Int32 → Int32 → Int32 → iz_S → Option (Int32 × iz_S)} (hk4 : ∀ (x1 : Int32) (x2 : Int32) (x3 : Int32) (S : iz_S), iz_Y X l RX5 tX5_fillFits 8 4 (iz_Kc X l yX5_fillFits cX5_fillFits 8 (some .boolean) 4 iz_eI) 4 [(0, .ref (X.1 a0)), (1, .int x1), (2, .int x2), (3, .int x3)] [] S (k4 x1 x2 x3 S)) (hk33 : ∀ (x1 : Int32) (x2 : Int32) (x3 : Int32) (x4 : Int32) (x5 : Int32) (S : iz_S), iz_Y X l RX5 tX5_fillFits 8 4 (iz_Kc X l yX5_fillFits cX5_fillFits 8 (some .boolean) 4 iz_eI) 33 [(0, .ref (X.1 a0)), (1, .int x1), (2, .int x2), (3, .int x3), (4, .int x4), (5, .int x5)] [] S (k33 x1 x2 x3 x4 x5 S)) (x1 : Int32) (x3 : Int32) (x4 : Int32) (x5 : Int32) (s0 : Int32) (S : iz_S) : iz_Y X l RX5 tX5_fillFits 8 4 (iz_Kc X l yX5_fillFits cX5_fillFits 8 (some .boolean) 4 iz_eI) 107 [(0, .ref (X.1 a0)), (1, .int x1), (3, .int x3), (4, .int x4), (5, .int x5)] [.int s0] S (Sa_fillFits_107 a0 k4 k33 x1 x3 x4 x5 s0 S) := by
  unfold Sa_fillFits_107
  refine iz_istore_n (n := 2) (ls2 := [(0, .ref (X.1 a0)), (1, .int x1), (2, .int s0), (3, .int x3), (4, .int x4), (5, .int x5)]) 60 [1, 2, 0, 3, 4, 5] rfl (by decide) rfl ?_
  refine iz_iinc (v := (x5 + 1)) (ls2 := [(0, .ref (X.1 a0)), (1, .int x1), (2, .int s0), (3, .int x3), (4, .int x4), (5, .int (x5 + 1))]) 61 5 [1, 2, 3, 4, 5, 0] rfl rfl rfl (by decide) rfl ?_
  refine iz_goto (tgt := 33) 62 (by decide) rfl ?_
  exact hk33 x1 s0 x3 x4 (x5 + 1) S
set_option maxRecDepth 10000 in
theorem c_Sa_fillFits_102 {X : iz_X} {l : Launch} {a0 : Nat} (h0 : iz_sh a0 = (5 + 3, 15)) {k4 : Int32 → Int32 → Int32 → iz_S → Option (Int32 × iz_S)} {k33 : Int32 → Int32 → Int32 → Int32 → Int32 → iz_S → Option (Int32 × iz_S)} (hk4 : ∀ (x1 : Int32) (x2 : Int32) (x3 : Int32) (S : iz_S), iz_Y X l RX5 tX5_fillFits 8 4 (iz_Kc X l yX5_fillFits cX5_fillFits 8 (some .boolean) 4 iz_eI) 4 [(0, .ref (X.1 a0)), (1, .int x1), (2, .int x2), (3, .int x3)] [] S (k4 x1 x2 x3 S)) (hk33 : ∀ (x1 : Int32) (x2 : Int32) (x3 : Int32) (x4 : Int32) (x5 : Int32) (S : iz_S), iz_Y X l RX5 tX5_fillFits 8 4 (iz_Kc X l yX5_fillFits cX5_fillFits 8 (some .boolean) 4 iz_eI) 33 [(0, .ref (X.1 a0)), (1, .int x1), (2, .int x2), (3, .int x3), (4, .int x4), (5, .int x5)] [] S (k33 x1 x2 x3 x4 x5 S)) (x1 : Int32) (x3 : Int32) (x4 : Int32) (x5 : Int32) (S : iz_S) : iz_Y X l RX5 tX5_fillFits 8 4 (iz_Kc X l yX5_fillFits cX5_fillFits 8 (some .boolean) 4 iz_eI) 102 [(0, .ref (X.1 a0)), (1, .int x1), (3, .int x3), (4, .int x4), (5, .int x5)] [] S (Sa_fillFits_102 a0 k4 k33 x1 x3 x4 x5 S) := by
  unfold Sa_fillFits_102
  refine iz_iconst (v := 1) 57 (by decide) rfl ?_
  refine iz_goto (tgt := 107) 58 (by decide) rfl ?_
  exact c_Sa_fillFits_107 h0 hk4 hk33 x1 x3 x4 x5 1 S
set_option maxRecDepth 10000 in
theorem c_Sa_fillFits_77 {X : iz_X} {l : Launch} {a0 : Nat} (h0 : iz_sh a0 = (5 + 3, 15)) {k4 : Int32 → Int32 → Int32 → iz_S → Option (Int32 × iz_S)} {k33 : Int32 → Int32 → Int32 → Int32 → Int32 → iz_S → Option (Int32 × iz_S)} (hk4 : ∀ (x1 : Int32) (x2 : Int32) (x3 : Int32) (S : iz_S), iz_Y X l RX5 tX5_fillFits 8 4 (iz_Kc X l yX5_fillFits cX5_fillFits 8 (some .boolean) 4 iz_eI) 4 [(0, .ref (X.1 a0)), (1, .int x1), (2, .int x2), (3, .int x3)] [] S (k4 x1 x2 x3 S)) (hk33 : ∀ (x1 : Int32) (x2 : Int32) (x3 : Int32) (x4 : Int32) (x5 : Int32) (S : iz_S), iz_Y X l RX5 tX5_fillFits 8 4 (iz_Kc X l yX5_fillFits cX5_fillFits 8 (some .boolean) 4 iz_eI) 33 [(0, .ref (X.1 a0)), (1, .int x1), (2, .int x2), (3, .int x3), (4, .int x4), (5, .int x5)] [] S (k33 x1 x2 x3 x4 x5 S)) (x1 : Int32) (x2 : Int32) (x3 : Int32) (x4 : Int32) (x5 : Int32) (s0 : Int32) (S : iz_S) : iz_Y X l RX5 tX5_fillFits 8 4 (iz_Kc X l yX5_fillFits cX5_fillFits 8 (some .boolean) 4 iz_eI) 77 [(0, .ref (X.1 a0)), (1, .int x1), (2, .int x2), (3, .int x3), (4, .int x4), (5, .int x5)] [.int s0] S (Sa_fillFits_77 a0 k4 k33 x1 x2 x3 x4 x5 s0 S) := by
  unfold Sa_fillFits_77
  refine iz_istore (n := 7) (ls2 := [(0, .ref (X.1 a0)), (1, .int x1), (2, .int x2), (3, .int x3), (4, .int x4), (5, .int x5), (7, .int s0)]) 44 [1, 2, 3, 4, 5, 6, 0] rfl (by decide) rfl ?_
  refine iz_aload_n (n := 0) 45 0 rfl rfl ?_
  refine iz_getR 46 8 h0 fl_X5_21 rfl (by decide) (by decide) rfl ?_
  refine iz_iload_n (n := 1) 47 1 rfl rfl ?_
  refine iz_iload_n (n := 3) 48 3 rfl rfl ?_
  refine iz_iload (n := 5) 49 5 rfl rfl ?_
  refine iz_callSI (As := [.int x1, .int x3, .int x5]) (rest := [.ref (X.1 (iz_rf a0 8))]) 50 ml_X5_99 cw_X5_slot ci_X5_slot (fun r9 hr9 => m_Sa_slot  hr9) rfl (by decide) rfl rfl (Nat.le_of_ble_eq_true rfl) (fun r7 S6 => ?_)
  refine iz_iload (n := 7) 51 6 rfl rfl ?_
  refine iz_bast 52 (sf_5_8 h0) rfl (fun S8 => ?_)
  refine iz_iload_n (n := 2) 53 2 rfl rfl ?_
  refine iz_if_ne (tgt := 102) 54 rfl (by decide) ?_ ?_
  · exact iz_sub [0, 1, 3, 4, 5] rfl (c_Sa_fillFits_102 h0 hk4 hk33 x1 x3 x4 x5 S8)
  · refine iz_iload (n := 7) 55 6 rfl rfl ?_
    refine iz_if_eq (tgt := 106) 56 rfl (by decide) ?_ ?_
    · refine iz_iconst (v := 0) 59 (by decide) rfl ?_
      exact iz_sub [0, 1, 3, 4, 5] rfl (c_Sa_fillFits_107 h0 hk4 hk33 x1 x3 x4 x5 0 S8)
    · exact iz_sub [0, 1, 3, 4, 5] rfl (c_Sa_fillFits_102 h0 hk4 hk33 x1 x3 x4 x5 S8)
set_option maxRecDepth 10000 in
theorem c_Sa_fillFits_33b {X : iz_X} {l : Launch} {a0 : Nat} (h0 : iz_sh a0 = (5 + 3, 15)) {k4 : Int32 → Int32 → Int32 → iz_S → Option (Int32 × iz_S)} {k33 : Int32 → Int32 → Int32 → Int32 → Int32 → iz_S → Option (Int32 × iz_S)} (hk4 : ∀ (x1 : Int32) (x2 : Int32) (x3 : Int32) (S : iz_S), iz_Y X l RX5 tX5_fillFits 8 4 (iz_Kc X l yX5_fillFits cX5_fillFits 8 (some .boolean) 4 iz_eI) 4 [(0, .ref (X.1 a0)), (1, .int x1), (2, .int x2), (3, .int x3)] [] S (k4 x1 x2 x3 S)) (hk33 : ∀ (x1 : Int32) (x2 : Int32) (x3 : Int32) (x4 : Int32) (x5 : Int32) (S : iz_S), iz_Y X l RX5 tX5_fillFits 8 4 (iz_Kc X l yX5_fillFits cX5_fillFits 8 (some .boolean) 4 iz_eI) 33 [(0, .ref (X.1 a0)), (1, .int x1), (2, .int x2), (3, .int x3), (4, .int x4), (5, .int x5)] [] S (k33 x1 x2 x3 x4 x5 S)) (x1 : Int32) (x2 : Int32) (x3 : Int32) (x4 : Int32) (x5 : Int32) (S : iz_S) : iz_Y X l RX5 tX5_fillFits 8 4 (iz_Kc X l yX5_fillFits cX5_fillFits 8 (some .boolean) 4 iz_eI) 33 [(0, .ref (X.1 a0)), (1, .int x1), (2, .int x2), (3, .int x3), (4, .int x4), (5, .int x5)] [] S (Sa_fillFits_33b a0 k4 k33 x1 x2 x3 x4 x5 S) := by
  unfold Sa_fillFits_33b
  refine iz_iload (n := 5) 21 5 rfl rfl ?_
  refine iz_iconst (v := 4) 22 (by decide) rfl ?_
  refine iz_cmp_ge (tgt := 114) 23 rfl (by decide) ?_ ?_
  · refine iz_iinc (v := (x3 + 1)) (ls2 := [(0, .ref (X.1 a0)), (1, .int x1), (2, .int x2), (3, .int (x3 + 1))]) 63 3 [1, 2, 3, 0] rfl rfl rfl (by decide) rfl ?_
    refine iz_goto (tgt := 4) 64 (by decide) rfl ?_
    exact hk4 x1 x2 (x3 + 1) S
  · refine iz_aload_n (n := 0) 24 0 rfl rfl ?_
    refine iz_getR 25 5 h0 fl_X5_40 rfl (by decide) (by decide) rfl ?_
    refine iz_aload_n (n := 0) 26 0 rfl rfl ?_
    refine iz_getR 27 0 h0 fl_X5_9 rfl (by decide) (by decide) rfl ?_
    refine iz_iload_n (n := 3) 28 3 rfl rfl ?_
    refine iz_iald 29 (sf_5_0 h0) rfl ?_
    refine iz_iload (n := 4) 30 4 rfl rfl ?_
    refine iz_iload (n := 5) 31 5 rfl rfl ?_
    refine iz_isub 32 rfl ?_
    refine iz_callVI (As := [.int (iz_g S (iz_rf a0 0) x3), .int (x4 - x5)]) (rest := []) 33 ml_X5_92 cw_X1_blockAt ci_X1_blockAt (sf_5_5 h0) (fun r9 hr9 => m_Ho_blockAt (sf_5_5 h0) hr9) rfl (by decide) (by decide) rfl rfl (Nat.le_of_ble_eq_true rfl) (fun r3 S2 => ?_)
    refine iz_istore (n := 6) (ls2 := [(0, .ref (X.1 a0)), (1, .int x1), (2, .int x2), (3, .int x3), (4, .int x4), (5, .int x5), (6, .int r3)]) 34 [1, 2, 3, 4, 5, 6, 0] rfl (by decide) rfl ?_
    refine iz_aload_n (n := 0) 35 0 rfl rfl ?_
    refine iz_getR 36 6 h0 fl_X5_44 rfl (by decide) (by decide) rfl ?_
    refine iz_iload_n (n := 1) 37 1 rfl rfl ?_
    refine iz_iload (n := 6) 38 6 rfl rfl ?_
    refine iz_callVI (As := [.int x1, .int r3]) (rest := []) 39 ml_X5_96 cw_X3_hindrance ci_X3_hindrance (sf_5_6 h0) (fun r9 hr9 => m_Or_hindrance (sf_5_6 h0) hr9) rfl (by decide) (by decide) rfl rfl (Nat.le_of_ble_eq_true rfl) (fun r5 S4 => ?_)
    refine iz_if_ne (tgt := 76) 40 rfl (by decide) ?_ ?_
    · refine iz_iconst (v := 0) 43 (by decide) rfl ?_
      exact iz_sub [0, 1, 2, 3, 4, 5] rfl (c_Sa_fillFits_77 h0 hk4 hk33 x1 x2 x3 x4 x5 0 S4)
    · refine iz_iconst (v := 1) 41 (by decide) rfl ?_
      refine iz_goto (tgt := 77) 42 (by decide) rfl ?_
      exact iz_sub [0, 1, 2, 3, 4, 5] rfl (c_Sa_fillFits_77 h0 hk4 hk33 x1 x2 x3 x4 x5 1 S4)
theorem c_Sa_fillFits_33 {X : iz_X} {l : Launch} {a0 : Nat} (h0 : iz_sh a0 = (5 + 3, 15)) {k4 : Int32 → Int32 → Int32 → iz_S → Option (Int32 × iz_S)} (hk4 : ∀ (x1 : Int32) (x2 : Int32) (x3 : Int32) (S : iz_S), iz_Y X l RX5 tX5_fillFits 8 4 (iz_Kc X l yX5_fillFits cX5_fillFits 8 (some .boolean) 4 iz_eI) 4 [(0, .ref (X.1 a0)), (1, .int x1), (2, .int x2), (3, .int x3)] [] S (k4 x1 x2 x3 S)) : ∀ (n9 : Nat) (x1 : Int32) (x2 : Int32) (x3 : Int32) (x4 : Int32) (x5 : Int32) (S : iz_S), iz_Y X l RX5 tX5_fillFits 8 4 (iz_Kc X l yX5_fillFits cX5_fillFits 8 (some .boolean) 4 iz_eI) 33 [(0, .ref (X.1 a0)), (1, .int x1), (2, .int x2), (3, .int x3), (4, .int x4), (5, .int x5)] [] S (Sa_fillFits_33 a0 k4 n9 x1 x2 x3 x4 x5 S)
  | 0 => by
    intros
    exact iz_none
  | n9 + 1 => c_Sa_fillFits_33b h0 hk4 (c_Sa_fillFits_33 h0 hk4 n9)
set_option maxRecDepth 10000 in
theorem c_Sa_fillFits_4b {X : iz_X} {l : Launch} {a0 : Nat} (h0 : iz_sh a0 = (5 + 3, 15)) {k4 : Int32 → Int32 → Int32 → iz_S → Option (Int32 × iz_S)} (hk4 : ∀ (x1 : Int32) (x2 : Int32) (x3 : Int32) (S : iz_S), iz_Y X l RX5 tX5_fillFits 8 4 (iz_Kc X l yX5_fillFits cX5_fillFits 8 (some .boolean) 4 iz_eI) 4 [(0, .ref (X.1 a0)), (1, .int x1), (2, .int x2), (3, .int x3)] [] S (k4 x1 x2 x3 S)) (x1 : Int32) (x2 : Int32) (x3 : Int32) (S : iz_S) : iz_Y X l RX5 tX5_fillFits 8 4 (iz_Kc X l yX5_fillFits cX5_fillFits 8 (some .boolean) 4 iz_eI) 4 [(0, .ref (X.1 a0)), (1, .int x1), (2, .int x2), (3, .int x3)] [] S (Sa_fillFits_4b a0 k4 x1 x2 x3 S) := by
  unfold Sa_fillFits_4b
  refine iz_iload_n (n := 3) 4 3 rfl rfl ?_
  refine iz_aload_n (n := 0) 5 0 rfl rfl ?_
  refine iz_getI 6 7 h0 fl_X5_54 rfl (by decide) (by decide) rfl ?_
  refine iz_cmp_ge (tgt := 120) 7 rfl (by decide) ?_ ?_
  · refine iz_iload_n (n := 2) 65 2 rfl rfl ?_
    exact iz_zret 66 rfl
  · refine iz_aload_n (n := 0) 8 0 rfl rfl ?_
    refine iz_getR 9 5 h0 fl_X5_40 rfl (by decide) (by decide) rfl ?_
    refine iz_getR 10 4 (sf_5_5 h0) fl_X5_87 rfl (by decide) (by decide) rfl ?_
    refine iz_aload_n (n := 0) 11 0 rfl rfl ?_
    refine iz_getR 12 0 h0 fl_X5_9 rfl (by decide) (by decide) rfl ?_
    refine iz_iload_n (n := 3) 13 3 rfl rfl ?_
    refine iz_iald 14 (sf_5_0 h0) rfl ?_
    refine iz_iald 15 (sf_1_4 (sf_5_5 h0)) rfl ?_
    refine iz_iconst (v := 1) 16 (by decide) rfl ?_
    refine iz_isub 17 rfl ?_
    refine iz_let (fun v1 => ?_)
    refine iz_istore (n := 4) (ls2 := [(0, .ref (X.1 a0)), (1, .int x1), (2, .int x2), (3, .int x3), (4, .int v1)]) 18 [1, 2, 3, 4, 0] rfl (by decide) rfl ?_
    refine iz_iconst (v := 0) 19 (by decide) rfl ?_
    refine iz_istore (n := 5) (ls2 := [(0, .ref (X.1 a0)), (1, .int x1), (2, .int x2), (3, .int x3), (4, .int v1), (5, .int 0)]) 20 [1, 2, 3, 4, 5, 0] rfl (by decide) rfl ?_
    exact c_Sa_fillFits_33 h0 hk4 iz_FU x1 x2 x3 v1 0 S
theorem c_Sa_fillFits_4 {X : iz_X} {l : Launch} {a0 : Nat} (h0 : iz_sh a0 = (5 + 3, 15)) : ∀ (n9 : Nat) (x1 : Int32) (x2 : Int32) (x3 : Int32) (S : iz_S), iz_Y X l RX5 tX5_fillFits 8 4 (iz_Kc X l yX5_fillFits cX5_fillFits 8 (some .boolean) 4 iz_eI) 4 [(0, .ref (X.1 a0)), (1, .int x1), (2, .int x2), (3, .int x3)] [] S (Sa_fillFits_4 a0 n9 x1 x2 x3 S)
  | 0 => by
    intros
    exact iz_none
  | n9 + 1 => c_Sa_fillFits_4b h0 (c_Sa_fillFits_4 h0 n9)
set_option maxRecDepth 10000 in
theorem c_Sa_fillFits {X : iz_X} {l : Launch} {a0 : Nat} (h0 : iz_sh a0 = (5 + 3, 15)) (x1 : Int32) (S : iz_S) : iz_Y X l RX5 tX5_fillFits 8 4 (iz_Kc X l yX5_fillFits cX5_fillFits 8 (some .boolean) 4 iz_eI) 0 [(0, .ref (X.1 a0)), (1, .int x1)] [] S (Sa_fillFits a0 x1 S) := by
  unfold Sa_fillFits
  refine iz_iconst (v := 0) 0 (by decide) rfl ?_
  refine iz_istore_n (n := 2) (ls2 := [(0, .ref (X.1 a0)), (1, .int x1), (2, .int 0)]) 1 [1, 2, 0] rfl (by decide) rfl ?_
  refine iz_iconst (v := 0) 2 (by decide) rfl ?_
  refine iz_istore_n (n := 3) (ls2 := [(0, .ref (X.1 a0)), (1, .int x1), (2, .int 0), (3, .int 0)]) 3 [1, 2, 3, 0] rfl (by decide) rfl ?_
  exact c_Sa_fillFits_4 h0 iz_FU x1 0 0 S
theorem m_Sa_fillFits {X : iz_X} {l : Launch} {a0 : Nat} (h0 : iz_sh a0 = (5 + 3, 15)) {x1 : Int32} {S : iz_S} {r9 : Int32 × iz_S} (hr : Sa_fillFits a0 x1 S = some r9) : iz_Mt X l 4 yX5_fillFits cX5_fillFits 8 (some .boolean) [.ref (X.1 a0), .int x1] S (iz_eI r9) :=
  iz_Mt_of (dt := tX5_fillFits) dX5_fillFits (by decide) hr (Nat.le_of_ble_eq_true rfl) (c_Sa_fillFits h0 x1 S)
def Sa_enlist_57 (a0 : Nat) (x1 : Int32) (x2 : Int32) (S : iz_S) : Option iz_S :=
  iz_ck (iz_in x2 10) (iz_lt (iz_s S (iz_rf a0 9) x2 x1) (fun S3 =>
  iz_lt (iz_up S3 a0 10 ((S3.1 a0 10) + 1)) (fun S4 =>
  some S4)))
def Sa_enlist_5b (a0 : Nat) (k5 : Int32 → Int32 → iz_S → Option iz_S) (x1 : Int32) (x2 : Int32) (S : iz_S) : Option iz_S :=
  (if x2 ≤ 0 then
    (Sa_enlist_57 a0 x1 x2 S)
  else
    (iz_ck (iz_in (x2 - 1) 10) (
    iz_ck (iz_in (iz_g S (iz_rf a0 9) (x2 - 1)) 10) (
    iz_ck (iz_in x1 10) (
    if (iz_g S (iz_rf (iz_rf a0 6) 3) (iz_g S (iz_rf a0 9) (x2 - 1))) < (iz_g S (iz_rf (iz_rf a0 6) 3) x1) then
      iz_ck (iz_in (x2 - 1) 10) (
      iz_ck (iz_in x2 10) (iz_lt (iz_s S (iz_rf a0 9) x2 (iz_g S (iz_rf a0 9) (x2 - 1))) (fun S2 =>
      (k5 x1 (x2 + (-1)) S2))))
    else
      (Sa_enlist_57 a0 x1 x2 S))))))
def Sa_enlist_5 (a0 : Nat) : Nat → Int32 → Int32 → iz_S → Option iz_S
  | 0 => fun _ _ _ => none
  | n9 + 1 => Sa_enlist_5b a0 (Sa_enlist_5 a0 n9)
def Sa_enlist (a0 : Nat) (x1 : Int32) (S : iz_S) : Option iz_S :=
  iz_lt (S.1 a0 10) (fun v1 =>
  (Sa_enlist_5 a0 iz_FU x1 v1 S))
set_option maxRecDepth 10000 in
theorem c_Sa_enlist_57 {X : iz_X} {l : Launch} {a0 : Nat} (h0 : iz_sh a0 = (5 + 3, 15)) (x1 : Int32) (x2 : Int32) (S : iz_S) : iz_Y X l RX5 tX5_enlist 3 0 (iz_Kc X l yX5_enlist cX5_enlist 3 none 0 iz_eV) 57 [(0, .ref (X.1 a0)), (1, .int x1), (2, .int x2)] [] S (Sa_enlist_57 a0 x1 x2 S) := by
  unfold Sa_enlist_57
  refine iz_aload_n (n := 0) 33 0 rfl rfl ?_
  refine iz_getR 34 9 h0 fl_X5_25 rfl (by decide) (by decide) rfl ?_
  refine iz_iload_n (n := 2) 35 2 rfl rfl ?_
  refine iz_iload_n (n := 1) 36 1 rfl rfl ?_
  refine iz_iast 37 (sf_5_9 h0) rfl (fun S3 => ?_)
  refine iz_aload_n (n := 0) 38 0 rfl rfl ?_
  refine iz_dup 39 rfl rfl ?_
  refine iz_getI 40 10 h0 fl_X5_68 rfl (by decide) (by decide) rfl ?_
  refine iz_iconst (v := 1) 41 (by decide) rfl ?_
  refine iz_iadd 42 rfl ?_
  refine iz_putI 43 10 h0 fl_X5_68 rfl (by decide) (by decide) rfl (fun S4 => ?_)
  exact iz_vret 44 rfl
set_option maxRecDepth 10000 in
theorem c_Sa_enlist_5b {X : iz_X} {l : Launch} {a0 : Nat} (h0 : iz_sh a0 = (5 + 3, 15)) {k5 : Int32 → Int32 → iz_S → Option iz_S} (hk5 : ∀ (x1 : Int32) (x2 : Int32) (S : iz_S), iz_Y X l RX5 tX5_enlist 3 0 (iz_Kc X l yX5_enlist cX5_enlist 3 none 0 iz_eV) 5 [(0, .ref (X.1 a0)), (1, .int x1), (2, .int x2)] [] S (k5 x1 x2 S)) (x1 : Int32) (x2 : Int32) (S : iz_S) : iz_Y X l RX5 tX5_enlist 3 0 (iz_Kc X l yX5_enlist cX5_enlist 3 none 0 iz_eV) 5 [(0, .ref (X.1 a0)), (1, .int x1), (2, .int x2)] [] S (Sa_enlist_5b a0 k5 x1 x2 S) := by
  unfold Sa_enlist_5b
  refine iz_iload_n (n := 2) 3 2 rfl rfl ?_
  refine iz_if_le (tgt := 57) 4 rfl (by decide) ?_ ?_
  · exact c_Sa_enlist_57 h0 x1 x2 S
  · refine iz_aload_n (n := 0) 5 0 rfl rfl ?_
    refine iz_getR 6 6 h0 fl_X5_44 rfl (by decide) (by decide) rfl ?_
    refine iz_getR 7 3 (sf_5_6 h0) fl_X5_103 rfl (by decide) (by decide) rfl ?_
    refine iz_aload_n (n := 0) 8 0 rfl rfl ?_
    refine iz_getR 9 9 h0 fl_X5_25 rfl (by decide) (by decide) rfl ?_
    refine iz_iload_n (n := 2) 10 2 rfl rfl ?_
    refine iz_iconst (v := 1) 11 (by decide) rfl ?_
    refine iz_isub 12 rfl ?_
    refine iz_iald 13 (sf_5_9 h0) rfl ?_
    refine iz_iald 14 (sf_3_3 (sf_5_6 h0)) rfl ?_
    refine iz_aload_n (n := 0) 15 0 rfl rfl ?_
    refine iz_getR 16 6 h0 fl_X5_44 rfl (by decide) (by decide) rfl ?_
    refine iz_getR 17 3 (sf_5_6 h0) fl_X5_103 rfl (by decide) (by decide) rfl ?_
    refine iz_iload_n (n := 1) 18 1 rfl rfl ?_
    refine iz_iald 19 (sf_3_3 (sf_5_6 h0)) rfl ?_
    refine iz_cmp_ge (tgt := 57) 20 rfl (by decide) ?_ ?_
    · exact c_Sa_enlist_57 h0 x1 x2 S
    · refine iz_aload_n (n := 0) 21 0 rfl rfl ?_
      refine iz_getR 22 9 h0 fl_X5_25 rfl (by decide) (by decide) rfl ?_
      refine iz_iload_n (n := 2) 23 2 rfl rfl ?_
      refine iz_aload_n (n := 0) 24 0 rfl rfl ?_
      refine iz_getR 25 9 h0 fl_X5_25 rfl (by decide) (by decide) rfl ?_
      refine iz_iload_n (n := 2) 26 2 rfl rfl ?_
      refine iz_iconst (v := 1) 27 (by decide) rfl ?_
      refine iz_isub 28 rfl ?_
      refine iz_iald 29 (sf_5_9 h0) rfl ?_
      refine iz_iast 30 (sf_5_9 h0) rfl (fun S2 => ?_)
      refine iz_iinc (v := (x2 + (-1))) (ls2 := [(0, .ref (X.1 a0)), (1, .int x1), (2, .int (x2 + (-1)))]) 31 2 [1, 2, 0] rfl rfl rfl (by decide) rfl ?_
      refine iz_goto (tgt := 5) 32 (by decide) rfl ?_
      exact hk5 x1 (x2 + (-1)) S2
theorem c_Sa_enlist_5 {X : iz_X} {l : Launch} {a0 : Nat} (h0 : iz_sh a0 = (5 + 3, 15)) : ∀ (n9 : Nat) (x1 : Int32) (x2 : Int32) (S : iz_S), iz_Y X l RX5 tX5_enlist 3 0 (iz_Kc X l yX5_enlist cX5_enlist 3 none 0 iz_eV) 5 [(0, .ref (X.1 a0)), (1, .int x1), (2, .int x2)] [] S (Sa_enlist_5 a0 n9 x1 x2 S)
  | 0 => by
    intros
    exact iz_none
  | n9 + 1 => c_Sa_enlist_5b h0 (c_Sa_enlist_5 h0 n9)
set_option maxRecDepth 10000 in
theorem c_Sa_enlist {X : iz_X} {l : Launch} {a0 : Nat} (h0 : iz_sh a0 = (5 + 3, 15)) (x1 : Int32) (S : iz_S) : iz_Y X l RX5 tX5_enlist 3 0 (iz_Kc X l yX5_enlist cX5_enlist 3 none 0 iz_eV) 0 [(0, .ref (X.1 a0)), (1, .int x1)] [] S (Sa_enlist a0 x1 S) := by
  unfold Sa_enlist
  refine iz_aload_n (n := 0) 0 0 rfl rfl ?_
  refine iz_getI 1 10 h0 fl_X5_68 rfl (by decide) (by decide) rfl ?_
  refine iz_let (fun v1 => ?_)
  refine iz_istore_n (n := 2) (ls2 := [(0, .ref (X.1 a0)), (1, .int x1), (2, .int v1)]) 2 [1, 2, 0] rfl (by decide) rfl ?_
  exact c_Sa_enlist_5 h0 iz_FU x1 v1 S
theorem m_Sa_enlist {X : iz_X} {l : Launch} {a0 : Nat} (h0 : iz_sh a0 = (5 + 3, 15)) {x1 : Int32} {S : iz_S} {r9 : iz_S} (hr : Sa_enlist a0 x1 S = some r9) : iz_Mt X l 0 yX5_enlist cX5_enlist 3 none [.ref (X.1 a0), .int x1] S (iz_eV r9) :=
  iz_Mt_of (dt := tX5_enlist) dX5_enlist (by decide) hr (Nat.le_of_ble_eq_true rfl) (c_Sa_enlist h0 x1 S)
def Sa_keepIfBetter_62 (a0 : Nat) (S : iz_S) : Option iz_S :=
  some S
def Sa_keepIfBetter_24 (a0 : Nat) (x1 : Int32) (x2 : Int32) (S : iz_S) : Option iz_S :=
  iz_lt (iz_up S a0 1 x2) (fun S1 =>
  iz_lt (iz_up S1 a0 2 x1) (fun S2 =>
  iz_ck (iz_cpk 0 0 x1 4 4) (iz_lt (iz_cpy S2 (iz_rf a0 13) (Int32.toNatClampNeg 0) (iz_rf a0 3) (Int32.toNatClampNeg 0) (Int32.toNatClampNeg x1)) (fun S3 =>
  iz_ck (iz_cpk 0 0 x1 4 4) (iz_lt (iz_cpy S3 (iz_rf a0 14) (Int32.toNatClampNeg 0) (iz_rf a0 4) (Int32.toNatClampNeg 0) (Int32.toNatClampNeg x1)) (fun S4 =>
  (Sa_keepIfBetter_62 a0 S4)))))))
def Sa_keepIfBetter (a0 : Nat) (x1 : Int32) (x2 : Int32) (S : iz_S) : Option iz_S :=
  (if x2 ≤ (S.1 a0 1) then
    (if x2 = (S.1 a0 1) then
      (if x1 < (S.1 a0 2) then
        (Sa_keepIfBetter_24 a0 x1 x2 S)
      else
        (Sa_keepIfBetter_62 a0 S))
    else
      (Sa_keepIfBetter_62 a0 S))
  else
    (Sa_keepIfBetter_24 a0 x1 x2 S))
set_option maxRecDepth 10000 in
theorem c_Sa_keepIfBetter_62 {X : iz_X} {l : Launch} {a0 : Nat} (h0 : iz_sh a0 = (5 + 3, 15)) (S : iz_S) : iz_Y X l RX5 tX5_keepIfBetter 3 1 (iz_Kc X l yX5_keepIfBetter cX5_keepIfBetter 3 none 1 iz_eV) 62 [] [] S (Sa_keepIfBetter_62 a0 S) := by
  unfold Sa_keepIfBetter_62
  exact iz_vret 34 rfl
set_option maxRecDepth 10000 in
theorem c_Sa_keepIfBetter_24 {X : iz_X} {l : Launch} {a0 : Nat} (h0 : iz_sh a0 = (5 + 3, 15)) (x1 : Int32) (x2 : Int32) (S : iz_S) : iz_Y X l RX5 tX5_keepIfBetter 3 1 (iz_Kc X l yX5_keepIfBetter cX5_keepIfBetter 3 none 1 iz_eV) 24 [(0, .ref (X.1 a0)), (1, .int x1), (2, .int x2)] [] S (Sa_keepIfBetter_24 a0 x1 x2 S) := by
  unfold Sa_keepIfBetter_24
  refine iz_aload_n (n := 0) 12 0 rfl rfl ?_
  refine iz_iload_n (n := 2) 13 2 rfl rfl ?_
  refine iz_putI 14 1 h0 fl_X5_62 rfl (by decide) (by decide) rfl (fun S1 => ?_)
  refine iz_aload_n (n := 0) 15 0 rfl rfl ?_
  refine iz_iload_n (n := 1) 16 1 rfl rfl ?_
  refine iz_putI 17 2 h0 fl_X5_65 rfl (by decide) (by decide) rfl (fun S2 => ?_)
  refine iz_aload_n (n := 0) 18 0 rfl rfl ?_
  refine iz_getR 19 13 h0 fl_X5_34 rfl (by decide) (by decide) rfl ?_
  refine iz_iconst (v := 0) 20 (by decide) rfl ?_
  refine iz_aload_n (n := 0) 21 0 rfl rfl ?_
  refine iz_getR 22 3 h0 fl_X5_15 rfl (by decide) (by decide) rfl ?_
  refine iz_iconst (v := 0) 23 (by decide) rfl ?_
  refine iz_iload_n (n := 1) 24 1 rfl rfl ?_
  refine iz_acopy 25 (sf_5_13 h0) (sf_5_3 h0) ml_X5_124 ac_nat ac_sta ac_ini (by decide) (Nat.le_of_ble_eq_true rfl) rfl (fun S3 => ?_)
  refine iz_aload_n (n := 0) 26 0 rfl rfl ?_
  refine iz_getR 27 14 h0 fl_X5_37 rfl (by decide) (by decide) rfl ?_
  refine iz_iconst (v := 0) 28 (by decide) rfl ?_
  refine iz_aload_n (n := 0) 29 0 rfl rfl ?_
  refine iz_getR 30 4 h0 fl_X5_18 rfl (by decide) (by decide) rfl ?_
  refine iz_iconst (v := 0) 31 (by decide) rfl ?_
  refine iz_iload_n (n := 1) 32 1 rfl rfl ?_
  refine iz_acopy 33 (sf_5_14 h0) (sf_5_4 h0) ml_X5_124 ac_nat ac_sta ac_ini (by decide) (Nat.le_of_ble_eq_true rfl) rfl (fun S4 => ?_)
  exact iz_sub [] rfl (c_Sa_keepIfBetter_62 h0 S4)
set_option maxRecDepth 10000 in
theorem c_Sa_keepIfBetter {X : iz_X} {l : Launch} {a0 : Nat} (h0 : iz_sh a0 = (5 + 3, 15)) (x1 : Int32) (x2 : Int32) (S : iz_S) : iz_Y X l RX5 tX5_keepIfBetter 3 1 (iz_Kc X l yX5_keepIfBetter cX5_keepIfBetter 3 none 1 iz_eV) 0 [(0, .ref (X.1 a0)), (1, .int x1), (2, .int x2)] [] S (Sa_keepIfBetter a0 x1 x2 S) := by
  unfold Sa_keepIfBetter
  refine iz_iload_n (n := 2) 0 2 rfl rfl ?_
  refine iz_aload_n (n := 0) 1 0 rfl rfl ?_
  refine iz_getI 2 1 h0 fl_X5_62 rfl (by decide) (by decide) rfl ?_
  refine iz_cmp_gt (tgt := 24) 3 rfl (by decide) ?_ ?_
  · exact c_Sa_keepIfBetter_24 h0 x1 x2 S
  · refine iz_iload_n (n := 2) 4 2 rfl rfl ?_
    refine iz_aload_n (n := 0) 5 0 rfl rfl ?_
    refine iz_getI 6 1 h0 fl_X5_62 rfl (by decide) (by decide) rfl ?_
    refine iz_cmp_ne (tgt := 62) 7 rfl (by decide) ?_ ?_
    · exact iz_sub [] rfl (c_Sa_keepIfBetter_62 h0 S)
    · refine iz_iload_n (n := 1) 8 1 rfl rfl ?_
      refine iz_aload_n (n := 0) 9 0 rfl rfl ?_
      refine iz_getI 10 2 h0 fl_X5_65 rfl (by decide) (by decide) rfl ?_
      refine iz_cmp_ge (tgt := 62) 11 rfl (by decide) ?_ ?_
      · exact iz_sub [] rfl (c_Sa_keepIfBetter_62 h0 S)
      · exact c_Sa_keepIfBetter_24 h0 x1 x2 S
theorem m_Sa_keepIfBetter {X : iz_X} {l : Launch} {a0 : Nat} (h0 : iz_sh a0 = (5 + 3, 15)) {x1 : Int32} {x2 : Int32} {S : iz_S} {r9 : iz_S} (hr : Sa_keepIfBetter a0 x1 x2 S = some r9) : iz_Mt X l 1 yX5_keepIfBetter cX5_keepIfBetter 3 none [.ref (X.1 a0), .int x1, .int x2] S (iz_eV r9) :=
  iz_Mt_of (dt := tX5_keepIfBetter) dX5_keepIfBetter (by decide) hr (Nat.le_of_ble_eq_true rfl) (c_Sa_keepIfBetter h0 x1 x2 S)
def Sa_dearest_62 (a0 : Nat) (x2 : Int32) (S : iz_S) : Option (Int32 × iz_S) :=
  some (x2, S)
def Sa_dearest_56 (a0 : Nat) (k7 : Int32 → Int32 → Int32 → iz_S → Option (Int32 × iz_S)) (x2 : Int32) (x3 : Int32) (x4 : Int32) (S : iz_S) : Option (Int32 × iz_S) :=
  (k7 x2 x3 (x4 + 1) S)
def Sa_dearest_7b (a0 : Nat) (k7 : Int32 → Int32 → Int32 → iz_S → Option (Int32 × iz_S)) (x2 : Int32) (x3 : Int32) (x4 : Int32) (S : iz_S) : Option (Int32 × iz_S) :=
  (if x4 < (S.1 a0 10) then
    (if x3 ≤ 0 then
      (Sa_dearest_62 a0 x2 S)
    else
      (iz_ck (iz_in x4 10) (
      iz_ck (iz_in (iz_g S (iz_rf a0 9) x4) 10) (
      if (iz_g S (iz_rf a0 11) (iz_g S (iz_rf a0 9) x4)) = 0 then
        iz_ck (iz_in x4 10) (
        iz_ck (iz_in (iz_g S (iz_rf a0 9) x4) 10) (
        iz_lt (x2 + (iz_g S (iz_rf (iz_rf a0 6) 3) (iz_g S (iz_rf a0 9) x4))) (fun v1 =>
        (Sa_dearest_56 a0 k7 v1 (x3 + (-1)) x4 S))))
      else
        (Sa_dearest_56 a0 k7 x2 x3 x4 S)))))
  else
    (Sa_dearest_62 a0 x2 S))
def Sa_dearest_7 (a0 : Nat) : Nat → Int32 → Int32 → Int32 → iz_S → Option (Int32 × iz_S)
  | 0 => fun _ _ _ _ => none
  | n9 + 1 => Sa_dearest_7b a0 (Sa_dearest_7 a0 n9)
def Sa_dearest (a0 : Nat) (x1 : Int32) (S : iz_S) : Option (Int32 × iz_S) :=
  (Sa_dearest_7 a0 iz_FU 0 x1 0 S)
set_option maxRecDepth 10000 in
theorem c_Sa_dearest_62 {X : iz_X} {l : Launch} {a0 : Nat} (h0 : iz_sh a0 = (5 + 3, 15)) (x2 : Int32) (S : iz_S) : iz_Y X l RX5 tX5_dearest 5 0 (iz_Kc X l yX5_dearest cX5_dearest 5 (some .int) 0 iz_eI) 62 [(2, .int x2)] [] S (Sa_dearest_62 a0 x2 S) := by
  unfold Sa_dearest_62
  refine iz_iload_n (n := 2) 34 0 rfl rfl ?_
  exact iz_iret 35 rfl
set_option maxRecDepth 10000 in
theorem c_Sa_dearest_56 {X : iz_X} {l : Launch} {a0 : Nat} (h0 : iz_sh a0 = (5 + 3, 15)) {k7 : Int32 → Int32 → Int32 → iz_S → Option (Int32 × iz_S)} (hk7 : ∀ (x2 : Int32) (x3 : Int32) (x4 : Int32) (S : iz_S), iz_Y X l RX5 tX5_dearest 5 0 (iz_Kc X l yX5_dearest cX5_dearest 5 (some .int) 0 iz_eI) 7 [(0, .ref (X.1 a0)), (2, .int x2), (3, .int x3), (4, .int x4)] [] S (k7 x2 x3 x4 S)) (x2 : Int32) (x3 : Int32) (x4 : Int32) (S : iz_S) : iz_Y X l RX5 tX5_dearest 5 0 (iz_Kc X l yX5_dearest cX5_dearest 5 (some .int) 0 iz_eI) 56 [(0, .ref (X.1 a0)), (2, .int x2), (3, .int x3), (4, .int x4)] [] S (Sa_dearest_56 a0 k7 x2 x3 x4 S) := by
  unfold Sa_dearest_56
  refine iz_iinc (v := (x4 + 1)) (ls2 := [(0, .ref (X.1 a0)), (2, .int x2), (3, .int x3), (4, .int (x4 + 1))]) 32 3 [1, 2, 3, 0] rfl rfl rfl (by decide) rfl ?_
  refine iz_goto (tgt := 7) 33 (by decide) rfl ?_
  exact hk7 x2 x3 (x4 + 1) S
set_option maxRecDepth 10000 in
theorem c_Sa_dearest_7b {X : iz_X} {l : Launch} {a0 : Nat} (h0 : iz_sh a0 = (5 + 3, 15)) {k7 : Int32 → Int32 → Int32 → iz_S → Option (Int32 × iz_S)} (hk7 : ∀ (x2 : Int32) (x3 : Int32) (x4 : Int32) (S : iz_S), iz_Y X l RX5 tX5_dearest 5 0 (iz_Kc X l yX5_dearest cX5_dearest 5 (some .int) 0 iz_eI) 7 [(0, .ref (X.1 a0)), (2, .int x2), (3, .int x3), (4, .int x4)] [] S (k7 x2 x3 x4 S)) (x2 : Int32) (x3 : Int32) (x4 : Int32) (S : iz_S) : iz_Y X l RX5 tX5_dearest 5 0 (iz_Kc X l yX5_dearest cX5_dearest 5 (some .int) 0 iz_eI) 7 [(0, .ref (X.1 a0)), (2, .int x2), (3, .int x3), (4, .int x4)] [] S (Sa_dearest_7b a0 k7 x2 x3 x4 S) := by
  unfold Sa_dearest_7b
  refine iz_iload (n := 4) 6 3 rfl rfl ?_
  refine iz_aload_n (n := 0) 7 0 rfl rfl ?_
  refine iz_getI 8 10 h0 fl_X5_68 rfl (by decide) (by decide) rfl ?_
  refine iz_cmp_ge (tgt := 62) 9 rfl (by decide) ?_ ?_
  · exact iz_sub [1] rfl (c_Sa_dearest_62 h0 x2 S)
  · refine iz_iload_n (n := 3) 10 2 rfl rfl ?_
    refine iz_if_le (tgt := 62) 11 rfl (by decide) ?_ ?_
    · exact iz_sub [1] rfl (c_Sa_dearest_62 h0 x2 S)
    · refine iz_aload_n (n := 0) 12 0 rfl rfl ?_
      refine iz_getR 13 11 h0 fl_X5_28 rfl (by decide) (by decide) rfl ?_
      refine iz_aload_n (n := 0) 14 0 rfl rfl ?_
      refine iz_getR 15 9 h0 fl_X5_25 rfl (by decide) (by decide) rfl ?_
      refine iz_iload (n := 4) 16 3 rfl rfl ?_
      refine iz_iald 17 (sf_5_9 h0) rfl ?_
      refine iz_bald 18 (sf_5_11 h0) rfl ?_
      refine iz_if_ne (tgt := 56) 19 rfl (by decide) ?_ ?_
      · exact c_Sa_dearest_56 h0 hk7 x2 x3 x4 S
      · refine iz_iload_n (n := 2) 20 1 rfl rfl ?_
        refine iz_aload_n (n := 0) 21 0 rfl rfl ?_
        refine iz_getR 22 6 h0 fl_X5_44 rfl (by decide) (by decide) rfl ?_
        refine iz_getR 23 3 (sf_5_6 h0) fl_X5_103 rfl (by decide) (by decide) rfl ?_
        refine iz_aload_n (n := 0) 24 0 rfl rfl ?_
        refine iz_getR 25 9 h0 fl_X5_25 rfl (by decide) (by decide) rfl ?_
        refine iz_iload (n := 4) 26 3 rfl rfl ?_
        refine iz_iald 27 (sf_5_9 h0) rfl ?_
        refine iz_iald 28 (sf_3_3 (sf_5_6 h0)) rfl ?_
        refine iz_iadd 29 rfl ?_
        refine iz_let (fun v1 => ?_)
        refine iz_istore_n (n := 2) (ls2 := [(0, .ref (X.1 a0)), (2, .int v1), (3, .int x3), (4, .int x4)]) 30 [1, 0, 2, 3] rfl (by decide) rfl ?_
        refine iz_iinc (v := (x3 + (-1))) (ls2 := [(0, .ref (X.1 a0)), (2, .int v1), (3, .int (x3 + (-1))), (4, .int x4)]) 31 2 [1, 2, 0, 3] rfl rfl rfl (by decide) rfl ?_
        exact c_Sa_dearest_56 h0 hk7 v1 (x3 + (-1)) x4 S
theorem c_Sa_dearest_7 {X : iz_X} {l : Launch} {a0 : Nat} (h0 : iz_sh a0 = (5 + 3, 15)) : ∀ (n9 : Nat) (x2 : Int32) (x3 : Int32) (x4 : Int32) (S : iz_S), iz_Y X l RX5 tX5_dearest 5 0 (iz_Kc X l yX5_dearest cX5_dearest 5 (some .int) 0 iz_eI) 7 [(0, .ref (X.1 a0)), (2, .int x2), (3, .int x3), (4, .int x4)] [] S (Sa_dearest_7 a0 n9 x2 x3 x4 S)
  | 0 => by
    intros
    exact iz_none
  | n9 + 1 => c_Sa_dearest_7b h0 (c_Sa_dearest_7 h0 n9)
set_option maxRecDepth 10000 in
theorem c_Sa_dearest {X : iz_X} {l : Launch} {a0 : Nat} (h0 : iz_sh a0 = (5 + 3, 15)) (x1 : Int32) (S : iz_S) : iz_Y X l RX5 tX5_dearest 5 0 (iz_Kc X l yX5_dearest cX5_dearest 5 (some .int) 0 iz_eI) 0 [(0, .ref (X.1 a0)), (1, .int x1)] [] S (Sa_dearest a0 x1 S) := by
  unfold Sa_dearest
  refine iz_iconst (v := 0) 0 (by decide) rfl ?_
  refine iz_istore_n (n := 2) (ls2 := [(0, .ref (X.1 a0)), (1, .int x1), (2, .int 0)]) 1 [1, 2, 0] rfl (by decide) rfl ?_
  refine iz_iload_n (n := 1) 2 1 rfl rfl ?_
  refine iz_istore_n (n := 3) (ls2 := [(0, .ref (X.1 a0)), (2, .int 0), (3, .int x1)]) 3 [1, 3, 0] rfl (by decide) rfl ?_
  refine iz_iconst (v := 0) 4 (by decide) rfl ?_
  refine iz_istore (n := 4) (ls2 := [(0, .ref (X.1 a0)), (2, .int 0), (3, .int x1), (4, .int 0)]) 5 [1, 2, 3, 0] rfl (by decide) rfl ?_
  exact c_Sa_dearest_7 h0 iz_FU 0 x1 0 S
theorem m_Sa_dearest {X : iz_X} {l : Launch} {a0 : Nat} (h0 : iz_sh a0 = (5 + 3, 15)) {x1 : Int32} {S : iz_S} {r9 : Int32 × iz_S} (hr : Sa_dearest a0 x1 S = some r9) : iz_Mt X l 0 yX5_dearest cX5_dearest 5 (some .int) [.ref (X.1 a0), .int x1] S (iz_eI r9) :=
  iz_Mt_of (dt := tX5_dearest) dX5_dearest (by decide) hr (Nat.le_of_ble_eq_true rfl) (c_Sa_dearest h0 x1 S)
def Sa_mayImprove_21 (a0 : Nat) (s0 : Int32) (S : iz_S) : Option (Int32 × iz_S) :=
  iz_ck (decide (iz_nb s0 = s0)) (some (s0, S))
def Sa_mayImprove (a0 : Nat) (x1 : Int32) (x2 : Int32) (S : iz_S) : Option (Int32 × iz_S) :=
  (iz_bI (Sa_dearest a0 ((4 : Int32) - x1) S) (fun r2 S1 =>
  if (x2 + r2) ≤ (S1.1 a0 1) then
    (Sa_mayImprove_21 a0 0 S1)
  else
    (Sa_mayImprove_21 a0 1 S1)))
set_option maxRecDepth 10000 in
theorem c_Sa_mayImprove_21 {X : iz_X} {l : Launch} {a0 : Nat} (h0 : iz_sh a0 = (5 + 3, 15)) (s0 : Int32) (S : iz_S) : iz_Y X l RX5 tX5_mayImprove 3 1 (iz_Kc X l yX5_mayImprove cX5_mayImprove 3 (some .boolean) 1 iz_eI) 21 [] [.int s0] S (Sa_mayImprove_21 a0 s0 S) := by
  unfold Sa_mayImprove_21
  exact iz_zret 13 rfl
set_option maxRecDepth 10000 in
theorem c_Sa_mayImprove {X : iz_X} {l : Launch} {a0 : Nat} (h0 : iz_sh a0 = (5 + 3, 15)) (x1 : Int32) (x2 : Int32) (S : iz_S) : iz_Y X l RX5 tX5_mayImprove 3 1 (iz_Kc X l yX5_mayImprove cX5_mayImprove 3 (some .boolean) 1 iz_eI) 0 [(0, .ref (X.1 a0)), (1, .int x1), (2, .int x2)] [] S (Sa_mayImprove a0 x1 x2 S) := by
  unfold Sa_mayImprove
  refine iz_iload_n (n := 2) 0 2 rfl rfl ?_
  refine iz_aload_n (n := 0) 1 0 rfl rfl ?_
  refine iz_iconst (v := 4) 2 (by decide) rfl ?_
  refine iz_iload_n (n := 1) 3 1 rfl rfl ?_
  refine iz_isub 4 rfl ?_
  refine iz_callVI (As := [.int ((4 : Int32) - x1)]) (rest := [.int x2]) 5 ml_X5_130 cw_X5_dearest ci_X5_dearest h0 (fun r9 hr9 => m_Sa_dearest h0 hr9) rfl (by decide) (by decide) rfl rfl (Nat.le_of_ble_eq_true rfl) (fun r2 S1 => ?_)
  refine iz_iadd 6 rfl ?_
  refine iz_aload_n (n := 0) 7 0 rfl rfl ?_
  refine iz_getI 8 1 h0 fl_X5_62 rfl (by decide) (by decide) rfl ?_
  refine iz_cmp_le (tgt := 20) 9 rfl (by decide) ?_ ?_
  · refine iz_iconst (v := 0) 12 (by decide) rfl ?_
    exact iz_sub [] rfl (c_Sa_mayImprove_21 h0 0 S1)
  · refine iz_iconst (v := 1) 10 (by decide) rfl ?_
    refine iz_goto (tgt := 21) 11 (by decide) rfl ?_
    exact iz_sub [] rfl (c_Sa_mayImprove_21 h0 1 S1)
theorem m_Sa_mayImprove {X : iz_X} {l : Launch} {a0 : Nat} (h0 : iz_sh a0 = (5 + 3, 15)) {x1 : Int32} {x2 : Int32} {S : iz_S} {r9 : Int32 × iz_S} (hr : Sa_mayImprove a0 x1 x2 S = some r9) : iz_Mt X l 1 yX5_mayImprove cX5_mayImprove 3 (some .boolean) [.ref (X.1 a0), .int x1, .int x2] S (iz_eI r9) :=
  iz_Mt_of (dt := tX5_mayImprove) dX5_mayImprove (by decide) hr (Nat.le_of_ble_eq_true rfl) (c_Sa_mayImprove h0 x1 x2 S)
def Sa_mayServe_47 (a0 : Nat) (s0 : Int32) (S : iz_S) : Option (Int32 × iz_S) :=
  iz_ck (decide (iz_nb s0 = s0)) (some (s0, S))
def Sa_mayServe_46 (a0 : Nat) (S : iz_S) : Option (Int32 × iz_S) :=
  (Sa_mayServe_47 a0 0 S)
def Sa_mayServe (a0 : Nat) (x1 : Int32) (x2 : Int32) (S : iz_S) : Option (Int32 × iz_S) :=
  (iz_ck (iz_in x1 10) (
  if (iz_g S (iz_rf a0 11) x1) = 0 then
    (iz_ck (iz_in x2 3) (
    iz_bI (Ic_within (iz_g S (iz_rf a0 12) x2) 0 3 S) (fun r2 S1 =>
    if r2 = 0 then
      (Sa_mayServe_46 a0 S1)
    else
      (iz_ck (iz_in x2 3) (
      iz_bI (Sa_slot x1 x2 (iz_g S1 (iz_rf a0 12) x2) S1) (fun r4 S3 =>
      iz_ck (iz_in r4 120) (
      if (iz_g S3 (iz_rf a0 8) r4) = 0 then
        (Sa_mayServe_46 a0 S3)
      else
        (Sa_mayServe_47 a0 1 S3))))))))
  else
    (Sa_mayServe_46 a0 S)))
set_option maxRecDepth 10000 in
theorem c_Sa_mayServe_47 {X : iz_X} {l : Launch} {a0 : Nat} (h0 : iz_sh a0 = (5 + 3, 15)) (s0 : Int32) (S : iz_S) : iz_Y X l RX5 tX5_mayServe 3 1 (iz_Kc X l yX5_mayServe cX5_mayServe 3 (some .boolean) 1 iz_eI) 47 [] [.int s0] S (Sa_mayServe_47 a0 s0 S) := by
  unfold Sa_mayServe_47
  exact iz_zret 27 rfl
set_option maxRecDepth 10000 in
theorem c_Sa_mayServe_46 {X : iz_X} {l : Launch} {a0 : Nat} (h0 : iz_sh a0 = (5 + 3, 15)) (S : iz_S) : iz_Y X l RX5 tX5_mayServe 3 1 (iz_Kc X l yX5_mayServe cX5_mayServe 3 (some .boolean) 1 iz_eI) 46 [] [] S (Sa_mayServe_46 a0 S) := by
  unfold Sa_mayServe_46
  refine iz_iconst (v := 0) 26 (by decide) rfl ?_
  exact c_Sa_mayServe_47 h0 0 S
set_option maxRecDepth 10000 in
theorem c_Sa_mayServe {X : iz_X} {l : Launch} {a0 : Nat} (h0 : iz_sh a0 = (5 + 3, 15)) (x1 : Int32) (x2 : Int32) (S : iz_S) : iz_Y X l RX5 tX5_mayServe 3 1 (iz_Kc X l yX5_mayServe cX5_mayServe 3 (some .boolean) 1 iz_eI) 0 [(0, .ref (X.1 a0)), (1, .int x1), (2, .int x2)] [] S (Sa_mayServe a0 x1 x2 S) := by
  unfold Sa_mayServe
  refine iz_aload_n (n := 0) 0 0 rfl rfl ?_
  refine iz_getR 1 11 h0 fl_X5_28 rfl (by decide) (by decide) rfl ?_
  refine iz_iload_n (n := 1) 2 1 rfl rfl ?_
  refine iz_bald 3 (sf_5_11 h0) rfl ?_
  refine iz_if_ne (tgt := 46) 4 rfl (by decide) ?_ ?_
  · exact iz_sub [] rfl (c_Sa_mayServe_46 h0 S)
  · refine iz_aload_n (n := 0) 5 0 rfl rfl ?_
    refine iz_getR 6 12 h0 fl_X5_31 rfl (by decide) (by decide) rfl ?_
    refine iz_iload_n (n := 2) 7 2 rfl rfl ?_
    refine iz_iald 8 (sf_5_12 h0) rfl ?_
    refine iz_iconst (v := 0) 9 (by decide) rfl ?_
    refine iz_iconst (v := 3) 10 (by decide) rfl ?_
    refine iz_callSNI (As := [.int (iz_g S (iz_rf a0 12) x2), .int 0, .int 3]) (rest := []) 11 ml_X5_134 cw_X9_within ci_X9_within (fun r9 hr9 => m_Ic_within  hr9) rfl (by decide) rfl rfl (Nat.le_of_ble_eq_true rfl) (fun r2 S1 => ?_)
    refine iz_if_eq (tgt := 46) 12 rfl (by decide) ?_ ?_
    · exact iz_sub [] rfl (c_Sa_mayServe_46 h0 S1)
    · refine iz_aload_n (n := 0) 13 0 rfl rfl ?_
      refine iz_getR 14 8 h0 fl_X5_21 rfl (by decide) (by decide) rfl ?_
      refine iz_iload_n (n := 1) 15 1 rfl rfl ?_
      refine iz_iload_n (n := 2) 16 2 rfl rfl ?_
      refine iz_aload_n (n := 0) 17 0 rfl rfl ?_
      refine iz_getR 18 12 h0 fl_X5_31 rfl (by decide) (by decide) rfl ?_
      refine iz_iload_n (n := 2) 19 2 rfl rfl ?_
      refine iz_iald 20 (sf_5_12 h0) rfl ?_
      refine iz_callSI (As := [.int x1, .int x2, .int (iz_g S1 (iz_rf a0 12) x2)]) (rest := [.ref (X.1 (iz_rf a0 8))]) 21 ml_X5_99 cw_X5_slot ci_X5_slot (fun r9 hr9 => m_Sa_slot  hr9) rfl (by decide) rfl rfl (Nat.le_of_ble_eq_true rfl) (fun r4 S3 => ?_)
      refine iz_bald 22 (sf_5_8 h0) rfl ?_
      refine iz_if_eq (tgt := 46) 23 rfl (by decide) ?_ ?_
      · exact iz_sub [] rfl (c_Sa_mayServe_46 h0 S3)
      · refine iz_iconst (v := 1) 24 (by decide) rfl ?_
        refine iz_goto (tgt := 47) 25 (by decide) rfl ?_
        exact iz_sub [] rfl (c_Sa_mayServe_47 h0 1 S3)
theorem m_Sa_mayServe {X : iz_X} {l : Launch} {a0 : Nat} (h0 : iz_sh a0 = (5 + 3, 15)) {x1 : Int32} {x2 : Int32} {S : iz_S} {r9 : Int32 × iz_S} (hr : Sa_mayServe a0 x1 x2 S = some r9) : iz_Mt X l 1 yX5_mayServe cX5_mayServe 3 (some .boolean) [.ref (X.1 a0), .int x1, .int x2] S (iz_eI r9) :=
  iz_Mt_of (dt := tX5_mayServe) dX5_mayServe (by decide) hr (Nat.le_of_ble_eq_true rfl) (c_Sa_mayServe h0 x1 x2 S)
def Sa_push (a0 : Nat) (x1 : Int32) (x2 : Int32) (x3 : Int32) (S : iz_S) : Option iz_S :=
  iz_ck (iz_in x1 4) (iz_lt (iz_s S (iz_rf a0 13) x1 x2) (fun S1 =>
  iz_ck (iz_in x1 4) (iz_lt (iz_s S1 (iz_rf a0 14) x1 x3) (fun S2 =>
  iz_ck (iz_in x2 10) (iz_lt (iz_s S2 (iz_rf a0 11) x2 (iz_nb 1)) (fun S3 =>
  iz_ck (iz_in x3 3) (
  iz_ck (iz_in x3 3) (iz_lt (iz_s S3 (iz_rf a0 12) x3 ((iz_g S3 (iz_rf a0 12) x3) + 1)) (fun S4 =>
  some S4)))))))))
set_option maxRecDepth 10000 in
theorem c_Sa_push {X : iz_X} {l : Launch} {a0 : Nat} (h0 : iz_sh a0 = (5 + 3, 15)) (x1 : Int32) (x2 : Int32) (x3 : Int32) (S : iz_S) : iz_Y X l RX5 tX5_push 4 0 (iz_Kc X l yX5_push cX5_push 4 none 0 iz_eV) 0 [(0, .ref (X.1 a0)), (1, .int x1), (2, .int x2), (3, .int x3)] [] S (Sa_push a0 x1 x2 x3 S) := by
  unfold Sa_push
  refine iz_aload_n (n := 0) 0 0 rfl rfl ?_
  refine iz_getR 1 13 h0 fl_X5_34 rfl (by decide) (by decide) rfl ?_
  refine iz_iload_n (n := 1) 2 1 rfl rfl ?_
  refine iz_iload_n (n := 2) 3 2 rfl rfl ?_
  refine iz_iast 4 (sf_5_13 h0) rfl (fun S1 => ?_)
  refine iz_aload_n (n := 0) 5 0 rfl rfl ?_
  refine iz_getR 6 14 h0 fl_X5_37 rfl (by decide) (by decide) rfl ?_
  refine iz_iload_n (n := 1) 7 1 rfl rfl ?_
  refine iz_iload_n (n := 3) 8 3 rfl rfl ?_
  refine iz_iast 9 (sf_5_14 h0) rfl (fun S2 => ?_)
  refine iz_aload_n (n := 0) 10 0 rfl rfl ?_
  refine iz_getR 11 11 h0 fl_X5_28 rfl (by decide) (by decide) rfl ?_
  refine iz_iload_n (n := 2) 12 2 rfl rfl ?_
  refine iz_iconst (v := 1) 13 (by decide) rfl ?_
  refine iz_bast 14 (sf_5_11 h0) rfl (fun S3 => ?_)
  refine iz_aload_n (n := 0) 15 0 rfl rfl ?_
  refine iz_getR 16 12 h0 fl_X5_31 rfl (by decide) (by decide) rfl ?_
  refine iz_iload_n (n := 3) 17 3 rfl rfl ?_
  refine iz_dup2 18 rfl rfl rfl ?_
  refine iz_iald 19 (sf_5_12 h0) rfl ?_
  refine iz_iconst (v := 1) 20 (by decide) rfl ?_
  refine iz_iadd 21 rfl ?_
  refine iz_iast 22 (sf_5_12 h0) rfl (fun S4 => ?_)
  exact iz_vret 23 rfl
theorem m_Sa_push {X : iz_X} {l : Launch} {a0 : Nat} (h0 : iz_sh a0 = (5 + 3, 15)) {x1 : Int32} {x2 : Int32} {x3 : Int32} {S : iz_S} {r9 : iz_S} (hr : Sa_push a0 x1 x2 x3 S = some r9) : iz_Mt X l 0 yX5_push cX5_push 4 none [.ref (X.1 a0), .int x1, .int x2, .int x3] S (iz_eV r9) :=
  iz_Mt_of (dt := tX5_push) dX5_push (by decide) hr (Nat.le_of_ble_eq_true rfl) (c_Sa_push h0 x1 x2 x3 S)
def Sa_pop (a0 : Nat) (x1 : Int32) (x2 : Int32) (S : iz_S) : Option iz_S :=
  iz_ck (iz_in x1 10) (iz_lt (iz_s S (iz_rf a0 11) x1 (iz_nb 0)) (fun S1 =>
  iz_ck (iz_in x2 3) (
  iz_ck (iz_in x2 3) (iz_lt (iz_s S1 (iz_rf a0 12) x2 ((iz_g S1 (iz_rf a0 12) x2) - 1)) (fun S2 =>
  some S2)))))
set_option maxRecDepth 10000 in
theorem c_Sa_pop {X : iz_X} {l : Launch} {a0 : Nat} (h0 : iz_sh a0 = (5 + 3, 15)) (x1 : Int32) (x2 : Int32) (S : iz_S) : iz_Y X l RX5 tX5_pop 3 0 (iz_Kc X l yX5_pop cX5_pop 3 none 0 iz_eV) 0 [(0, .ref (X.1 a0)), (1, .int x1), (2, .int x2)] [] S (Sa_pop a0 x1 x2 S) := by
  unfold Sa_pop
  refine iz_aload_n (n := 0) 0 0 rfl rfl ?_
  refine iz_getR 1 11 h0 fl_X5_28 rfl (by decide) (by decide) rfl ?_
  refine iz_iload_n (n := 1) 2 1 rfl rfl ?_
  refine iz_iconst (v := 0) 3 (by decide) rfl ?_
  refine iz_bast 4 (sf_5_11 h0) rfl (fun S1 => ?_)
  refine iz_aload_n (n := 0) 5 0 rfl rfl ?_
  refine iz_getR 6 12 h0 fl_X5_31 rfl (by decide) (by decide) rfl ?_
  refine iz_iload_n (n := 2) 7 2 rfl rfl ?_
  refine iz_dup2 8 rfl rfl rfl ?_
  refine iz_iald 9 (sf_5_12 h0) rfl ?_
  refine iz_iconst (v := 1) 10 (by decide) rfl ?_
  refine iz_isub 11 rfl ?_
  refine iz_iast 12 (sf_5_12 h0) rfl (fun S2 => ?_)
  exact iz_vret 13 rfl
theorem m_Sa_pop {X : iz_X} {l : Launch} {a0 : Nat} (h0 : iz_sh a0 = (5 + 3, 15)) {x1 : Int32} {x2 : Int32} {S : iz_S} {r9 : iz_S} (hr : Sa_pop a0 x1 x2 S = some r9) : iz_Mt X l 0 yX5_pop cX5_pop 3 none [.ref (X.1 a0), .int x1, .int x2] S (iz_eV r9) :=
  iz_Mt_of (dt := tX5_pop) dX5_pop (by decide) hr (Nat.le_of_ble_eq_true rfl) (c_Sa_pop h0 x1 x2 S)
def Sa_tryRows_20 (a0 : Nat) (rc : Nat → Int32 → Int32 → iz_S → Option iz_S) (S : iz_S) : Option iz_S :=
  some S
def Sa_tryRows_89 (a0 : Nat) (rc : Nat → Int32 → Int32 → iz_S → Option iz_S) (k23 : Int32 → Int32 → Int32 → iz_S → Option iz_S) (k37 : Int32 → Int32 → Int32 → Int32 → iz_S → Option iz_S) (x1 : Int32) (x2 : Int32) (x3 : Int32) (x4 : Int32) (S : iz_S) : Option iz_S :=
  (k37 x1 x2 x3 (x4 + 1) S)
def Sa_tryRows_37b (a0 : Nat) (rc : Nat → Int32 → Int32 → iz_S → Option iz_S) (k23 : Int32 → Int32 → Int32 → iz_S → Option iz_S) (k37 : Int32 → Int32 → Int32 → Int32 → iz_S → Option iz_S) (x1 : Int32) (x2 : Int32) (x3 : Int32) (x4 : Int32) (S : iz_S) : Option iz_S :=
  (if x4 < (S.1 a0 7) then
    (iz_bI (Sa_mayServe a0 x3 x4 S) (fun r5 S4 =>
    if r5 = 0 then
      (Sa_tryRows_89 a0 rc k23 k37 x1 x2 x3 x4 S4)
    else
      iz_bV (Sa_push a0 x1 x3 x4 S4) (fun S6 =>
      iz_ck (iz_in x3 10) (
      iz_bV (rc a0 (x1 + 1) (x2 + (iz_g S6 (iz_rf (iz_rf a0 6) 3) x3)) S6) (fun S7 =>
      iz_bV (Sa_pop a0 x3 x4 S7) (fun S8 =>
      (Sa_tryRows_89 a0 rc k23 k37 x1 x2 x3 x4 S8)))))))
  else
    (k23 x1 x2 (x3 + 1) S))
def Sa_tryRows_37 (a0 : Nat) (rc : Nat → Int32 → Int32 → iz_S → Option iz_S) (k23 : Int32 → Int32 → Int32 → iz_S → Option iz_S) : Nat → Int32 → Int32 → Int32 → Int32 → iz_S → Option iz_S
  | 0 => fun _ _ _ _ _ => none
  | n9 + 1 => Sa_tryRows_37b a0 rc k23 (Sa_tryRows_37 a0 rc k23 n9)
def Sa_tryRows_23b (a0 : Nat) (rc : Nat → Int32 → Int32 → iz_S → Option iz_S) (k23 : Int32 → Int32 → Int32 → iz_S → Option iz_S) (x1 : Int32) (x2 : Int32) (x3 : Int32) (S : iz_S) : Option iz_S :=
  (if x3 < (S.1 (iz_rf a0 6) 0) then
    (Sa_tryRows_37 a0 rc k23 iz_FU x1 x2 x3 0 S)
  else
    some S)
def Sa_tryRows_23 (a0 : Nat) (rc : Nat → Int32 → Int32 → iz_S → Option iz_S) : Nat → Int32 → Int32 → Int32 → iz_S → Option iz_S
  | 0 => fun _ _ _ _ => none
  | n9 + 1 => Sa_tryRows_23b a0 rc (Sa_tryRows_23 a0 rc n9)
def Sa_tryRows_b (a0 : Nat) (rc : Nat → Int32 → Int32 → iz_S → Option iz_S) (x1 : Int32) (x2 : Int32) (S : iz_S) : Option iz_S :=
  (iz_bV (Sa_keepIfBetter a0 x1 x2 S) (fun S1 =>
  if x1 < 4 then
    (iz_bI (Sa_mayImprove a0 x1 x2 S1) (fun r3 S2 =>
    if r3 = 0 then
      (Sa_tryRows_20 a0 rc S2)
    else
      (Sa_tryRows_23 a0 rc iz_FU x1 x2 0 S2)))
  else
    (Sa_tryRows_20 a0 rc S1)))
def Sa_tryRows : Nat → Nat → Int32 → Int32 → iz_S → Option iz_S
  | 0 => fun _ _ _ _ => none
  | n9 + 1 => fun a0 x1 x2 S => Sa_tryRows_b a0 (Sa_tryRows n9) x1 x2 S
set_option maxRecDepth 10000 in
theorem c_Sa_tryRows_20 {X : iz_X} {l : Launch} {a0 : Nat} (h0 : iz_sh a0 = (5 + 3, 15)) {rc : Nat → Int32 → Int32 → iz_S → Option iz_S} {d0 : Nat} (hrc : ∀ {a0 : Nat} (_ : iz_sh a0 = (5 + 3, 15)) (x1 : Int32) (x2 : Int32) (S : iz_S) r9, rc a0 x1 x2 S = some r9 → iz_Mt X l d0 yX5_tryRows cX5_tryRows 5 none [.ref (X.1 a0), .int x1, .int x2] S (iz_eV r9))  {d : Nat} (hd0 : d = d0 + 1) (hd9 : 2 ≤ d0) (S : iz_S) : iz_Y X l RX5 tX5_tryRows 5 d (iz_Kc X l yX5_tryRows cX5_tryRows 5 none d iz_eV) 20 [] [] S (Sa_tryRows_20 a0 rc S) := by
  unfold Sa_tryRows_20
  subst hd0
  exact iz_vret 12 rfl
set_option maxRecDepth 10000 in
theorem c_Sa_tryRows_89 {X : iz_X} {l : Launch} {a0 : Nat} (h0 : iz_sh a0 = (5 + 3, 15)) {rc : Nat → Int32 → Int32 → iz_S → Option iz_S} {d0 : Nat} (hrc : ∀ {a0 : Nat} (_ : iz_sh a0 = (5 + 3, 15)) (x1 : Int32) (x2 : Int32) (S : iz_S) r9, rc a0 x1 x2 S = some r9 → iz_Mt X l d0 yX5_tryRows cX5_tryRows 5 none [.ref (X.1 a0), .int x1, .int x2] S (iz_eV r9))  {d : Nat} (hd0 : d = d0 + 1) (hd9 : 2 ≤ d0) {k23 : Int32 → Int32 → Int32 → iz_S → Option iz_S} {k37 : Int32 → Int32 → Int32 → Int32 → iz_S → Option iz_S} (hk23 : ∀ (x1 : Int32) (x2 : Int32) (x3 : Int32) (S : iz_S), iz_Y X l RX5 tX5_tryRows 5 d (iz_Kc X l yX5_tryRows cX5_tryRows 5 none d iz_eV) 23 [(0, .ref (X.1 a0)), (1, .int x1), (2, .int x2), (3, .int x3)] [] S (k23 x1 x2 x3 S)) (hk37 : ∀ (x1 : Int32) (x2 : Int32) (x3 : Int32) (x4 : Int32) (S : iz_S), iz_Y X l RX5 tX5_tryRows 5 d (iz_Kc X l yX5_tryRows cX5_tryRows 5 none d iz_eV) 37 [(0, .ref (X.1 a0)), (1, .int x1), (2, .int x2), (3, .int x3), (4, .int x4)] [] S (k37 x1 x2 x3 x4 S)) (x1 : Int32) (x2 : Int32) (x3 : Int32) (x4 : Int32) (S : iz_S) : iz_Y X l RX5 tX5_tryRows 5 d (iz_Kc X l yX5_tryRows cX5_tryRows 5 none d iz_eV) 89 [(0, .ref (X.1 a0)), (1, .int x1), (2, .int x2), (3, .int x3), (4, .int x4)] [] S (Sa_tryRows_89 a0 rc k23 k37 x1 x2 x3 x4 S) := by
  unfold Sa_tryRows_89
  subst hd0
  refine iz_iinc (v := (x4 + 1)) (ls2 := [(0, .ref (X.1 a0)), (1, .int x1), (2, .int x2), (3, .int x3), (4, .int (x4 + 1))]) 52 4 [1, 2, 3, 4, 0] rfl rfl rfl (by decide) rfl ?_
  refine iz_goto (tgt := 37) 53 (by decide) rfl ?_
  exact hk37 x1 x2 x3 (x4 + 1) S
set_option maxRecDepth 10000 in
theorem c_Sa_tryRows_37b {X : iz_X} {l : Launch} {a0 : Nat} (h0 : iz_sh a0 = (5 + 3, 15)) {rc : Nat → Int32 → Int32 → iz_S → Option iz_S} {d0 : Nat} (hrc : ∀ {a0 : Nat} (_ : iz_sh a0 = (5 + 3, 15)) (x1 : Int32) (x2 : Int32) (S : iz_S) r9, rc a0 x1 x2 S = some r9 → iz_Mt X l d0 yX5_tryRows cX5_tryRows 5 none [.ref (X.1 a0), .int x1, .int x2] S (iz_eV r9))  {d : Nat} (hd0 : d = d0 + 1) (hd9 : 2 ≤ d0) {k23 : Int32 → Int32 → Int32 → iz_S → Option iz_S} {k37 : Int32 → Int32 → Int32 → Int32 → iz_S → Option iz_S} (hk23 : ∀ (x1 : Int32) (x2 : Int32) (x3 : Int32) (S : iz_S), iz_Y X l RX5 tX5_tryRows 5 d (iz_Kc X l yX5_tryRows cX5_tryRows 5 none d iz_eV) 23 [(0, .ref (X.1 a0)), (1, .int x1), (2, .int x2), (3, .int x3)] [] S (k23 x1 x2 x3 S)) (hk37 : ∀ (x1 : Int32) (x2 : Int32) (x3 : Int32) (x4 : Int32) (S : iz_S), iz_Y X l RX5 tX5_tryRows 5 d (iz_Kc X l yX5_tryRows cX5_tryRows 5 none d iz_eV) 37 [(0, .ref (X.1 a0)), (1, .int x1), (2, .int x2), (3, .int x3), (4, .int x4)] [] S (k37 x1 x2 x3 x4 S)) (x1 : Int32) (x2 : Int32) (x3 : Int32) (x4 : Int32) (S : iz_S) : iz_Y X l RX5 tX5_tryRows 5 d (iz_Kc X l yX5_tryRows cX5_tryRows 5 none d iz_eV) 37 [(0, .ref (X.1 a0)), (1, .int x1), (2, .int x2), (3, .int x3), (4, .int x4)] [] S (Sa_tryRows_37b a0 rc k23 k37 x1 x2 x3 x4 S) := by
  unfold Sa_tryRows_37b
  subst hd0
  refine iz_iload (n := 4) 22 4 rfl rfl ?_
  refine iz_aload_n (n := 0) 23 0 rfl rfl ?_
  refine iz_getI 24 7 h0 fl_X5_54 rfl (by decide) (by decide) rfl ?_
  refine iz_cmp_ge (tgt := 95) 25 rfl (by decide) ?_ ?_
  · refine iz_iinc (v := (x3 + 1)) (ls2 := [(0, .ref (X.1 a0)), (1, .int x1), (2, .int x2), (3, .int (x3 + 1))]) 54 3 [1, 2, 3, 0] rfl rfl rfl (by decide) rfl ?_
    refine iz_goto (tgt := 23) 55 (by decide) rfl ?_
    exact hk23 x1 x2 (x3 + 1) S
  · refine iz_aload_n (n := 0) 26 0 rfl rfl ?_
    refine iz_iload_n (n := 3) 27 3 rfl rfl ?_
    refine iz_iload (n := 4) 28 4 rfl rfl ?_
    refine iz_callVI (As := [.int x3, .int x4]) (rest := []) 29 ml_X5_114 cw_X5_mayServe ci_X5_mayServe h0 (fun r9 hr9 => m_Sa_mayServe h0 hr9) rfl (by decide) (by omega) rfl rfl (Nat.le_of_ble_eq_true rfl) (fun r5 S4 => ?_)
    refine iz_if_eq (tgt := 89) 30 rfl (by decide) ?_ ?_
    · exact c_Sa_tryRows_89 h0 hrc rfl hd9 hk23 hk37 x1 x2 x3 x4 S4
    · refine iz_aload_n (n := 0) 31 0 rfl rfl ?_
      refine iz_iload_n (n := 1) 32 1 rfl rfl ?_
      refine iz_iload_n (n := 3) 33 3 rfl rfl ?_
      refine iz_iload (n := 4) 34 4 rfl rfl ?_
      refine iz_callVV (As := [.int x1, .int x3, .int x4]) (rest := []) 35 ml_X5_117 cw_X5_push ci_X5_push h0 (fun r9 hr9 => m_Sa_push h0 hr9) rfl (by decide) (by omega) rfl rfl (Nat.le_of_ble_eq_true rfl) (fun S6 => ?_)
      refine iz_aload_n (n := 0) 36 0 rfl rfl ?_
      refine iz_iload_n (n := 1) 37 1 rfl rfl ?_
      refine iz_iconst (v := 1) 38 (by decide) rfl ?_
      refine iz_iadd 39 rfl ?_
      refine iz_iload_n (n := 2) 40 2 rfl rfl ?_
      refine iz_aload_n (n := 0) 41 0 rfl rfl ?_
      refine iz_getR 42 6 h0 fl_X5_44 rfl (by decide) (by decide) rfl ?_
      refine iz_getR 43 3 (sf_5_6 h0) fl_X5_103 rfl (by decide) (by decide) rfl ?_
      refine iz_iload_n (n := 3) 44 3 rfl rfl ?_
      refine iz_iald 45 (sf_3_3 (sf_5_6 h0)) rfl ?_
      refine iz_iadd 46 rfl ?_
      refine iz_callSV (As := [.ref (X.1 a0), .int (x1 + 1), .int (x2 + (iz_g S6 (iz_rf (iz_rf a0 6) 3) x3))]) (rest := []) 47 ml_X5_83 cw_X5_tryRows ci_X5_tryRows (fun r9 hr9 => hrc h0 (x1 + 1) (x2 + (iz_g S6 (iz_rf (iz_rf a0 6) 3) x3)) S6 r9 hr9) rfl (Nat.le_refl _) rfl rfl (Nat.le_of_ble_eq_true rfl) (fun S7 => ?_)
      refine iz_aload_n (n := 0) 48 0 rfl rfl ?_
      refine iz_iload_n (n := 3) 49 3 rfl rfl ?_
      refine iz_iload (n := 4) 50 4 rfl rfl ?_
      refine iz_callVV (As := [.int x3, .int x4]) (rest := []) 51 ml_X5_121 cw_X5_pop ci_X5_pop h0 (fun r9 hr9 => m_Sa_pop h0 hr9) rfl (by decide) (by omega) rfl rfl (Nat.le_of_ble_eq_true rfl) (fun S8 => ?_)
      exact c_Sa_tryRows_89 h0 hrc rfl hd9 hk23 hk37 x1 x2 x3 x4 S8
theorem c_Sa_tryRows_37 {X : iz_X} {l : Launch} {a0 : Nat} (h0 : iz_sh a0 = (5 + 3, 15)) {rc : Nat → Int32 → Int32 → iz_S → Option iz_S} {d0 : Nat} (hrc : ∀ {a0 : Nat} (_ : iz_sh a0 = (5 + 3, 15)) (x1 : Int32) (x2 : Int32) (S : iz_S) r9, rc a0 x1 x2 S = some r9 → iz_Mt X l d0 yX5_tryRows cX5_tryRows 5 none [.ref (X.1 a0), .int x1, .int x2] S (iz_eV r9))  {d : Nat} (hd0 : d = d0 + 1) (hd9 : 2 ≤ d0) {k23 : Int32 → Int32 → Int32 → iz_S → Option iz_S} (hk23 : ∀ (x1 : Int32) (x2 : Int32) (x3 : Int32) (S : iz_S), iz_Y X l RX5 tX5_tryRows 5 d (iz_Kc X l yX5_tryRows cX5_tryRows 5 none d iz_eV) 23 [(0, .ref (X.1 a0)), (1, .int x1), (2, .int x2), (3, .int x3)] [] S (k23 x1 x2 x3 S)) : ∀ (n9 : Nat) (x1 : Int32) (x2 : Int32) (x3 : Int32) (x4 : Int32) (S : iz_S), iz_Y X l RX5 tX5_tryRows 5 d (iz_Kc X l yX5_tryRows cX5_tryRows 5 none d iz_eV) 37 [(0, .ref (X.1 a0)), (1, .int x1), (2, .int x2), (3, .int x3), (4, .int x4)] [] S (Sa_tryRows_37 a0 rc k23 n9 x1 x2 x3 x4 S)
  | 0 => by
    intros
    exact iz_none
  | n9 + 1 => c_Sa_tryRows_37b h0 hrc hd0 hd9 hk23 (c_Sa_tryRows_37 h0 hrc hd0 hd9 hk23 n9)
set_option maxRecDepth 10000 in
theorem c_Sa_tryRows_23b {X : iz_X} {l : Launch} {a0 : Nat} (h0 : iz_sh a0 = (5 + 3, 15)) {rc : Nat → Int32 → Int32 → iz_S → Option iz_S} {d0 : Nat} (hrc : ∀ {a0 : Nat} (_ : iz_sh a0 = (5 + 3, 15)) (x1 : Int32) (x2 : Int32) (S : iz_S) r9, rc a0 x1 x2 S = some r9 → iz_Mt X l d0 yX5_tryRows cX5_tryRows 5 none [.ref (X.1 a0), .int x1, .int x2] S (iz_eV r9))  {d : Nat} (hd0 : d = d0 + 1) (hd9 : 2 ≤ d0) {k23 : Int32 → Int32 → Int32 → iz_S → Option iz_S} (hk23 : ∀ (x1 : Int32) (x2 : Int32) (x3 : Int32) (S : iz_S), iz_Y X l RX5 tX5_tryRows 5 d (iz_Kc X l yX5_tryRows cX5_tryRows 5 none d iz_eV) 23 [(0, .ref (X.1 a0)), (1, .int x1), (2, .int x2), (3, .int x3)] [] S (k23 x1 x2 x3 S)) (x1 : Int32) (x2 : Int32) (x3 : Int32) (S : iz_S) : iz_Y X l RX5 tX5_tryRows 5 d (iz_Kc X l yX5_tryRows cX5_tryRows 5 none d iz_eV) 23 [(0, .ref (X.1 a0)), (1, .int x1), (2, .int x2), (3, .int x3)] [] S (Sa_tryRows_23b a0 rc k23 x1 x2 x3 S) := by
  unfold Sa_tryRows_23b
  subst hd0
  refine iz_iload_n (n := 3) 15 3 rfl rfl ?_
  refine iz_aload_n (n := 0) 16 0 rfl rfl ?_
  refine iz_getR 17 6 h0 fl_X5_44 rfl (by decide) (by decide) rfl ?_
  refine iz_getI 18 0 (sf_5_6 h0) fl_X5_71 rfl (by decide) (by decide) rfl ?_
  refine iz_cmp_ge (tgt := 101) 19 rfl (by decide) ?_ ?_
  · exact iz_vret 56 rfl
  · refine iz_iconst (v := 0) 20 (by decide) rfl ?_
    refine iz_istore (n := 4) (ls2 := [(0, .ref (X.1 a0)), (1, .int x1), (2, .int x2), (3, .int x3), (4, .int 0)]) 21 [1, 2, 3, 4, 0] rfl (by decide) rfl ?_
    exact c_Sa_tryRows_37 h0 hrc rfl hd9 hk23 iz_FU x1 x2 x3 0 S
theorem c_Sa_tryRows_23 {X : iz_X} {l : Launch} {a0 : Nat} (h0 : iz_sh a0 = (5 + 3, 15)) {rc : Nat → Int32 → Int32 → iz_S → Option iz_S} {d0 : Nat} (hrc : ∀ {a0 : Nat} (_ : iz_sh a0 = (5 + 3, 15)) (x1 : Int32) (x2 : Int32) (S : iz_S) r9, rc a0 x1 x2 S = some r9 → iz_Mt X l d0 yX5_tryRows cX5_tryRows 5 none [.ref (X.1 a0), .int x1, .int x2] S (iz_eV r9))  {d : Nat} (hd0 : d = d0 + 1) (hd9 : 2 ≤ d0) : ∀ (n9 : Nat) (x1 : Int32) (x2 : Int32) (x3 : Int32) (S : iz_S), iz_Y X l RX5 tX5_tryRows 5 d (iz_Kc X l yX5_tryRows cX5_tryRows 5 none d iz_eV) 23 [(0, .ref (X.1 a0)), (1, .int x1), (2, .int x2), (3, .int x3)] [] S (Sa_tryRows_23 a0 rc n9 x1 x2 x3 S)
  | 0 => by
    intros
    exact iz_none
  | n9 + 1 => c_Sa_tryRows_23b h0 hrc hd0 hd9 (c_Sa_tryRows_23 h0 hrc hd0 hd9 n9)
set_option maxRecDepth 10000 in
theorem c_Sa_tryRows_b {X : iz_X} {l : Launch} {a0 : Nat} (h0 : iz_sh a0 = (5 + 3, 15)) {rc : Nat → Int32 → Int32 → iz_S → Option iz_S} {d0 : Nat} (hrc : ∀ {a0 : Nat} (_ : iz_sh a0 = (5 + 3, 15)) (x1 : Int32) (x2 : Int32) (S : iz_S) r9, rc a0 x1 x2 S = some r9 → iz_Mt X l d0 yX5_tryRows cX5_tryRows 5 none [.ref (X.1 a0), .int x1, .int x2] S (iz_eV r9))  {d : Nat} (hd0 : d = d0 + 1) (hd9 : 2 ≤ d0) (x1 : Int32) (x2 : Int32) (S : iz_S) : iz_Y X l RX5 tX5_tryRows 5 d (iz_Kc X l yX5_tryRows cX5_tryRows 5 none d iz_eV) 0 [(0, .ref (X.1 a0)), (1, .int x1), (2, .int x2)] [] S (Sa_tryRows_b a0 rc x1 x2 S) := by
  unfold Sa_tryRows_b
  subst hd0
  refine iz_aload_n (n := 0) 0 0 rfl rfl ?_
  refine iz_iload_n (n := 1) 1 1 rfl rfl ?_
  refine iz_iload_n (n := 2) 2 2 rfl rfl ?_
  refine iz_callVV (As := [.int x1, .int x2]) (rest := []) 3 ml_X5_106 cw_X5_keepIfBetter ci_X5_keepIfBetter h0 (fun r9 hr9 => m_Sa_keepIfBetter h0 hr9) rfl (by decide) (by omega) rfl rfl (Nat.le_of_ble_eq_true rfl) (fun S1 => ?_)
  refine iz_iload_n (n := 1) 4 1 rfl rfl ?_
  refine iz_iconst (v := 4) 5 (by decide) rfl ?_
  refine iz_cmp_ge (tgt := 20) 6 rfl (by decide) ?_ ?_
  · exact iz_sub [] rfl (c_Sa_tryRows_20 h0 hrc rfl hd9 S1)
  · refine iz_aload_n (n := 0) 7 0 rfl rfl ?_
    refine iz_iload_n (n := 1) 8 1 rfl rfl ?_
    refine iz_iload_n (n := 2) 9 2 rfl rfl ?_
    refine iz_callVI (As := [.int x1, .int x2]) (rest := []) 10 ml_X5_110 cw_X5_mayImprove ci_X5_mayImprove h0 (fun r9 hr9 => m_Sa_mayImprove h0 hr9) rfl (by decide) (by omega) rfl rfl (Nat.le_of_ble_eq_true rfl) (fun r3 S2 => ?_)
    refine iz_if_ne (tgt := 21) 11 rfl (by decide) ?_ ?_
    · refine iz_iconst (v := 0) 13 (by decide) rfl ?_
      refine iz_istore_n (n := 3) (ls2 := [(0, .ref (X.1 a0)), (1, .int x1), (2, .int x2), (3, .int 0)]) 14 [1, 2, 3, 0] rfl (by decide) rfl ?_
      exact c_Sa_tryRows_23 h0 hrc rfl hd9 iz_FU x1 x2 0 S2
    · exact iz_sub [] rfl (c_Sa_tryRows_20 h0 hrc rfl hd9 S2)
theorem m_Sa_tryRows_n {X : iz_X} {l : Launch} : ∀ (n9 : Nat) {a0 : Nat} (_ : iz_sh a0 = (5 + 3, 15)) (x1 : Int32) (x2 : Int32) (S : iz_S) (r9 : iz_S), Sa_tryRows n9 a0 x1 x2 S = some r9 → iz_Mt X l (2 + n9) yX5_tryRows cX5_tryRows 5 none [.ref (X.1 a0), .int x1, .int x2] S (iz_eV r9)
  | 0 => by
    intros
    rename_i h
    cases h
  | n9 + 1 => by
    intro  h0  x1 x2 S r9 hr
    exact iz_Mt_of (dt := tX5_tryRows) dX5_tryRows (by decide) hr (Nat.le_of_ble_eq_true rfl) (c_Sa_tryRows_b h0 (fun {a0} h0  x1 x2 S r9 hr => m_Sa_tryRows_n n9 h0  x1 x2 S r9 hr) rfl (by omega) x1 x2 S)
theorem m_Sa_tryRows {X : iz_X} {l : Launch} {a0 : Nat} (h0 : iz_sh a0 = (5 + 3, 15)) {x1 : Int32} {x2 : Int32} {S : iz_S} {r9 : iz_S} (hr : Sa_tryRows 10 a0 x1 x2 S = some r9) : iz_Mt X l 12 yX5_tryRows cX5_tryRows 5 none [.ref (X.1 a0), .int x1, .int x2] S (iz_eV r9) :=
  m_Sa_tryRows_n 10 h0 x1 x2 S r9 hr
def Sa_plan_41 (a0 : Nat) (k17 : Int32 → iz_S → Option iz_S) (x1 : Int32) (S : iz_S) : Option iz_S :=
  (k17 (x1 + 1) S)
def Sa_plan_17b (a0 : Nat) (k17 : Int32 → iz_S → Option iz_S) (x1 : Int32) (S : iz_S) : Option iz_S :=
  (if x1 < (S.1 (iz_rf a0 6) 0) then
    (iz_bI (Sa_fillFits a0 x1 S) (fun r6 S5 =>
    if r6 = 0 then
      (Sa_plan_41 a0 k17 x1 S5)
    else
      iz_bV (Sa_enlist a0 x1 S5) (fun S7 =>
      (Sa_plan_41 a0 k17 x1 S7))))
  else
    iz_bV (Sa_tryRows 10 a0 0 0 S) (fun S4 =>
    some S4))
def Sa_plan_17 (a0 : Nat) : Nat → Int32 → iz_S → Option iz_S
  | 0 => fun _ _ => none
  | n9 + 1 => Sa_plan_17b a0 (Sa_plan_17 a0 n9)
def Sa_plan (a0 : Nat) (S : iz_S) : Option iz_S :=
  iz_lt (iz_up S a0 1 0) (fun S1 =>
  iz_lt (iz_up S1 a0 2 0) (fun S2 =>
  iz_lt (iz_up S2 a0 10 0) (fun S3 =>
  (Sa_plan_17 a0 iz_FU 0 S3))))
set_option maxRecDepth 10000 in
theorem c_Sa_plan_41 {X : iz_X} {l : Launch} {a0 : Nat} (h0 : iz_sh a0 = (5 + 3, 15)) {k17 : Int32 → iz_S → Option iz_S} (hk17 : ∀ (x1 : Int32) (S : iz_S), iz_Y X l RX5 tX5_plan 2 13 (iz_Kc X l yX5_plan cX5_plan 2 none 13 iz_eV) 17 [(0, .ref (X.1 a0)), (1, .int x1)] [] S (k17 x1 S)) (x1 : Int32) (S : iz_S) : iz_Y X l RX5 tX5_plan 2 13 (iz_Kc X l yX5_plan cX5_plan 2 none 13 iz_eV) 41 [(0, .ref (X.1 a0)), (1, .int x1)] [] S (Sa_plan_41 a0 k17 x1 S) := by
  unfold Sa_plan_41
  refine iz_iinc (v := (x1 + 1)) (ls2 := [(0, .ref (X.1 a0)), (1, .int (x1 + 1))]) 23 1 [1, 0] rfl rfl rfl (by decide) rfl ?_
  refine iz_goto (tgt := 17) 24 (by decide) rfl ?_
  exact hk17 (x1 + 1) S
set_option maxRecDepth 10000 in
theorem c_Sa_plan_17b {X : iz_X} {l : Launch} {a0 : Nat} (h0 : iz_sh a0 = (5 + 3, 15)) {k17 : Int32 → iz_S → Option iz_S} (hk17 : ∀ (x1 : Int32) (S : iz_S), iz_Y X l RX5 tX5_plan 2 13 (iz_Kc X l yX5_plan cX5_plan 2 none 13 iz_eV) 17 [(0, .ref (X.1 a0)), (1, .int x1)] [] S (k17 x1 S)) (x1 : Int32) (S : iz_S) : iz_Y X l RX5 tX5_plan 2 13 (iz_Kc X l yX5_plan cX5_plan 2 none 13 iz_eV) 17 [(0, .ref (X.1 a0)), (1, .int x1)] [] S (Sa_plan_17b a0 k17 x1 S) := by
  unfold Sa_plan_17b
  refine iz_iload_n (n := 1) 11 1 rfl rfl ?_
  refine iz_aload_n (n := 0) 12 0 rfl rfl ?_
  refine iz_getR 13 6 h0 fl_X5_44 rfl (by decide) (by decide) rfl ?_
  refine iz_getI 14 0 (sf_5_6 h0) fl_X5_71 rfl (by decide) (by decide) rfl ?_
  refine iz_cmp_ge (tgt := 47) 15 rfl (by decide) ?_ ?_
  · refine iz_aload_n (n := 0) 25 0 rfl rfl ?_
    refine iz_iconst (v := 0) 26 (by decide) rfl ?_
    refine iz_iconst (v := 0) 27 (by decide) rfl ?_
    refine iz_callSV (As := [.ref (X.1 a0), .int 0, .int 0]) (rest := []) 28 ml_X5_83 cw_X5_tryRows ci_X5_tryRows (fun r9 hr9 => m_Sa_tryRows h0 hr9) rfl (by decide) rfl rfl (Nat.le_of_ble_eq_true rfl) (fun S4 => ?_)
    exact iz_vret 29 rfl
  · refine iz_aload_n (n := 0) 16 0 rfl rfl ?_
    refine iz_iload_n (n := 1) 17 1 rfl rfl ?_
    refine iz_callVI (As := [.int x1]) (rest := []) 18 ml_X5_76 cw_X5_fillFits ci_X5_fillFits h0 (fun r9 hr9 => m_Sa_fillFits h0 hr9) rfl (by decide) (by decide) rfl rfl (Nat.le_of_ble_eq_true rfl) (fun r6 S5 => ?_)
    refine iz_if_eq (tgt := 41) 19 rfl (by decide) ?_ ?_
    · exact c_Sa_plan_41 h0 hk17 x1 S5
    · refine iz_aload_n (n := 0) 20 0 rfl rfl ?_
      refine iz_iload_n (n := 1) 21 1 rfl rfl ?_
      refine iz_callVV (As := [.int x1]) (rest := []) 22 ml_X5_79 cw_X5_enlist ci_X5_enlist h0 (fun r9 hr9 => m_Sa_enlist h0 hr9) rfl (by decide) (by decide) rfl rfl (Nat.le_of_ble_eq_true rfl) (fun S7 => ?_)
      exact c_Sa_plan_41 h0 hk17 x1 S7
theorem c_Sa_plan_17 {X : iz_X} {l : Launch} {a0 : Nat} (h0 : iz_sh a0 = (5 + 3, 15)) : ∀ (n9 : Nat) (x1 : Int32) (S : iz_S), iz_Y X l RX5 tX5_plan 2 13 (iz_Kc X l yX5_plan cX5_plan 2 none 13 iz_eV) 17 [(0, .ref (X.1 a0)), (1, .int x1)] [] S (Sa_plan_17 a0 n9 x1 S)
  | 0 => by
    intros
    exact iz_none
  | n9 + 1 => c_Sa_plan_17b h0 (c_Sa_plan_17 h0 n9)
set_option maxRecDepth 10000 in
theorem c_Sa_plan {X : iz_X} {l : Launch} {a0 : Nat} (h0 : iz_sh a0 = (5 + 3, 15)) (S : iz_S) : iz_Y X l RX5 tX5_plan 2 13 (iz_Kc X l yX5_plan cX5_plan 2 none 13 iz_eV) 0 [(0, .ref (X.1 a0))] [] S (Sa_plan a0 S) := by
  unfold Sa_plan
  refine iz_aload_n (n := 0) 0 0 rfl rfl ?_
  refine iz_iconst (v := 0) 1 (by decide) rfl ?_
  refine iz_putI 2 1 h0 fl_X5_62 rfl (by decide) (by decide) rfl (fun S1 => ?_)
  refine iz_aload_n (n := 0) 3 0 rfl rfl ?_
  refine iz_iconst (v := 0) 4 (by decide) rfl ?_
  refine iz_putI 5 2 h0 fl_X5_65 rfl (by decide) (by decide) rfl (fun S2 => ?_)
  refine iz_aload_n (n := 0) 6 0 rfl rfl ?_
  refine iz_iconst (v := 0) 7 (by decide) rfl ?_
  refine iz_putI 8 10 h0 fl_X5_68 rfl (by decide) (by decide) rfl (fun S3 => ?_)
  refine iz_iconst (v := 0) 9 (by decide) rfl ?_
  refine iz_istore_n (n := 1) (ls2 := [(0, .ref (X.1 a0)), (1, .int 0)]) 10 [1, 0] rfl (by decide) rfl ?_
  exact c_Sa_plan_17 h0 iz_FU 0 S3
theorem m_Sa_plan {X : iz_X} {l : Launch} {a0 : Nat} (h0 : iz_sh a0 = (5 + 3, 15)) {S : iz_S} {r9 : iz_S} (hr : Sa_plan a0 S = some r9) : iz_Mt X l 13 yX5_plan cX5_plan 2 none [.ref (X.1 a0)] S (iz_eV r9) :=
  iz_Mt_of (dt := tX5_plan) dX5_plan (by decide) hr (Nat.le_of_ble_eq_true rfl) (c_Sa_plan h0 S)
def Wa_firstWrong_2b (a0 : Nat) (a1 : Nat) (k2 : Int32 → iz_S → Option (Int32 × iz_S)) (x2 : Int32) (S : iz_S) : Option (Int32 × iz_S) :=
  (if x2 < (S.1 a0 0) then
    (iz_ck (iz_in x2 16) (
    iz_bI (Ho_columnWeight a1 x2 S) (fun r2 S1 =>
    if (iz_g S (iz_rf a0 1) x2) = r2 then
      (k2 (x2 + 1) S1)
    else
      some ((x2 + 1), S1))))
  else
    some (0, S))
def Wa_firstWrong_2 (a0 : Nat) (a1 : Nat) : Nat → Int32 → iz_S → Option (Int32 × iz_S)
  | 0 => fun _ _ => none
  | n9 + 1 => Wa_firstWrong_2b a0 a1 (Wa_firstWrong_2 a0 a1 n9)
def Wa_firstWrong (a0 : Nat) (a1 : Nat) (S : iz_S) : Option (Int32 × iz_S) :=
  (Wa_firstWrong_2 a0 a1 iz_FU 0 S)
set_option maxRecDepth 10000 in
theorem c_Wa_firstWrong_2b {X : iz_X} {l : Launch} {a0 : Nat} (h0 : iz_sh a0 = (8 + 3, 2)) {a1 : Nat} (h1 : iz_sh a1 = (1 + 3, 13)) {k2 : Int32 → iz_S → Option (Int32 × iz_S)} (hk2 : ∀ (x2 : Int32) (S : iz_S), iz_Y X l RX8 tX8_firstWrong 3 2 (iz_Kc X l yX8_firstWrong cX8_firstWrong 3 (some .int) 2 iz_eI) 2 [(0, .ref (X.1 a0)), (1, .ref (X.1 a1)), (2, .int x2)] [] S (k2 x2 S)) (x2 : Int32) (S : iz_S) : iz_Y X l RX8 tX8_firstWrong 3 2 (iz_Kc X l yX8_firstWrong cX8_firstWrong 3 (some .int) 2 iz_eI) 2 [(0, .ref (X.1 a0)), (1, .ref (X.1 a1)), (2, .int x2)] [] S (Wa_firstWrong_2b a0 a1 k2 x2 S) := by
  unfold Wa_firstWrong_2b
  refine iz_iload_n (n := 2) 2 2 rfl rfl ?_
  refine iz_aload_n (n := 0) 3 0 rfl rfl ?_
  refine iz_getI 4 0 h0 fl_X8_15 rfl (by decide) (by decide) rfl ?_
  refine iz_cmp_ge (tgt := 34) 5 rfl (by decide) ?_ ?_
  · refine iz_iconst (v := 0) 20 (by decide) rfl ?_
    exact iz_iret 21 rfl
  · refine iz_aload_n (n := 0) 6 0 rfl rfl ?_
    refine iz_getR 7 1 h0 fl_X8_9 rfl (by decide) (by decide) rfl ?_
    refine iz_iload_n (n := 2) 8 2 rfl rfl ?_
    refine iz_iald 9 (sf_8_1 h0) rfl ?_
    refine iz_aload_n (n := 1) 10 1 rfl rfl ?_
    refine iz_iload_n (n := 2) 11 2 rfl rfl ?_
    refine iz_callVI (As := [.int x2]) (rest := [.int (iz_g S (iz_rf a0 1) x2)]) 12 ml_X8_32 cw_X1_columnWeight ci_X1_columnWeight h1 (fun r9 hr9 => m_Ho_columnWeight h1 hr9) rfl (by decide) (by decide) rfl rfl (Nat.le_of_ble_eq_true rfl) (fun r2 S1 => ?_)
    refine iz_cmp_eq (tgt := 28) 13 rfl (by decide) ?_ ?_
    · refine iz_iinc (v := (x2 + 1)) (ls2 := [(0, .ref (X.1 a0)), (1, .ref (X.1 a1)), (2, .int (x2 + 1))]) 18 2 [1, 2, 0] rfl rfl rfl (by decide) rfl ?_
      refine iz_goto (tgt := 2) 19 (by decide) rfl ?_
      exact hk2 (x2 + 1) S1
    · refine iz_iload_n (n := 2) 14 2 rfl rfl ?_
      refine iz_iconst (v := 1) 15 (by decide) rfl ?_
      refine iz_iadd 16 rfl ?_
      exact iz_iret 17 rfl
theorem c_Wa_firstWrong_2 {X : iz_X} {l : Launch} {a0 : Nat} (h0 : iz_sh a0 = (8 + 3, 2)) {a1 : Nat} (h1 : iz_sh a1 = (1 + 3, 13)) : ∀ (n9 : Nat) (x2 : Int32) (S : iz_S), iz_Y X l RX8 tX8_firstWrong 3 2 (iz_Kc X l yX8_firstWrong cX8_firstWrong 3 (some .int) 2 iz_eI) 2 [(0, .ref (X.1 a0)), (1, .ref (X.1 a1)), (2, .int x2)] [] S (Wa_firstWrong_2 a0 a1 n9 x2 S)
  | 0 => by
    intros
    exact iz_none
  | n9 + 1 => c_Wa_firstWrong_2b h0 h1 (c_Wa_firstWrong_2 h0 h1 n9)
set_option maxRecDepth 10000 in
theorem c_Wa_firstWrong {X : iz_X} {l : Launch} {a0 : Nat} (h0 : iz_sh a0 = (8 + 3, 2)) {a1 : Nat} (h1 : iz_sh a1 = (1 + 3, 13)) (S : iz_S) : iz_Y X l RX8 tX8_firstWrong 3 2 (iz_Kc X l yX8_firstWrong cX8_firstWrong 3 (some .int) 2 iz_eI) 0 [(0, .ref (X.1 a0)), (1, .ref (X.1 a1))] [] S (Wa_firstWrong a0 a1 S) := by
  unfold Wa_firstWrong
  refine iz_iconst (v := 0) 0 (by decide) rfl ?_
  refine iz_istore_n (n := 2) (ls2 := [(0, .ref (X.1 a0)), (1, .ref (X.1 a1)), (2, .int 0)]) 1 [1, 2, 0] rfl (by decide) rfl ?_
  exact c_Wa_firstWrong_2 h0 h1 iz_FU 0 S
theorem m_Wa_firstWrong {X : iz_X} {l : Launch} {a0 : Nat} (h0 : iz_sh a0 = (8 + 3, 2)) {a1 : Nat} (h1 : iz_sh a1 = (1 + 3, 13)) {S : iz_S} {r9 : Int32 × iz_S} (hr : Wa_firstWrong a0 a1 S = some r9) : iz_Mt X l 2 yX8_firstWrong cX8_firstWrong 3 (some .int) [.ref (X.1 a0), .ref (X.1 a1)] S (iz_eI r9) :=
  iz_Mt_of (dt := tX8_firstWrong) dX8_firstWrong (by decide) hr (Nat.le_of_ble_eq_true rfl) (c_Wa_firstWrong h0 h1 S)
