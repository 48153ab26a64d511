/-! ROWS: fields, arrays, static tables, calls, returns -/
def iz_FL (own : String) (idx c i : Nat) (ds : String) (fin : Bool) : Prop := ∃ (C : String) (T : u_T) (N : Nat), vwCl[c]? = some (C, T, N) ∧ i < N ∧ (T i).2.2.1 = ds ∧ (T i).2.2.2 = fin ∧ Cond.fieldLink own idx (T i).1 (T i).2.1 ds ∈ lw_tbl
def iz_CO (C : String) (T : u_T) (N : Nat) : Prop := (∀ w ∈ u_ws C T N, w ∈ lw_tbl) ∧ (∃ ty : Nat → FieldType, ∀ k, k < N → parseFieldDescriptor (T k).2.2.1 = some (ty k)) ∧ ∀ a, a < N → ∀ b, b < N → a ≠ b → (T a).2.1 ≠ (T b).2.1
theorem iz_co0 : iz_CO RX0 TX0 7 := ⟨by decide +kernel, ⟨tyX0, tyX0_ok⟩, nmX0⟩
theorem iz_co1 : iz_CO RX1 TX1 13 := ⟨by decide +kernel, ⟨tyX1, tyX1_ok⟩, nmX1⟩
theorem iz_co2 : iz_CO RX2 TX2 3 := ⟨by decide +kernel, ⟨tyX2, tyX2_ok⟩, nmX2⟩
theorem iz_co3 : iz_CO RX3 TX3 10 := ⟨by decide +kernel, ⟨tyX3, tyX3_ok⟩, nmX3⟩
theorem iz_co4 : iz_CO RX4 TX4 6 := ⟨by decide +kernel, ⟨tyX4, tyX4_ok⟩, nmX4⟩
theorem iz_co5 : iz_CO RX5 TX5 15 := ⟨by decide +kernel, ⟨tyX5, tyX5_ok⟩, nmX5⟩
theorem iz_co6 : iz_CO RX6 TX6 8 := ⟨by decide +kernel, ⟨tyX6, tyX6_ok⟩, nmX6⟩
theorem iz_co7 : iz_CO RX7 TX7 3 := ⟨by decide +kernel, ⟨tyX7, tyX7_ok⟩, nmX7⟩
theorem iz_co8 : iz_CO RX8 TX8 2 := ⟨by decide +kernel, ⟨tyX8, tyX8_ok⟩, nmX8⟩
theorem iz_co9 : iz_CO RX9 TX9 11 := ⟨by decide +kernel, ⟨tyX9, tyX9_ok⟩, nmX9⟩
theorem iz_co10 : iz_CO RX10 TX10 48 := ⟨by decide +kernel, ⟨tyX10, tyX10_ok⟩, nmX10⟩
theorem iz_co {c : Nat} {C : String} {T : u_T} {N : Nat} (h : vwCl[c]? = some (C, T, N)) : iz_CO C T N := by
  match c, h with
  | 0, h => cases h; exact iz_co0
  | 1, h => cases h; exact iz_co1
  | 2, h => cases h; exact iz_co2
  | 3, h => cases h; exact iz_co3
  | 4, h => cases h; exact iz_co4
  | 5, h => cases h; exact iz_co5
  | 6, h => cases h; exact iz_co6
  | 7, h => cases h; exact iz_co7
  | 8, h => cases h; exact iz_co8
  | 9, h => cases h; exact iz_co9
  | 10, h => cases h; exact iz_co10
  | k + 11, h => simp [vwCl] at h
theorem iz_lays {C : String} {T : u_T} {N : Nat} (h : iz_CO C T N) {s : State} (ht : iz_Tb s) {a : Array Value} : ∀ w ∈ u_ws C T N, w.before a s = true := by
  intro w hw
  refine ht.use (h.1 w hw) ?_
  unfold u_ws at hw
  obtain ⟨k, -, rfl⟩ := List.mem_map.mp hw
  unfold u_lay
  split <;> rfl
def iz_cpk (sp dp n : Int32) (n0 n1 : Nat) : Bool := !(decide (sp < 0)) && (!(decide (dp < 0)) && (!(decide (n < 0)) && (decide (sp.toNatClampNeg + n.toNatClampNeg ≤ n0) && decide (dp.toNatClampNeg + n.toNatClampNeg ≤ n1))))
section iz_rows_b
variable {α : Type} {X : iz_X} {l : Launch} {own : String} {dt : List (Nat × Instr × Nat)} {nL d : Nat} {K : iz_KP α} {pc : Nat} {ls ls2 : List (Nat × Value)} {st : List Value} {S : iz_S} {o o2 : Option α}
theorem iz_get (j : Nat) {idx kp c n i : Nat} {ds : String} {fin : Bool} (hd : dt[j]? = some (pc, .getfield idx, 3)) (hs : iz_sh kp = (c + 3, n)) (hi : i < n) (hc : c < 90) (hf : iz_FL own idx c i ds fin) (kk : iz_Y X l own dt nL d K (pc + 3) ls (iz_fE X S kp c i :: st) S o) : iz_Y X l own dt nL d K pc ls (.ref (X.1 kp) :: st) S o := by
  intro hK z hz p e R s m args below meth c0 cells slots Q A k H locs hS hP lsM hls
  obtain ⟨hx, hdt, hml, hown, hW, hfr, hlo, hce, hsl⟩ := hK z p e R s m args below meth c0 cells slots Q A k
  obtain ⟨C, T, N, hcl, hN, hds, hfin, hm⟩ := hf
  subst hds
  have hkp := iz_sh_lt hs (by omega)
  have he := iz_ws_get X S hkp
  rw [iz_cE_O hs] at he
  exact va_get (D := X.2.1) (ci := c) (C := C) (T := T) (N := N) hx rfl (iz_lays (iz_co hcl) hW.1) (fun w h => h) hown hW.2.1 hP kp he hcl i hN (hW.1.use hm rfl) (fun _ h9 => h9) (iz_fs_get hi) (iz_dq hdt hd) (kk hK z hz p e R s m args below meth c0 cells slots Q A k H locs hS hP lsM hls)
theorem iz_getI (j : Nat) {idx kp c n : Nat} (i : Nat) {ds : String} {fin : Bool} (hs : iz_sh kp = (c + 3, n)) (hf : iz_FL own idx c i ds fin) (hd : dt[j]? = some (pc, .getfield idx, 3)) (hi : i < n) (hc : c < 90) (h0 : iz_ft c i = 0) (kk : iz_Y X l own dt nL d K (pc + 3) ls (.int (S.1 kp i) :: st) S o) : iz_Y X l own dt nL d K pc ls (.ref (X.1 kp) :: st) S o :=
  iz_get j hd hs hi hc hf (by have e : iz_fE X S kp c i = .int (S.1 kp i) := by simp [iz_fE, h0]
                              rw [e]; exact kk)
theorem iz_getL (j : Nat) {idx kp c n : Nat} (i : Nat) {ds : String} {fin : Bool} (hs : iz_sh kp = (c + 3, n)) (hf : iz_FL own idx c i ds fin) (hd : dt[j]? = some (pc, .getfield idx, 3)) (hi : i < n) (hc : c < 90) (h0 : iz_ft c i = 1) (kk : iz_Y X l own dt nL d K (pc + 3) ls (.long (S.2 kp i) :: st) S o) : iz_Y X l own dt nL d K pc ls (.ref (X.1 kp) :: st) S o :=
  iz_get j hd hs hi hc hf (by have e : iz_fE X S kp c i = .long (S.2 kp i) := by simp [iz_fE, h0]
                              rw [e]; exact kk)
theorem iz_getR (j : Nat) {idx kp c n : Nat} (i : Nat) {ds : String} {fin : Bool} (hs : iz_sh kp = (c + 3, n)) (hf : iz_FL own idx c i ds fin) (hd : dt[j]? = some (pc, .getfield idx, 3)) (hi : i < n) (hc : c < 90) (h0 : iz_ft c i = 2) (kk : iz_Y X l own dt nL d K (pc + 3) ls (.ref (X.1 (iz_rf kp i)) :: st) S o) : iz_Y X l own dt nL d K pc ls (.ref (X.1 kp) :: st) S o :=
  iz_get j hd hs hi hc hf (by have e : iz_fE X S kp c i = .ref (X.1 (iz_rf kp i)) := by simp [iz_fE, h0]
                              rw [e]; exact kk)
theorem iz_putI (j : Nat) {idx kp c n : Nat} (i : Nat) {v : Int32} {k9 : iz_S → Option α} (hs : iz_sh kp = (c + 3, n)) (hf : iz_FL own idx c i "I" false) (hd : dt[j]? = some (pc, .putfield idx, 3)) (hi : i < n) (hc : c < 90) (h0 : iz_ft c i = 0) (kk : ∀ S1, iz_Y X l own dt nL d K (pc + 3) ls st S1 (k9 S1)) : iz_Y X l own dt nL d K pc ls (.int v :: .ref (X.1 kp) :: st) S (iz_lt (iz_up S kp i v) k9) := by
  intro hK z hz p e R s m args below meth c0 cells slots Q A k H locs hS hP lsM hls
  obtain ⟨hx, hdt, hml, hown, hW, hfr, hlo, hce, hsl⟩ := hK z p e R s m args below meth c0 cells slots Q A k
  obtain ⟨C, T, N, hcl, hN, hds, hfin, hm⟩ := hf
  have hkp := iz_sh_lt hs (by omega)
  have he := iz_ws_get X S hkp
  rw [iz_cE_O hs] at he
  obtain ⟨hco1, ⟨ty0, hty⟩, hnm⟩ := iz_co hcl
  refine va_put (D := X.2.1) (ci := c) (v := .int v) (ty := .int) (C := C) (T := T) (N := N) hx rfl (iz_lays (iz_co hcl) hW.1) (fun w h => h) ty0 hty hnm hown hW.2.1 hP (hW.D S) hS kp he hcl i hN (hds ▸ hW.1.use hm rfl) (fun _ h9 => h9) hfin (by rw [hds]; decide +kernel) rfl rfl (by simpa using hi) (iz_dq hdt hd) (fun H1 locs1 hP1 hD1 hS1 => ?_)
  rw [iz_fs_put h0, iz_ws_set X S (iz_up S kp i v) hkp _ (iz_cE_O hs) (fun q hq => iz_cE_up_ne hq)] at hP1
  exact kk _ hK z hz p e R s m args below meth c0 cells slots Q A k H1 locs1 hS1 hP1 lsM hls
theorem iz_putL (j : Nat) {idx kp c n : Nat} (i : Nat) {v : Int64} {k9 : iz_S → Option α} (hs : iz_sh kp = (c + 3, n)) (hf : iz_FL own idx c i "J" false) (hd : dt[j]? = some (pc, .putfield idx, 3)) (hi : i < n) (hc : c < 90) (h0 : iz_ft c i = 1) (kk : ∀ S1, iz_Y X l own dt nL d K (pc + 3) ls st S1 (k9 S1)) : iz_Y X l own dt nL d K pc ls (.long v :: .ref (X.1 kp) :: st) S (iz_lt (iz_upL S kp i v) k9) := by
  intro hK z hz p e R s m args below meth c0 cells slots Q A k H locs hS hP lsM hls
  obtain ⟨hx, hdt, hml, hown, hW, hfr, hlo, hce, hsl⟩ := hK z p e R s m args below meth c0 cells slots Q A k
  obtain ⟨C, T, N, hcl, hN, hds, hfin, hm⟩ := hf
  have hkp := iz_sh_lt hs (by omega)
  have he := iz_ws_get X S hkp
  rw [iz_cE_O hs] at he
  obtain ⟨hco1, ⟨ty0, hty⟩, hnm⟩ := iz_co hcl
  refine va_put (D := X.2.1) (ci := c) (v := .long v) (ty := .long) (C := C) (T := T) (N := N) hx rfl (iz_lays (iz_co hcl) hW.1) (fun w h => h) ty0 hty hnm hown hW.2.1 hP (hW.D S) hS kp he hcl i hN (hds ▸ hW.1.use hm rfl) (fun _ h9 => h9) hfin (by rw [hds]; decide +kernel) rfl rfl (by simpa using hi) (iz_dq hdt hd) (fun H1 locs1 hP1 hD1 hS1 => ?_)
  rw [iz_fs_putL h0, iz_ws_set X S (iz_upL S kp i v) hkp _ (iz_cE_O hs) (fun q hq => iz_cE_upL_ne hq)] at hP1
  exact kk _ hK z hz p e R s m args below meth c0 cells slots Q A k H1 locs1 hS1 hP1 lsM hls
theorem iz_iald (j : Nat) {kp n : Nat} {i : Int32} (hs : iz_sh kp = (0, n)) (hd : dt[j]? = some (pc, .iaload, 1)) (kk : iz_Y X l own dt nL d K (pc + 1) ls (.int (iz_g S kp i) :: st) S o) : iz_Y X l own dt nL d K pc ls (.int i :: .ref (X.1 kp) :: st) S (iz_ck (iz_in i n) o) := by
  refine iz_ckr (fun hin => ?_)
  intro hK z hz p e R s m args below meth c0 cells slots Q A k H locs hS hP lsM hls
  obtain ⟨hx, hdt, hml, hown, hW, hfr, hlo, hce, hsl⟩ := hK z p e R s m args below meth c0 cells slots Q A k
  have he := iz_ws_get X S (iz_sh_lt hs (by decide))
  rw [iz_cE_I hs] at he
  exact va_iald hx rfl hW.2.1 hP kp 0 he rfl (iz_in_p hin) (iz_dq hdt hd) (kk hK z hz p e R s m args below meth c0 cells slots Q A k H locs hS hP lsM hls)
theorem iz_bald (j : Nat) {kp n : Nat} {i : Int32} (hs : iz_sh kp = (1, n)) (hd : dt[j]? = some (pc, .baload, 1)) (kk : iz_Y X l own dt nL d K (pc + 1) ls (.int (iz_g S kp i) :: st) S o) : iz_Y X l own dt nL d K pc ls (.int i :: .ref (X.1 kp) :: st) S (iz_ck (iz_in i n) o) := by
  refine iz_ckr (fun hin => ?_)
  intro hK z hz p e R s m args below meth c0 cells slots Q A k H locs hS hP lsM hls
  obtain ⟨hx, hdt, hml, hown, hW, hfr, hlo, hce, hsl⟩ := hK z p e R s m args below meth c0 cells slots Q A k
  have he := iz_ws_get X S (iz_sh_lt hs (by decide))
  rw [iz_cE_Z hs] at he
  exact va_zald hx rfl hW.2.1 hP kp 1 he rfl (iz_in_p hin) (iz_dq hdt hd) (kk hK z hz p e R s m args below meth c0 cells slots Q A k H locs hS hP lsM hls)
theorem iz_aald (j : Nat) {kp n : Nat} {i : Int32} (hs : iz_sh kp = (2, n)) (hd : dt[j]? = some (pc, .aaload, 1)) (kk : iz_in i n = true → iz_Y X l own dt nL d K (pc + 1) ls (.ref (X.1 (iz_rf kp i.toNatClampNeg)) :: st) S o) : iz_Y X l own dt nL d K pc ls (.int i :: .ref (X.1 kp) :: st) S (iz_ck (iz_in i n) o) := by
  refine iz_ckr (fun hin => ?_)
  intro hK z hz p e R s m args below meth c0 cells slots Q A k H locs hS hP lsM hls
  obtain ⟨hx, hdt, hml, hown, hW, hfr, hlo, hce, hsl⟩ := hK z p e R s m args below meth c0 cells slots Q A k
  have he := iz_ws_get X S (iz_sh_lt hs (by decide))
  rw [iz_cE_A hs] at he
  have hin2 := iz_in_p hin
  have hlt : i.toNatClampNeg < n := Nat.not_le.mp fun q => hin2 (Or.inr q)
  have ht : (iz_tys X)[2]? = some (X.2.2.2.2, .array .int) := rfl
  exact W.aald (v := va_rf (some (X.1 (iz_rf kp i.toNatClampNeg)))) (ty := .array .int) hx rfl (hP kp _ he) ((hW.2.1.2 2 _ ht).1 n (fun j => va_rf (some (X.1 (iz_rf kp j))))) rfl (fun q => by cases q) (by show ¬ (i < 0 ∨ (arrV _ _ _).slots.size ≤ _); rw [arrV_size]; exact hin2) (by show (arrV _ _ _).slots[_]? = _; rw [arrV_read _ _ hlt]) rfl rfl (iz_dq hdt hd) (kk hin hK z hz p e R s m args below meth c0 cells slots Q A k H locs hS hP lsM hls)
theorem iz_iast (j : Nat) {kp n : Nat} {i v : Int32} {k9 : iz_S → Option α} (hs : iz_sh kp = (0, n)) (hd : dt[j]? = some (pc, .iastore, 1)) (kk : ∀ S1, iz_Y X l own dt nL d K (pc + 1) ls st S1 (k9 S1)) : iz_Y X l own dt nL d K pc ls (.int v :: .int i :: .ref (X.1 kp) :: st) S (iz_ck (iz_in i n) (iz_lt (iz_s S kp i v) k9)) := by
  refine iz_ckr (fun hin => ?_)
  intro hK z hz p e R s m args below meth c0 cells slots Q A k H locs hS hP lsM hls
  obtain ⟨hx, hdt, hml, hown, hW, hfr, hlo, hce, hsl⟩ := hK z p e R s m args below meth c0 cells slots Q A k
  have hkp := iz_sh_lt hs (by decide)
  have he := iz_ws_get X S hkp
  rw [iz_cE_I hs] at he
  refine va_iast hx rfl hW.2.1 hP (hW.D S) hS kp 0 he rfl (iz_in_p hin) (iz_dq hdt hd) (fun H1 locs1 hP1 hD1 hS1 => ?_)
  rw [iz_ws_set X S (iz_s S kp i v) hkp _ (by rw [iz_cE_I hs]; simp [iz_s, iz_up]) (fun q hq => iz_cE_up_ne hq)] at hP1
  exact kk _ hK z hz p e R s m args below meth c0 cells slots Q A k H1 locs1 hS1 hP1 lsM hls
theorem iz_bast (j : Nat) {kp n : Nat} {i v : Int32} {k9 : iz_S → Option α} (hs : iz_sh kp = (1, n)) (hd : dt[j]? = some (pc, .bastore, 1)) (kk : ∀ S1, iz_Y X l own dt nL d K (pc + 1) ls st S1 (k9 S1)) : iz_Y X l own dt nL d K pc ls (.int v :: .int i :: .ref (X.1 kp) :: st) S (iz_ck (iz_in i n) (iz_lt (iz_s S kp i (iz_nb v)) k9)) := by
  refine iz_ckr (fun hin => ?_)
  intro hK z hz p e R s m args below meth c0 cells slots Q A k H locs hS hP lsM hls
  obtain ⟨hx, hdt, hml, hown, hW, hfr, hlo, hce, hsl⟩ := hK z p e R s m args below meth c0 cells slots Q A k
  have hkp := iz_sh_lt hs (by decide)
  have he := iz_ws_get X S hkp
  rw [iz_cE_Z hs] at he
  refine va_zast hx rfl hW.2.1 hP (hW.D S) hS kp 1 he rfl (iz_in_p hin) (iz_dq hdt hd) (fun H1 locs1 hP1 hD1 hS1 => ?_)
  rw [iz_ws_set X S (iz_s S kp i (iz_nb v)) hkp _ (by rw [iz_cE_Z hs]; simp [iz_s, iz_up, iz_nb, vp_nar, narrow]) (fun q hq => iz_cE_up_ne hq)] at hP1
  exact kk _ hK z hz p e R s m args below meth c0 cells slots Q A k H1 locs1 hS1 hP1 lsM hls
theorem iz_alen (j : Nat) {kp n : Nat} (hs : iz_sh kp = (0, n)) (hd : dt[j]? = some (pc, .arraylength, 1)) (kk : iz_Y X l own dt nL d K (pc + 1) ls (.int (Int32.ofNat n) :: st) S o) : iz_Y X l own dt nL d K pc ls (.ref (X.1 kp) :: st) S o := by
  intro hK z hz p e R s m args below meth c0 cells slots Q A k H locs hS hP lsM hls
  obtain ⟨hx, hdt, hml, hown, hW, hfr, hlo, hce, hsl⟩ := hK z p e R s m args below meth c0 cells slots Q A k
  have he := iz_ws_get X S (iz_sh_lt hs (by decide))
  rw [iz_cE_I hs] at he
  exact va_alen hx rfl hW.2.1 hP kp 0 he (ty := .int) rfl rfl (iz_dq hdt hd) (kk hK z hz p e R s m args below meth c0 cells slots Q A k H locs hS hP lsM hls)
theorem iz_gets (j jz : Nat) {idx : Nat} (hj : jz < 4) (hm : Cond.fieldLink own idx (iz_zC jz) (iz_zN jz) "[I" ∈ lw_tbl) (hd : dt[j]? = some (pc, .getstatic idx, 3)) (kk : iz_Y X l own dt nL d K (pc + 3) ls (.ref (X.1 (iz_NP + jz)) :: st) S o) : iz_Y X l own dt nL d K pc ls st S o := by
  intro hK z hz p e R s m args below meth c0 cells slots Q A k H locs hS hP lsM hls
  obtain ⟨hx, hdt, hml, hown, hW, hfr, hlo, hce, hsl⟩ := hK z p e R s m args below meth c0 cells slots Q A k
  exact va_gets hx rfl (hW.2.2.2.2 jz hj).1 hS hown (hW.1.use hm rfl) (fun _ h9 => h9) (iz_dq hdt hd) (kk hK z hz p e R s m args below meth c0 cells slots Q A k H locs hS hP lsM hls)
theorem iz_getsN (j jz : Nat) {idx : Nat} {host : String} (hj : jz < 4) (hm : Cond.fieldLinkNest own idx (iz_zC jz) (iz_zN jz) "[I" host ∈ lw_tbl) (hd : dt[j]? = some (pc, .getstatic idx, 3)) (kk : iz_Y X l own dt nL d K (pc + 3) ls (.ref (X.1 (iz_NP + jz)) :: st) S o) : iz_Y X l own dt nL d K pc ls st S o := by
  intro hK z hz p e R s m args below meth c0 cells slots Q A k H locs hS hP lsM hls
  obtain ⟨hx, hdt, hml, hown, hW, hfr, hlo, hce, hsl⟩ := hK z p e R s m args below meth c0 cells slots Q A k
  exact va_getsN hx rfl (hW.2.2.2.2 jz hj).1 hS hown (hW.1.use hm rfl) (fun _ h9 => h9) (iz_dq hdt hd) (kk hK z hz p e R s m args below meth c0 cells slots Q A k H locs hS hP lsM hls)
theorem iz_tald (j jz : Nat) {i : Int32} (hj : jz < 4) (hd : dt[j]? = some (pc, .iaload, 1)) (kk : iz_Y X l own dt nL d K (pc + 1) ls (.int (iz_zV jz i.toNatClampNeg) :: st) S o) : iz_Y X l own dt nL d K pc ls (.int i :: .ref (X.1 (iz_NP + jz)) :: st) S (iz_ck (iz_in i (iz_zL jz)) o) := by
  refine iz_ckr (fun hin => ?_)
  intro hK z hz p e R s m args below meth c0 cells slots Q A k H locs hS hP lsM hls
  obtain ⟨hx, hdt, hml, hown, hW, hfr, hlo, hce, hsl⟩ := hK z p e R s m args below meth c0 cells slots Q A k
  exact va_ti hx rfl (hW.2.2.2.2 jz hj).2 hS (iz_in_p hin) rfl (iz_dq hdt hd) (kk hK z hz p e R s m args below meth c0 cells slots Q A k H locs hS hP lsM hls)
theorem iz_acopy (j : Nat) {idx kp kq n0 n1 : Nat} {sp dp n : Int32} {k9 : iz_S → Option α} (hs0 : iz_sh kp = (0, n0)) (hs1 : iz_sh kq = (0, n1)) (hl : Cond.methodLink own idx arraycopyName ∈ lw_tbl) (h2 : Cond.native arraycopyName ∈ lw_tbl) (h3 : Cond.static arraycopyName ∈ lw_tbl) (h4 : Cond.initialized "java/lang/System" ∈ lw_tbl) (hd1 : 1 ≤ d) (hr8 : (st.map fun v => v.category).sum ≤ 8) (hd : dt[j]? = some (pc, .invokestatic idx, 3))
    (kk : ∀ S1, iz_Y X l own dt nL d K (pc + 3) ls st S1 (k9 S1)) : iz_Y X l own dt nL d K pc ls (.int n :: .int dp :: .ref (X.1 kq) :: .int sp :: .ref (X.1 kp) :: st) S (iz_ck (iz_cpk sp dp n n0 n1) (iz_lt (iz_cpy S kp sp.toNatClampNeg kq dp.toNatClampNeg n.toNatClampNeg) k9)) := by
  refine iz_ckr (fun hc => ?_)
  simp only [iz_cpk, Bool.and_eq_true, Bool.not_eq_true', decide_eq_false_iff_not, decide_eq_true_eq] at hc
  obtain ⟨c1, c2, c3, c4, c5⟩ := hc
  intro hK z hz p e R s m args below meth c0 cells slots Q A k H locs hS hP lsM hls
  obtain ⟨hx, hdt, hml, hown, hW, hfr, hlo, hce, hsl⟩ := hK z p e R s m args below meth c0 cells slots Q A k
  have hkp := iz_sh_lt hs0 (by decide)
  have hkq := iz_sh_lt hs1 (by decide)
  have he0 := iz_ws_get X S hkp
  have he1 := iz_ws_get X S hkq
  rw [iz_cE_I hs0] at he0
  rw [iz_cE_I hs1] at he1
  have hnw : nativeFrameWords "java/lang/System" "arraycopy" 5 + 11 ≤ 30 := by decide +kernel
  refine va_copyi hx rfl (hml.trans hls.1.symm) hown (hW.1.use hl rfl) (hW.1.use h2 rfl) (hW.1.use h3 rfl) (hW.1.use h4 rfl) hW.2.1 hP (hW.D S) hS kp kq 0 0 (ty := .int) he0 he1 rfl rfl rfl c1 c2 c3 c4 c5 (fun _ _ => rfl) (by omega) (by omega) (iz_dq hdt hd) (fun H1 locs1 hP1 hD1 hS1 => ?_)
  rw [iz_ws_set X S (iz_cpy S kp sp.toNatClampNeg kq dp.toNatClampNeg n.toNatClampNeg) hkq _ (by rw [iz_cE_I hs1]; simp [iz_cpy]) (fun q hq => iz_cE_cpy_ne hq)] at hP1
  exact kk _ hK z hz p e R s m args below meth c0 cells slots Q A k H1 locs1 hS1 hP1 lsM hls
end iz_rows_b
/-! calls -/
theorem iz_wcall {p : Program} {l : Launch} {e : Env} {R : Room} {s : State} {m : MethodId} {args : Array Value} {below : List Frame} {meth : Method} {c : Code} {H : Heap} {locs : List Loc} {cells slots : Nat} {Q : State → Prop} {A : Nat → Prop} {pc : Nat} {lsM : Array Slot} {st0 rest : List Value} {a : Array Value} {X : iz_X} {res : Option Value × iz_S}
    (hr : va_Run p l e R s m args below meth c H locs cells slots 0 0 (F0 m pc lsM st0) rest (iz_Qd X res a) (iz_A X)) (hA : ∀ q, iz_A X q → A q) (hS : va_S A s.heap H locs)
    (kk : ∀ H1 locs1, va_S A s.heap H1 locs1 → va_P X.2.1 vwCl (iz_ws X res.2) H1 → W p l e R s m args below meth c H1 locs1 cells slots Q (F0 m (pc + 3) lsM (res.1.toList ++ rest))) : W p l e R s m args below meth c H locs cells slots Q (F0 m pc lsM st0) := by
  intro T hT Xs
  obtain ⟨v, st₀, t, T', L, h0, X', hL, e1, e2, ⟨hv, ⟨hWk, hP⟩, hz, hk⟩, stp⟩ := hr T hT Xs
  have hv2 : v = res.1 := by injection hv
  subst hv2
  rw [h0] at hz hk
  obtain ⟨t2, a1, b1⟩ := kk T'.heap (locs ++ L)
    ⟨Nat.le_trans hS.1 (by rw [e1]; exact hz), fun q h1 h2 => by rw [e1, hk q (Nat.lt_of_lt_of_le h1 hS.1) (fun z => h2 (hA q z))]; exact hS.2.1 q h1 h2, fun q hq => by
      rcases List.mem_append.mp hq with h | h
      · exact hS.2.2 q h
      · exact hA _ (hL q h)⟩ (by rw [e1]; exact hP) T' rfl X'
  exact ⟨t2, stp t2 a1, b1⟩
theorem iz_Pd_blind (X : iz_X) (av : List Value) (S : iz_S) : FrameBlind (iz_Pd X av S) := by
  intro a U g mk h
  obtain ⟨h1, h2, h3⟩ := h
  exact ⟨h1, h2.blind (V := U.calling g mk a) rfl rfl, h3⟩
/-- a callee's words -/
def iz_CW (y : MethodName) (cc : ByteArray) (nL : Nat) (ret : Option FieldType) (n : Nat) : Prop :=
  Cond.code y cc nL ret ∈ lw_tbl ∧ Cond.initialized y.cls ∈ lw_tbl ∧ (y.cls ≠ "java/lang/invoke/MethodHandle" ∧ y.cls ≠ "java/lang/invoke/VarHandle" ∧ (parseMethodDescriptor y.desc).map (fun d => d.parameters.length) = some n) ∧ nL ≤ 21
def iz_CI (y : MethodName) (c : Nat) : Prop := Cond.instanceMethod y ∈ lw_tbl ∧ Cond.selects y.cls y y ∈ lw_tbl ∧ ∃ (T : u_T) (N : Nat), vwCl[c]? = some (y.cls, T, N)
theorem iz_callB {R : Room} {s : State} {args : Array Value} {own : String} {idx d d2 nL2 n : Nat} {y : MethodName} {cc : ByteArray} {ret : Option FieldType} (ht : iz_Tb s) (cw : iz_CW y cc nL2 ret n) (hdd : d2 + 1 ≤ d) (hfr : d ≤ R.frames) (hlo : 40 * d ≤ R.locals) (hl : (Cond.methodLink own idx y).before args s = true) :
    CallB R s args own idx y cc nL2 ret [.code y cc nL2 ret] (iz_rm d2) 0 0 n := by
  obtain ⟨h1, h2, ⟨h3, h4, h5⟩, h6⟩ := cw
  refine ⟨rfl, rfl, Nat.le_trans hdd hfr, by show 8 + (nL2 + 11) + 40 * d2 ≤ R.locals; omega, fun w hw a' U hW => ?_, List.mem_cons_self, ht.use h1 rfl, ht.use h2 rfl, ⟨h3, h4⟩, fun sig h => ?_, hl⟩
  · rw [List.mem_singleton.mp hw]
    exact ht.all hW h1 rfl a'
  · rw [h] at h5
    exact (Option.some.inj h5).symm
theorem iz_callN {R : Room} {s : State} {args : Array Value} {own host : String} {idx d d2 nL2 n : Nat} {y : MethodName} {cc : ByteArray} {ret : Option FieldType} (ht : iz_Tb s) (cw : iz_CW y cc nL2 ret n) (hdd : d2 + 1 ≤ d) (hfr : d ≤ R.frames) (hlo : 40 * d ≤ R.locals) (hl : (Cond.methodLinkNest own idx y host).before args s = true) :
    va_CN R s args own idx y host cc nL2 ret [.code y cc nL2 ret] (iz_rm d2) 0 0 n := by
  obtain ⟨h1, h2, ⟨h3, h4, h5⟩, h6⟩ := cw
  refine ⟨⟨rfl, rfl, Nat.le_trans hdd hfr, by show 8 + (nL2 + 11) + 40 * d2 ≤ R.locals; omega, fun w hw a' U hW => ?_, List.mem_cons_self⟩, ht.use h1 rfl, ht.use h2 rfl, ⟨h3, h4⟩, fun sig h => ?_, hl⟩
  · rw [List.mem_singleton.mp hw]
    exact ht.all hW h1 rfl a'
  · rw [h] at h5
    exact (Option.some.inj h5).symm
section iz_calls
variable {α β : Type} {X : iz_X} {l : Launch} {own host : String} {dt : List (Nat × Instr × Nat)} {nL d : Nat} {K : iz_KP α} {pc : Nat} {ls ls2 : List (Nat × Value)} {st rest As : List Value} {S : iz_S} {o o2 : Option α}
variable {idx kb cb n9 d2 nL2 n : Nat} {y : MethodName} {cc : ByteArray} {ret : Option FieldType} {enc : β → Option Value × iz_S} {fo : Option β} {k9 : β → Option α}
theorem iz_callV (j : Nat) (hd : dt[j]? = some (pc, .invokevirtual idx, 3)) (hl : Cond.methodLink own idx y ∈ lw_tbl) (cw : iz_CW y cc nL2 ret n) (ci : iz_CI y cb) (hs : iz_sh kb = (cb + 3, n9)) (hc : cb < 90) (hdd : d2 + 1 ≤ d) (hA : As.length = n) (hst : st = As.reverse ++ .ref (X.1 kb) :: rest) (hr8 : (rest.map fun v => v.category).sum ≤ 8)
    (hM : ∀ r, fo = some r → iz_Mt X l d2 y cc nL2 ret (.ref (X.1 kb) :: As) S (enc r)) (kk : ∀ r, iz_Y X l own dt nL d K (pc + 3) ls ((enc r).1.toList ++ rest) (enc r).2 (k9 r)) : iz_Y X l own dt nL d K pc ls st S (fo.bind k9) := by
  intro hK z hz p e R s m args below meth c0 cells slots Q A k H locs hS hP lsM hls
  obtain ⟨hx, hdt, hml, hown, hW, hfr, hlo, hce, hsl⟩ := hK z p e R s m args below meth c0 cells slots Q A k
  obtain ⟨r, hr, hz2⟩ := Option.bind_eq_some_iff.mp hz
  obtain ⟨i1, i2, T9, N9, i3⟩ := ci
  have hkb := iz_sh_lt hs (by omega)
  have he := iz_ws_get X S hkb
  rw [iz_cE_O hs] at he
  subst hst
  refine iz_wcall (a := (Value.ref (X.1 kb) :: As).toArray) (va_runV (Ts := []) (n := n) (C := y.cls) (b := X.1 kb) (As := As) (rest := rest) ⟨hx, rfl, hml, hown, fun _ h => by cases h⟩ (hM r hr) ⟨iz_callB hW.1 cw hdd hfr hlo (hW.1.use hl rfl), hW.1.use i1 rfl, hW.1.use i2 rfl⟩ ⟨iz_Pd_blind X _ S, va_recv hW.2.1 hP i3 he, fun U hU hWm => ⟨rfl, hW.to hS hU hWm, by rw [hU]; exact hP⟩⟩ rfl hA hls.1 rfl (lv_room hr8) (iz_dq hdt hd) ⟨hce, hsl⟩) (fun q ⟨k2, hk2, e2⟩ => e2 ▸ hW.2.2.2.1 k2 hk2) hS (fun H1 locs1 hS1 hP1 => ?_)
  exact kk r hK z hz2 p e R s m args below meth c0 cells slots Q A k H1 locs1 hS1 hP1 lsM hls
theorem iz_callS (j : Nat) (hd : dt[j]? = some (pc, .invokestatic idx, 3)) (hl : Cond.methodLink own idx y ∈ lw_tbl) (cw : iz_CW y cc nL2 ret n) (ci : Cond.static y ∈ lw_tbl) (hdd : d2 + 1 ≤ d) (hA : As.length = n) (hst : st = As.reverse ++ rest) (hr8 : (rest.map fun v => v.category).sum ≤ 8)
    (hM : ∀ r, fo = some r → iz_Mt X l d2 y cc nL2 ret As S (enc r)) (kk : ∀ r, iz_Y X l own dt nL d K (pc + 3) ls ((enc r).1.toList ++ rest) (enc r).2 (k9 r)) : iz_Y X l own dt nL d K pc ls st S (fo.bind k9) := by
  intro hK z hz p e R s m args below meth c0 cells slots Q A k H locs hS hP lsM hls
  obtain ⟨hx, hdt, hml, hown, hW, hfr, hlo, hce, hsl⟩ := hK z p e R s m args below meth c0 cells slots Q A k
  obtain ⟨r, hr, hz2⟩ := Option.bind_eq_some_iff.mp hz
  subst hst
  refine iz_wcall (a := As.toArray) (va_runS (Ts := []) (n := n) (As := As) (rest := rest) ⟨hx, rfl, hml, hown, fun _ h => by cases h⟩ (hM r hr) ⟨iz_callB hW.1 cw hdd hfr hlo (hW.1.use hl rfl), hW.1.use ci rfl⟩ ⟨iz_Pd_blind X _ S, fun U hU hWm => ⟨rfl, hW.to hS hU hWm, by rw [hU]; exact hP⟩⟩ rfl hA hls.1 rfl (lv_room hr8) (iz_dq hdt hd) ⟨hce, hsl⟩) (fun q ⟨k2, hk2, e2⟩ => e2 ▸ hW.2.2.2.1 k2 hk2) hS (fun H1 locs1 hS1 hP1 => ?_)
  exact kk r hK z hz2 p e R s m args below meth c0 cells slots Q A k H1 locs1 hS1 hP1 lsM hls
theorem iz_callSN (j : Nat) (hd : dt[j]? = some (pc, .invokestatic idx, 3)) (hl : Cond.methodLinkNest own idx y host ∈ lw_tbl) (cw : iz_CW y cc nL2 ret n) (ci : Cond.static y ∈ lw_tbl) (hdd : d2 + 1 ≤ d) (hA : As.length = n) (hst : st = As.reverse ++ rest) (hr8 : (rest.map fun v => v.category).sum ≤ 8)
    (hM : ∀ r, fo = some r → iz_Mt X l d2 y cc nL2 ret As S (enc r)) (kk : ∀ r, iz_Y X l own dt nL d K (pc + 3) ls ((enc r).1.toList ++ rest) (enc r).2 (k9 r)) : iz_Y X l own dt nL d K pc ls st S (fo.bind k9) := by
  intro hK z hz p e R s m args below meth c0 cells slots Q A k H locs hS hP lsM hls
  obtain ⟨hx, hdt, hml, hown, hW, hfr, hlo, hce, hsl⟩ := hK z p e R s m args below meth c0 cells slots Q A k
  obtain ⟨r, hr, hz2⟩ := Option.bind_eq_some_iff.mp hz
  subst hst
  refine iz_wcall (a := As.toArray) (va_runSN (Ts := []) (n := n) (As := As) (rest := rest) ⟨hx, rfl, hml, hown, fun _ h => by cases h⟩ (hM r hr) ⟨iz_callN hW.1 cw hdd hfr hlo (hW.1.use hl rfl), hW.1.use ci rfl, trivial⟩ ⟨iz_Pd_blind X _ S, fun U hU hWm => ⟨rfl, hW.to hS hU hWm, by rw [hU]; exact hP⟩⟩ rfl hA hls.1 rfl (lv_room hr8) (iz_dq hdt hd) ⟨hce, hsl⟩) (fun q ⟨k2, hk2, e2⟩ => e2 ▸ hW.2.2.2.1 k2 hk2) hS (fun H1 locs1 hS1 hP1 => ?_)
  exact kk r hK z hz2 p e R s m args below meth c0 cells slots Q A k H1 locs1 hS1 hP1 lsM hls
theorem iz_callVI (j : Nat) {f8 : Option (Int32 × iz_S)} {k8 : Int32 → iz_S → Option α} (hl : Cond.methodLink own idx y ∈ lw_tbl) (cw : iz_CW y cc nL2 ret n) (ci : iz_CI y cb) (hs : iz_sh kb = (cb + 3, n9)) (hM : ∀ r, f8 = some r → iz_Mt X l d2 y cc nL2 ret (.ref (X.1 kb) :: As) S (iz_eI r)) (hd : dt[j]? = some (pc, .invokevirtual idx, 3)) (hc : cb < 90) (hdd : d2 + 1 ≤ d) (hA : As.length = n) (hst : st = As.reverse ++ .ref (X.1 kb) :: rest) (hr8 : (rest.map fun v => v.category).sum ≤ 8) (kk : ∀ r S1, iz_Y X l own dt nL d K (pc + 3) ls (.int r :: rest) S1 (k8 r S1)) : iz_Y X l own dt nL d K pc ls st S (iz_bI f8 k8) := iz_callV (enc := iz_eI) j hd hl cw ci hs hc hdd hA hst hr8 hM (fun r => kk r.1 r.2)
theorem iz_callSI (j : Nat) {f8 : Option (Int32 × iz_S)} {k8 : Int32 → iz_S → Option α} (hl : Cond.methodLink own idx y ∈ lw_tbl) (cw : iz_CW y cc nL2 ret n) (ci : Cond.static y ∈ lw_tbl) (hM : ∀ r, f8 = some r → iz_Mt X l d2 y cc nL2 ret As S (iz_eI r)) (hd : dt[j]? = some (pc, .invokestatic idx, 3)) (hdd : d2 + 1 ≤ d) (hA : As.length = n) (hst : st = As.reverse ++ rest) (hr8 : (rest.map fun v => v.category).sum ≤ 8) (kk : ∀ r S1, iz_Y X l own dt nL d K (pc + 3) ls (.int r :: rest) S1 (k8 r S1)) : iz_Y X l own dt nL d K pc ls st S (iz_bI f8 k8) := iz_callS (enc := iz_eI) j hd hl cw ci hdd hA hst hr8 hM (fun r => kk r.1 r.2)
theorem iz_callSNI (j : Nat) {f8 : Option (Int32 × iz_S)} {k8 : Int32 → iz_S → Option α} (hl : Cond.methodLinkNest own idx y host ∈ lw_tbl) (cw : iz_CW y cc nL2 ret n) (ci : Cond.static y ∈ lw_tbl) (hM : ∀ r, f8 = some r → iz_Mt X l d2 y cc nL2 ret As S (iz_eI r)) (hd : dt[j]? = some (pc, .invokestatic idx, 3)) (hdd : d2 + 1 ≤ d) (hA : As.length = n) (hst : st = As.reverse ++ rest) (hr8 : (rest.map fun v => v.category).sum ≤ 8) (kk : ∀ r S1, iz_Y X l own dt nL d K (pc + 3) ls (.int r :: rest) S1 (k8 r S1)) : iz_Y X l own dt nL d K pc ls st S (iz_bI f8 k8) := iz_callSN (enc := iz_eI) j hd hl cw ci hdd hA hst hr8 hM (fun r => kk r.1 r.2)
theorem iz_callVL (j : Nat) {f8 : Option (Int64 × iz_S)} {k8 : Int64 → iz_S → Option α} (hl : Cond.methodLink own idx y ∈ lw_tbl) (cw : iz_CW y cc nL2 ret n) (ci : iz_CI y cb) (hs : iz_sh kb = (cb + 3, n9)) (hM : ∀ r, f8 = some r → iz_Mt X l d2 y cc nL2 ret (.ref (X.1 kb) :: As) S (iz_eL r)) (hd : dt[j]? = some (pc, .invokevirtual idx, 3)) (hc : cb < 90) (hdd : d2 + 1 ≤ d) (hA : As.length = n) (hst : st = As.reverse ++ .ref (X.1 kb) :: rest) (hr8 : (rest.map fun v => v.category).sum ≤ 8) (kk : ∀ r S1, iz_Y X l own dt nL d K (pc + 3) ls (.long r :: rest) S1 (k8 r S1)) : iz_Y X l own dt nL d K pc ls st S (iz_bL f8 k8) := iz_callV (enc := iz_eL) j hd hl cw ci hs hc hdd hA hst hr8 hM (fun r => kk r.1 r.2)
theorem iz_callSL (j : Nat) {f8 : Option (Int64 × iz_S)} {k8 : Int64 → iz_S → Option α} (hl : Cond.methodLink own idx y ∈ lw_tbl) (cw : iz_CW y cc nL2 ret n) (ci : Cond.static y ∈ lw_tbl) (hM : ∀ r, f8 = some r → iz_Mt X l d2 y cc nL2 ret As S (iz_eL r)) (hd : dt[j]? = some (pc, .invokestatic idx, 3)) (hdd : d2 + 1 ≤ d) (hA : As.length = n) (hst : st = As.reverse ++ rest) (hr8 : (rest.map fun v => v.category).sum ≤ 8) (kk : ∀ r S1, iz_Y X l own dt nL d K (pc + 3) ls (.long r :: rest) S1 (k8 r S1)) : iz_Y X l own dt nL d K pc ls st S (iz_bL f8 k8) := iz_callS (enc := iz_eL) j hd hl cw ci hdd hA hst hr8 hM (fun r => kk r.1 r.2)
theorem iz_callSNL (j : Nat) {f8 : Option (Int64 × iz_S)} {k8 : Int64 → iz_S → Option α} (hl : Cond.methodLinkNest own idx y host ∈ lw_tbl) (cw : iz_CW y cc nL2 ret n) (ci : Cond.static y ∈ lw_tbl) (hM : ∀ r, f8 = some r → iz_Mt X l d2 y cc nL2 ret As S (iz_eL r)) (hd : dt[j]? = some (pc, .invokestatic idx, 3)) (hdd : d2 + 1 ≤ d) (hA : As.length = n) (hst : st = As.reverse ++ rest) (hr8 : (rest.map fun v => v.category).sum ≤ 8) (kk : ∀ r S1, iz_Y X l own dt nL d K (pc + 3) ls (.long r :: rest) S1 (k8 r S1)) : iz_Y X l own dt nL d K pc ls st S (iz_bL f8 k8) := iz_callSN (enc := iz_eL) j hd hl cw ci hdd hA hst hr8 hM (fun r => kk r.1 r.2)
theorem iz_callVV (j : Nat) {f8 : Option (iz_S)} {k8 : iz_S → Option α} (hl : Cond.methodLink own idx y ∈ lw_tbl) (cw : iz_CW y cc nL2 ret n) (ci : iz_CI y cb) (hs : iz_sh kb = (cb + 3, n9)) (hM : ∀ r, f8 = some r → iz_Mt X l d2 y cc nL2 ret (.ref (X.1 kb) :: As) S (iz_eV r)) (hd : dt[j]? = some (pc, .invokevirtual idx, 3)) (hc : cb < 90) (hdd : d2 + 1 ≤ d) (hA : As.length = n) (hst : st = As.reverse ++ .ref (X.1 kb) :: rest) (hr8 : (rest.map fun v => v.category).sum ≤ 8) (kk : ∀ S1, iz_Y X l own dt nL d K (pc + 3) ls rest S1 (k8 S1)) : iz_Y X l own dt nL d K pc ls st S (iz_bV f8 k8) := iz_callV (enc := iz_eV) j hd hl cw ci hs hc hdd hA hst hr8 hM kk
theorem iz_callSV (j : Nat) {f8 : Option (iz_S)} {k8 : iz_S → Option α} (hl : Cond.methodLink own idx y ∈ lw_tbl) (cw : iz_CW y cc nL2 ret n) (ci : Cond.static y ∈ lw_tbl) (hM : ∀ r, f8 = some r → iz_Mt X l d2 y cc nL2 ret As S (iz_eV r)) (hd : dt[j]? = some (pc, .invokestatic idx, 3)) (hdd : d2 + 1 ≤ d) (hA : As.length = n) (hst : st = As.reverse ++ rest) (hr8 : (rest.map fun v => v.category).sum ≤ 8) (kk : ∀ S1, iz_Y X l own dt nL d K (pc + 3) ls rest S1 (k8 S1)) : iz_Y X l own dt nL d K pc ls st S (iz_bV f8 k8) := iz_callS (enc := iz_eV) j hd hl cw ci hdd hA hst hr8 hM kk
theorem iz_callSNV (j : Nat) {f8 : Option (iz_S)} {k8 : iz_S → Option α} (hl : Cond.methodLinkNest own idx y host ∈ lw_tbl) (cw : iz_CW y cc nL2 ret n) (ci : Cond.static y ∈ lw_tbl) (hM : ∀ r, f8 = some r → iz_Mt X l d2 y cc nL2 ret As S (iz_eV r)) (hd : dt[j]? = some (pc, .invokestatic idx, 3)) (hdd : d2 + 1 ≤ d) (hA : As.length = n) (hst : st = As.reverse ++ rest) (hr8 : (rest.map fun v => v.category).sum ≤ 8) (kk : ∀ S1, iz_Y X l own dt nL d K (pc + 3) ls rest S1 (k8 S1)) : iz_Y X l own dt nL d K pc ls st S (iz_bV f8 k8) := iz_callSN (enc := iz_eV) j hd hl cw ci hdd hA hst hr8 hM kk
end iz_calls
/-! returns -/
section iz_rets
variable {X : iz_X} {l : Launch} {own : String} {dt : List (Nat × Instr × Nat)} {nL d : Nat} {pc : Nat} {ls : List (Nat × Value)} {S : iz_S} {y : MethodName} {cc : ByteArray}
theorem iz_iret (j : Nat) {v : Int32} (hd : dt[j]? = some (pc, .ireturn, 1)) : iz_Y X l own dt nL d (iz_Kc X l y cc nL (some .int) d iz_eI) pc ls [.int v] S (some (v, S)) := by
  intro hK z hz p e R s m args below meth c0 cells slots Q A k H locs hS hP lsM hls
  obtain ⟨hx, hdt, hml, hown, hW, hfr, hlo, hce, hsl⟩ := hK z p e R s m args below meth c0 cells slots Q A k
  obtain ⟨⟨s1, B⟩, -, rfl, rfl, rfl, rfl, -, rfl⟩ := k
  cases hz
  exact W.iret hx rfl B.returns (fun t ht hWm => ⟨rfl, ⟨hW.to hS ht hWm, by rw [ht]; exact hP⟩, hS.F ht⟩) hS.2.2 (iz_dq hdt hd) (hlocks := B.notSynchronized)
theorem iz_zret (j : Nat) {v : Int32} (hd : dt[j]? = some (pc, .ireturn, 1)) : iz_Y X l own dt nL d (iz_Kc X l y cc nL (some .boolean) d iz_eI) pc ls [.int v] S (iz_ck (decide (iz_nb v = v)) (some (v, S))) := by
  refine iz_ckr (fun hn => ?_)
  intro hK z hz p e R s m args below meth c0 cells slots Q A k H locs hS hP lsM hls
  obtain ⟨hx, hdt, hml, hown, hW, hfr, hlo, hce, hsl⟩ := hK z p e R s m args below meth c0 cells slots Q A k
  obtain ⟨⟨s1, B⟩, -, rfl, rfl, rfl, rfl, -, rfl⟩ := k
  cases hz
  exact W.zret hx rfl B.returns (show Value.int (v &&& 1) = Value.int v from congrArg Value.int (of_decide_eq_true hn)) (fun t ht hWm => ⟨rfl, ⟨hW.to hS ht hWm, by rw [ht]; exact hP⟩, hS.F ht⟩) hS.2.2 (iz_dq hdt hd) (hlocks := B.notSynchronized)
theorem iz_lret (j : Nat) {v : Int64} (hd : dt[j]? = some (pc, .lreturn, 1)) : iz_Y X l own dt nL d (iz_Kc X l y cc nL (some .long) d iz_eL) pc ls [.long v] S (some (v, S)) := by
  intro hK z hz p e R s m args below meth c0 cells slots Q A k H locs hS hP lsM hls
  obtain ⟨hx, hdt, hml, hown, hW, hfr, hlo, hce, hsl⟩ := hK z p e R s m args below meth c0 cells slots Q A k
  obtain ⟨⟨s1, B⟩, -, rfl, rfl, rfl, rfl, -, rfl⟩ := k
  cases hz
  exact W.lret hx rfl B.returns (fun t ht hWm => ⟨rfl, ⟨hW.to hS ht hWm, by rw [ht]; exact hP⟩, hS.F ht⟩) hS.2.2 (iz_dq hdt hd) (hlocks := B.notSynchronized)
theorem iz_vret (j : Nat) (hd : dt[j]? = some (pc, .return_, 1)) : iz_Y X l own dt nL d (iz_Kc X l y cc nL none d iz_eV) pc ls [] S (some S) := by
  intro hK z hz p e R s m args below meth c0 cells slots Q A k H locs hS hP lsM hls
  obtain ⟨hx, hdt, hml, hown, hW, hfr, hlo, hce, hsl⟩ := hK z p e R s m args below meth c0 cells slots Q A k
  obtain ⟨⟨s1, B⟩, -, rfl, rfl, rfl, rfl, -, rfl⟩ := k
  cases hz
  exact W.vret hx rfl B.returns (fun t ht hWm => ⟨rfl, ⟨hW.to hS ht hWm, by rw [ht]; exact hP⟩, hS.F ht⟩) hS.2.2 (iz_dq hdt hd) (hlocks := B.notSynchronized)
end iz_rets
