/-! ONE ROW AN INSTRUCTION over the judgement iz_Y; functions of the program are built of iz_ck (a test that must hold), iz_lt (a name), iz_bI, iz_bL, iz_bV (a call) -/
def iz_ck {β : Type} (b : Bool) (o : Option β) : Option β := if b = true then o else none
def iz_lt {β γ : Type} (v : β) (k : β → γ) : γ := k v
def iz_bI {β : Type} (o : Option (Int32 × iz_S)) (k : Int32 → iz_S → Option β) : Option β := o.bind (fun q => k q.1 q.2)
def iz_bL {β : Type} (o : Option (Int64 × iz_S)) (k : Int64 → iz_S → Option β) : Option β := o.bind (fun q => k q.1 q.2)
def iz_bV {β : Type} (o : Option iz_S) (k : iz_S → Option β) : Option β := o.bind k
def iz_in (i : Int32) (n : Nat) : Bool := !(decide (i < 0) || decide (n ≤ i.toNatClampNeg))
def iz_g (S : iz_S) (p : Nat) (i : Int32) : Int32 := S.1 p i.toNatClampNeg
def iz_s (S : iz_S) (p : Nat) (i : Int32) (v : Int32) : iz_S := iz_up S p i.toNatClampNeg v
def iz_nb (v : Int32) : Int32 := v &&& 1
def iz_eI (q : Int32 × iz_S) : Option Value × iz_S := (some (.int q.1), q.2)
def iz_eL (q : Int64 × iz_S) : Option Value × iz_S := (some (.long q.1), q.2)
def iz_eV (q : iz_S) : Option Value × iz_S := (none, q)
set_option maxHeartbeats 40000 in
theorem iz_in_p {i : Int32} {n : Nat} (h : iz_in i n = true) : vp_in i n := by
  unfold iz_in at h
  unfold vp_in
  simp only [Bool.not_eq_true', Bool.or_eq_false_iff, decide_eq_false_iff_not] at h
  exact fun q => q.elim h.1 h.2
set_option maxHeartbeats 40000 in
theorem iz_dq {dt : List (Nat × Instr × Nat)} {cb : ByteArray} (hdt : ∀ q ∈ dt, decode cb q.1 = .ok q.2) {j pc n : Nat} {ins : Instr} (hd : dt[j]? = some (pc, ins, n)) : decode cb pc = .ok (ins, n) := hdt (pc, ins, n) (List.mem_of_getElem? hd)
section iz_rows
variable {α : Type} {X : iz_X} {l : Launch} {own : String} {dt : List (Nat × Instr × Nat)} {nL d : Nat} {K : iz_KP α} {pc : Nat} {ls ls2 : List (Nat × Value)} {st : List Value} {S : iz_S} {o o2 : Option α}
set_option maxHeartbeats 40000 in
theorem iz_none : iz_Y X l own dt nL d K pc ls st S none := fun _ _ h => by cases h
set_option maxHeartbeats 40000 in
theorem iz_sub (ks : List Nat) (h : lv_pick ls ks = ls2) (kk : iz_Y X l own dt nL d K pc ls2 st S o) : iz_Y X l own dt nL d K pc ls st S o := by
  intro hK z hz p e R s m args below meth c cells slots Q A k H locs hS hP lsM hls
  exact kk hK z hz p e R s m args below meth c cells slots Q A k H locs hS hP lsM (lv_sub hls ks h)
set_option maxHeartbeats 40000 in
theorem iz_ckr {b : Bool} (kk : b = true → iz_Y X l own dt nL d K pc ls st S o) : iz_Y X l own dt nL d K pc ls st S (iz_ck b o) := by
  intro hK z hz
  unfold iz_ck at hz
  by_cases hb : b = true
  · rw [if_pos hb] at hz
    exact kk hb hK z hz
  · rw [if_neg hb] at hz
    cases hz
set_option maxHeartbeats 40000 in
theorem iz_let {v : Int32} {k : Int32 → Option α} (kk : ∀ x, iz_Y X l own dt nL d K pc ls (.int x :: st) S (k x)) : iz_Y X l own dt nL d K pc ls (.int v :: st) S (iz_lt v k) := kk v
set_option maxHeartbeats 40000 in
theorem iz_letL {v : Int64} {k : Int64 → Option α} (kk : ∀ x, iz_Y X l own dt nL d K pc ls (.long x :: st) S (k x)) : iz_Y X l own dt nL d K pc ls (.long v :: st) S (iz_lt v k) := kk v
set_option maxHeartbeats 40000 in
theorem iz_iconst (j : Nat) {n : Int} {v : Int32} (hv : Int32.ofInt n = v) (hd : dt[j]? = some (pc, .iconst n, 1)) (kk : iz_Y X l own dt nL d K (pc + 1) ls (.int v :: st) S o) : iz_Y X l own dt nL d K pc ls st S o := by
  intro hK z hz p e R s m args below meth c cells slots Q A k H locs hS hP lsM hls
  obtain ⟨hx, hdt, hml, hown, hW, hfr, hlo, hce, hsl⟩ := hK z p e R s m args below meth c cells slots Q A k
  exact lv_iconst hx rfl (iz_dq hdt hd) hv (kk hK z hz p e R s m args below meth c cells slots Q A k H locs hS hP lsM hls)
set_option maxHeartbeats 40000 in
theorem iz_bipush (j : Nat) {n : Int} {v : Int32} (hv : (Int8.ofInt n).toInt32 = v) (hd : dt[j]? = some (pc, .bipush n, 2)) (kk : iz_Y X l own dt nL d K (pc + 2) ls (.int v :: st) S o) : iz_Y X l own dt nL d K pc ls st S o := by
  intro hK z hz p e R s m args below meth c cells slots Q A k H locs hS hP lsM hls
  obtain ⟨hx, hdt, hml, hown, hW, hfr, hlo, hce, hsl⟩ := hK z p e R s m args below meth c cells slots Q A k
  exact lv_bipush hx rfl (iz_dq hdt hd) hv (kk hK z hz p e R s m args below meth c cells slots Q A k H locs hS hP lsM hls)
set_option maxHeartbeats 40000 in
theorem iz_sipush (j : Nat) {n : Int} {v : Int32} (hv : (Int16.ofInt n).toInt32 = v) (hd : dt[j]? = some (pc, .sipush n, 3)) (kk : iz_Y X l own dt nL d K (pc + 3) ls (.int v :: st) S o) : iz_Y X l own dt nL d K pc ls st S o := by
  intro hK z hz p e R s m args below meth c cells slots Q A k H locs hS hP lsM hls
  obtain ⟨hx, hdt, hml, hown, hW, hfr, hlo, hce, hsl⟩ := hK z p e R s m args below meth c cells slots Q A k
  exact lv_sipush hx rfl (iz_dq hdt hd) hv (kk hK z hz p e R s m args below meth c cells slots Q A k H locs hS hP lsM hls)
set_option maxHeartbeats 40000 in
theorem iz_lconst (j : Nat) {n : Fin 2} {v : Int64} (hv : Int64.ofNat (n : Nat) = v) (hd : dt[j]? = some (pc, .lconst n, 1)) (kk : iz_Y X l own dt nL d K (pc + 1) ls (.long v :: st) S o) : iz_Y X l own dt nL d K pc ls st S o := by
  intro hK z hz p e R s m args below meth c cells slots Q A k H locs hS hP lsM hls
  obtain ⟨hx, hdt, hml, hown, hW, hfr, hlo, hce, hsl⟩ := hK z p e R s m args below meth c cells slots Q A k
  exact lv_lconst hx rfl (iz_dq hdt hd) hv (kk hK z hz p e R s m args below meth c cells slots Q A k H locs hS hP lsM hls)
set_option maxHeartbeats 40000 in
theorem iz_ldc (j : Nat) {n : Nat} {v : Int32} (hm : Cond.constant own n v ∈ lw_tbl) (hd : dt[j]? = some (pc, .ldc n, 2)) (kk : iz_Y X l own dt nL d K (pc + 2) ls (.int v :: st) S o) : iz_Y X l own dt nL d K pc ls st S o := by
  intro hK z hz p e R s m args below meth c cells slots Q A k H locs hS hP lsM hls
  obtain ⟨hx, hdt, hml, hown, hW, hfr, hlo, hce, hsl⟩ := hK z p e R s m args below meth c cells slots Q A k
  exact lv_ldc hx rfl hown (hW.1.use hm rfl) (iz_dq hdt hd) (kk hK z hz p e R s m args below meth c cells slots Q A k H locs hS hP lsM hls)
set_option maxHeartbeats 40000 in
theorem iz_ldcw (j : Nat) {n : Nat} {v : Int32} (hm : Cond.constant own n v ∈ lw_tbl) (hd : dt[j]? = some (pc, .ldc_w n, 3)) (kk : iz_Y X l own dt nL d K (pc + 3) ls (.int v :: st) S o) : iz_Y X l own dt nL d K pc ls st S o := by
  intro hK z hz p e R s m args below meth c cells slots Q A k H locs hS hP lsM hls
  obtain ⟨hx, hdt, hml, hown, hW, hfr, hlo, hce, hsl⟩ := hK z p e R s m args below meth c cells slots Q A k
  exact lv_ldcw hx rfl hown (hW.1.use hm rfl) (iz_dq hdt hd) (kk hK z hz p e R s m args below meth c cells slots Q A k H locs hS hP lsM hls)
set_option maxHeartbeats 40000 in
theorem iz_ldc2 (j : Nat) {n : Nat} {v : Int64} (hm : Cond.constantLong own n v ∈ lw_tbl) (hd : dt[j]? = some (pc, .ldc2_w n, 3)) (kk : iz_Y X l own dt nL d K (pc + 3) ls (.long v :: st) S o) : iz_Y X l own dt nL d K pc ls st S o := by
  intro hK z hz p e R s m args below meth c cells slots Q A k H locs hS hP lsM hls
  obtain ⟨hx, hdt, hml, hown, hW, hfr, hlo, hce, hsl⟩ := hK z p e R s m args below meth c cells slots Q A k
  exact lv_ldc2 hx rfl hown (hW.1.use hm rfl) (iz_dq hdt hd) (kk hK z hz p e R s m args below meth c cells slots Q A k H locs hS hP lsM hls)
set_option maxHeartbeats 40000 in
theorem iz_iload_n (j : Nat) {n : Fin 4} (i : Nat) {x : Int32} (hl : ls[i]? = some ((n : Nat), .int x)) (hd : dt[j]? = some (pc, .iload_n n, 1)) (kk : iz_Y X l own dt nL d K (pc + 1) ls (.int x :: st) S o) : iz_Y X l own dt nL d K pc ls st S o := by
  intro hK z hz p e R s m args below meth c cells slots Q A k H locs hS hP lsM hls
  obtain ⟨hx, hdt, hml, hown, hW, hfr, hlo, hce, hsl⟩ := hK z p e R s m args below meth c cells slots Q A k
  exact lv_iload_n hx rfl (iz_dq hdt hd) rfl (lv_at hls i hl) (kk hK z hz p e R s m args below meth c cells slots Q A k H locs hS hP lsM hls)
set_option maxHeartbeats 40000 in
theorem iz_iload (j : Nat) {n : Nat} (i : Nat) {x : Int32} (hl : ls[i]? = some (n, .int x)) (hd : dt[j]? = some (pc, .iload n, 2)) (kk : iz_Y X l own dt nL d K (pc + 2) ls (.int x :: st) S o) : iz_Y X l own dt nL d K pc ls st S o := by
  intro hK z hz p e R s m args below meth c cells slots Q A k H locs hS hP lsM hls
  obtain ⟨hx, hdt, hml, hown, hW, hfr, hlo, hce, hsl⟩ := hK z p e R s m args below meth c cells slots Q A k
  exact lv_iload hx rfl (iz_dq hdt hd) (lv_at hls i hl) (kk hK z hz p e R s m args below meth c cells slots Q A k H locs hS hP lsM hls)
set_option maxHeartbeats 40000 in
theorem iz_lload_n (j : Nat) {n : Fin 4} (i : Nat) {x : Int64} (hl : ls[i]? = some ((n : Nat), .long x)) (hd : dt[j]? = some (pc, .lload_n n, 1)) (kk : iz_Y X l own dt nL d K (pc + 1) ls (.long x :: st) S o) : iz_Y X l own dt nL d K pc ls st S o := by
  intro hK z hz p e R s m args below meth c cells slots Q A k H locs hS hP lsM hls
  obtain ⟨hx, hdt, hml, hown, hW, hfr, hlo, hce, hsl⟩ := hK z p e R s m args below meth c cells slots Q A k
  exact lv_lload_n hx rfl (iz_dq hdt hd) rfl (lv_at hls i hl) (kk hK z hz p e R s m args below meth c cells slots Q A k H locs hS hP lsM hls)
set_option maxHeartbeats 40000 in
theorem iz_lload (j : Nat) {n : Nat} (i : Nat) {x : Int64} (hl : ls[i]? = some (n, .long x)) (hd : dt[j]? = some (pc, .lload n, 2)) (kk : iz_Y X l own dt nL d K (pc + 2) ls (.long x :: st) S o) : iz_Y X l own dt nL d K pc ls st S o := by
  intro hK z hz p e R s m args below meth c cells slots Q A k H locs hS hP lsM hls
  obtain ⟨hx, hdt, hml, hown, hW, hfr, hlo, hce, hsl⟩ := hK z p e R s m args below meth c cells slots Q A k
  exact lv_lload hx rfl (iz_dq hdt hd) (lv_at hls i hl) (kk hK z hz p e R s m args below meth c cells slots Q A k H locs hS hP lsM hls)
set_option maxHeartbeats 40000 in
theorem iz_aload_n (j : Nat) {n : Fin 4} (i : Nat) {x : Nat} (hl : ls[i]? = some ((n : Nat), .ref x)) (hd : dt[j]? = some (pc, .aload_n n, 1)) (kk : iz_Y X l own dt nL d K (pc + 1) ls (.ref x :: st) S o) : iz_Y X l own dt nL d K pc ls st S o := by
  intro hK z hz p e R s m args below meth c cells slots Q A k H locs hS hP lsM hls
  obtain ⟨hx, hdt, hml, hown, hW, hfr, hlo, hce, hsl⟩ := hK z p e R s m args below meth c cells slots Q A k
  exact lv_aload_n hx rfl (iz_dq hdt hd) rfl (lv_at hls i hl) (kk hK z hz p e R s m args below meth c cells slots Q A k H locs hS hP lsM hls)
set_option maxHeartbeats 40000 in
theorem iz_aload (j : Nat) {n : Nat} (i : Nat) {x : Nat} (hl : ls[i]? = some (n, .ref x)) (hd : dt[j]? = some (pc, .aload n, 2)) (kk : iz_Y X l own dt nL d K (pc + 2) ls (.ref x :: st) S o) : iz_Y X l own dt nL d K pc ls st S o := by
  intro hK z hz p e R s m args below meth c cells slots Q A k H locs hS hP lsM hls
  obtain ⟨hx, hdt, hml, hown, hW, hfr, hlo, hce, hsl⟩ := hK z p e R s m args below meth c cells slots Q A k
  exact lv_aload hx rfl (iz_dq hdt hd) (lv_at hls i hl) (kk hK z hz p e R s m args below meth c cells slots Q A k H locs hS hP lsM hls)
set_option maxHeartbeats 40000 in
theorem iz_istore_n (j : Nat) {n : Fin 4} {x : Int32} (ks : List Nat) (hd : dt[j]? = some (pc, .istore_n n, 1)) (hn : (n : Nat) < nL) (hp : lv_pick (((n : Nat), Value.int x) :: ls.filter (fun q => !(q.1 == (n : Nat)) && !(q.1 + 1 == (n : Nat) && q.2.category == 2))) ks = ls2) (kk : iz_Y X l own dt nL d K (pc + 1) ls2 st S o) : iz_Y X l own dt nL d K pc ls (.int x :: st) S o := by
  intro hK z hz p e R s m args below meth c cells slots Q A k H locs hS hP lsM hls
  obtain ⟨hx, hdt, hml, hown, hW, hfr, hlo, hce, hsl⟩ := hK z p e R s m args below meth c cells slots Q A k
  exact lv_istore_n hx rfl (iz_dq hdt hd) rfl hls hn rfl (fun lsN hlN => (kk hK z hz p e R s m args below meth c cells slots Q A k H locs hS hP lsN (lv_sub hlN ks hp)))
set_option maxHeartbeats 40000 in
theorem iz_istore (j : Nat) {n : Nat} {x : Int32} (ks : List Nat) (hd : dt[j]? = some (pc, .istore n, 2)) (hn : n < nL) (hp : lv_pick ((n, Value.int x) :: ls.filter (fun q => !(q.1 == n) && !(q.1 + 1 == n && q.2.category == 2))) ks = ls2) (kk : iz_Y X l own dt nL d K (pc + 2) ls2 st S o) : iz_Y X l own dt nL d K pc ls (.int x :: st) S o := by
  intro hK z hz p e R s m args below meth c cells slots Q A k H locs hS hP lsM hls
  obtain ⟨hx, hdt, hml, hown, hW, hfr, hlo, hce, hsl⟩ := hK z p e R s m args below meth c cells slots Q A k
  exact lv_istore hx rfl (iz_dq hdt hd) hls hn rfl (fun lsN hlN => (kk hK z hz p e R s m args below meth c cells slots Q A k H locs hS hP lsN (lv_sub hlN ks hp)))
set_option maxHeartbeats 40000 in
theorem iz_astore_n (j : Nat) {n : Fin 4} {x : Nat} (ks : List Nat) (hd : dt[j]? = some (pc, .astore_n n, 1)) (hn : (n : Nat) < nL) (hp : lv_pick (((n : Nat), Value.ref x) :: ls.filter (fun q => !(q.1 == (n : Nat)) && !(q.1 + 1 == (n : Nat) && q.2.category == 2))) ks = ls2) (kk : iz_Y X l own dt nL d K (pc + 1) ls2 st S o) : iz_Y X l own dt nL d K pc ls (.ref x :: st) S o := by
  intro hK z hz p e R s m args below meth c cells slots Q A k H locs hS hP lsM hls
  obtain ⟨hx, hdt, hml, hown, hW, hfr, hlo, hce, hsl⟩ := hK z p e R s m args below meth c cells slots Q A k
  exact lv_astore_n hx rfl (iz_dq hdt hd) rfl hls hn rfl (fun lsN hlN => (kk hK z hz p e R s m args below meth c cells slots Q A k H locs hS hP lsN (lv_sub hlN ks hp)))
set_option maxHeartbeats 40000 in
theorem iz_astore (j : Nat) {n : Nat} {x : Nat} (ks : List Nat) (hd : dt[j]? = some (pc, .astore n, 2)) (hn : n < nL) (hp : lv_pick ((n, Value.ref x) :: ls.filter (fun q => !(q.1 == n) && !(q.1 + 1 == n && q.2.category == 2))) ks = ls2) (kk : iz_Y X l own dt nL d K (pc + 2) ls2 st S o) : iz_Y X l own dt nL d K pc ls (.ref x :: st) S o := by
  intro hK z hz p e R s m args below meth c cells slots Q A k H locs hS hP lsM hls
  obtain ⟨hx, hdt, hml, hown, hW, hfr, hlo, hce, hsl⟩ := hK z p e R s m args below meth c cells slots Q A k
  exact lv_astore hx rfl (iz_dq hdt hd) hls hn rfl (fun lsN hlN => (kk hK z hz p e R s m args below meth c cells slots Q A k H locs hS hP lsN (lv_sub hlN ks hp)))
set_option maxHeartbeats 40000 in
theorem iz_lstore_n (j : Nat) {n : Fin 4} {x : Int64} (ks : List Nat) (hd : dt[j]? = some (pc, .lstore_n n, 1)) (hn : (n : Nat) + 1 < nL) (hp : lv_pick (((n : Nat), Value.long x) :: ls.filter (fun q => !(q.1 == (n : Nat)) && (!(q.1 == (n : Nat) + 1) && !(q.1 + 1 == (n : Nat) && q.2.category == 2)))) ks = ls2) (kk : iz_Y X l own dt nL d K (pc + 1) ls2 st S o) : iz_Y X l own dt nL d K pc ls (.long x :: st) S o := by
  intro hK z hz p e R s m args below meth c cells slots Q A k H locs hS hP lsM hls
  obtain ⟨hx, hdt, hml, hown, hW, hfr, hlo, hce, hsl⟩ := hK z p e R s m args below meth c cells slots Q A k
  exact lv_lstore_n hx rfl (iz_dq hdt hd) rfl hls hn rfl (fun lsN hlN => (kk hK z hz p e R s m args below meth c cells slots Q A k H locs hS hP lsN (lv_sub hlN ks hp)))
set_option maxHeartbeats 40000 in
theorem iz_lstore (j : Nat) {n : Nat} {x : Int64} (ks : List Nat) (hd : dt[j]? = some (pc, .lstore n, 2)) (hn : n + 1 < nL) (hp : lv_pick ((n, Value.long x) :: ls.filter (fun q => !(q.1 == n) && (!(q.1 == n + 1) && !(q.1 + 1 == n && q.2.category == 2)))) ks = ls2) (kk : iz_Y X l own dt nL d K (pc + 2) ls2 st S o) : iz_Y X l own dt nL d K pc ls (.long x :: st) S o := by
  intro hK z hz p e R s m args below meth c cells slots Q A k H locs hS hP lsM hls
  obtain ⟨hx, hdt, hml, hown, hW, hfr, hlo, hce, hsl⟩ := hK z p e R s m args below meth c cells slots Q A k
  exact lv_lstore hx rfl (iz_dq hdt hd) hls hn rfl (fun lsN hlN => (kk hK z hz p e R s m args below meth c cells slots Q A k H locs hS hP lsN (lv_sub hlN ks hp)))
set_option maxHeartbeats 40000 in
theorem iz_iinc (j : Nat) {n : Nat} {w : Int} {x v : Int32} (i : Nat) (ks : List Nat) (hd : dt[j]? = some (pc, .iinc n w, 3)) (hl : ls[i]? = some (n, .int x)) (hv : x + Int32.ofInt w = v) (hn : n < nL) (hp : lv_pick ((n, Value.int v) :: ls.filter (fun q => !(q.1 == n) && !(q.1 + 1 == n && q.2.category == 2))) ks = ls2) (kk : iz_Y X l own dt nL d K (pc + 3) ls2 st S o) : iz_Y X l own dt nL d K pc ls st S o := by
  intro hK z hz p e R s m args below meth c cells slots Q A k H locs hS hP lsM hls
  obtain ⟨hx, hdt, hml, hown, hW, hfr, hlo, hce, hsl⟩ := hK z p e R s m args below meth c cells slots Q A k
  exact lv_iinc hx rfl (iz_dq hdt hd) hls hl hv hn rfl (fun lsN hlN => (kk hK z hz p e R s m args below meth c cells slots Q A k H locs hS hP lsN (lv_sub hlN ks hp)))
set_option maxHeartbeats 40000 in
theorem iz_iadd (j : Nat) {x y : Int32} (hd : dt[j]? = some (pc, .iadd, 1)) (kk : iz_Y X l own dt nL d K (pc + 1) ls (.int (x + y) :: st) S o) : iz_Y X l own dt nL d K pc ls (.int y :: .int x :: st) S o := by
  intro hK z hz p e R s m args below meth c cells slots Q A k H locs hS hP lsM hls
  obtain ⟨hx, hdt, hml, hown, hW, hfr, hlo, hce, hsl⟩ := hK z p e R s m args below meth c cells slots Q A k
  exact lv_iadd hx rfl (iz_dq hdt hd) (kk hK z hz p e R s m args below meth c cells slots Q A k H locs hS hP lsM hls)
set_option maxHeartbeats 40000 in
theorem iz_isub (j : Nat) {x y : Int32} (hd : dt[j]? = some (pc, .isub, 1)) (kk : iz_Y X l own dt nL d K (pc + 1) ls (.int (x - y) :: st) S o) : iz_Y X l own dt nL d K pc ls (.int y :: .int x :: st) S o := by
  intro hK z hz p e R s m args below meth c cells slots Q A k H locs hS hP lsM hls
  obtain ⟨hx, hdt, hml, hown, hW, hfr, hlo, hce, hsl⟩ := hK z p e R s m args below meth c cells slots Q A k
  exact lv_isub hx rfl (iz_dq hdt hd) (kk hK z hz p e R s m args below meth c cells slots Q A k H locs hS hP lsM hls)
set_option maxHeartbeats 40000 in
theorem iz_imul (j : Nat) {x y : Int32} (hd : dt[j]? = some (pc, .imul, 1)) (kk : iz_Y X l own dt nL d K (pc + 1) ls (.int (x * y) :: st) S o) : iz_Y X l own dt nL d K pc ls (.int y :: .int x :: st) S o := by
  intro hK z hz p e R s m args below meth c cells slots Q A k H locs hS hP lsM hls
  obtain ⟨hx, hdt, hml, hown, hW, hfr, hlo, hce, hsl⟩ := hK z p e R s m args below meth c cells slots Q A k
  exact lv_imul hx rfl (iz_dq hdt hd) (kk hK z hz p e R s m args below meth c cells slots Q A k H locs hS hP lsM hls)
set_option maxHeartbeats 40000 in
theorem iz_iand (j : Nat) {x y : Int32} (hd : dt[j]? = some (pc, .iand, 1)) (kk : iz_Y X l own dt nL d K (pc + 1) ls (.int (x &&& y) :: st) S o) : iz_Y X l own dt nL d K pc ls (.int y :: .int x :: st) S o := by
  intro hK z hz p e R s m args below meth c cells slots Q A k H locs hS hP lsM hls
  obtain ⟨hx, hdt, hml, hown, hW, hfr, hlo, hce, hsl⟩ := hK z p e R s m args below meth c cells slots Q A k
  exact lv_iand hx rfl (iz_dq hdt hd) (kk hK z hz p e R s m args below meth c cells slots Q A k H locs hS hP lsM hls)
set_option maxHeartbeats 40000 in
theorem iz_ior (j : Nat) {x y : Int32} (hd : dt[j]? = some (pc, .ior, 1)) (kk : iz_Y X l own dt nL d K (pc + 1) ls (.int (x ||| y) :: st) S o) : iz_Y X l own dt nL d K pc ls (.int y :: .int x :: st) S o := by
  intro hK z hz p e R s m args below meth c cells slots Q A k H locs hS hP lsM hls
  obtain ⟨hx, hdt, hml, hown, hW, hfr, hlo, hce, hsl⟩ := hK z p e R s m args below meth c cells slots Q A k
  exact lv_ior hx rfl (iz_dq hdt hd) (kk hK z hz p e R s m args below meth c cells slots Q A k H locs hS hP lsM hls)
set_option maxHeartbeats 40000 in
theorem iz_ishl (j : Nat) {x y : Int32} (hd : dt[j]? = some (pc, .ishl, 1)) (kk : iz_Y X l own dt nL d K (pc + 1) ls (.int (x <<< (y &&& 31)) :: st) S o) : iz_Y X l own dt nL d K pc ls (.int y :: .int x :: st) S o := by
  intro hK z hz p e R s m args below meth c cells slots Q A k H locs hS hP lsM hls
  obtain ⟨hx, hdt, hml, hown, hW, hfr, hlo, hce, hsl⟩ := hK z p e R s m args below meth c cells slots Q A k
  exact lv_ishl hx rfl (iz_dq hdt hd) (kk hK z hz p e R s m args below meth c cells slots Q A k H locs hS hP lsM hls)
set_option maxHeartbeats 40000 in
theorem iz_ishr (j : Nat) {x y : Int32} (hd : dt[j]? = some (pc, .ishr, 1)) (kk : iz_Y X l own dt nL d K (pc + 1) ls (.int (x >>> (y &&& 31)) :: st) S o) : iz_Y X l own dt nL d K pc ls (.int y :: .int x :: st) S o := by
  intro hK z hz p e R s m args below meth c cells slots Q A k H locs hS hP lsM hls
  obtain ⟨hx, hdt, hml, hown, hW, hfr, hlo, hce, hsl⟩ := hK z p e R s m args below meth c cells slots Q A k
  exact lv_ishr hx rfl (iz_dq hdt hd) (kk hK z hz p e R s m args below meth c cells slots Q A k H locs hS hP lsM hls)
set_option maxHeartbeats 40000 in
theorem iz_idiv (j : Nat) {x y : Int32} (hne : ¬ y = 0) (hd : dt[j]? = some (pc, .idiv, 1)) (kk : iz_Y X l own dt nL d K (pc + 1) ls (.int (x / y) :: st) S o) : iz_Y X l own dt nL d K pc ls (.int y :: .int x :: st) S o := by
  intro hK z hz p e R s m args below meth c cells slots Q A k H locs hS hP lsM hls
  obtain ⟨hx, hdt, hml, hown, hW, hfr, hlo, hce, hsl⟩ := hK z p e R s m args below meth c cells slots Q A k
  exact lv_idiv hx rfl (iz_dq hdt hd) hne (kk hK z hz p e R s m args below meth c cells slots Q A k H locs hS hP lsM hls)
set_option maxHeartbeats 40000 in
theorem iz_irem (j : Nat) {x y : Int32} (hne : ¬ y = 0) (hd : dt[j]? = some (pc, .irem, 1)) (kk : iz_Y X l own dt nL d K (pc + 1) ls (.int (x - x / y * y) :: st) S o) : iz_Y X l own dt nL d K pc ls (.int y :: .int x :: st) S o := by
  intro hK z hz p e R s m args below meth c cells slots Q A k H locs hS hP lsM hls
  obtain ⟨hx, hdt, hml, hown, hW, hfr, hlo, hce, hsl⟩ := hK z p e R s m args below meth c cells slots Q A k
  exact lv_irem hx rfl (iz_dq hdt hd) hne (kk hK z hz p e R s m args below meth c cells slots Q A k H locs hS hP lsM hls)
set_option maxHeartbeats 40000 in
theorem iz_ladd (j : Nat) {x y : Int64} (hd : dt[j]? = some (pc, .ladd, 1)) (kk : iz_Y X l own dt nL d K (pc + 1) ls (.long (x + y) :: st) S o) : iz_Y X l own dt nL d K pc ls (.long y :: .long x :: st) S o := by
  intro hK z hz p e R s m args below meth c cells slots Q A k H locs hS hP lsM hls
  obtain ⟨hx, hdt, hml, hown, hW, hfr, hlo, hce, hsl⟩ := hK z p e R s m args below meth c cells slots Q A k
  exact lv_ladd hx rfl (iz_dq hdt hd) (kk hK z hz p e R s m args below meth c cells slots Q A k H locs hS hP lsM hls)
set_option maxHeartbeats 40000 in
theorem iz_lsub (j : Nat) {x y : Int64} (hd : dt[j]? = some (pc, .lsub, 1)) (kk : iz_Y X l own dt nL d K (pc + 1) ls (.long (x - y) :: st) S o) : iz_Y X l own dt nL d K pc ls (.long y :: .long x :: st) S o := by
  intro hK z hz p e R s m args below meth c cells slots Q A k H locs hS hP lsM hls
  obtain ⟨hx, hdt, hml, hown, hW, hfr, hlo, hce, hsl⟩ := hK z p e R s m args below meth c cells slots Q A k
  exact lv_lsub hx rfl (iz_dq hdt hd) (kk hK z hz p e R s m args below meth c cells slots Q A k H locs hS hP lsM hls)
set_option maxHeartbeats 40000 in
theorem iz_land (j : Nat) {x y : Int64} (hd : dt[j]? = some (pc, .land, 1)) (kk : iz_Y X l own dt nL d K (pc + 1) ls (.long (x &&& y) :: st) S o) : iz_Y X l own dt nL d K pc ls (.long y :: .long x :: st) S o := by
  intro hK z hz p e R s m args below meth c cells slots Q A k H locs hS hP lsM hls
  obtain ⟨hx, hdt, hml, hown, hW, hfr, hlo, hce, hsl⟩ := hK z p e R s m args below meth c cells slots Q A k
  exact lv_land hx rfl (iz_dq hdt hd) (kk hK z hz p e R s m args below meth c cells slots Q A k H locs hS hP lsM hls)
set_option maxHeartbeats 40000 in
theorem iz_lor (j : Nat) {x y : Int64} (hd : dt[j]? = some (pc, .lor, 1)) (kk : iz_Y X l own dt nL d K (pc + 1) ls (.long (x ||| y) :: st) S o) : iz_Y X l own dt nL d K pc ls (.long y :: .long x :: st) S o := by
  intro hK z hz p e R s m args below meth c cells slots Q A k H locs hS hP lsM hls
  obtain ⟨hx, hdt, hml, hown, hW, hfr, hlo, hce, hsl⟩ := hK z p e R s m args below meth c cells slots Q A k
  exact lv_lor hx rfl (iz_dq hdt hd) (kk hK z hz p e R s m args below meth c cells slots Q A k H locs hS hP lsM hls)
set_option maxHeartbeats 40000 in
theorem iz_lxor (j : Nat) {x y : Int64} (hd : dt[j]? = some (pc, .lxor, 1)) (kk : iz_Y X l own dt nL d K (pc + 1) ls (.long (x ^^^ y) :: st) S o) : iz_Y X l own dt nL d K pc ls (.long y :: .long x :: st) S o := by
  intro hK z hz p e R s m args below meth c cells slots Q A k H locs hS hP lsM hls
  obtain ⟨hx, hdt, hml, hown, hW, hfr, hlo, hce, hsl⟩ := hK z p e R s m args below meth c cells slots Q A k
  exact lv_lxor hx rfl (iz_dq hdt hd) (kk hK z hz p e R s m args below meth c cells slots Q A k H locs hS hP lsM hls)
set_option maxHeartbeats 40000 in
theorem iz_lshl (j : Nat) {x : Int64} {y : Int32} (hd : dt[j]? = some (pc, .lshl, 1)) (kk : iz_Y X l own dt nL d K (pc + 1) ls (.long (x <<< (y.toInt64 &&& 63)) :: st) S o) : iz_Y X l own dt nL d K pc ls (.int y :: .long x :: st) S o := by
  intro hK z hz p e R s m args below meth c cells slots Q A k H locs hS hP lsM hls
  obtain ⟨hx, hdt, hml, hown, hW, hfr, hlo, hce, hsl⟩ := hK z p e R s m args below meth c cells slots Q A k
  exact lv_lshl hx rfl (iz_dq hdt hd) rfl (kk hK z hz p e R s m args below meth c cells slots Q A k H locs hS hP lsM hls)
set_option maxHeartbeats 40000 in
theorem iz_lushr (j : Nat) {x : Int64} {y : Int32} (hd : dt[j]? = some (pc, .lushr, 1)) (kk : iz_Y X l own dt nL d K (pc + 1) ls (.long ((x.toUInt64 >>> (y.toInt64.toUInt64 &&& Int64.toUInt64 63)).toInt64) :: st) S o) : iz_Y X l own dt nL d K pc ls (.int y :: .long x :: st) S o := by
  intro hK z hz p e R s m args below meth c cells slots Q A k H locs hS hP lsM hls
  obtain ⟨hx, hdt, hml, hown, hW, hfr, hlo, hce, hsl⟩ := hK z p e R s m args below meth c cells slots Q A k
  exact lv_lushr hx rfl (iz_dq hdt hd) rfl (kk hK z hz p e R s m args below meth c cells slots Q A k H locs hS hP lsM hls)
set_option maxHeartbeats 40000 in
theorem iz_l2i (j : Nat) {x : Int64} (hd : dt[j]? = some (pc, .l2i, 1)) (kk : iz_Y X l own dt nL d K (pc + 1) ls (.int x.toInt32 :: st) S o) : iz_Y X l own dt nL d K pc ls (.long x :: st) S o := by
  intro hK z hz p e R s m args below meth c cells slots Q A k H locs hS hP lsM hls
  obtain ⟨hx, hdt, hml, hown, hW, hfr, hlo, hce, hsl⟩ := hK z p e R s m args below meth c cells slots Q A k
  exact lv_l2i hx rfl (iz_dq hdt hd) rfl (kk hK z hz p e R s m args below meth c cells slots Q A k H locs hS hP lsM hls)
set_option maxHeartbeats 40000 in
theorem iz_lcmp (j : Nat) {x y : Int64} (hd : dt[j]? = some (pc, .lcmp, 1)) (kk : iz_Y X l own dt nL d K (pc + 1) ls (.int (lg_cmp x y) :: st) S o) : iz_Y X l own dt nL d K pc ls (.long y :: .long x :: st) S o := by
  intro hK z hz p e R s m args below meth c cells slots Q A k H locs hS hP lsM hls
  obtain ⟨hx, hdt, hml, hown, hW, hfr, hlo, hce, hsl⟩ := hK z p e R s m args below meth c cells slots Q A k
  exact W.lcmp hx rfl (iz_dq hdt hd) (kk hK z hz p e R s m args below meth c cells slots Q A k H locs hS hP lsM hls)
set_option maxHeartbeats 40000 in
theorem iz_dup (j : Nat) {v : Value} (hv : v.category = 1) (hd : dt[j]? = some (pc, .dup, 1)) (kk : iz_Y X l own dt nL d K (pc + 1) ls (v :: v :: st) S o) : iz_Y X l own dt nL d K pc ls (v :: st) S o := by
  intro hK z hz p e R s m args below meth c cells slots Q A k H locs hS hP lsM hls
  obtain ⟨hx, hdt, hml, hown, hW, hfr, hlo, hce, hsl⟩ := hK z p e R s m args below meth c cells slots Q A k
  exact lv_dup hx rfl (iz_dq hdt hd) hv (kk hK z hz p e R s m args below meth c cells slots Q A k H locs hS hP lsM hls)
set_option maxHeartbeats 40000 in
theorem iz_dup2 (j : Nat) {v w : Value} (hv : v.category = 1) (hw : w.category = 1) (hd : dt[j]? = some (pc, .dup2, 1)) (kk : iz_Y X l own dt nL d K (pc + 1) ls (v :: w :: v :: w :: st) S o) : iz_Y X l own dt nL d K pc ls (v :: w :: st) S o := by
  intro hK z hz p e R s m args below meth c cells slots Q A k H locs hS hP lsM hls
  obtain ⟨hx, hdt, hml, hown, hW, hfr, hlo, hce, hsl⟩ := hK z p e R s m args below meth c cells slots Q A k
  exact lv_dup2_11 hx rfl (iz_dq hdt hd) hv hw (kk hK z hz p e R s m args below meth c cells slots Q A k H locs hS hP lsM hls)
set_option maxHeartbeats 40000 in
theorem iz_pop (j : Nat) {v : Value} (hv : v.category = 1) (hd : dt[j]? = some (pc, .pop, 1)) (kk : iz_Y X l own dt nL d K (pc + 1) ls st S o) : iz_Y X l own dt nL d K pc ls (v :: st) S o := by
  intro hK z hz p e R s m args below meth c cells slots Q A k H locs hS hP lsM hls
  obtain ⟨hx, hdt, hml, hown, hW, hfr, hlo, hce, hsl⟩ := hK z p e R s m args below meth c cells slots Q A k
  exact lv_pop hx rfl (iz_dq hdt hd) hv (kk hK z hz p e R s m args below meth c cells slots Q A k H locs hS hP lsM hls)
set_option maxHeartbeats 40000 in
theorem iz_goto (j : Nat) {off : Int} {tgt : Nat} (ht : (pc : Int) + off = (tgt : Int)) (hd : dt[j]? = some (pc, .goto off, 3)) (kk : iz_Y X l own dt nL d K tgt ls st S o) : iz_Y X l own dt nL d K pc ls st S o := by
  intro hK z hz p e R s m args below meth c cells slots Q A k H locs hS hP lsM hls
  obtain ⟨hx, hdt, hml, hown, hW, hfr, hlo, hce, hsl⟩ := hK z p e R s m args below meth c cells slots Q A k
  exact lv_goto hx rfl (iz_dq hdt hd) ht (kk hK z hz p e R s m args below meth c cells slots Q A k H locs hS hP lsM hls)
set_option maxHeartbeats 40000 in
theorem iz_cmp_eq (j : Nat) {off : Int} {tgt : Nat} {x y : Int32} (hd : dt[j]? = some (pc, .if_icmp .eq off, 3)) (ht : (pc : Int) + off = (tgt : Int)) (kt : iz_Y X l own dt nL d K tgt ls st S o) (kf : iz_Y X l own dt nL d K (pc + 3) ls st S o2) : iz_Y X l own dt nL d K pc ls (.int y :: .int x :: st) S (if x = y then o else o2) := by
  intro hK z hz p e R s m args below meth c cells slots Q A k H locs hS hP lsM hls
  obtain ⟨hx, hdt, hml, hown, hW, hfr, hlo, hce, hsl⟩ := hK z p e R s m args below meth c cells slots Q A k
  refine lv_icmp_eq hx rfl (iz_dq hdt hd) ht (fun h => ?_) (fun h => ?_)
  · rw [if_pos h] at hz
    exact kt hK z hz p e R s m args below meth c cells slots Q A k H locs hS hP lsM hls
  · rw [if_neg h] at hz
    exact kf hK z hz p e R s m args below meth c cells slots Q A k H locs hS hP lsM hls
set_option maxHeartbeats 40000 in
theorem iz_cmp_ne (j : Nat) {off : Int} {tgt : Nat} {x y : Int32} (hd : dt[j]? = some (pc, .if_icmp .ne off, 3)) (ht : (pc : Int) + off = (tgt : Int)) (kt : iz_Y X l own dt nL d K tgt ls st S o2) (kf : iz_Y X l own dt nL d K (pc + 3) ls st S o) : iz_Y X l own dt nL d K pc ls (.int y :: .int x :: st) S (if x = y then o else o2) := by
  intro hK z hz p e R s m args below meth c cells slots Q A k H locs hS hP lsM hls
  obtain ⟨hx, hdt, hml, hown, hW, hfr, hlo, hce, hsl⟩ := hK z p e R s m args below meth c cells slots Q A k
  refine lv_icmp_ne hx rfl (iz_dq hdt hd) ht (fun h => ?_) (fun h => ?_)
  · rw [if_neg h] at hz
    exact kt hK z hz p e R s m args below meth c cells slots Q A k H locs hS hP lsM hls
  · rw [if_pos h] at hz
    exact kf hK z hz p e R s m args below meth c cells slots Q A k H locs hS hP lsM hls
set_option maxHeartbeats 40000 in
theorem iz_cmp_lt (j : Nat) {off : Int} {tgt : Nat} {x y : Int32} (hd : dt[j]? = some (pc, .if_icmp .lt off, 3)) (ht : (pc : Int) + off = (tgt : Int)) (kt : iz_Y X l own dt nL d K tgt ls st S o) (kf : iz_Y X l own dt nL d K (pc + 3) ls st S o2) : iz_Y X l own dt nL d K pc ls (.int y :: .int x :: st) S (if x < y then o else o2) := by
  intro hK z hz p e R s m args below meth c cells slots Q A k H locs hS hP lsM hls
  obtain ⟨hx, hdt, hml, hown, hW, hfr, hlo, hce, hsl⟩ := hK z p e R s m args below meth c cells slots Q A k
  refine lv_icmp_lt hx rfl (iz_dq hdt hd) ht (fun h => ?_) (fun h => ?_)
  · rw [if_pos h] at hz
    exact kt hK z hz p e R s m args below meth c cells slots Q A k H locs hS hP lsM hls
  · rw [if_neg h] at hz
    exact kf hK z hz p e R s m args below meth c cells slots Q A k H locs hS hP lsM hls
set_option maxHeartbeats 40000 in
theorem iz_cmp_ge (j : Nat) {off : Int} {tgt : Nat} {x y : Int32} (hd : dt[j]? = some (pc, .if_icmp .ge off, 3)) (ht : (pc : Int) + off = (tgt : Int)) (kt : iz_Y X l own dt nL d K tgt ls st S o2) (kf : iz_Y X l own dt nL d K (pc + 3) ls st S o) : iz_Y X l own dt nL d K pc ls (.int y :: .int x :: st) S (if x < y then o else o2) := by
  intro hK z hz p e R s m args below meth c cells slots Q A k H locs hS hP lsM hls
  obtain ⟨hx, hdt, hml, hown, hW, hfr, hlo, hce, hsl⟩ := hK z p e R s m args below meth c cells slots Q A k
  refine lv_icmp_ge hx rfl (iz_dq hdt hd) ht (fun h => ?_) (fun h => ?_)
  · rw [if_neg (Int32.not_lt.mpr h)] at hz
    exact kt hK z hz p e R s m args below meth c cells slots Q A k H locs hS hP lsM hls
  · rw [if_pos (Int32.not_le.mp h)] at hz
    exact kf hK z hz p e R s m args below meth c cells slots Q A k H locs hS hP lsM hls
set_option maxHeartbeats 40000 in
theorem iz_cmp_gt (j : Nat) {off : Int} {tgt : Nat} {x y : Int32} (hd : dt[j]? = some (pc, .if_icmp .gt off, 3)) (ht : (pc : Int) + off = (tgt : Int)) (kt : iz_Y X l own dt nL d K tgt ls st S o2) (kf : iz_Y X l own dt nL d K (pc + 3) ls st S o) : iz_Y X l own dt nL d K pc ls (.int y :: .int x :: st) S (if x ≤ y then o else o2) := by
  intro hK z hz p e R s m args below meth c cells slots Q A k H locs hS hP lsM hls
  obtain ⟨hx, hdt, hml, hown, hW, hfr, hlo, hce, hsl⟩ := hK z p e R s m args below meth c cells slots Q A k
  refine lv_icmp_gt hx rfl (iz_dq hdt hd) ht (fun h => ?_) (fun h => ?_)
  · rw [if_neg (Int32.not_le.mpr h)] at hz
    exact kt hK z hz p e R s m args below meth c cells slots Q A k H locs hS hP lsM hls
  · rw [if_pos (Int32.not_lt.mp h)] at hz
    exact kf hK z hz p e R s m args below meth c cells slots Q A k H locs hS hP lsM hls
set_option maxHeartbeats 40000 in
theorem iz_cmp_le (j : Nat) {off : Int} {tgt : Nat} {x y : Int32} (hd : dt[j]? = some (pc, .if_icmp .le off, 3)) (ht : (pc : Int) + off = (tgt : Int)) (kt : iz_Y X l own dt nL d K tgt ls st S o) (kf : iz_Y X l own dt nL d K (pc + 3) ls st S o2) : iz_Y X l own dt nL d K pc ls (.int y :: .int x :: st) S (if x ≤ y then o else o2) := by
  intro hK z hz p e R s m args below meth c cells slots Q A k H locs hS hP lsM hls
  obtain ⟨hx, hdt, hml, hown, hW, hfr, hlo, hce, hsl⟩ := hK z p e R s m args below meth c cells slots Q A k
  refine lv_icmp_le hx rfl (iz_dq hdt hd) ht (fun h => ?_) (fun h => ?_)
  · rw [if_pos h] at hz
    exact kt hK z hz p e R s m args below meth c cells slots Q A k H locs hS hP lsM hls
  · rw [if_neg h] at hz
    exact kf hK z hz p e R s m args below meth c cells slots Q A k H locs hS hP lsM hls
set_option maxHeartbeats 40000 in
theorem iz_if_eq (j : Nat) {off : Int} {tgt : Nat} {x : Int32} (hd : dt[j]? = some (pc, .ifCond .eq off, 3)) (ht : (pc : Int) + off = (tgt : Int)) (kt : iz_Y X l own dt nL d K tgt ls st S o) (kf : iz_Y X l own dt nL d K (pc + 3) ls st S o2) : iz_Y X l own dt nL d K pc ls (.int x :: st) S (if x = 0 then o else o2) := by
  intro hK z hz p e R s m args below meth c cells slots Q A k H locs hS hP lsM hls
  obtain ⟨hx, hdt, hml, hown, hW, hfr, hlo, hce, hsl⟩ := hK z p e R s m args below meth c cells slots Q A k
  refine lv_if_eq hx rfl (iz_dq hdt hd) ht (fun h => ?_) (fun h => ?_)
  · rw [if_pos h] at hz
    exact kt hK z hz p e R s m args below meth c cells slots Q A k H locs hS hP lsM hls
  · rw [if_neg h] at hz
    exact kf hK z hz p e R s m args below meth c cells slots Q A k H locs hS hP lsM hls
set_option maxHeartbeats 40000 in
theorem iz_if_ne (j : Nat) {off : Int} {tgt : Nat} {x : Int32} (hd : dt[j]? = some (pc, .ifCond .ne off, 3)) (ht : (pc : Int) + off = (tgt : Int)) (kt : iz_Y X l own dt nL d K tgt ls st S o2) (kf : iz_Y X l own dt nL d K (pc + 3) ls st S o) : iz_Y X l own dt nL d K pc ls (.int x :: st) S (if x = 0 then o else o2) := by
  intro hK z hz p e R s m args below meth c cells slots Q A k H locs hS hP lsM hls
  obtain ⟨hx, hdt, hml, hown, hW, hfr, hlo, hce, hsl⟩ := hK z p e R s m args below meth c cells slots Q A k
  refine lv_if_ne hx rfl (iz_dq hdt hd) ht (fun h => ?_) (fun h => ?_)
  · rw [if_neg h] at hz
    exact kt hK z hz p e R s m args below meth c cells slots Q A k H locs hS hP lsM hls
  · rw [if_pos h] at hz
    exact kf hK z hz p e R s m args below meth c cells slots Q A k H locs hS hP lsM hls
set_option maxHeartbeats 40000 in
theorem iz_if_lt (j : Nat) {off : Int} {tgt : Nat} {x : Int32} (hd : dt[j]? = some (pc, .ifCond .lt off, 3)) (ht : (pc : Int) + off = (tgt : Int)) (kt : iz_Y X l own dt nL d K tgt ls st S o) (kf : iz_Y X l own dt nL d K (pc + 3) ls st S o2) : iz_Y X l own dt nL d K pc ls (.int x :: st) S (if x < 0 then o else o2) := by
  intro hK z hz p e R s m args below meth c cells slots Q A k H locs hS hP lsM hls
  obtain ⟨hx, hdt, hml, hown, hW, hfr, hlo, hce, hsl⟩ := hK z p e R s m args below meth c cells slots Q A k
  refine lv_if_lt hx rfl (iz_dq hdt hd) ht (fun h => ?_) (fun h => ?_)
  · rw [if_pos h] at hz
    exact kt hK z hz p e R s m args below meth c cells slots Q A k H locs hS hP lsM hls
  · rw [if_neg h] at hz
    exact kf hK z hz p e R s m args below meth c cells slots Q A k H locs hS hP lsM hls
set_option maxHeartbeats 40000 in
theorem iz_if_ge (j : Nat) {off : Int} {tgt : Nat} {x : Int32} (hd : dt[j]? = some (pc, .ifCond .ge off, 3)) (ht : (pc : Int) + off = (tgt : Int)) (kt : iz_Y X l own dt nL d K tgt ls st S o2) (kf : iz_Y X l own dt nL d K (pc + 3) ls st S o) : iz_Y X l own dt nL d K pc ls (.int x :: st) S (if x < 0 then o else o2) := by
  intro hK z hz p e R s m args below meth c cells slots Q A k H locs hS hP lsM hls
  obtain ⟨hx, hdt, hml, hown, hW, hfr, hlo, hce, hsl⟩ := hK z p e R s m args below meth c cells slots Q A k
  refine lv_if_ge hx rfl (iz_dq hdt hd) ht (fun h => ?_) (fun h => ?_)
  · rw [if_neg (Int32.not_lt.mpr h)] at hz
    exact kt hK z hz p e R s m args below meth c cells slots Q A k H locs hS hP lsM hls
  · rw [if_pos (Int32.not_le.mp h)] at hz
    exact kf hK z hz p e R s m args below meth c cells slots Q A k H locs hS hP lsM hls
set_option maxHeartbeats 40000 in
theorem iz_if_gt (j : Nat) {off : Int} {tgt : Nat} {x : Int32} (hd : dt[j]? = some (pc, .ifCond .gt off, 3)) (ht : (pc : Int) + off = (tgt : Int)) (kt : iz_Y X l own dt nL d K tgt ls st S o2) (kf : iz_Y X l own dt nL d K (pc + 3) ls st S o) : iz_Y X l own dt nL d K pc ls (.int x :: st) S (if x ≤ 0 then o else o2) := by
  intro hK z hz p e R s m args below meth c cells slots Q A k H locs hS hP lsM hls
  obtain ⟨hx, hdt, hml, hown, hW, hfr, hlo, hce, hsl⟩ := hK z p e R s m args below meth c cells slots Q A k
  refine lv_if_gt hx rfl (iz_dq hdt hd) ht (fun h => ?_) (fun h => ?_)
  · rw [if_neg (Int32.not_le.mpr h)] at hz
    exact kt hK z hz p e R s m args below meth c cells slots Q A k H locs hS hP lsM hls
  · rw [if_pos (Int32.not_lt.mp h)] at hz
    exact kf hK z hz p e R s m args below meth c cells slots Q A k H locs hS hP lsM hls
set_option maxHeartbeats 40000 in
theorem iz_if_le (j : Nat) {off : Int} {tgt : Nat} {x : Int32} (hd : dt[j]? = some (pc, .ifCond .le off, 3)) (ht : (pc : Int) + off = (tgt : Int)) (kt : iz_Y X l own dt nL d K tgt ls st S o) (kf : iz_Y X l own dt nL d K (pc + 3) ls st S o2) : iz_Y X l own dt nL d K pc ls (.int x :: st) S (if x ≤ 0 then o else o2) := by
  intro hK z hz p e R s m args below meth c cells slots Q A k H locs hS hP lsM hls
  obtain ⟨hx, hdt, hml, hown, hW, hfr, hlo, hce, hsl⟩ := hK z p e R s m args below meth c cells slots Q A k
  refine lv_if_le hx rfl (iz_dq hdt hd) ht (fun h => ?_) (fun h => ?_)
  · rw [if_pos h] at hz
    exact kt hK z hz p e R s m args below meth c cells slots Q A k H locs hS hP lsM hls
  · rw [if_neg h] at hz
    exact kf hK z hz p e R s m args below meth c cells slots Q A k H locs hS hP lsM hls
/-- a switch: the cases in a list, by their places -/
def iz_sw (x : Int32) (lo hi : Int) (os : List (Option α)) (od : Option α) : Option α := if x.toInt < lo ∨ hi < x.toInt then od else os.getD (x.toInt - lo).toNat none
set_option maxHeartbeats 40000 in
theorem iz_tsw (j : Nat) {dflt lo hi : Int} {offs : Array Int} {len : Nat} {x : Int32} {dtgt : Nat} (tgts : List Nat) {os : List (Option α)} {od : Option α} (hd : dt[j]? = some (pc, .tableswitch dflt lo hi offs, len)) (htd : (pc : Int) + dflt = (dtgt : Int)) (hto : offs.toList.map (fun q => (pc : Int) + q) = tgts.map (fun q : Nat => (q : Int))) (hn : (hi - lo).toNat < offs.size)
    (kd : iz_Y X l own dt nL d K dtgt ls st S od) (kk : ∀ (i t : Nat), tgts[i]? = some t → iz_Y X l own dt nL d K t ls st S (os.getD i none)) : iz_Y X l own dt nL d K pc ls (.int x :: st) S (iz_sw x lo hi os od) := by
  intro hK z hz p e R s m args below meth c cells slots Q A k H locs hS hP lsM hls
  obtain ⟨hx, hdt, hml, hown, hW, hfr, hlo, hce, hsl⟩ := hK z p e R s m args below meth c cells slots Q A k
  unfold iz_sw at hz
  by_cases h : x.toInt < lo ∨ hi < x.toInt
  · rw [if_pos h] at hz
    exact lv_tableOut hx rfl (iz_dq hdt hd) h htd (kd hK z hz p e R s m args below meth c cells slots Q A k H locs hS hP lsM hls)
  · rw [if_neg h] at hz
    have h1 : ¬ x.toInt < lo := fun q => h (Or.inl q)
    have h2 : ¬ hi < x.toInt := fun q => h (Or.inr q)
    have hlt : (x.toInt - lo).toNat < offs.size := by omega
    obtain ⟨off, ho⟩ : ∃ off, offs[(x.toInt - lo).toNat]? = some off := ⟨offs[(x.toInt - lo).toNat], by simp [hlt]⟩
    have hm : (offs.toList.map (fun q => (pc : Int) + q))[(x.toInt - lo).toNat]? = some ((pc : Int) + off) := by
      rw [List.getElem?_map, Array.getElem?_toList, ho]; rfl
    rw [hto, List.getElem?_map] at hm
    cases ht : tgts[(x.toInt - lo).toNat]? with
    | none => rw [ht] at hm; cases hm
    | some t =>
      rw [ht] at hm
      have ht2 : (pc : Int) + off = (t : Int) := (Option.some.inj hm).symm
      exact lv_tableIn hx rfl (iz_dq hdt hd) h1 h2 ho ht2 (kk _ t ht hK z hz p e R s m args below meth c cells slots Q A k H locs hS hP lsM hls)
end iz_rows
