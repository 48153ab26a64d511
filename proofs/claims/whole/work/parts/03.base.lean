/-! THE WORLD: the places (objects and arrays of class and reference, by label), what each holds, and a judgement iz_Y over it -/
abbrev iz_S : Type := (Nat → Nat → Int32) × (Nat → Nat → Int64)
/-- shapes: (0, n) an int array, (1, n) a boolean array, (2, n) an array of int arrays, (c + 3, n) an object of class c with n fields -/
def iz_shL : List (Nat × Nat) := [(12, 11), (5, 3), (0, 64), (0, 64), (1, 64), (9, 8), (0, 6), (0, 6), (0, 64), (10, 3), (0, 4), (0, 16), (0, 100), (4, 13), (0, 60), (0, 60), (0, 60), (0, 16), (0, 96), (4, 13), (0, 60), (0, 60), (0, 60), (0, 16), (0, 96), (3, 7), (0, 4), (2, 4), (0, 11), (0, 11), (0, 11), (0, 11), (2, 4), (0, 21), (0, 21), (0, 21), (0, 21), (0, 11), (6, 10), (0, 10), (0, 10), (0, 10), (0, 10), (0, 10), (1, 10), (8, 15), (0, 3), (0, 4), (0, 4), (1, 120), (0, 10), (1, 10), (0, 3), (0, 4), (0, 4), (7, 6), (0, 9), (0, 9), (0, 9), (2, 9), (0, 61), (0, 61), (0, 61), (0, 61), (0, 61), (0, 61), (0, 61), (0, 61), (0, 61), (2, 9), (0, 61), (0, 61), (0, 61), (0, 61), (0, 61), (0, 61), (0, 61), (0, 61), (0, 61), (11, 2), (0, 16), (0, 6), (13, 48), (0, 64), (0, 64), (1, 64), (0, 60), (0, 60), (0, 60), (0, 60), (0, 96), (0, 16), (0, 4), (0, 16), (0, 100), (0, 10), (0, 10), (0, 10), (0, 10), (0, 10), (1, 10), (0, 9), (0, 9), (0, 9), (0, 6), (0, 16), (0, 6), (1, 64), (0, 64), (0, 6), (0, 6), (0, 6), (0, 256), (0, 96), (0, 320), (0, 4), (0, 4), (0, 8), (0, 8), (0, 549), (0, 64)]
def iz_rfL : List (List Nat) := [[1, 5, 9, 13, 19, 25, 38, 45, 55, 79, 81], [2, 3, 4], [], [], [], [6, 0, 7, 0, 8, 120, 0, 0], [], [], [], [10, 11, 12], [], [], [], [0, 14, 15, 16, 17, 0, 0, 0, 0, 0, 0, 9, 18], [], [], [], [], [], [0, 20, 21, 22, 23, 0, 0, 0, 0, 0, 0, 9, 24], [], [], [], [], [], [0, 26, 0, 0, 27, 32, 37], [], [28, 29, 30, 31], [], [], [], [], [33, 34, 35, 36], [], [], [], [], [], [0, 0, 0, 39, 13, 40, 41, 42, 43, 44], [], [], [], [], [], [], [46, 0, 0, 47, 48, 13, 38, 0, 49, 50, 0, 51, 52, 53, 54], [], [], [], [], [], [], [], [], [], [0, 56, 57, 58, 59, 69], [], [], [], [60, 61, 62, 63, 64, 65, 66, 67, 68], [], [], [], [], [], [], [], [], [], [70, 71, 72, 73, 74, 75, 76, 77, 78], [], [], [], [], [], [], [], [], [], [0, 80], [], [], [83, 84, 85, 0, 86, 87, 88, 89, 90, 91, 92, 93, 94, 0, 0, 95, 96, 97, 98, 99, 100, 0, 101, 102, 103, 104, 0, 105, 106, 107, 108, 109, 0, 110, 111, 0, 112, 113, 114, 0, 0, 115, 116, 117, 118, 0, 0, 119], [], [], [], [], [], [], [], [], [], [], [], [], [], [], [], [], [], [], [], [], [], [], [], [], [], [], [], [], [], [], [], [], [], [], [], [], [], []]
def iz_ftL : List (List Nat) := [[0, 2, 0, 0, 2, 2, 2], [0, 2, 2, 2, 2, 0, 0, 0, 0, 0, 0, 2, 2], [2, 2, 2], [0, 0, 0, 2, 2, 2, 2, 2, 2, 2], [0, 2, 2, 2, 2, 2], [2, 0, 0, 2, 2, 2, 2, 0, 2, 2, 0, 2, 2, 2, 2], [2, 0, 2, 0, 2, 2, 1, 1], [2, 2, 2], [0, 2], [2, 2, 2, 2, 2, 2, 2, 2, 2, 2, 2], [2, 2, 2, 0, 2, 2, 2, 2, 2, 2, 2, 2, 2, 0, 0, 2, 2, 2, 2, 2, 2, 0, 2, 2, 2, 2, 0, 2, 2, 2, 2, 2, 0, 2, 2, 0, 2, 2, 2, 0, 0, 2, 2, 2, 2, 0, 0, 2]]
def iz_sh (k : Nat) : Nat × Nat := iz_shL.getD k (99, 0)
def iz_rf (k i : Nat) : Nat := (iz_rfL.getD k []).getD i 0
def iz_ft (c i : Nat) : Nat := (iz_ftL.getD c []).getD i 9
abbrev iz_NP : Nat := 121
/-- addresses of places (behind the places: the four static tables), class numbers and slots, the classes of int[], boolean[], int[][] -/
abbrev iz_X : Type := (Nat → Nat) × va_G × ClassId × ClassId × ClassId
def iz_fE (X : iz_X) (S : iz_S) (k c i : Nat) : Value := if iz_ft c i = 0 then .int (S.1 k i) else if iz_ft c i = 1 then .long (S.2 k i) else .ref (X.1 (iz_rf k i))
def iz_cE (X : iz_X) (S : iz_S) (k : Nat) : va_E :=
  if (iz_sh k).1 = 0 then .inl (X.2.2.1, (iz_sh k).2, .inl (S.1 k))
  else if (iz_sh k).1 = 1 then .inl (X.2.2.2.1, (iz_sh k).2, .inl (S.1 k))
  else if (iz_sh k).1 = 2 then .inl (X.2.2.2.2, (iz_sh k).2, .inr (.inr (.inr (.inr (fun i => some (X.1 (iz_rf k i)))))))
  else .inr ((iz_sh k).1 - 3, (List.range (iz_sh k).2).map (fun i => iz_fE X S k ((iz_sh k).1 - 3) i))
def iz_ws (X : iz_X) (S : iz_S) : va_W := (List.range iz_NP).map (fun k => (X.1 k, iz_cE X S k))
def iz_tys (X : iz_X) : List (ClassId × FieldType) := [(X.2.2.1, .int), (X.2.2.2.1, .boolean), (X.2.2.2.2, .array .int)]
theorem iz_ws_get (X : iz_X) (S : iz_S) {k : Nat} (h : k < iz_NP) : (iz_ws X S)[k]? = some (X.1 k, iz_cE X S k) := by
  simp only [iz_ws, List.getElem?_map]
  rw [List.getElem?_range h]
  rfl
theorem iz_ws_some {X : iz_X} {S : iz_S} {k : Nat} {q : Nat × va_E} (h : (iz_ws X S)[k]? = some q) : k < iz_NP ∧ q = (X.1 k, iz_cE X S k) := by
  by_cases hk : k < iz_NP
  · rw [iz_ws_get X S hk] at h
    exact ⟨hk, (Option.some.inj h).symm⟩
  · rw [List.getElem?_eq_none (by simp [iz_ws]; omega)] at h
    cases h
theorem iz_ws_set (X : iz_X) (S S' : iz_S) {k : Nat} (hk : k < iz_NP) (e : va_E) (h1 : iz_cE X S' k = e) (h2 : ∀ j, j ≠ k → iz_cE X S' j = iz_cE X S j) : (iz_ws X S).set k (X.1 k, e) = iz_ws X S' := by
  apply List.ext_getElem?
  intro j
  by_cases hj : j = k
  · subst hj
    rw [iz_ws_get X S' hk, List.getElem?_set_self (by simpa [iz_ws] using hk), h1]
  · rw [List.getElem?_set_ne (fun e => hj e.symm)]
    by_cases hl : j < iz_NP
    · rw [iz_ws_get X S hl, iz_ws_get X S' hl, h2 j hj]
    · rw [List.getElem?_eq_none (by simp [iz_ws]; omega), List.getElem?_eq_none (by simp [iz_ws]; omega)]
theorem iz_sh_lt {k a b : Nat} (h : iz_sh k = (a, b)) (ha : a ≠ 99) : k < iz_NP := by
  by_cases hk : k < iz_NP
  · exact hk
  · exfalso
    have hk2 : 121 ≤ k := Nat.not_lt.mp hk
    have h120 : iz_shL.length = 121 := by decide +kernel
    have : iz_sh k = (99, 0) := by
      unfold iz_sh
      rw [List.getD_eq_getElem?_getD, List.getElem?_eq_none (by rw [h120]; exact hk2)]
      rfl
    rw [this] at h
    exact ha (congrArg Prod.fst h).symm
theorem iz_cE_I {X : iz_X} {S : iz_S} {k n : Nat} (h : iz_sh k = (0, n)) : iz_cE X S k = .inl (X.2.2.1, n, .inl (S.1 k)) := by simp [iz_cE, h]
theorem iz_cE_Z {X : iz_X} {S : iz_S} {k n : Nat} (h : iz_sh k = (1, n)) : iz_cE X S k = .inl (X.2.2.2.1, n, .inl (S.1 k)) := by simp [iz_cE, h]
theorem iz_cE_A {X : iz_X} {S : iz_S} {k n : Nat} (h : iz_sh k = (2, n)) : iz_cE X S k = .inl (X.2.2.2.2, n, .inr (.inr (.inr (.inr (fun i => some (X.1 (iz_rf k i))))))) := by simp [iz_cE, h]
theorem iz_cE_O {X : iz_X} {S : iz_S} {k c n : Nat} (h : iz_sh k = (c + 3, n)) : iz_cE X S k = .inr (c, (List.range n).map (fun i => iz_fE X S k c i)) := by simp [iz_cE, h]
/-- one number of the store changes -/
def iz_up (S : iz_S) (p i : Nat) (v : Int32) : iz_S := (fun q => if q = p then upd (S.1 q) i v else S.1 q, S.2)
def iz_upL (S : iz_S) (p i : Nat) (v : Int64) : iz_S := (S.1, fun q => if q = p then vp_updL (S.2 q) i v else S.2 q)
/-- a piece of an int array is copied -/
def iz_cpy (S : iz_S) (p sp q dp n : Nat) : iz_S := (fun r => if r = q then va_cpy (S.1 p) (S.1 q) sp dp n else S.1 r, S.2)
theorem iz_cE_up_ne {X : iz_X} {S : iz_S} {p i : Nat} {v : Int32} {j : Nat} (h : j ≠ p) : iz_cE X (iz_up S p i v) j = iz_cE X S j := by
  simp [iz_cE, iz_fE, iz_up, h]
theorem iz_cE_upL_ne {X : iz_X} {S : iz_S} {p i : Nat} {v : Int64} {j : Nat} (h : j ≠ p) : iz_cE X (iz_upL S p i v) j = iz_cE X S j := by
  simp [iz_cE, iz_fE, iz_upL, h]
theorem iz_cE_cpy_ne {X : iz_X} {S : iz_S} {p sp q dp n : Nat} {j : Nat} (h : j ≠ q) : iz_cE X (iz_cpy S p sp q dp n) j = iz_cE X S j := by
  simp [iz_cE, iz_fE, iz_cpy, h]
theorem iz_fs_get {X : iz_X} {S : iz_S} {k c n i : Nat} (hi : i < n) : ((List.range n).map (fun i => iz_fE X S k c i))[i]? = some (iz_fE X S k c i) := by
  simp [List.getElem?_map, List.getElem?_range hi]
theorem iz_fs_put {X : iz_X} {S : iz_S} {k c n i : Nat} {v : Int32} (h0 : iz_ft c i = 0) : ((List.range n).map (fun j => iz_fE X S k c j)).set i (.int v) = (List.range n).map (fun j => iz_fE X (iz_up S k i v) k c j) := by
  apply List.ext_getElem?
  intro j
  by_cases hj : j = i
  · subst hj
    by_cases hl : j < n
    · rw [List.getElem?_set_self (by simpa using hl), List.getElem?_map, List.getElem?_range hl]
      simp [iz_fE, h0, iz_up, upd]
    · rw [List.getElem?_eq_none (by simp; omega), List.getElem?_eq_none (by simp; omega)]
  · rw [List.getElem?_set_ne (fun e => hj e.symm)]
    by_cases hl : j < n
    · rw [List.getElem?_map, List.getElem?_range hl, List.getElem?_map, List.getElem?_range hl]
      simp [iz_fE, iz_up, upd, hj]
    · rw [List.getElem?_eq_none (by simp; omega), List.getElem?_eq_none (by simp; omega)]
theorem iz_fs_putL {X : iz_X} {S : iz_S} {k c n i : Nat} {v : Int64} (h0 : iz_ft c i = 1) : ((List.range n).map (fun j => iz_fE X S k c j)).set i (.long v) = (List.range n).map (fun j => iz_fE X (iz_upL S k i v) k c j) := by
  apply List.ext_getElem?
  intro j
  by_cases hj : j = i
  · subst hj
    by_cases hl : j < n
    · rw [List.getElem?_set_self (by simpa using hl), List.getElem?_map, List.getElem?_range hl]
      simp [iz_fE, h0, iz_upL, vp_updL]
    · rw [List.getElem?_eq_none (by simp; omega), List.getElem?_eq_none (by simp; omega)]
  · rw [List.getElem?_set_ne (fun e => hj e.symm)]
    by_cases hl : j < n
    · rw [List.getElem?_map, List.getElem?_range hl, List.getElem?_map, List.getElem?_range hl]
      simp [iz_fE, iz_upL, vp_updL, hj]
    · rw [List.getElem?_eq_none (by simp; omega), List.getElem?_eq_none (by simp; omega)]
/-! the tables' words in any state -/
def iz_nest : Cond → Bool
  | .methodLinkNest .. => true
  | .fieldLinkNest .. => true
  | _ => false
def iz_ok (w : Cond) : Bool := (w.onTables && w.keeps) || iz_nest w
def iz_Tb (s : State) : Prop := ∀ w ∈ lw_tbl, iz_ok w = true → w.before #[] s = true
theorem iz_ok_on {w : Cond} (h : iz_ok w = true) : w.onTables = true := by
  unfold iz_ok at h
  rcases Bool.or_eq_true _ _ ▸ h with h | h
  · exact (Bool.and_eq_true _ _ ▸ h).1
  · cases w <;> simp [iz_nest] at h <;> rfl
theorem iz_Tb.use {s : State} (h : iz_Tb s) {w : Cond} (hm : w ∈ lw_tbl) (hk : iz_ok w = true) {a : Array Value} : w.before a s = true := va_tabs (iz_ok_on hk) rfl (h w hm hk)
theorem iz_Tb.warm {s U : State} (hW : s.WarmedH U.vm) (h : iz_Tb s) : iz_Tb U := by
  intro w hm hk
  have h0 := h w hm hk
  unfold iz_ok at hk
  rcases Bool.or_eq_true _ _ ▸ hk with h1 | h1
  · exact word_at hW (Or.inl h1) h0
  · cases w <;> simp [iz_nest] at h1
    · exact va_Nw.warmM hW h0
    · exact va_Nw.warmF hW h0
theorem iz_Tb.same {s U : State} (hv : s.vm = U.vm) (h : iz_Tb s) : iz_Tb U := fun w hm hk => va_tabs (iz_ok_on hk) hv (h w hm hk)
theorem iz_Tb.all {s U : State} (h : iz_Tb s) (hW : s.WarmedH U.vm) {w : Cond} (hm : w ∈ lw_tbl) (hk : iz_ok w = true) (a : Array Value) : w.before a U = true := (h.warm hW).use hm hk
def iz_zC (j : Nat) : String := (["IceHouse", "IceHouse", "IceHouse", "IceHouseModel"] : List String).getD j ""
def iz_zN (j : Nat) : String := (["BEARING_THICK", "KIND_ABOVE", "MELT_RATE", "BEARS"] : List String).getD j ""
def iz_zL (j : Nat) : Nat := ([3, 4, 4, 3] : List Nat).getD j 0
def iz_zV (j i : Nat) : Int32 := (([[4, 10, 18], [-1, 0, 0, 1], [4, 3, 6, 3], [4, 10, 18]] : List (List Int32)).getD j []).getD i 0
/-- what doesn't change: the tables, which places are apart and may change, the static tables -/
def iz_Wk (X : iz_X) (A : Nat → Prop) (s : State) (H : Heap) : Prop :=
  iz_Tb s ∧ va_K X.2.1 vwCl (iz_tys X) s ∧ (∀ i j, i < iz_NP → j < iz_NP → X.1 i = X.1 j → i = j) ∧ (∀ k, k < iz_NP → A (X.1 k)) ∧
  ∀ j, j < 4 → va_Z (iz_zC j) (iz_zN j) "[I" (.ref (X.1 (iz_NP + j))) A s H ∧ va_T .int (X.1 (iz_NP + j)) (iz_zL j) (fun i => .int (iz_zV j i)) A s H
def iz_A (X : iz_X) : Nat → Prop := fun q => ∃ k, k < iz_NP ∧ q = X.1 k
theorem iz_Wk.D {X : iz_X} {A : Nat → Prop} {s : State} {H : Heap} (h : iz_Wk X A s H) (S : iz_S) : va_D A (iz_ws X S) := by
  refine ⟨fun i j p q hi hj he => ?_, fun k q hk => ?_⟩
  · obtain ⟨h1, rfl⟩ := iz_ws_some hi
    obtain ⟨h2, rfl⟩ := iz_ws_some hj
    exact h.2.2.1 i j h1 h2 he
  · obtain ⟨h1, rfl⟩ := iz_ws_some hk
    exact h.2.2.2.1 k h1
theorem iz_Wk.to {X : iz_X} {A : Nat → Prop} {s U : State} {H : Heap} {locs : List Loc} (h : iz_Wk X A s s.heap) (hS : va_S A s.heap H locs) (hU : U.heap = H) (hW : s.WarmedH U.vm) : iz_Wk X (iz_A X) U U.heap := by
  obtain ⟨h1, h2, h3, h4, h5⟩ := h
  have hAA : ∀ q, iz_A X q → A q := fun q ⟨k, hk, e⟩ => e ▸ h4 k hk
  refine ⟨h1.warm hW, va_K.moved hW.alike h2, h3, fun k hk => ⟨k, hk, rfl⟩, fun j hj => ?_⟩
  obtain ⟨z1, z2⟩ := h5 j hj
  subst hU
  exact ⟨va_Z.moved hW.alike ((z1.kept hS.2.1).narrow hAA), va_T.moved hW.alike ((z2.kept hS.2.1).narrow hAA)⟩
theorem iz_Wk.blind {X : iz_X} {A : Nat → Prop} {U V : State} (h : iz_Wk X A U U.heap) (hv : U.vm = V.vm) (hh : U.heap = V.heap) : iz_Wk X A V V.heap := by
  obtain ⟨h1, h2, h3, h4, h5⟩ := h
  have hal : U.vm.Alike V.vm := hv ▸ Vm.Alike.refl U.vm
  refine ⟨h1.same hv, va_K.moved hal h2, h3, h4, fun j hj => ?_⟩
  obtain ⟨z1, z2⟩ := h5 j hj
  rw [hh] at z1 z2
  exact ⟨va_Z.moved hal z1, va_T.moved hal z2⟩
/-- a method's contract: with these arguments, in a world that holds S, it answers res.1 and leaves a world that holds res.2 -/
def iz_rm (d : Nat) : Room := { frames := d, cells := 0, slots := 0, locals := 40 * d }
def iz_Qd (X : iz_X) (res : Option Value × iz_S) : Array Value → State → Outcome → State → Prop := fun _ st o t => o = .returned res.1 ∧ (iz_Wk X (iz_A X) t t.heap ∧ va_P X.2.1 vwCl (iz_ws X res.2) t.heap) ∧ va_F (iz_A X) st t
def iz_Pd (X : iz_X) (av : List Value) (S : iz_S) : Array Value → State → Prop := va_Pc av (fun U => iz_Wk X (iz_A X) U U.heap ∧ va_P X.2.1 vwCl (iz_ws X S) U.heap)
def iz_Mt (X : iz_X) (l : Launch) (d : Nat) (y : MethodName) (cc : ByteArray) (nL : Nat) (ret : Option FieldType) (av : List Value) (S : iz_S) (res : Option Value × iz_S) : Prop :=
  Met l y [.code y cc nL ret] (iz_rm d) (iz_Pd X av S) (iz_Qd X res) 0 0 (iz_A X)
/-- what a frame's context must give -/
abbrev iz_KP (α : Type) : Type := α → Program → Env → Room → State → MethodId → Array Value → List Frame → Method → Code → Nat → Nat → (State → Prop) → (Nat → Prop) → Prop
def iz_KF {α : Type} (X : iz_X) (own : String) (dt : List (Nat × Instr × Nat)) (nL d : Nat) (K : iz_KP α) : Prop :=
  ∀ z p e R s m args below meth c cells slots Q A, K z p e R s m args below meth c cells slots Q A →
    p.tables.exec = Jvm.exec ∧ (∀ q ∈ dt, decode c.code q.1 = .ok q.2) ∧ c.maxLocals = nL ∧ s.vm.findClass own = some m.cls ∧ iz_Wk X A s s.heap ∧ d ≤ R.frames ∧ 40 * d ≤ R.locals ∧ cells ≤ R.cells ∧ slots ≤ R.slots
/-- THE JUDGEMENT: from pc with these locals, this stack and a world that holds S, the frame comes to its end with o -/
def iz_Y {α : Type} (X : iz_X) (l : Launch) (own : String) (dt : List (Nat × Instr × Nat)) (nL d : Nat) (K : iz_KP α) (pc : Nat) (ls : List (Nat × Value)) (st : List Value) (S : iz_S) (o : Option α) : Prop :=
  iz_KF X own dt nL d K → ∀ z, o = some z → ∀ p e R s m args below meth c cells slots Q A, K z p e R s m args below meth c cells slots Q A →
    ∀ H locs, va_S A s.heap H locs → va_P X.2.1 vwCl (iz_ws X S) H → ∀ lsM, lv_has lsM nL ls → W p l e R s m args below meth c H locs cells slots Q (F0 m pc lsM st)
/-- the context of a method called with the contract above -/
def iz_Kc {α : Type} (X : iz_X) (l : Launch) (y : MethodName) (cc : ByteArray) (nL : Nat) (ret : Option FieldType) (d : Nat) (enc : α → Option Value × iz_S) : iz_KP α :=
  fun z p e R s m args below meth c cells slots Q A => (∃ s1, BodyLoose p l y (headSpec [.code y cc nL ret] (iz_rm d)) cc nL ret e s m args below meth c s1) ∧ c.maxLocals = nL ∧ R = iz_rm d ∧ cells = 0 ∧ slots = 0 ∧ A = iz_A X ∧ iz_Wk X (iz_A X) s s.heap ∧ Q = MQ below (iz_Qd X (enc z)) args s 0 0 (iz_A X)
theorem iz_Kc_ok {α : Type} (X : iz_X) (l : Launch) (y : MethodName) (cc : ByteArray) (nL : Nat) (ret : Option FieldType) (d : Nat) (enc : α → Option Value × iz_S) {dt : List (Nat × Instr × Nat)} (hdt : ∀ q ∈ dt, decode cc q.1 = .ok q.2) :
    iz_KF X y.cls dt nL d (iz_Kc X l y cc nL ret d enc) := by
  intro z p e R s m args below meth c cells slots Q A h
  obtain ⟨⟨s1, B⟩, hml, rfl, rfl, rfl, rfl, hW, -⟩ := h
  exact ⟨B.exec, by rw [B.bytes]; exact hdt, hml, findClass_of_methodNamed B.named, hW, Nat.le_refl _, Nat.le_refl _, Nat.le_refl _, Nat.le_refl _⟩
/-- a walk from the entry is a contract -/
theorem iz_Mt_of {α : Type} {X : iz_X} {l : Launch} {y : MethodName} {cc : ByteArray} {nL : Nat} {ret : Option FieldType} {d : Nat} {enc : α → Option Value × iz_S} {dt : List (Nat × Instr × Nat)} (hdt : ∀ q ∈ dt, decode cc q.1 = .ok q.2) (hy : plainName y.cls = true)
    {av : List Value} {S : iz_S} {o : Option α} {z : α} (ho : o = some z) (hn : (lg_sl av).length ≤ nL) (hY : iz_Y X l y.cls dt nL d (iz_Kc X l y cc nL ret d enc) 0 (lv_args 0 av) [] S o) : iz_Mt X l d y cc nL ret av S (enc z) := by
  refine Met.ofW (cc := cc) (maxL := nL) (ret := ret) hy rfl ?_
  intro p e s m args below meth c s1 B hml hv
  obtain ⟨rfl, hWk, hP⟩ := hv
  rw [lg_entry_eq]
  exact hY (iz_Kc_ok X l y cc nL ret d enc hdt) z ho p e _ s m _ below meth c 0 0 _ _ ⟨⟨s1, B⟩, hml, rfl, rfl, rfl, rfl, hWk, rfl⟩ s.heap [] va_S.rf hP _ (lv_entry av hn)
