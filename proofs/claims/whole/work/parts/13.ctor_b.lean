/-! THE CONSTRUCTORS: grids, references put, calls, the two loops that fill a row -/
theorem ct_arrV {cI : ClassId} {N : Nat} {f g : Nat → Value} (h : ∀ j, j < N → f j = g j) : arrV cI N f = arrV cI N g := by
  unfold arrV
  congr 1
  apply Array.ext
  · simp
  · intro j h1 h2
    simp only [Array.getElem_ofFn]
    exact h j (by simpa using h1)
theorem ct_outer (c : ClassId) (N h0 : Nat) : ∀ i : Nat, Jvm.Free.Multi.outerC c N h0 i = arrV c N (fun j => va_rf (if j < i then some (h0 + 1 + j) else none))
  | 0 => by
    show ({ cls := c, slots := Array.replicate N .null, vm := .none } : Cell) = _
    rw [arrV_new]
    refine congrArg (arrV c N) (funext fun j => ?_)
    simp [va_rf]
  | i + 1 => by
    show (Jvm.Free.Multi.outerC c N h0 i).setSlot i (.ref (h0 + 1 + i)) = _
    rw [ct_outer c N h0 i, arrV_store]
    refine congrArg (arrV c N) (funext fun j => ?_)
    by_cases e : j = i
    · subst e
      simp [updV, va_rf]
    · by_cases h : j < i
      · simp [updV, e, h, Nat.lt_succ_of_lt h]
      · simp [updV, e, h, show ¬ j < i + 1 by omega]
def ct_rm (d mc ms : Nat) : Room := { frames := d, cells := mc, slots := ms, locals := 40 * d }
def ct_P (X : iz_X) (b0 : Nat) (av : List Value) (r : Nat → Nat → Bool) (S : iz_S) (n : Nat) : Array Value → State → Prop := va_Pc av (fun U => ct_K X U ∧ U.heap.size = b0 + n ∧ va_P X.2.1 vwCl (ct_w X r S n) U.heap)
def ct_Q (X : iz_X) (b0 : Nat) (r : Nat → Nat → Bool) (S : iz_S) (n : Nat) : Array Value → State → Outcome → State → Prop := fun _ st o t => o = .returned none ∧ (t.heap.size = b0 + n ∧ va_P X.2.1 vwCl (ct_w X r S n) t.heap) ∧ va_F (fun q => b0 ≤ q) st t
def ct_M (X : iz_X) (l : Launch) (b0 d mc ms : Nat) (y : MethodName) (cc : ByteArray) (nL : Nat) (av : List Value) (r : Nat → Nat → Bool) (S : iz_S) (n : Nat) (r2 : Nat → Nat → Bool) (S2 : iz_S) (n2 : Nat) : Prop :=
  Met l y [.code y cc nL none] (ct_rm d mc ms) (ct_P X b0 av r S n) (ct_Q X b0 r2 S2 n2) mc ms (fun q => b0 ≤ q)
theorem ct_blind (X : iz_X) (b0 : Nat) (av : List Value) (r : Nat → Nat → Bool) (S : iz_S) (n : Nat) : FrameBlind (ct_P X b0 av r S n) := by
  intro a U g mk h
  obtain ⟨h1, h2, h3, h4⟩ := h
  exact ⟨h1, h2.blind (V := U.calling g mk a) rfl, h3, h4⟩
section ct_rows2
variable {p : Program} {l : Launch} {e : Env} {R : Room} {s : State} {m : MethodId} {args : Array Value} {below : List Frame} {meth : Method} {c : Code} {H : Heap} {locs : List Loc} {cells slots : Nat} {Q : State → Prop}
variable {pc : Nat} {ls : Array Slot} {rest : List Value} {X : iz_X} {b0 : Nat} {A : Nat → Prop} {r r2 : Nat → Nat → Bool} {S S2 : iz_S} {n : Nat}
theorem ct_mna (hx : p.tables.exec = Jvm.exec) {own : String} {idx N M : Nat} {k1 k2 : Int32} (hown : s.vm.findClass own = some m.cls) (hK : ct_K X s) (hA : ct_A X b0 A) (hH : ct_H X b0 A r S n s.heap H locs) (h1 : Cond.classLink own idx "[[I" ∈ lw_tbl) (hn : n + N < 121) (hsh : nt_sh n = (2, N)) (hrow : ∀ j, j < N → nt_sh (n + 1 + j) = (0, M) ∧ nt_rf n j = n + 1 + j) (hS0 : ∀ j, j < N → S.1 (n + 1 + j) = fun _ => 0) (hk1 : ¬ k1 < 0) (hk2 : ¬ k2 < 0) (hN : k1.toNatClampNeg = N) (hM : k2.toNatClampNeg = M) (hb1 : N ≤ 1000) (hb2 : M ≤ 1000) (hce : cells + (1 + N) ≤ R.cells) (hsl : slots + (N + N * M) ≤ R.slots) (hdg : decode c.code pc = .ok (.multianewarray idx 2, 4))
    (kk : ∀ H1, ct_H X b0 A r S (n + 1 + N) s.heap H1 locs → W p l e R s m args below meth c H1 locs (cells + 1 + N) (slots + N + N * M) Q (F0 m (pc + 4) ls (.ref (X.1 n) :: rest))) : W p l e R s m args below meth c H locs cells slots Q (F0 m pc ls (.int k2 :: .int k1 :: rest)) := by
  subst hN
  subst hM
  intro T hT Xs
  have harr : (Cond.arrayClass .int).before args s = true := hK.2.2.1
  have hov : (Cond.arrayOver (.array .int)).before args s = true := hK.2.2.2.2
  obtain ⟨vm₁, cA, comp, -, fA, fC, hO, -, X', step⟩ := Xs.multianewarray2F (ty := .int) hx hown (show (Cond.classLink own idx "[[I").before args s = true from hK.1.use h1 rfl) hov harr (g := F0 m pc ls (.int k2 :: .int k1 :: rest)) rfl hdg rfl hk1 hk2 (by omega) (by show k2.toNatClampNeg * 4 ≤ _; omega) (by omega) rfl rfl hce hsl
  have ecA : cA = X.2.2.2.2 := by
    have h1 := (hK.2.1.2 2 _ (rfl : (iz_tys X)[2]? = some (X.2.2.2.2, .array .int))).2
    exact Option.some.inj (fA.symm.trans h1)
  have eco : comp = X.2.2.1 := by
    have h1 := (hK.2.1.2 0 _ (rfl : (iz_tys X)[0]? = some (X.2.2.1, .int))).2
    exact Option.some.inj (fC.symm.trans h1)
  generalize hF : Jvm.Free.Multi.fill (T.setVm vm₁) cA comp k1.toNatClampNeg k2.toNatClampNeg (defaultValue .int) k1.toNatClampNeg = F at X' step
  have hTh : (T.setVm vm₁).heap = H := hT
  obtain ⟨f1, f2, -, -⟩ := Jvm.Free.Multi.fill_facts (T.setVm vm₁) cA comp k1.toNatClampNeg k2.toNatClampNeg (defaultValue .int) k1.toNatClampNeg
  rw [hF, hTh] at f1 f2
  have hold : ∀ x : Nat, x < H.size → F.heap[x]? = H[x]? := fun x hx => by
    have := Jvm.Free.Multi.fill_old (T.setVm vm₁) cA comp k1.toNatClampNeg k2.toNatClampNeg (defaultValue .int) (a := x) (by rw [hTh]; exact hx) k1.toNatClampNeg
    rw [hF, hTh] at this
    exact this
  have hin : ∀ j : Nat, j < k1.toNatClampNeg → F.heap[H.size + 1 + j]? = some (Jvm.Free.Multi.innerC comp k2.toNatClampNeg (defaultValue .int)) := fun j hj => by
    have := Jvm.Free.Multi.fill_inner (T.setVm vm₁) cA comp k1.toNatClampNeg k2.toNatClampNeg (defaultValue .int) k1.toNatClampNeg j hj
    rw [hF, hTh] at this
    exact this
  obtain ⟨hS, hs, hP⟩ := hH
  have e9 : X.1 n = H.size := by rw [hA.1 n (by omega), hs]
  have hH1 : ct_H X b0 A r S (n + 1 + k1.toNatClampNeg) s.heap F.heap locs := by
    refine ⟨⟨by rw [f1]; have := hS.1; omega, fun q h1 h2 => (hold q (Nat.lt_of_lt_of_le h1 hS.1)).trans (hS.2.1 q h1 h2), hS.2.2⟩, by rw [f1, hs]; omega, fun k q hq => ?_⟩
    obtain ⟨hk, rfl⟩ := ct_w_some hq
    by_cases hkn : k < n
    · exact (hP k _ (ct_w_get X r S hkn)).kept (hold (X.1 k) (by rw [hA.1 k (by omega), hs]; omega))
    · by_cases hke : k = n
      · subst hke
        rw [ct_c_A hsh]
        show F.heap[X.1 k]? = some (vp_cell _ _)
        rw [e9, f2, ct_outer, vp_cell_q, ecA]
        refine congrArg some (ct_arrV (fun j hj => ?_))
        rw [if_pos hj, (hrow j hj).2, hA.1 (k + 1 + j) (by omega), hs]
        congr 2
        omega
      · obtain ⟨j, rfl⟩ : ∃ j, k = n + 1 + j := ⟨k - (n + 1), by omega⟩
        have hj : j < k1.toNatClampNeg := by omega
        rw [ct_c_I (hrow j hj).1, hS0 j hj]
        show F.heap[X.1 (n + 1 + j)]? = some (vp_cell _ _)
        rw [hA.1 (n + 1 + j) (by omega), show b0 + (n + 1 + j) = H.size + 1 + j by rw [hs]; omega, hin j hj, eco]
        show some ({ cls := _, slots := Array.replicate _ _, vm := .none } : Cell) = _
        rw [arrV_new]
        rfl
  rw [e9] at kk
  obtain ⟨t, a1, b1⟩ := kk F.heap hH1 F rfl X'
  refine ⟨t, step t ?_, b1⟩
  rw [hT]
  exact a1
theorem ct_put (hx : p.tables.exec = Jvm.exec) {own : String} {idx ci N k i t : Nat} {ds : String} (hown : s.vm.findClass own = some m.cls) (hin2 : meth.name = "<init>") (hK : ct_K X s) (hA : ct_A X b0 A) (hH : ct_H X b0 A r S n s.heap H locs) (hf : iz_FL own idx ci i ds true) (hdecl : ∃ (C : String) (T : u_T) (N2 : Nat), vwCl[ci]? = some (C, T, N2) ∧ (T i).1 = own) (hn : n ≤ 121) (hk : k < n) (hsh : nt_sh k = (ci + 3, N)) (hi : i < N) (h2 : iz_ft ci i = 2) (ht : nt_rf k i = t) (hty : ∃ ty, parseFieldDescriptor ds = some ty ∧ ty.isReference = true) (hdg : decode c.code pc = .ok (.putfield idx, 3))
    (kk : ∀ H1 locs1, ct_H X b0 A (ct_pt r k i) S n s.heap H1 locs1 → W p l e R s m args below meth c H1 locs1 cells slots Q (F0 m (pc + 3) ls rest)) : W p l e R s m args below meth c H locs cells slots Q (F0 m pc ls (.ref (X.1 t) :: .ref (X.1 k) :: rest)) := by
  subst ht
  obtain ⟨C, T, N2, hcl, hN, hds, hfin, hm⟩ := hf
  obtain ⟨C', T', N', hcl', hdc⟩ := hdecl
  cases hcl.symm.trans hcl'
  obtain ⟨ty, hpt, hrf⟩ := hty
  obtain ⟨hS, hs, hP⟩ := hH
  have he := ct_w_get X r S hk
  rw [ct_c_O hsh] at he
  obtain ⟨hco1, ⟨ty0, hty0⟩, hnm⟩ := iz_co hcl
  have hnar : narrow ty (.ref (X.1 (nt_rf k i))) = .ref (X.1 (nt_rf k i)) := by cases ty <;> rfl
  have hfit : fits ty (.ref (X.1 (nt_rf k i))) = true := by cases ty <;> first | rfl | simp [FieldType.isReference] at hrf
  have hap := va_apart (own := own) (iz_lays (iz_co hcl) hK.1 (a := args)) (fun w h => h) ty0 hty0 hnm hK.2.1 hcl
  obtain ⟨q9, h1, cell, q1, q2, q3, q4⟩ := hP k _ he
  have hr9 : q9 = (C, T, N2) := Option.some.inj (h1.symm.trans hcl)
  subst hr9
  obtain ⟨hS9, hfc, kC, hkC, hkind⟩ := hK.2.1.1 ci _ hcl
  obtain ⟨cf, kf, fi, f, hi9, hsl⟩ := hS9 i hN
  have hts9 := iz_lays (iz_co hcl) hK.1 (a := args)
  have hlay := hts9 _ (u_in_lay hN)
  unfold u_lay at hlay
  rw [if_pos hfin] at hlay
  have hst := (u_facts hfc hkC (u_lays hts9 (fun w h => h) hN) hi9).1
  have hcf : m.cls = cf := by
    obtain ⟨_, _, c', _, _, _, -, -, hf', -, -, -, hown2, -⟩ := Cond.laysFinal_spec hlay
    have e1 : c' = cf := by have := hi9.symm.trans hf'; simp at this; exact this.1.symm
    rw [hdc] at hown2
    rw [← e1]; exact Option.some.inj (hown.symm.trans hown2)
  have h6 := u_fits hfc hkC hkind (Or.inr hlay) hi9 (hds ▸ hpt) hnar hfit
  refine W.putFinK hx rfl hown (hds ▸ hK.1.use hm rfl : (Cond.fieldLink own idx (T i).1 (T i).2.1 (T i).2.2.1).before args s = true) hi9 hst hcf hin2 (by rw [q2]; exact h6) q1 q3 (by rw [hsl]; exact k2_hasslot (q4 i hN)) rfl rfl hdg fun H1 e1 e2 e3 => ?_
  rw [hsl] at e1 ⊢
  have hat : va_at X.2.1 vwCl (X.1 k, .inr (ci, ((List.range N).map (fun j => ct_f X r S k ci j)).set i (.ref (X.1 (nt_rf k i))))) H1 := ⟨_, hcl, t_OB.to (V := updV (vp_V ((List.range N).map (fun j => ct_f X r S k ci j))) i (.ref (X.1 (nt_rf k i)))) ⟨_, e1, q2, q3, t_set q4 hap hN _⟩ (fun j _ => vp_updV_set (by simpa using hi) _ j)⟩
  have hP1 := hP.set (ct_D hA r S hn) he hat e3
  have e1 : ((List.range N).map (fun j => ct_f X r S k ci j)).set i (.ref (X.1 (nt_rf k i))) = (List.range N).map (fun j => ct_f X (ct_pt r k i) S k ci j) := by
    apply List.ext_getElem?
    intro j
    by_cases hj : j = i
    · subst hj
      rw [List.getElem?_set_self (by simpa using hi), List.getElem?_map, List.getElem?_range hi]
      simp [ct_f, h2, ct_pt]
    · rw [List.getElem?_set_ne (fun e => hj e.symm)]
      by_cases hl : j < N
      · rw [List.getElem?_map, List.getElem?_range hl, List.getElem?_map, List.getElem?_range hl]
        simp [ct_f, ct_pt, hj]
      · rw [List.getElem?_eq_none (by simp; omega), List.getElem?_eq_none (by simp; omega)]
  rw [e1, ct_w_set X r (ct_pt r k i) S S hk _ (ct_c_O hsh) (fun q hq => by simp [ct_c, ct_f, ct_pt, hq])] at hP1
  refine kk H1 _ ⟨hS.put e2 e3 ?_, by rw [e2]; exact hs, hP1⟩
  rw [hA.1 k (by omega)]
  exact hA.2 _ (by omega)
theorem ct_get (hx : p.tables.exec = Jvm.exec) {own : String} {idx ci N k i t : Nat} {ds : String} {fin : Bool} (hown : s.vm.findClass own = some m.cls) (hK : ct_K X s) (hH : ct_H X b0 A r S n s.heap H locs) (hf : iz_FL own idx ci i ds fin) (hk : k < n) (hsh : nt_sh k = (ci + 3, N)) (hi : i < N) (h2 : iz_ft ci i = 2) (hr : r k i = true) (ht : nt_rf k i = t) (hdg : decode c.code pc = .ok (.getfield idx, 3))
    (kk : W p l e R s m args below meth c H locs cells slots Q (F0 m (pc + 3) ls (.ref (X.1 t) :: rest))) : W p l e R s m args below meth c H locs cells slots Q (F0 m pc ls (.ref (X.1 k) :: rest)) := by
  subst ht
  obtain ⟨C, T, N2, hcl, hN, hds, hfin, hm⟩ := hf
  subst hds
  have he := ct_w_get X r S hk
  rw [ct_c_O hsh] at he
  refine va_get (D := X.2.1) (ci := ci) (v := .ref (X.1 (nt_rf k i))) (C := C) (T := T) (N := N2) hx rfl (iz_lays (iz_co hcl) hK.1) (fun w h => h) hown hK.2.1 hH.2.2 k he hcl i hN (hK.1.use hm rfl) (fun _ h9 => h9) ?_ hdg kk
  rw [List.getElem?_map, List.getElem?_range hi]
  simp [ct_f, h2, hr]
def ct_up (S : iz_S) (k i : Nat) (v : Int32) : iz_S := iz_up S k i v
theorem ct_iast (hx : p.tables.exec = Jvm.exec) {k N : Nat} {i v : Int32} (hK : ct_K X s) (hA : ct_A X b0 A) (hH : ct_H X b0 A r S n s.heap H locs) (hn : n ≤ 121) (hk : k < n) (hsh : nt_sh k = (0, N)) (hin : vp_in i N) (hdg : decode c.code pc = .ok (.iastore, 1))
    (kk : ∀ H1 locs1, ct_H X b0 A r (iz_up S k i.toNatClampNeg v) n s.heap H1 locs1 → W p l e R s m args below meth c H1 locs1 cells slots Q (F0 m (pc + 1) ls rest)) : W p l e R s m args below meth c H locs cells slots Q (F0 m pc ls (.int v :: .int i :: .ref (X.1 k) :: rest)) := by
  obtain ⟨hS, hs, hP⟩ := hH
  have he := ct_w_get X r S hk
  rw [ct_c_I hsh] at he
  refine W.iast hx rfl (hP k _ he) ((hK.2.1.2 0 _ (rfl : (iz_tys X)[0]? = some (X.2.2.1, .int))).1 N (fun j => .int (S.1 k j))) (fun q => by cases q) (by show ¬ (i < 0 ∨ (arrV _ _ _).slots.size ≤ _); rw [arrV_size]; exact hin) rfl rfl hdg fun H1 e z oq => ?_
  have hat : va_at X.2.1 vwCl (X.1 k, .inl (X.2.2.1, N, .inl (upd (S.1 k) i.toNatClampNeg v))) H1 := by
    show H1[X.1 k]? = some (vp_cell _ _)
    rw [e]
    rw [vp_cell_i, vp_cell_i, arrV_store]
    congr 2
    funext q
    by_cases hq : q = i.toNatClampNeg
    · subst hq
      simp [updV, upd]
    · simp [updV, upd, hq]
  have hP1 := hP.set (ct_D hA r S hn) he hat oq
  rw [ct_w_set X r r S (iz_up S k i.toNatClampNeg v) hk _ (by rw [ct_c_I hsh]; simp [iz_up]) (fun q hq => by simp [ct_c, ct_f, iz_up, hq])] at hP1
  refine kk H1 _ ⟨hS.put z oq ?_, by rw [z]; exact hs, hP1⟩
  rw [hA.1 k (by omega)]
  exact hA.2 _ (by omega)
theorem ct_alen (hx : p.tables.exec = Jvm.exec) {k N : Nat} (hK : ct_K X s) (hH : ct_H X b0 A r S n s.heap H locs) (hk : k < n) (hsh : nt_sh k = (0, N)) (hdg : decode c.code pc = .ok (.arraylength, 1)) (kk : W p l e R s m args below meth c H locs cells slots Q (F0 m (pc + 1) ls (.int (Int32.ofNat N) :: rest))) : W p l e R s m args below meth c H locs cells slots Q (F0 m pc ls (.ref (X.1 k) :: rest)) := by
  have he := ct_w_get X r S hk
  rw [ct_c_I hsh] at he
  exact va_alen hx rfl hK.2.1 hH.2.2 k 0 he (ty := .int) rfl rfl hdg kk
theorem ct_wcall {mc ms n2 : Nat} {lsM : Array Slot} {st0 : List Value} {a : Array Value} (hr : va_Run p l e R s m args below meth c H locs cells slots mc ms (F0 m pc lsM st0) rest (ct_Q X b0 r2 S2 n2 a) (fun q => b0 ≤ q)) (hA : ct_A X b0 A) (hS : va_S A s.heap H locs)
    (kk : ∀ H1 locs1, ct_H X b0 A r2 S2 n2 s.heap H1 locs1 → W p l e R s m args below meth c H1 locs1 (cells + mc) (slots + ms) Q (F0 m (pc + 3) lsM rest)) : W p l e R s m args below meth c H locs cells slots Q (F0 m pc lsM st0) := by
  intro T hT Xs
  obtain ⟨v, st₀, t, T', L, h0, X', hL, e1, e2, ⟨hv, ⟨hz9, hP⟩, hz, hk⟩, stp⟩ := hr T hT Xs
  have hv2 : v = none := by injection hv
  subst hv2
  rw [h0] at hz hk
  obtain ⟨t2, a1, b1⟩ := kk T'.heap (locs ++ L)
    ⟨⟨Nat.le_trans hS.1 (by rw [e1]; exact hz), fun q h1 h2 => by rw [e1, hk q (Nat.lt_of_lt_of_le h1 hS.1) (fun z => h2 (hA.2 q z))]; exact hS.2.1 q h1 h2, fun q hq => by
      rcases List.mem_append.mp hq with h | h
      · exact hS.2.2 q h
      · exact hA.2 _ (hL q h)⟩, by rw [e1]; exact hz9, by rw [e1]; exact hP⟩ T' rfl X'
  exact ⟨t2, stp t2 a1, b1⟩
variable {y : MethodName} {cc : ByteArray} {nL nL2 d d2 mc ms n2 idx : Nat} {As : List Value}
/-- a constructor is called -/
theorem ct_callI (hx : p.tables.exec = Jvm.exec) {own host : String} {t na : Nat} (hown : s.vm.findClass own = some m.cls) (hml : c.maxLocals = nL) (hls : ls.size = nL) (hK : ct_K X s) (hA : ct_A X b0 A) (hH : ct_H X b0 A r S n s.heap H locs) (hM : ct_M X l b0 d2 mc ms y cc nL2 (.ref (X.1 t) :: As) r S n r2 S2 n2) (hl : Cond.methodLink own idx y ∈ lw_tbl ∨ Cond.methodLinkNest own idx y host ∈ lw_tbl) (cw : iz_CW y cc nL2 none na) (hi : Cond.instanceMethod y ∈ lw_tbl) (hy : y.name = "<init>") (hfr : d2 + 1 ≤ R.frames) (hlo : 40 * (d2 + 1) ≤ R.locals) (hce : cells + mc ≤ R.cells) (hsl : slots + ms ≤ R.slots) (hna : As.length = na) (hr8 : (rest.map fun v => v.category).sum ≤ 8) (hdg : decode c.code pc = .ok (.invokespecial idx, 3))
    (kk : ∀ H1 locs1, ct_H X b0 A r2 S2 n2 s.heap H1 locs1 → W p l e R s m args below meth c H1 locs1 (cells + mc) (slots + ms) Q (F0 m (pc + 3) ls rest)) : W p l e R s m args below meth c H locs cells slots Q (F0 m pc ls (As.reverse ++ .ref (X.1 t) :: rest)) := by
  obtain ⟨w1, w2, ⟨w3, w4, w5⟩, w6⟩ := cw
  have hpre : PreS s H (ct_P X b0 (.ref (X.1 t) :: As) r S n) (.ref (X.1 t) :: As) := ⟨ct_blind X b0 _ r S n, fun U hU hWm => ⟨rfl, hK.to hWm, by rw [hU]; exact hH.2.1, by rw [hU]; exact hH.2.2⟩⟩
  have hws : ∀ w ∈ ([.code y cc nL2 none] : List Cond), ∀ (a' : Array Value) (U : State), s.WarmedH U.vm → w.before a' U = true := fun w hw a' U hW => by
    rw [List.mem_singleton.mp hw]
    exact hK.1.all hW w1 rfl a'
  have hsig : ∀ sig, parseMethodDescriptor y.desc = some sig → na = sig.parameters.length := fun sig h => by
    rw [h] at w5
    exact (Option.some.inj w5).symm
  rcases hl with hl | hl
  · exact ct_wcall (a := (Value.ref (X.1 t) :: As).toArray) (va_runI (Ts := []) (n := na) (b := X.1 t) (As := As) (rest := rest) ⟨hx, rfl, hml, hown, fun _ h => by cases h⟩ hM ⟨⟨rfl, rfl, hfr, by show 8 + (nL2 + 11) + 40 * d2 ≤ R.locals; omega, hws, List.mem_cons_self, hK.1.use w1 rfl, hK.1.use w2 rfl, ⟨w3, w4⟩, hsig, hK.1.use hl rfl⟩, hy, hK.1.use hi rfl⟩ hpre rfl hna hls rfl (lv_room hr8) hdg ⟨hce, hsl⟩) hA hH.1 kk
  · exact ct_wcall (a := (Value.ref (X.1 t) :: As).toArray) (va_runIN (Ts := []) (n := na) (b := X.1 t) (As := As) (rest := rest) ⟨hx, rfl, hml, hown, fun _ h => by cases h⟩ hM ⟨⟨⟨rfl, rfl, hfr, by show 8 + (nL2 + 11) + 40 * d2 ≤ R.locals; omega, hws, List.mem_cons_self⟩, hK.1.use w1 rfl, hK.1.use w2 rfl, ⟨w3, w4⟩, hsig, hK.1.use hl rfl⟩, hy, hK.1.use hi rfl⟩ hpre rfl hna hls rfl (lv_room hr8) hdg ⟨hce, hsl⟩) hA hH.1 kk
/-- a static is called (Arrays.fill) -/
theorem ct_callS (hx : p.tables.exec = Jvm.exec) {own : String} {na : Nat} (hown : s.vm.findClass own = some m.cls) (hml : c.maxLocals = nL) (hls : ls.size = nL) (hK : ct_K X s) (hA : ct_A X b0 A) (hH : ct_H X b0 A r S n s.heap H locs) (hM : ct_M X l b0 d2 mc ms y cc nL2 As r S n r2 S2 n2) (hl : Cond.methodLink own idx y ∈ lw_tbl) (cw : iz_CW y cc nL2 none na) (hi : Cond.static y ∈ lw_tbl) (hfr : d2 + 1 ≤ R.frames) (hlo : 40 * (d2 + 1) ≤ R.locals) (hce : cells + mc ≤ R.cells) (hsl : slots + ms ≤ R.slots) (hna : As.length = na) (hr8 : (rest.map fun v => v.category).sum ≤ 8) (hdg : decode c.code pc = .ok (.invokestatic idx, 3))
    (kk : ∀ H1 locs1, ct_H X b0 A r2 S2 n2 s.heap H1 locs1 → W p l e R s m args below meth c H1 locs1 (cells + mc) (slots + ms) Q (F0 m (pc + 3) ls rest)) : W p l e R s m args below meth c H locs cells slots Q (F0 m pc ls (As.reverse ++ rest)) := by
  obtain ⟨w1, w2, ⟨w3, w4, w5⟩, w6⟩ := cw
  have hpre : PreS s H (ct_P X b0 As r S n) As := ⟨ct_blind X b0 _ r S n, fun U hU hWm => ⟨rfl, hK.to hWm, by rw [hU]; exact hH.2.1, by rw [hU]; exact hH.2.2⟩⟩
  have hws : ∀ w ∈ ([.code y cc nL2 none] : List Cond), ∀ (a' : Array Value) (U : State), s.WarmedH U.vm → w.before a' U = true := fun w hw a' U hW => by
    rw [List.mem_singleton.mp hw]
    exact hK.1.all hW w1 rfl a'
  have hsig : ∀ sig, parseMethodDescriptor y.desc = some sig → na = sig.parameters.length := fun sig h => by
    rw [h] at w5
    exact (Option.some.inj w5).symm
  exact ct_wcall (a := As.toArray) (va_runS (Ts := []) (n := na) (As := As) (rest := rest) ⟨hx, rfl, hml, hown, fun _ h => by cases h⟩ hM ⟨⟨rfl, rfl, hfr, by show 8 + (nL2 + 11) + 40 * d2 ≤ R.locals; omega, hws, List.mem_cons_self, hK.1.use w1 rfl, hK.1.use w2 rfl, ⟨w3, w4⟩, hsig, hK.1.use hl rfl⟩, hK.1.use hi rfl⟩ hpre rfl hna hls rfl (lv_room hr8) hdg ⟨hce, hsl⟩) hA hH.1 kk
end ct_rows2
