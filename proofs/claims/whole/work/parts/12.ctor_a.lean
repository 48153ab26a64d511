/-! THE CONSTRUCTORS: the world as it grows: the first n places in the order of their making (nt_: shapes and references in that order; nt_pi: which of them a label is), refs as far as they are set (r) -/
def nt_shL : List (Nat × Nat) := [(12, 11), (5, 3), (0, 64), (0, 64), (1, 64), (9, 8), (0, 6), (0, 6), (0, 64), (0, 64), (10, 3), (0, 4), (0, 16), (0, 100), (4, 13), (0, 60), (0, 60), (0, 60), (0, 16), (0, 96), (4, 13), (0, 60), (0, 60), (0, 60), (0, 16), (0, 96), (3, 7), (0, 4), (2, 4), (0, 11), (0, 11), (0, 11), (0, 11), (2, 4), (0, 21), (0, 21), (0, 21), (0, 21), (0, 11), (6, 10), (0, 10), (0, 10), (0, 10), (0, 10), (0, 10), (1, 10), (8, 15), (0, 3), (0, 4), (0, 4), (1, 120), (0, 10), (1, 10), (0, 3), (0, 4), (0, 4), (7, 6), (0, 9), (0, 9), (0, 9), (2, 9), (0, 61), (0, 61), (0, 61), (0, 61), (0, 61), (0, 61), (0, 61), (0, 61), (0, 61), (2, 9), (0, 61), (0, 61), (0, 61), (0, 61), (0, 61), (0, 61), (0, 61), (0, 61), (0, 61), (11, 2), (0, 16), (0, 6), (13, 48), (0, 64), (0, 64), (1, 64), (0, 60), (0, 60), (0, 60), (0, 60), (0, 96), (0, 16), (0, 4), (0, 16), (0, 100), (0, 10), (0, 10), (0, 10), (0, 10), (0, 10), (1, 10), (0, 9), (0, 9), (0, 9), (0, 6), (0, 16), (0, 6), (1, 64), (0, 64), (0, 6), (0, 6), (0, 6), (0, 256), (0, 96), (0, 320), (0, 4), (0, 4), (0, 8), (0, 8), (0, 549)]
def nt_rfL : List (List Nat) := [[1, 5, 10, 14, 20, 26, 39, 46, 56, 80, 82], [2, 3, 4], [], [], [], [6, 0, 7, 0, 8, 9, 0, 0], [], [], [], [], [11, 12, 13], [], [], [], [0, 15, 16, 17, 18, 0, 0, 0, 0, 0, 0, 10, 19], [], [], [], [], [], [0, 21, 22, 23, 24, 0, 0, 0, 0, 0, 0, 10, 25], [], [], [], [], [], [0, 27, 0, 0, 28, 33, 38], [], [29, 30, 31, 32], [], [], [], [], [34, 35, 36, 37], [], [], [], [], [], [0, 0, 0, 40, 14, 41, 42, 43, 44, 45], [], [], [], [], [], [], [47, 0, 0, 48, 49, 14, 39, 0, 50, 51, 0, 52, 53, 54, 55], [], [], [], [], [], [], [], [], [], [0, 57, 58, 59, 60, 70], [], [], [], [61, 62, 63, 64, 65, 66, 67, 68, 69], [], [], [], [], [], [], [], [], [], [71, 72, 73, 74, 75, 76, 77, 78, 79], [], [], [], [], [], [], [], [], [], [0, 81], [], [], [84, 85, 86, 0, 87, 88, 89, 90, 91, 92, 93, 94, 95, 0, 0, 96, 97, 98, 99, 100, 101, 0, 102, 103, 104, 105, 0, 106, 107, 108, 109, 110, 0, 111, 112, 0, 113, 114, 115, 0, 0, 116, 117, 118, 119, 0, 0, 120], [], [], [], [], [], [], [], [], [], [], [], [], [], [], [], [], [], [], [], [], [], [], [], [], [], [], [], [], [], [], [], [], [], [], [], [], []]
def nt_piL : List Nat := [0, 1, 2, 3, 4, 5, 6, 7, 8, 10, 11, 12, 13, 14, 15, 16, 17, 18, 19, 20, 21, 22, 23, 24, 25, 26, 27, 28, 29, 30, 31, 32, 33, 34, 35, 36, 37, 38, 39, 40, 41, 42, 43, 44, 45, 46, 47, 48, 49, 50, 51, 52, 53, 54, 55, 56, 57, 58, 59, 60, 61, 62, 63, 64, 65, 66, 67, 68, 69, 70, 71, 72, 73, 74, 75, 76, 77, 78, 79, 80, 81, 82, 83, 84, 85, 86, 87, 88, 89, 90, 91, 92, 93, 94, 95, 96, 97, 98, 99, 100, 101, 102, 103, 104, 105, 106, 107, 108, 109, 110, 111, 112, 113, 114, 115, 116, 117, 118, 119, 120, 9]
def nt_sh (k : Nat) : Nat × Nat := nt_shL.getD k (99, 0)
def nt_rf (k i : Nat) : Nat := (nt_rfL.getD k []).getD i 0
def nt_pi (k : Nat) : Nat := nt_piL.getD k 0
def ct_f (X : iz_X) (r : Nat → Nat → Bool) (S : iz_S) (k c i : Nat) : Value := if iz_ft c i = 0 then .int (S.1 k i) else if iz_ft c i = 1 then .long (S.2 k i) else if r k i = true then .ref (X.1 (nt_rf k i)) else .null
def ct_c (X : iz_X) (r : Nat → Nat → Bool) (S : iz_S) (k : Nat) : va_E :=
  if (nt_sh k).1 = 0 then .inl (X.2.2.1, (nt_sh k).2, .inl (S.1 k))
  else if (nt_sh k).1 = 1 then .inl (X.2.2.2.1, (nt_sh k).2, .inl (S.1 k))
  else if (nt_sh k).1 = 2 then .inl (X.2.2.2.2, (nt_sh k).2, .inr (.inr (.inr (.inr (fun i => some (X.1 (nt_rf k i)))))))
  else .inr ((nt_sh k).1 - 3, (List.range (nt_sh k).2).map (fun i => ct_f X r S k ((nt_sh k).1 - 3) i))
def ct_w (X : iz_X) (r : Nat → Nat → Bool) (S : iz_S) (n : Nat) : va_W := (List.range n).map (fun k => (X.1 k, ct_c X r S k))
theorem ct_w_get (X : iz_X) (r : Nat → Nat → Bool) (S : iz_S) {n k : Nat} (h : k < n) : (ct_w X r S n)[k]? = some (X.1 k, ct_c X r S k) := by
  simp only [ct_w, List.getElem?_map]
  rw [List.getElem?_range h]
  rfl
theorem ct_w_none (X : iz_X) (r : Nat → Nat → Bool) (S : iz_S) {n k : Nat} (h : ¬ k < n) : (ct_w X r S n)[k]? = none := List.getElem?_eq_none (by simp [ct_w]; omega)
theorem ct_w_some {X : iz_X} {r : Nat → Nat → Bool} {S : iz_S} {n k : Nat} {q : Nat × va_E} (h : (ct_w X r S n)[k]? = some q) : k < n ∧ q = (X.1 k, ct_c X r S k) := by
  by_cases hk : k < n
  · rw [ct_w_get X r S hk] at h
    exact ⟨hk, (Option.some.inj h).symm⟩
  · rw [ct_w_none X r S hk] at h
    cases h
theorem ct_w_succ (X : iz_X) (r : Nat → Nat → Bool) (S : iz_S) (n : Nat) : ct_w X r S (n + 1) = ct_w X r S n ++ [(X.1 n, ct_c X r S n)] := by simp [ct_w, List.range_succ]
/-- two ways to say which refs are set -/
def ct_same (n : Nat) (r r2 : Nat → Nat → Bool) : Bool := (List.range n).all (fun k => decide ((nt_sh k).1 < 3) || (List.range (nt_sh k).2).all (fun i => decide (iz_ft ((nt_sh k).1 - 3) i ≠ 2) || (r k i == r2 k i)))
theorem ct_w_same {X : iz_X} {r r2 : Nat → Nat → Bool} {S : iz_S} {n : Nat} (h : ct_same n r r2 = true) : ct_w X r S n = ct_w X r2 S n := by
  unfold ct_w
  apply List.map_congr_left
  intro k hk
  have h1 := List.all_eq_true.mp h k hk
  simp only [Bool.or_eq_true, decide_eq_true_eq] at h1
  refine congrArg (Prod.mk (X.1 k)) ?_
  unfold ct_c
  by_cases h0 : (nt_sh k).1 = 0
  · rw [if_pos h0, if_pos h0]
  rw [if_neg h0, if_neg h0]
  by_cases h2 : (nt_sh k).1 = 1
  · rw [if_pos h2, if_pos h2]
  rw [if_neg h2, if_neg h2]
  by_cases h3 : (nt_sh k).1 = 2
  · rw [if_pos h3, if_pos h3]
  rw [if_neg h3, if_neg h3]
  have h4 : ¬ (nt_sh k).1 < 3 := by omega
  have h5 := h1.resolve_left h4
  congr 2
  apply List.map_congr_left
  intro i hi
  have h6 := List.all_eq_true.mp h5 i hi
  simp only [Bool.or_eq_true, decide_eq_true_eq, beq_iff_eq] at h6
  unfold ct_f
  by_cases g0 : iz_ft ((nt_sh k).1 - 3) i = 0
  · rw [if_pos g0, if_pos g0]
  rw [if_neg g0, if_neg g0]
  by_cases g1 : iz_ft ((nt_sh k).1 - 3) i = 1
  · rw [if_pos g1, if_pos g1]
  rw [if_neg g1, if_neg g1]
  rcases h6 with h6 | h6
  · exfalso
    have : ∀ c i, iz_ft c i = 0 ∨ iz_ft c i = 1 ∨ iz_ft c i = 2 ∨ iz_ft c i = 9 := by
      intro c i
      unfold iz_ft
      rcases Nat.lt_or_ge c 11 with hc | hc
      · have hall : ∀ c, c < 11 → ∀ i, i < 60 → (iz_ftL.getD c []).getD i 9 = 0 ∨ (iz_ftL.getD c []).getD i 9 = 1 ∨ (iz_ftL.getD c []).getD i 9 = 2 ∨ (iz_ftL.getD c []).getD i 9 = 9 := by decide +kernel
        rcases Nat.lt_or_ge i 60 with hi | hi
        · exact hall c hc i hi
        · right; right; right
          have hl : ∀ c, c < 11 → (iz_ftL.getD c []).length ≤ 60 := by decide +kernel
          rw [List.getD_eq_getElem?_getD, List.getElem?_eq_none (Nat.le_trans (hl c hc) hi)]
          rfl
      · right; right; right
        have : iz_ftL.getD c [] = [] := by
          rw [List.getD_eq_getElem?_getD, List.getElem?_eq_none (by have : iz_ftL.length = 11 := by decide +kernel
                                                                    omega)]
          rfl
        rw [this]; rfl
    have hall2 : ∀ k, k < 121 → ∀ i, i < (nt_sh k).2 → 3 ≤ (nt_sh k).1 → iz_ft ((nt_sh k).1 - 3) i ≠ 9 := by decide +kernel
    have hk120 : k < 121 := by
      rcases Nat.lt_or_ge k 121 with q | q
      · exact q
      · exfalso
        have e : nt_sh k = (99, 0) := by
          unfold nt_sh
          have hlen : nt_shL.length = 121 := by decide +kernel
          rw [List.getD_eq_getElem?_getD, List.getElem?_eq_none (by omega)]
          rfl
        rw [e] at hi
        simp at hi
    have := this ((nt_sh k).1 - 3) i
    have := hall2 k hk120 i (List.mem_range.mp hi) (by omega)
    omega
  · rw [h6]
def ct_pt (r : Nat → Nat → Bool) (k i : Nat) : Nat → Nat → Bool := fun k2 i2 => if k2 = k ∧ i2 = i then true else r k2 i2
theorem ct_c_I {X : iz_X} {r : Nat → Nat → Bool} {S : iz_S} {k n : Nat} (h : nt_sh k = (0, n)) : ct_c X r S k = .inl (X.2.2.1, n, .inl (S.1 k)) := by simp [ct_c, h]
theorem ct_c_Z {X : iz_X} {r : Nat → Nat → Bool} {S : iz_S} {k n : Nat} (h : nt_sh k = (1, n)) : ct_c X r S k = .inl (X.2.2.2.1, n, .inl (S.1 k)) := by simp [ct_c, h]
theorem ct_c_A {X : iz_X} {r : Nat → Nat → Bool} {S : iz_S} {k n : Nat} (h : nt_sh k = (2, n)) : ct_c X r S k = .inl (X.2.2.2.2, n, .inr (.inr (.inr (.inr (fun i => some (X.1 (nt_rf k i))))))) := by simp [ct_c, h]
theorem ct_c_O {X : iz_X} {r : Nat → Nat → Bool} {S : iz_S} {k c n : Nat} (h : nt_sh k = (c + 3, n)) : ct_c X r S k = .inr (c, (List.range n).map (fun i => ct_f X r S k c i)) := by simp [ct_c, h]
theorem ct_w_set (X : iz_X) (r r2 : Nat → Nat → Bool) (S S2 : iz_S) {n k : Nat} (hk : k < n) (e : va_E) (h1 : ct_c X r2 S2 k = e) (h2 : ∀ j, j ≠ k → ct_c X r2 S2 j = ct_c X r S j) : (ct_w X r S n).set k (X.1 k, e) = ct_w X r2 S2 n := by
  apply List.ext_getElem?
  intro j
  by_cases hj : j = k
  · subst hj
    rw [ct_w_get X r2 S2 hk, List.getElem?_set_self (by simpa [ct_w] using hk), h1]
  · rw [List.getElem?_set_ne (fun e => hj e.symm)]
    by_cases hl : j < n
    · rw [ct_w_get X r S hl, ct_w_get X r2 S2 hl, h2 j hj]
    · rw [ct_w_none X r S hl, ct_w_none X r2 S2 hl]
/-- the tables as a constructor needs them -/
def ct_K (X : iz_X) (s : State) : Prop := iz_Tb s ∧ va_K X.2.1 vwCl (iz_tys X) s ∧ (Cond.arrayClass .int).before #[] s = true ∧ (Cond.arrayClass .boolean).before #[] s = true ∧ (Cond.arrayOver (.array .int)).before #[] s = true
theorem ct_K.to {X : iz_X} {s U : State} (h : ct_K X s) (hW : s.WarmedH U.vm) : ct_K X U := by
  obtain ⟨h1, h2, h3, h4, h5⟩ := h
  refine ⟨h1.warm hW, va_K.moved hW.alike h2, word_at hW (Or.inr ⟨_, rfl⟩) h3, word_at hW (Or.inr ⟨_, rfl⟩) h4, ?_⟩
  have := Cond.arrayOver_setVmC (args := #[]) hW.alike (FieldType.array FieldType.int)
  have e : (Cond.arrayOver (.array .int)).before #[] U = (Cond.arrayOver (.array .int)).before #[] (s.setVm U.vm) := rfl
  rw [e, this]
  exact h5
theorem ct_K.blind {X : iz_X} {U V : State} (h : ct_K X U) (hv : U.vm = V.vm) : ct_K X V := by
  obtain ⟨h1, h2, h3, h4, h5⟩ := h
  have hal : U.vm.Alike V.vm := hv ▸ Vm.Alike.refl U.vm
  refine ⟨h1.same hv, va_K.moved hal h2, ?_, ?_, ?_⟩
  · have e : (Cond.arrayClass .int).before #[] V = (Cond.arrayClass .int).before #[] U := by
      show (Cond.arrayClass .int).holds #[] V none V [] = (Cond.arrayClass .int).holds #[] U none U []
      simp only [Cond.holds, Cond.value, hv]
    rw [e]; exact h3
  · have e : (Cond.arrayClass .boolean).before #[] V = (Cond.arrayClass .boolean).before #[] U := by
      show (Cond.arrayClass .boolean).holds #[] V none V [] = (Cond.arrayClass .boolean).holds #[] U none U []
      simp only [Cond.holds, Cond.value, hv]
    rw [e]; exact h4
  · have e : (Cond.arrayOver (.array .int)).before #[] V = (Cond.arrayOver (.array .int)).before #[] U := by
      show (Cond.arrayOver (.array .int)).holds #[] V none V [] = (Cond.arrayOver (.array .int)).holds #[] U none U []
      simp only [Cond.holds, Cond.value, hv]
    rw [e]; exact h5
/-- the world at a moment of making -/
def ct_H (X : iz_X) (b0 : Nat) (A : Nat → Prop) (r : Nat → Nat → Bool) (S : iz_S) (n : Nat) (H0 H : Heap) (locs : List Loc) : Prop :=
  va_S A H0 H locs ∧ H.size = b0 + n ∧ va_P X.2.1 vwCl (ct_w X r S n) H
theorem ct_H.same {X : iz_X} {b0 : Nat} {A : Nat → Prop} {r r2 : Nat → Nat → Bool} {S : iz_S} {n : Nat} {H0 H : Heap} {locs : List Loc} (h : ct_H X b0 A r S n H0 H locs) (hs : ct_same n r r2 = true) : ct_H X b0 A r2 S n H0 H locs := ⟨h.1, h.2.1, by rw [← ct_w_same hs]; exact h.2.2⟩
def ct_A (X : iz_X) (b0 : Nat) (A : Nat → Prop) : Prop := (∀ k, k < 121 → X.1 k = b0 + k) ∧ ∀ q, b0 ≤ q → A q
theorem ct_D {X : iz_X} {b0 : Nat} {A : Nat → Prop} (h : ct_A X b0 A) (r : Nat → Nat → Bool) (S : iz_S) {n : Nat} (hn : n ≤ 121) : va_D A (ct_w X r S n) := by
  refine ⟨fun i j p q hi hj he => ?_, fun k q hk => ?_⟩
  · obtain ⟨h1, rfl⟩ := ct_w_some hi
    obtain ⟨h2, rfl⟩ := ct_w_some hj
    have e : X.1 i = X.1 j := he
    rw [h.1 i (by omega), h.1 j (by omega)] at e
    omega
  · obtain ⟨h1, rfl⟩ := ct_w_some hk
    show A (X.1 k)
    rw [h.1 k (by omega)]
    exact h.2 _ (by omega)
theorem ct_grow {X : iz_X} {b0 : Nat} {A : Nat → Prop} {r : Nat → Nat → Bool} {S : iz_S} {n : Nat} {H0 H H1 : Heap} {locs : List Loc} (h : ct_H X b0 A r S n H0 H locs) (hX : X.1 n = b0 + n) (hz : H1.size = H.size + 1) (ho : ∀ q, q < H.size → H1[q]? = H[q]?) (hc : va_at X.2.1 vwCl (H.size, ct_c X r S n) H1) : ct_H X b0 A r S (n + 1) H0 H1 locs := by
  obtain ⟨hS, hs, hP⟩ := h
  refine ⟨⟨by rw [hz]; exact Nat.le_succ_of_le hS.1, fun q h1 h2 => (ho q (Nat.lt_of_lt_of_le h1 hS.1)).trans (hS.2.1 q h1 h2), hS.2.2⟩, by rw [hz, hs]; omega, ?_⟩
  rw [ct_w_succ]
  refine (hP.kept (fun k x hx => ho x.1 ((hP k x hx).lt))).app (fun k x hx => ?_)
  have h0 : k < 1 := (List.getElem?_eq_some_iff.mp hx).1
  rw [show k = 0 by omega] at hx
  cases hx
  have e : X.1 n = H.size := by rw [hX, hs]
  rw [e]
  exact hc
theorem ct_dv {t : FieldType} : (t = .int → defaultValue t = .int 0) ∧ (t = .long → defaultValue t = .long 0) ∧ (t.isReference = true → defaultValue t = .null) := by
  refine ⟨fun h => by rw [h]; rfl, fun h => by rw [h]; rfl, fun h => ?_⟩
  cases t <;> first | rfl | simp [FieldType.isReference] at h
def ct_ty (c : Nat) : Nat → FieldType := match c with
  | 0 => tyX0 | 1 => tyX1 | 2 => tyX2 | 3 => tyX3 | 4 => tyX4 | 5 => tyX5 | 6 => tyX6 | 7 => tyX7 | 8 => tyX8 | 9 => tyX9 | _ => tyX10
theorem ct_ty_ok : ∀ c, c < 11 → ∀ i, i < (iz_ftL.getD c []).length → (iz_ft c i = 0 ∧ ct_ty c i = .int) ∨ (iz_ft c i = 1 ∧ ct_ty c i = .long) ∨ (iz_ft c i = 2 ∧ (ct_ty c i).isReference = true) := by decide +kernel
theorem ct_ty_par : ∀ (c : Nat) (C : String) (T : u_T) (N : Nat), vwCl[c]? = some (C, T, N) → c < 11 ∧ N = (iz_ftL.getD c []).length ∧ ∀ k, k < N → parseFieldDescriptor (T k).2.2.1 = some (ct_ty c k) := by
  intro c C T N h
  match c, h with
  | 0, h => cases h; exact ⟨by decide, by decide +kernel, tyX0_ok⟩
  | 1, h => cases h; exact ⟨by decide, by decide +kernel, tyX1_ok⟩
  | 2, h => cases h; exact ⟨by decide, by decide +kernel, tyX2_ok⟩
  | 3, h => cases h; exact ⟨by decide, by decide +kernel, tyX3_ok⟩
  | 4, h => cases h; exact ⟨by decide, by decide +kernel, tyX4_ok⟩
  | 5, h => cases h; exact ⟨by decide, by decide +kernel, tyX5_ok⟩
  | 6, h => cases h; exact ⟨by decide, by decide +kernel, tyX6_ok⟩
  | 7, h => cases h; exact ⟨by decide, by decide +kernel, tyX7_ok⟩
  | 8, h => cases h; exact ⟨by decide, by decide +kernel, tyX8_ok⟩
  | 9, h => cases h; exact ⟨by decide, by decide +kernel, tyX9_ok⟩
  | 10, h => cases h; exact ⟨by decide, by decide +kernel, tyX10_ok⟩
  | k + 11, h => simp [vwCl] at h
section ct_rows
variable {p : Program} {l : Launch} {e : Env} {R : Room} {s : State} {m : MethodId} {args : Array Value} {below : List Frame} {meth : Method} {c : Code} {H : Heap} {locs : List Loc} {cells slots : Nat} {Q : State → Prop}
variable {pc : Nat} {ls : Array Slot} {rest : List Value} {X : iz_X} {b0 : Nat} {A : Nat → Prop} {r : Nat → Nat → Bool} {S : iz_S} {n : Nat}
theorem ct_new (hx : p.tables.exec = Jvm.exec) {own C : String} {idx ci N : Nat} {T : u_T} (hown : s.vm.findClass own = some m.cls) (hK : ct_K X s) (hA : ct_A X b0 A) (hH : ct_H X b0 A r S n s.heap H locs) (hcl : vwCl[ci]? = some (C, T, N)) (h1 : Cond.classLink own idx C ∈ lw_tbl) (h2 : Cond.instantiable C N ∈ lw_tbl) (h3 : Cond.initialized C ∈ lw_tbl) (hn : n < 121) (hsh : nt_sh n = (ci + 3, N)) (hr : ∀ i, i < N → r n i = false) (hS0 : S.1 n = fun _ => 0) (hS1 : S.2 n = fun _ => 0) (hce : cells + 1 ≤ R.cells) (hsl : slots + N ≤ R.slots) (hdg : decode c.code pc = .ok (.new idx, 3))
    (kk : ∀ H1, ct_H X b0 A r S (n + 1) s.heap H1 locs → W p l e R s m args below meth c H1 locs (cells + 1) (slots + N) Q (F0 m (pc + 3) ls (.ref (X.1 n) :: rest))) : W p l e R s m args below meth c H locs cells slots Q (F0 m pc ls rest) := by
  obtain ⟨hc11, hN, hpar⟩ := ct_ty_par ci C T N hcl
  have hKn := hK.2.1.1 ci _ hcl
  refine W.newcK hx rfl hown (hK.1.use h1 rfl) (hK.1.use h2 rfl) (hK.1.use h3 rfl) rfl hdg hce hsl hKn.2.1 rfl fun H1 kC hkC e1 z1 o1 => ?_
  have e9 : X.1 n = H.size := by rw [hA.1 n hn, hH.2.1]
  have hH1 : ct_H X b0 A r S (n + 1) s.heap H1 locs := by
    refine ct_grow hH (hA.1 n hn) z1 o1 ?_
    rw [ct_c_O hsh]
    refine ⟨_, hcl, (u_born (args := args) (ct_ty ci) (iz_lays (iz_co hcl) hK.1) (fun w h => h) hKn hkC e1 hpar).to (fun i hi => ?_)⟩
    have hv : vp_V ((List.range N).map (fun i => ct_f X r S n ci i)) i = ct_f X r S n ci i := by
      unfold vp_V
      rw [List.getD_eq_getElem?_getD, List.getElem?_map, List.getElem?_range hi]
      rfl
    show defaultValue (ct_ty ci i) = _
    rw [hv]
    have hi2 : i < (iz_ftL.getD ci []).length := hN ▸ hi
    unfold ct_f
    rcases ct_ty_ok ci hc11 i hi2 with ⟨g1, g2⟩ | ⟨g1, g2⟩ | ⟨g1, g2⟩
    · rw [if_pos g1, hS0]; exact ct_dv.1 g2
    · rw [if_neg (by omega), if_pos g1, hS1]; exact ct_dv.2.1 g2
    · rw [if_neg (by omega), if_neg (by omega), hr i hi]; exact ct_dv.2.2 g2
  rw [e9] at kk
  exact kk H1 hH1
theorem ct_nwI (hx : p.tables.exec = Jvm.exec) {N : Nat} {k : Int32} (hK : ct_K X s) (hA : ct_A X b0 A) (hH : ct_H X b0 A r S n s.heap H locs) (hn : n < 121) (hsh : nt_sh n = (0, N)) (hS0 : S.1 n = fun _ => 0) (hk : ¬ k < 0) (hkN : k.toNatClampNeg = N) (hb : N ≤ 1000) (hce : cells + 1 ≤ R.cells) (hsl : slots + N ≤ R.slots) (hdg : decode c.code pc = .ok (.newarray .int, 2))
    (kk : ∀ H1, ct_H X b0 A r S (n + 1) s.heap H1 locs → W p l e R s m args below meth c H1 locs (cells + 1) (slots + N) Q (F0 m (pc + 2) ls (.ref (X.1 n) :: rest))) : W p l e R s m args below meth c H locs cells slots Q (F0 m pc ls (.int k :: rest)) := by
  have harr : (Cond.arrayClass (newarray.typeOf .int)).before args s = true := by
    have e : (Cond.arrayClass .int).before args s = (Cond.arrayClass .int).before #[] s := rfl
    show (Cond.arrayClass .int).before args s = true
    rw [e]; exact hK.2.2.1
  refine va_newaK hx rfl harr rfl hdg rfl hk hkN (by show N * 4 ≤ _; omega) hce hsl rfl fun H1 cA e1 z1 o1 hAr hNm => ?_
  have ecA : cA = X.2.2.1 := by
    have h1 := (hK.2.1.2 0 _ (rfl : (iz_tys X)[0]? = some (X.2.2.1, .int))).2
    exact Option.some.inj (hNm.symm.trans h1)
  have e9 : X.1 n = H.size := by rw [hA.1 n hn, hH.2.1]
  have hH1 : ct_H X b0 A r S (n + 1) s.heap H1 locs := by
    refine ct_grow hH (hA.1 n hn) z1 o1 ?_
    rw [ct_c_I hsh, hS0]
    show H1[H.size]? = some (vp_cell _ _)
    rw [e1, ecA]
    rfl
  rw [e9] at kk
  exact kk H1 hH1
theorem ct_nwZ (hx : p.tables.exec = Jvm.exec) {N : Nat} {k : Int32} (hK : ct_K X s) (hA : ct_A X b0 A) (hH : ct_H X b0 A r S n s.heap H locs) (hn : n < 121) (hsh : nt_sh n = (1, N)) (hS0 : S.1 n = fun _ => 0) (hk : ¬ k < 0) (hkN : k.toNatClampNeg = N) (hb : N ≤ 1000) (hce : cells + 1 ≤ R.cells) (hsl : slots + N ≤ R.slots) (hdg : decode c.code pc = .ok (.newarray .boolean, 2))
    (kk : ∀ H1, ct_H X b0 A r S (n + 1) s.heap H1 locs → W p l e R s m args below meth c H1 locs (cells + 1) (slots + N) Q (F0 m (pc + 2) ls (.ref (X.1 n) :: rest))) : W p l e R s m args below meth c H locs cells slots Q (F0 m pc ls (.int k :: rest)) := by
  have harr : (Cond.arrayClass (newarray.typeOf .boolean)).before args s = true := by
    have e : (Cond.arrayClass .boolean).before args s = (Cond.arrayClass .boolean).before #[] s := rfl
    show (Cond.arrayClass .boolean).before args s = true
    rw [e]; exact hK.2.2.2.1
  refine va_newaK hx rfl harr rfl hdg rfl hk hkN (by show N * 1 ≤ _; omega) hce hsl rfl fun H1 cA e1 z1 o1 hAr hNm => ?_
  have ecA : cA = X.2.2.2.1 := by
    have h1 := (hK.2.1.2 1 _ (rfl : (iz_tys X)[1]? = some (X.2.2.2.1, .boolean))).2
    exact Option.some.inj (hNm.symm.trans h1)
  have e9 : X.1 n = H.size := by rw [hA.1 n hn, hH.2.1]
  have hH1 : ct_H X b0 A r S (n + 1) s.heap H1 locs := by
    refine ct_grow hH (hA.1 n hn) z1 o1 ?_
    rw [ct_c_Z hsh, hS0]
    show H1[H.size]? = some (vp_cell _ _)
    rw [e1, ecA]
    rfl
  rw [e9] at kk
  exact kk H1 hH1
end ct_rows
