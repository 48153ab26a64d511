
/-! THE CLAIM OUT OF ONE WALK OF THE LAW'S BODY. Your part is whole_start (and what it stands on); all else here is the same for every law, but numbers. -/
def R_law : String := "IceHouseLaw"
def lw_P (b : Addr) (xs : List Int32) (args : Array Value) (s : State) : Prop := args = #[.ref b] ∧ s.IntsAt b xs ∧ xs.length ≤ 384 ∧ (Jvm.Cond.and given_1 narrow_1).before args s = true
def lw_Q (_ : Array Value) (s : State) (o : Outcome) (t : State) : Prop := o = .returned (some (.int 1)) ∧ Framed s o t [] 600000 7302250
def lw_Z (below : List Frame) (a : Array Value) (s : State) : State → Prop := fun t => ∃ o, t.status = .running ∧ Ended t below o ∧ lw_Q a s o t
/-- the law's own end, with 1 on the stack, nothing written that was there before, its room as the claim has it -/
theorem lw_ret {p : Program} {l : Launch} {e : Env} {s : State} {m : MethodId} {below : List Frame} {meth : Method} {c : Code} {b : Nat} (hx : p.tables.exec = Jvm.exec) (hb : c.code = code) (hr : meth.sig.returnType = ret) (hlocks : meth.locks = false) {pc : Nat} {H : Heap} {ls : Array Slot} (hdg : decode code pc = .ok (.ireturn, 1)) : W p l e room_1 s m #[Value.ref b] below meth c H [] 600000 7302250 (lw_Z below #[Value.ref b] s) (F0 m pc ls [.int 1]) := by
  intro T hT X
  obtain ⟨fs, hret, hrun, hended, hW, hframe⟩ := X.leave (v := some (.int 1)) (hlocks := hlocks) (fun h => by rw [hr] at h; cases h)
  have hmeth' : T.vm.method? m = some meth := X.method'
  refine ⟨T.setFrames fs, ?_, .returned (some (.int 1)), hrun, hended, rfl, ⟨_, rfl⟩, hW, hframe⟩
  jvm_step X.here [X.here.top, hx, hb, hdg, hmeth', hr, ret, narrow_b1]
  (try refine ⟨rfl, ?_⟩); (try refine ⟨rfl, ?_⟩)
  first | (intro acts; rw [hret _ acts rfl rfl rfl]) | rw [hret _ _ rfl rfl rfl]
  exact Steps.refl _
/-- what holds at the law's entry: the machine, the code, the tables' words (any of lw_tbl by 'hts w (by decide +kernel)'), the script of L ints xs at the cell b, what the Statement gives of the start (any of its parts by flat_of_before) -/
def lw_At (p : Program) (s : State) (m : MethodId) (meth : Method) (c : Code) (b L : Nat) (xs : Nat → Int32) : Prop :=
  p.tables.exec = Jvm.exec ∧ c.code = code ∧ meth.sig.returnType = ret ∧ c.maxLocals = 4 ∧ s.vm.findClass R_law = some m.cls ∧ (∀ w ∈ lw_tbl, w.before #[Value.ref b] s = true) ∧ va_X b L xs s s.heap ∧ b < s.heap.size ∧ meth.locks = false ∧ (Jvm.Cond.and given_1 narrow_1).before #[Value.ref b] s = true

theorem lw_s0 : iz_sh 0 = (9 + 3, 11) := by decide +kernel
theorem lw_s82 : iz_sh 82 = (10 + 3, 48) := by decide +kernel
/-- the law's own frame as a context -/
def iz_KL (X : iz_X) (b L : Nat) (xs : Nat → Int32) : iz_KP Int32 := fun z p _ R s m args below meth c cells slots Q A =>
  z = 1 ∧ lw_At p s m meth c b L xs ∧ R = room_1 ∧ args = #[.ref b] ∧ cells = 600000 ∧ slots = 7302250 ∧ A = (fun q => s.heap.size ≤ q) ∧ iz_Wk X A s s.heap ∧ Q = lw_Z below #[.ref b] s
theorem iz_KL_ok (X : iz_X) (b L : Nat) (xs : Nat → Int32) : iz_KF X RL tL_law 4 20 (iz_KL X b L xs) := by
  intro z p e R s m args below meth c cells slots Q A h
  obtain ⟨rfl, hat, rfl, rfl, rfl, rfl, rfl, hW, rfl⟩ := h
  obtain ⟨hx, hb, hr, hml, hown, hts, hX, hbl, hlocks, hgv⟩ := hat
  exact ⟨hx, by rw [hb]; exact dL_law, hml, hown, hW, by decide, by decide, Nat.le_refl _, Nat.le_refl _⟩
section iz_law
variable {X : iz_X} {l : Launch} {b L : Nat} {xs : Nat → Int32} {pc : Nat} {ls : List (Nat × Value)} {st : List Value} {S : iz_S} {o : Option Int32}
theorem iz_sld (j : Nat) {i : Int32} (hd : tL_law[j]? = some (pc, .iaload, 1)) (kk : iz_Y X l RL tL_law 4 20 (iz_KL X b L xs) (pc + 1) ls (.int (xs i.toNatClampNeg) :: st) S o) : iz_Y X l RL tL_law 4 20 (iz_KL X b L xs) pc ls (.int i :: .ref b :: st) S (iz_ck (iz_in i L) o) := by
  refine iz_ckr (fun hin => ?_)
  intro hK z hz p e R s m args below meth c0 cells slots Q A k H locs hS hP lsM hls
  obtain ⟨hx, hdt, hml, hown, hW, hfr, hlo, hce, hsl⟩ := hK z p e R s m args below meth c0 cells slots Q A k
  obtain ⟨-, ⟨-, -, -, -, -, -, hX, hbl, -, -⟩, -, -, -, -, hA, -, -⟩ := id k
  exact va_sld hx rfl hX hbl (by rw [hA]; exact Nat.not_le.mpr hbl) hS (iz_in_p hin) (iz_dq hdt hd) (kk hK z hz p e R s m args below meth c0 cells slots Q A k H locs hS hP lsM hls)
theorem iz_slen (j : Nat) (hd : tL_law[j]? = some (pc, .arraylength, 1)) (kk : iz_Y X l RL tL_law 4 20 (iz_KL X b L xs) (pc + 1) ls (.int (Int32.ofNat L) :: st) S o) : iz_Y X l RL tL_law 4 20 (iz_KL X b L xs) pc ls (.ref b :: st) S o := by
  intro hK z hz p e R s m args below meth c0 cells slots Q A k H locs hS hP lsM hls
  obtain ⟨hx, hdt, hml, hown, hW, hfr, hlo, hce, hsl⟩ := hK z p e R s m args below meth c0 cells slots Q A k
  obtain ⟨-, ⟨-, -, -, -, -, -, hX, hbl, -, -⟩, -, -, -, -, hA, -, -⟩ := id k
  exact va_slen hx rfl hX hbl (by rw [hA]; exact Nat.not_le.mpr hbl) hS (iz_dq hdt hd) (kk hK z hz p e R s m args below meth c0 cells slots Q A k H locs hS hP lsM hls)
theorem iz_lwret (j : Nat) {v : Int32} (hd : tL_law[j]? = some (pc, .ireturn, 1)) : iz_Y X l RL tL_law 4 20 (iz_KL X b L xs) pc ls [.int v] S (some v) := by
  intro hK z hz p e R s m args below meth c0 cells slots Q A k H locs hS hP lsM hls
  obtain ⟨hx, hdt, hml, hown, hW, hfr, hlo, hce, hsl⟩ := hK z p e R s m args below meth c0 cells slots Q A k
  obtain ⟨rfl, ⟨-, hb, hr, -, -, -, -, -, hlocks, -⟩, rfl, rfl, rfl, rfl, rfl, -, rfl⟩ := k
  cases hz
  refine va_forget (fun q hq => hS.2.2 q hq) ?_
  exact lw_ret hx hb hr hlocks (by rw [← hb]; exact iz_dq hdt hd)
end iz_law
def Lw_law_1250 (L : Nat) (xs : Nat → Int32) (k18 : Int32 → iz_S → Option Int32) (x3 : Int32) (S : iz_S) : Option Int32 :=
  (k18 (x3 + 6) S)
set_option maxRecDepth 10000 in
theorem c_Lw_law_1250 {X : iz_X} {l : Launch} {b L : Nat} {xs : Nat → Int32} {k18 : Int32 → iz_S → Option Int32} (hk18 : ∀ (x3 : Int32) (S : iz_S), iz_Y X l RL tL_law 4 20 (iz_KL X b L xs) 18 [(0, .ref b), (1, .ref (X.1 0)), (2, .ref (X.1 82)), (3, .int x3)] [] S (k18 x3 S)) (x3 : Int32) (S : iz_S) : iz_Y X l RL tL_law 4 20 (iz_KL X b L xs) 1250 [(0, .ref b), (1, .ref (X.1 0)), (2, .ref (X.1 82)), (3, .int x3)] [] S (Lw_law_1250 L xs k18 x3 S) := by
  unfold Lw_law_1250
  refine iz_iinc (v := (x3 + 6)) (ls2 := [(0, .ref b), (1, .ref (X.1 0)), (2, .ref (X.1 82)), (3, .int (x3 + 6))]) 864 3 [1, 2, 3, 0] rfl rfl rfl (by decide) rfl ?_
  refine iz_goto (tgt := 18) 865 (by decide) rfl ?_
  exact hk18 (x3 + 6) S
def Lw_law_18b (L : Nat) (xs : Nat → Int32) (k18 : Int32 → iz_S → Option Int32) (x3 : Int32) (S : iz_S) : Option Int32 :=
  (if x3 ≤ ((Int32.ofNat L) - 6) then
    iz_ck (iz_in x3 L) (
    iz_sw ((xs (Int32.toNatClampNeg x3)) &&& 63) 0 35 [
      (iz_ck (iz_in (x3 + 1) L) (
      iz_bI (Ic_frost 0 (xs (Int32.toNatClampNeg (x3 + 1))) S) (fun r2 S1 =>
      iz_ck (iz_in (x3 + 1) L) (
      iz_bI (Mo_frost 82 (xs (Int32.toNatClampNeg (x3 + 1))) S1) (fun r4 S3 =>
      if r2 = r4 then
        (Lw_law_1250 L xs k18 x3 S3)
      else
        some 0))))),
      (iz_ck (iz_in (x3 + 1) L) (
      iz_bI (Ic_thaw 0 (xs (Int32.toNatClampNeg (x3 + 1))) S) (fun r6 S5 =>
      iz_ck (iz_in (x3 + 1) L) (
      iz_bI (Mo_thaw 82 (xs (Int32.toNatClampNeg (x3 + 1))) S5) (fun r8 S7 =>
      if r6 = r8 then
        (Lw_law_1250 L xs k18 x3 S7)
      else
        some 0))))),
      (iz_ck (iz_in (x3 + 1) L) (
      iz_bI (Ic_snow 0 (xs (Int32.toNatClampNeg (x3 + 1))) S) (fun r10 S9 =>
      iz_ck (iz_in (x3 + 1) L) (
      iz_bI (Mo_snow 82 (xs (Int32.toNatClampNeg (x3 + 1))) S9) (fun r12 S11 =>
      if r10 = r12 then
        (Lw_law_1250 L xs k18 x3 S11)
      else
        some 0))))),
      (iz_ck (iz_in (x3 + 1) L) (
      iz_bI (Ic_scrape 0 (xs (Int32.toNatClampNeg (x3 + 1))) S) (fun r14 S13 =>
      iz_ck (iz_in (x3 + 1) L) (
      iz_bI (Mo_scrape 82 (xs (Int32.toNatClampNeg (x3 + 1))) S13) (fun r16 S15 =>
      if r14 = r16 then
        (Lw_law_1250 L xs k18 x3 S15)
      else
        some 0))))),
      (iz_ck (iz_in (x3 + 1) L) (
      iz_ck (iz_in (x3 + 2) L) (
      iz_bI (Ic_cell 0 (xs (Int32.toNatClampNeg (x3 + 1))) (xs (Int32.toNatClampNeg (x3 + 2))) S) (fun r18 S17 =>
      iz_ck (iz_in (x3 + 1) L) (
      iz_ck (iz_in (x3 + 2) L) (
      iz_bI (Mo_cell 82 (xs (Int32.toNatClampNeg (x3 + 1))) (xs (Int32.toNatClampNeg (x3 + 2))) S17) (fun r20 S19 =>
      if r18 = r20 then
        (Lw_law_1250 L xs k18 x3 S19)
      else
        some 0))))))),
      (iz_ck (iz_in (x3 + 1) L) (
      iz_bI (Ic_reached 0 (xs (Int32.toNatClampNeg (x3 + 1))) S) (fun r22 S21 =>
      iz_ck (iz_in (x3 + 1) L) (
      iz_bI (Mo_reached 82 (xs (Int32.toNatClampNeg (x3 + 1))) S21) (fun r24 S23 =>
      if r22 = r24 then
        (Lw_law_1250 L xs k18 x3 S23)
      else
        some 0))))),
      (iz_ck (iz_in (x3 + 1) L) (
      iz_ck (iz_in (x3 + 2) L) (
      iz_bI (Ic_reach 0 (xs (Int32.toNatClampNeg (x3 + 1))) (xs (Int32.toNatClampNeg (x3 + 2))) S) (fun r26 S25 =>
      iz_ck (iz_in (x3 + 1) L) (
      iz_ck (iz_in (x3 + 2) L) (
      iz_bI (Mo_reach 82 (xs (Int32.toNatClampNeg (x3 + 1))) (xs (Int32.toNatClampNeg (x3 + 2))) S25) (fun r28 S27 =>
      if r26 = r28 then
        (Lw_law_1250 L xs k18 x3 S27)
      else
        some 0))))))),
      (iz_ck (iz_in (x3 + 1) L) (
      iz_bI (Ic_bars 0 (xs (Int32.toNatClampNeg (x3 + 1))) S) (fun r30 S29 =>
      iz_ck (iz_in (x3 + 1) L) (
      iz_bI (Mo_bars 82 (xs (Int32.toNatClampNeg (x3 + 1))) S29) (fun r32 S31 =>
      if r30 = r32 then
        (Lw_law_1250 L xs k18 x3 S31)
      else
        some 0))))),
      (iz_ck (iz_in (x3 + 1) L) (
      iz_bI (Ic_cut 0 (xs (Int32.toNatClampNeg (x3 + 1))) S) (fun r34 S33 =>
      iz_ck (iz_in (x3 + 1) L) (
      iz_bI (Mo_cut 82 (xs (Int32.toNatClampNeg (x3 + 1))) S33) (fun r36 S35 =>
      if r34 = r36 then
        (Lw_law_1250 L xs k18 x3 S35)
      else
        some 0))))),
      (iz_ck (iz_in (x3 + 1) L) (
      iz_bI (Ic_season 0 (xs (Int32.toNatClampNeg (x3 + 1))) S) (fun r38 S37 =>
      iz_ck (iz_in (x3 + 1) L) (
      iz_bI (Mo_season 82 (xs (Int32.toNatClampNeg (x3 + 1))) S37) (fun r40 S39 =>
      if r38 = r40 then
        (Lw_law_1250 L xs k18 x3 S39)
      else
        some 0))))),
      (iz_ck (iz_in (x3 + 1) L) (
      iz_ck (iz_in (x3 + 2) L) (
      iz_bI (Ic_put 0 (xs (Int32.toNatClampNeg (x3 + 1))) (xs (Int32.toNatClampNeg (x3 + 2))) S) (fun r42 S41 =>
      iz_ck (iz_in (x3 + 1) L) (
      iz_ck (iz_in (x3 + 2) L) (
      iz_bI (Mo_put 82 (xs (Int32.toNatClampNeg (x3 + 1))) (xs (Int32.toNatClampNeg (x3 + 2))) S41) (fun r44 S43 =>
      if r42 = r44 then
        (Lw_law_1250 L xs k18 x3 S43)
      else
        some 0))))))),
      (iz_ck (iz_in (x3 + 1) L) (
      iz_bI (Ic_take 0 (xs (Int32.toNatClampNeg (x3 + 1))) S) (fun r46 S45 =>
      iz_ck (iz_in (x3 + 1) L) (
      iz_bI (Mo_take 82 (xs (Int32.toNatClampNeg (x3 + 1))) S45) (fun r48 S47 =>
      if r46 = r48 then
        (Lw_law_1250 L xs k18 x3 S47)
      else
        some 0))))),
      (iz_ck (iz_in (x3 + 1) L) (
      iz_ck (iz_in (x3 + 2) L) (
      iz_bI (Ic_move 0 (xs (Int32.toNatClampNeg (x3 + 1))) (xs (Int32.toNatClampNeg (x3 + 2))) S) (fun r50 S49 =>
      iz_ck (iz_in (x3 + 1) L) (
      iz_ck (iz_in (x3 + 2) L) (
      iz_bI (Mo_move 82 (xs (Int32.toNatClampNeg (x3 + 1))) (xs (Int32.toNatClampNeg (x3 + 2))) S49) (fun r52 S51 =>
      if r50 = r52 then
        (Lw_law_1250 L xs k18 x3 S51)
      else
        some 0))))))),
      (iz_ck (iz_in (x3 + 1) L) (
      iz_ck (iz_in (x3 + 2) L) (
      iz_bI (Ic_as 0 (xs (Int32.toNatClampNeg (x3 + 1))) (xs (Int32.toNatClampNeg (x3 + 2))) S) (fun r54 S53 =>
      iz_ck (iz_in (x3 + 1) L) (
      iz_ck (iz_in (x3 + 2) L) (
      iz_bI (Mo_as 82 (xs (Int32.toNatClampNeg (x3 + 1))) (xs (Int32.toNatClampNeg (x3 + 2))) S53) (fun r56 S55 =>
      if r54 = r56 then
        (Lw_law_1250 L xs k18 x3 S55)
      else
        some 0))))))),
      (iz_ck (iz_in (x3 + 1) L) (
      iz_ck (iz_in (x3 + 2) L) (
      iz_bI (Ic_about 0 (xs (Int32.toNatClampNeg (x3 + 1))) (xs (Int32.toNatClampNeg (x3 + 2))) S) (fun r58 S57 =>
      iz_ck (iz_in (x3 + 1) L) (
      iz_ck (iz_in (x3 + 2) L) (
      iz_bI (Mo_about 82 (xs (Int32.toNatClampNeg (x3 + 1))) (xs (Int32.toNatClampNeg (x3 + 2))) S57) (fun r60 S59 =>
      if r58 = r60 then
        (Lw_law_1250 L xs k18 x3 S59)
      else
        some 0))))))),
      (iz_ck (iz_in (x3 + 1) L) (
      iz_ck (iz_in (x3 + 2) L) (
      iz_bI (Ic_at 0 (xs (Int32.toNatClampNeg (x3 + 1))) (xs (Int32.toNatClampNeg (x3 + 2))) S) (fun r62 S61 =>
      iz_ck (iz_in (x3 + 1) L) (
      iz_ck (iz_in (x3 + 2) L) (
      iz_bI (Mo_at 82 (xs (Int32.toNatClampNeg (x3 + 1))) (xs (Int32.toNatClampNeg (x3 + 2))) S61) (fun r64 S63 =>
      if r62 = r64 then
        (Lw_law_1250 L xs k18 x3 S63)
      else
        some 0))))))),
      (iz_ck (iz_in (x3 + 1) L) (
      iz_ck (iz_in (x3 + 2) L) (
      iz_bI (Ic_dust 0 (xs (Int32.toNatClampNeg (x3 + 1))) (xs (Int32.toNatClampNeg (x3 + 2))) S) (fun r66 S65 =>
      iz_ck (iz_in (x3 + 1) L) (
      iz_ck (iz_in (x3 + 2) L) (
      iz_bI (Mo_dust 82 (xs (Int32.toNatClampNeg (x3 + 1))) (xs (Int32.toNatClampNeg (x3 + 2))) S65) (fun r68 S67 =>
      if r66 = r68 then
        (Lw_law_1250 L xs k18 x3 S67)
      else
        some 0))))))),
      (iz_ck (iz_in (x3 + 1) L) (
      iz_ck (iz_in (x3 + 2) L) (
      iz_bI (Ic_cover 0 (xs (Int32.toNatClampNeg (x3 + 1))) (xs (Int32.toNatClampNeg (x3 + 2))) S) (fun r70 S69 =>
      iz_ck (iz_in (x3 + 1) L) (
      iz_ck (iz_in (x3 + 2) L) (
      iz_bI (Mo_cover 82 (xs (Int32.toNatClampNeg (x3 + 1))) (xs (Int32.toNatClampNeg (x3 + 2))) S69) (fun r72 S71 =>
      if r70 = r72 then
        (Lw_law_1250 L xs k18 x3 S71)
      else
        some 0))))))),
      (iz_ck (iz_in (x3 + 1) L) (
      iz_ck (iz_in (x3 + 2) L) (
      iz_bI (Ic_warmth 0 (xs (Int32.toNatClampNeg (x3 + 1))) (xs (Int32.toNatClampNeg (x3 + 2))) S) (fun r74 S73 =>
      iz_ck (iz_in (x3 + 1) L) (
      iz_ck (iz_in (x3 + 2) L) (
      iz_bI (Mo_warmth 82 (xs (Int32.toNatClampNeg (x3 + 1))) (xs (Int32.toNatClampNeg (x3 + 2))) S73) (fun r76 S75 =>
      if r74 = r76 then
        (Lw_law_1250 L xs k18 x3 S75)
      else
        some 0))))))),
      (iz_bI (Ic_melts 0 S) (fun r78 S77 =>
      iz_bI (Mo_melts 82 S77) (fun r80 S79 =>
      if r78 = r80 then
        (Lw_law_1250 L xs k18 x3 S79)
      else
        some 0))),
      (iz_ck (iz_in (x3 + 1) L) (
      iz_bI (Ic_weeks 0 (xs (Int32.toNatClampNeg (x3 + 1))) S) (fun r82 S81 =>
      iz_ck (iz_in (x3 + 1) L) (
      iz_bI (Mo_weeks 82 (xs (Int32.toNatClampNeg (x3 + 1))) S81) (fun r84 S83 =>
      if r82 = r84 then
        (Lw_law_1250 L xs k18 x3 S83)
      else
        some 0))))),
      (iz_ck (iz_in (x3 + 1) L) (
      iz_bI (Ic_after 0 (xs (Int32.toNatClampNeg (x3 + 1))) S) (fun r86 S85 =>
      iz_ck (iz_in (x3 + 1) L) (
      iz_bI (Mo_after 82 (xs (Int32.toNatClampNeg (x3 + 1))) S85) (fun r88 S87 =>
      if r86 = r88 then
        (Lw_law_1250 L xs k18 x3 S87)
      else
        some 0))))),
      (iz_ck (iz_in (x3 + 1) L) (
      iz_bI (Ic_lasts 0 (xs (Int32.toNatClampNeg (x3 + 1))) S) (fun r90 S89 =>
      iz_ck (iz_in (x3 + 1) L) (
      iz_bI (Mo_lasts 82 (xs (Int32.toNatClampNeg (x3 + 1))) S89) (fun r92 S91 =>
      if r90 = r92 then
        (Lw_law_1250 L xs k18 x3 S91)
      else
        some 0))))),
      (iz_ck (iz_in (x3 + 1) L) (
      iz_ck (iz_in (x3 + 2) L) (
      iz_bI (Ic_best 0 (xs (Int32.toNatClampNeg (x3 + 1))) (xs (Int32.toNatClampNeg (x3 + 2))) S) (fun r94 S93 =>
      iz_ck (iz_in (x3 + 1) L) (
      iz_ck (iz_in (x3 + 2) L) (
      iz_bI (Mo_best 82 (xs (Int32.toNatClampNeg (x3 + 1))) (xs (Int32.toNatClampNeg (x3 + 2))) S93) (fun r96 S95 =>
      if r94 = r96 then
        (Lw_law_1250 L xs k18 x3 S95)
      else
        some 0))))))),
      (iz_ck (iz_in (x3 + 1) L) (
      iz_ck (iz_in (x3 + 2) L) (
      iz_ck (iz_in (x3 + 3) L) (
      iz_ck (iz_in (x3 + 4) L) (
      iz_ck (iz_in (x3 + 5) L) (
      iz_bI (Ic_order 0 (xs (Int32.toNatClampNeg (x3 + 1))) (xs (Int32.toNatClampNeg (x3 + 2))) (xs (Int32.toNatClampNeg (x3 + 3))) (xs (Int32.toNatClampNeg (x3 + 4))) (xs (Int32.toNatClampNeg (x3 + 5))) S) (fun r98 S97 =>
      iz_ck (iz_in (x3 + 1) L) (
      iz_ck (iz_in (x3 + 2) L) (
      iz_ck (iz_in (x3 + 3) L) (
      iz_ck (iz_in (x3 + 4) L) (
      iz_ck (iz_in (x3 + 5) L) (
      iz_bI (Mo_order 82 (xs (Int32.toNatClampNeg (x3 + 1))) (xs (Int32.toNatClampNeg (x3 + 2))) (xs (Int32.toNatClampNeg (x3 + 3))) (xs (Int32.toNatClampNeg (x3 + 4))) (xs (Int32.toNatClampNeg (x3 + 5))) S97) (fun r100 S99 =>
      if r98 = r100 then
        (Lw_law_1250 L xs k18 x3 S99)
      else
        some 0))))))))))))),
      (iz_ck (iz_in (x3 + 1) L) (
      iz_ck (iz_in (x3 + 2) L) (
      iz_bI (Ic_why 0 (xs (Int32.toNatClampNeg (x3 + 1))) (xs (Int32.toNatClampNeg (x3 + 2))) S) (fun r102 S101 =>
      iz_ck (iz_in (x3 + 1) L) (
      iz_ck (iz_in (x3 + 2) L) (
      iz_bI (Mo_why 82 (xs (Int32.toNatClampNeg (x3 + 1))) (xs (Int32.toNatClampNeg (x3 + 2))) S101) (fun r104 S103 =>
      if r102 = r104 then
        (Lw_law_1250 L xs k18 x3 S103)
      else
        some 0))))))),
      (iz_ck (iz_in (x3 + 1) L) (
      iz_ck (iz_in (x3 + 2) L) (
      iz_bI (Ic_serve 0 (xs (Int32.toNatClampNeg (x3 + 1))) (xs (Int32.toNatClampNeg (x3 + 2))) S) (fun r106 S105 =>
      iz_ck (iz_in (x3 + 1) L) (
      iz_ck (iz_in (x3 + 2) L) (
      iz_bI (Mo_serve 82 (xs (Int32.toNatClampNeg (x3 + 1))) (xs (Int32.toNatClampNeg (x3 + 2))) S105) (fun r108 S107 =>
      if r106 = r108 then
        (Lw_law_1250 L xs k18 x3 S107)
      else
        some 0))))))),
      (iz_ck (iz_in (x3 + 1) L) (
      iz_bI (Ic_sales 0 (xs (Int32.toNatClampNeg (x3 + 1))) S) (fun r110 S109 =>
      iz_ck (iz_in (x3 + 1) L) (
      iz_bI (Mo_sales 82 (xs (Int32.toNatClampNeg (x3 + 1))) S109) (fun r112 S111 =>
      if r110 = r112 then
        (Lw_law_1250 L xs k18 x3 S111)
      else
        some 0))))),
      (iz_ck (iz_in (x3 + 1) L) (
      iz_ck (iz_in (x3 + 2) L) (
      iz_ck (iz_in (x3 + 3) L) (
      iz_bI (Ic_station 0 (xs (Int32.toNatClampNeg (x3 + 1))) (xs (Int32.toNatClampNeg (x3 + 2))) (xs (Int32.toNatClampNeg (x3 + 3))) S) (fun r114 S113 =>
      iz_ck (iz_in (x3 + 1) L) (
      iz_ck (iz_in (x3 + 2) L) (
      iz_ck (iz_in (x3 + 3) L) (
      iz_bI (Mo_station 82 (xs (Int32.toNatClampNeg (x3 + 1))) (xs (Int32.toNatClampNeg (x3 + 2))) (xs (Int32.toNatClampNeg (x3 + 3))) S113) (fun r116 S115 =>
      if r114 = r116 then
        (Lw_law_1250 L xs k18 x3 S115)
      else
        some 0))))))))),
      (iz_ck (iz_in (x3 + 1) L) (
      iz_ck (iz_in (x3 + 2) L) (
      iz_ck (iz_in (x3 + 3) L) (
      iz_ck (iz_in (x3 + 4) L) (
      iz_bI (Ic_change 0 (xs (Int32.toNatClampNeg (x3 + 1))) (xs (Int32.toNatClampNeg (x3 + 2))) (xs (Int32.toNatClampNeg (x3 + 3))) (xs (Int32.toNatClampNeg (x3 + 4))) S) (fun r118 S117 =>
      iz_ck (iz_in (x3 + 1) L) (
      iz_ck (iz_in (x3 + 2) L) (
      iz_ck (iz_in (x3 + 3) L) (
      iz_ck (iz_in (x3 + 4) L) (
      iz_bI (Mo_change 82 (xs (Int32.toNatClampNeg (x3 + 1))) (xs (Int32.toNatClampNeg (x3 + 2))) (xs (Int32.toNatClampNeg (x3 + 3))) (xs (Int32.toNatClampNeg (x3 + 4))) S117) (fun r120 S119 =>
      if r118 = r120 then
        (Lw_law_1250 L xs k18 x3 S119)
      else
        some 0))))))))))),
      (iz_ck (iz_in (x3 + 1) L) (
      iz_ck (iz_in (x3 + 2) L) (
      iz_ck (iz_in (x3 + 3) L) (
      iz_bI (Ic_icing 0 (xs (Int32.toNatClampNeg (x3 + 1))) (xs (Int32.toNatClampNeg (x3 + 2))) (xs (Int32.toNatClampNeg (x3 + 3))) S) (fun r122 S121 =>
      iz_ck (iz_in (x3 + 1) L) (
      iz_ck (iz_in (x3 + 2) L) (
      iz_ck (iz_in (x3 + 3) L) (
      iz_bI (Mo_icing 82 (xs (Int32.toNatClampNeg (x3 + 1))) (xs (Int32.toNatClampNeg (x3 + 2))) (xs (Int32.toNatClampNeg (x3 + 3))) S121) (fun r124 S123 =>
      if r122 = r124 then
        (Lw_law_1250 L xs k18 x3 S123)
      else
        some 0))))))))),
      (iz_ck (iz_in (x3 + 1) L) (
      iz_bI (Ic_ledger 0 (xs (Int32.toNatClampNeg (x3 + 1))) S) (fun r126 S125 =>
      iz_ck (iz_in (x3 + 1) L) (
      iz_bI (Mo_ledger 82 (xs (Int32.toNatClampNeg (x3 + 1))) S125) (fun r128 S127 =>
      if r126 = r128 then
        (Lw_law_1250 L xs k18 x3 S127)
      else
        some 0))))),
      (iz_ck (iz_in (x3 + 1) L) (
      iz_bI (Ic_tell 0 (xs (Int32.toNatClampNeg (x3 + 1))) S) (fun r130 S129 =>
      iz_ck (iz_in (x3 + 1) L) (
      iz_bI (Mo_tell 82 (xs (Int32.toNatClampNeg (x3 + 1))) S129) (fun r132 S131 =>
      if r130 = r132 then
        (Lw_law_1250 L xs k18 x3 S131)
      else
        some 0))))),
      (iz_ck (iz_in (x3 + 1) L) (
      iz_bI (Ic_check 0 (xs (Int32.toNatClampNeg (x3 + 1))) S) (fun r134 S133 =>
      iz_ck (iz_in (x3 + 1) L) (
      iz_bI (Mo_check 82 (xs (Int32.toNatClampNeg (x3 + 1))) S133) (fun r136 S135 =>
      if r134 = r136 then
        (Lw_law_1250 L xs k18 x3 S135)
      else
        some 0))))),
      (iz_ck (iz_in (x3 + 1) L) (
      iz_bI (Ic_count 0 (xs (Int32.toNatClampNeg (x3 + 1))) S) (fun r138 S137 =>
      iz_ck (iz_in (x3 + 1) L) (
      iz_bI (Mo_count 82 (xs (Int32.toNatClampNeg (x3 + 1))) S137) (fun r140 S139 =>
      if r138 = r140 then
        (Lw_law_1250 L xs k18 x3 S139)
      else
        some 0))))),
      (iz_ck (iz_in (x3 + 1) L) (
      iz_bI (Ic_found 0 (xs (Int32.toNatClampNeg (x3 + 1))) S) (fun r142 S141 =>
      iz_ck (iz_in (x3 + 1) L) (
      iz_bI (Mo_found 82 (xs (Int32.toNatClampNeg (x3 + 1))) S141) (fun r144 S143 =>
      if r142 = r144 then
        (Lw_law_1250 L xs k18 x3 S143)
      else
        some 0)))))]
      ((Lw_law_1250 L xs k18 x3 S)))
  else
    some 1)
set_option maxRecDepth 10000 in
theorem c_Lw_law_18b {X : iz_X} {l : Launch} {b L : Nat} {xs : Nat → Int32} {k18 : Int32 → iz_S → Option Int32} (hk18 : ∀ (x3 : Int32) (S : iz_S), iz_Y X l RL tL_law 4 20 (iz_KL X b L xs) 18 [(0, .ref b), (1, .ref (X.1 0)), (2, .ref (X.1 82)), (3, .int x3)] [] S (k18 x3 S)) (x3 : Int32) (S : iz_S) : iz_Y X l RL tL_law 4 20 (iz_KL X b L xs) 18 [(0, .ref b), (1, .ref (X.1 0)), (2, .ref (X.1 82)), (3, .int x3)] [] S (Lw_law_18b L xs k18 x3 S) := by
  unfold Lw_law_18b
  refine iz_iload_n (n := 3) 10 3 rfl rfl ?_
  refine iz_aload_n (n := 0) 11 0 rfl rfl ?_
  refine iz_slen 12 rfl ?_
  refine iz_bipush (v := 6) 13 (by decide) rfl ?_
  refine iz_isub 14 rfl ?_
  refine iz_cmp_gt (tgt := 1256) 15 rfl (by decide) ?_ ?_
  · refine iz_iconst (v := 1) 866 (by decide) rfl ?_
    exact iz_lwret 867 rfl
  · refine iz_aload_n (n := 0) 16 0 rfl rfl ?_
    refine iz_iload_n (n := 3) 17 3 rfl rfl ?_
    refine iz_sld 18 rfl ?_
    refine iz_bipush (v := 63) 19 (by decide) rfl ?_
    refine iz_iand 20 rfl ?_
    refine iz_tsw2 (dtgt := 1250) 21 [192, 215, 238, 261, 284, 317, 340, 373, 396, 419, 442, 475, 498, 531, 564, 597, 630, 663, 696, 729, 742, 765, 788, 811, 844, 907, 940, 973, 996, 1039, 1092, 1135, 1158, 1181, 1204, 1227] rfl (by decide) (by decide) (by decide) ?_ ⟨?_, ?_, ?_, ?_, ?_, ?_, ?_, ?_, ?_, ?_, ?_, ?_, ?_, ?_, ?_, ?_, ?_, ?_, ?_, ?_, ?_, ?_, ?_, ?_, ?_, ?_, ?_, ?_, ?_, ?_, ?_, ?_, ?_, ?_, ?_, ?_, trivial⟩
    · exact c_Lw_law_1250 hk18 x3 S
    · refine iz_aload_n (n := 1) 22 1 rfl rfl ?_
      refine iz_aload_n (n := 0) 23 0 rfl rfl ?_
      refine iz_iload_n (n := 3) 24 3 rfl rfl ?_
      refine iz_iconst (v := 1) 25 (by decide) rfl ?_
      refine iz_iadd 26 rfl ?_
      refine iz_sld 27 rfl ?_
      refine iz_callVI (As := [.int (xs (Int32.toNatClampNeg (x3 + 1)))]) (rest := []) 28 ml_L_13 cw_X9_frost ci_X9_frost lw_s0 (fun r9 hr9 => m_Ic_frost lw_s0 hr9) rfl (by decide) (by decide) rfl rfl (Nat.le_of_ble_eq_true rfl) (fun r2 S1 => ?_)
      refine iz_aload_n (n := 2) 29 2 rfl rfl ?_
      refine iz_aload_n (n := 0) 30 0 rfl rfl ?_
      refine iz_iload_n (n := 3) 31 3 rfl rfl ?_
      refine iz_iconst (v := 1) 32 (by decide) rfl ?_
      refine iz_iadd 33 rfl ?_
      refine iz_sld 34 rfl ?_
      refine iz_callVI (As := [.int (xs (Int32.toNatClampNeg (x3 + 1)))]) (rest := [.int r2]) 35 ml_L_17 cw_X10_frost ci_X10_frost lw_s82 (fun r9 hr9 => m_Mo_frost lw_s82 hr9) rfl (by decide) (by decide) rfl rfl (Nat.le_of_ble_eq_true rfl) (fun r4 S3 => ?_)
      refine iz_cmp_eq (tgt := 1250) 36 rfl (by decide) ?_ ?_
      · exact c_Lw_law_1250 hk18 x3 S3
      · refine iz_iconst (v := 0) 37 (by decide) rfl ?_
        exact iz_lwret 38 rfl
    · refine iz_aload_n (n := 1) 39 1 rfl rfl ?_
      refine iz_aload_n (n := 0) 40 0 rfl rfl ?_
      refine iz_iload_n (n := 3) 41 3 rfl rfl ?_
      refine iz_iconst (v := 1) 42 (by decide) rfl ?_
      refine iz_iadd 43 rfl ?_
      refine iz_sld 44 rfl ?_
      refine iz_callVI (As := [.int (xs (Int32.toNatClampNeg (x3 + 1)))]) (rest := []) 45 ml_L_18 cw_X9_thaw ci_X9_thaw lw_s0 (fun r9 hr9 => m_Ic_thaw lw_s0 hr9) rfl (by decide) (by decide) rfl rfl (Nat.le_of_ble_eq_true rfl) (fun r6 S5 => ?_)
      refine iz_aload_n (n := 2) 46 2 rfl rfl ?_
      refine iz_aload_n (n := 0) 47 0 rfl rfl ?_
      refine iz_iload_n (n := 3) 48 3 rfl rfl ?_
      refine iz_iconst (v := 1) 49 (by decide) rfl ?_
      refine iz_iadd 50 rfl ?_
      refine iz_sld 51 rfl ?_
      refine iz_callVI (As := [.int (xs (Int32.toNatClampNeg (x3 + 1)))]) (rest := [.int r6]) 52 ml_L_21 cw_X10_thaw ci_X10_thaw lw_s82 (fun r9 hr9 => m_Mo_thaw lw_s82 hr9) rfl (by decide) (by decide) rfl rfl (Nat.le_of_ble_eq_true rfl) (fun r8 S7 => ?_)
      refine iz_cmp_eq (tgt := 1250) 53 rfl (by decide) ?_ ?_
      · exact c_Lw_law_1250 hk18 x3 S7
      · refine iz_iconst (v := 0) 54 (by decide) rfl ?_
        exact iz_lwret 55 rfl
    · refine iz_aload_n (n := 1) 56 1 rfl rfl ?_
      refine iz_aload_n (n := 0) 57 0 rfl rfl ?_
      refine iz_iload_n (n := 3) 58 3 rfl rfl ?_
      refine iz_iconst (v := 1) 59 (by decide) rfl ?_
      refine iz_iadd 60 rfl ?_
      refine iz_sld 61 rfl ?_
      refine iz_callVI (As := [.int (xs (Int32.toNatClampNeg (x3 + 1)))]) (rest := []) 62 ml_L_22 cw_X9_snow ci_X9_snow lw_s0 (fun r9 hr9 => m_Ic_snow lw_s0 hr9) rfl (by decide) (by decide) rfl rfl (Nat.le_of_ble_eq_true rfl) (fun r10 S9 => ?_)
      refine iz_aload_n (n := 2) 63 2 rfl rfl ?_
      refine iz_aload_n (n := 0) 64 0 rfl rfl ?_
      refine iz_iload_n (n := 3) 65 3 rfl rfl ?_
      refine iz_iconst (v := 1) 66 (by decide) rfl ?_
      refine iz_iadd 67 rfl ?_
      refine iz_sld 68 rfl ?_
      refine iz_callVI (As := [.int (xs (Int32.toNatClampNeg (x3 + 1)))]) (rest := [.int r10]) 69 ml_L_25 cw_X10_snow ci_X10_snow lw_s82 (fun r9 hr9 => m_Mo_snow lw_s82 hr9) rfl (by decide) (by decide) rfl rfl (Nat.le_of_ble_eq_true rfl) (fun r12 S11 => ?_)
      refine iz_cmp_eq (tgt := 1250) 70 rfl (by decide) ?_ ?_
      · exact c_Lw_law_1250 hk18 x3 S11
      · refine iz_iconst (v := 0) 71 (by decide) rfl ?_
        exact iz_lwret 72 rfl
    · refine iz_aload_n (n := 1) 73 1 rfl rfl ?_
      refine iz_aload_n (n := 0) 74 0 rfl rfl ?_
      refine iz_iload_n (n := 3) 75 3 rfl rfl ?_
      refine iz_iconst (v := 1) 76 (by decide) rfl ?_
      refine iz_iadd 77 rfl ?_
      refine iz_sld 78 rfl ?_
      refine iz_callVI (As := [.int (xs (Int32.toNatClampNeg (x3 + 1)))]) (rest := []) 79 ml_L_26 cw_X9_scrape ci_X9_scrape lw_s0 (fun r9 hr9 => m_Ic_scrape lw_s0 hr9) rfl (by decide) (by decide) rfl rfl (Nat.le_of_ble_eq_true rfl) (fun r14 S13 => ?_)
      refine iz_aload_n (n := 2) 80 2 rfl rfl ?_
      refine iz_aload_n (n := 0) 81 0 rfl rfl ?_
      refine iz_iload_n (n := 3) 82 3 rfl rfl ?_
      refine iz_iconst (v := 1) 83 (by decide) rfl ?_
      refine iz_iadd 84 rfl ?_
      refine iz_sld 85 rfl ?_
      refine iz_callVI (As := [.int (xs (Int32.toNatClampNeg (x3 + 1)))]) (rest := [.int r14]) 86 ml_L_29 cw_X10_scrape ci_X10_scrape lw_s82 (fun r9 hr9 => m_Mo_scrape lw_s82 hr9) rfl (by decide) (by decide) rfl rfl (Nat.le_of_ble_eq_true rfl) (fun r16 S15 => ?_)
      refine iz_cmp_eq (tgt := 1250) 87 rfl (by decide) ?_ ?_
      · exact c_Lw_law_1250 hk18 x3 S15
      · refine iz_iconst (v := 0) 88 (by decide) rfl ?_
        exact iz_lwret 89 rfl
    · refine iz_aload_n (n := 1) 90 1 rfl rfl ?_
      refine iz_aload_n (n := 0) 91 0 rfl rfl ?_
      refine iz_iload_n (n := 3) 92 3 rfl rfl ?_
      refine iz_iconst (v := 1) 93 (by decide) rfl ?_
      refine iz_iadd 94 rfl ?_
      refine iz_sld 95 rfl ?_
      refine iz_aload_n (n := 0) 96 0 rfl rfl ?_
      refine iz_iload_n (n := 3) 97 3 rfl rfl ?_
      refine iz_iconst (v := 2) 98 (by decide) rfl ?_
      refine iz_iadd 99 rfl ?_
      refine iz_sld 100 rfl ?_
      refine iz_callVI (As := [.int (xs (Int32.toNatClampNeg (x3 + 1))), .int (xs (Int32.toNatClampNeg (x3 + 2)))]) (rest := []) 101 ml_L_30 cw_X9_cell ci_X9_cell lw_s0 (fun r9 hr9 => m_Ic_cell lw_s0 hr9) rfl (by decide) (by decide) rfl rfl (Nat.le_of_ble_eq_true rfl) (fun r18 S17 => ?_)
      refine iz_aload_n (n := 2) 102 2 rfl rfl ?_
      refine iz_aload_n (n := 0) 103 0 rfl rfl ?_
      refine iz_iload_n (n := 3) 104 3 rfl rfl ?_
      refine iz_iconst (v := 1) 105 (by decide) rfl ?_
      refine iz_iadd 106 rfl ?_
      refine iz_sld 107 rfl ?_
      refine iz_aload_n (n := 0) 108 0 rfl rfl ?_
      refine iz_iload_n (n := 3) 109 3 rfl rfl ?_
      refine iz_iconst (v := 2) 110 (by decide) rfl ?_
      refine iz_iadd 111 rfl ?_
      refine iz_sld 112 rfl ?_
      refine iz_callVI (As := [.int (xs (Int32.toNatClampNeg (x3 + 1))), .int (xs (Int32.toNatClampNeg (x3 + 2)))]) (rest := [.int r18]) 113 ml_L_34 cw_X10_cell ci_X10_cell lw_s82 (fun r9 hr9 => m_Mo_cell lw_s82 hr9) rfl (by decide) (by decide) rfl rfl (Nat.le_of_ble_eq_true rfl) (fun r20 S19 => ?_)
      refine iz_cmp_eq (tgt := 1250) 114 rfl (by decide) ?_ ?_
      · exact c_Lw_law_1250 hk18 x3 S19
      · refine iz_iconst (v := 0) 115 (by decide) rfl ?_
        exact iz_lwret 116 rfl
    · refine iz_aload_n (n := 1) 117 1 rfl rfl ?_
      refine iz_aload_n (n := 0) 118 0 rfl rfl ?_
      refine iz_iload_n (n := 3) 119 3 rfl rfl ?_
      refine iz_iconst (v := 1) 120 (by decide) rfl ?_
      refine iz_iadd 121 rfl ?_
      refine iz_sld 122 rfl ?_
      refine iz_callVI (As := [.int (xs (Int32.toNatClampNeg (x3 + 1)))]) (rest := []) 123 ml_L_35 cw_X9_reached ci_X9_reached lw_s0 (fun r9 hr9 => m_Ic_reached lw_s0 hr9) rfl (by decide) (by decide) rfl rfl (Nat.le_of_ble_eq_true rfl) (fun r22 S21 => ?_)
      refine iz_aload_n (n := 2) 124 2 rfl rfl ?_
      refine iz_aload_n (n := 0) 125 0 rfl rfl ?_
      refine iz_iload_n (n := 3) 126 3 rfl rfl ?_
      refine iz_iconst (v := 1) 127 (by decide) rfl ?_
      refine iz_iadd 128 rfl ?_
      refine iz_sld 129 rfl ?_
      refine iz_callVI (As := [.int (xs (Int32.toNatClampNeg (x3 + 1)))]) (rest := [.int r22]) 130 ml_L_38 cw_X10_reached ci_X10_reached lw_s82 (fun r9 hr9 => m_Mo_reached lw_s82 hr9) rfl (by decide) (by decide) rfl rfl (Nat.le_of_ble_eq_true rfl) (fun r24 S23 => ?_)
      refine iz_cmp_eq (tgt := 1250) 131 rfl (by decide) ?_ ?_
      · exact c_Lw_law_1250 hk18 x3 S23
      · refine iz_iconst (v := 0) 132 (by decide) rfl ?_
        exact iz_lwret 133 rfl
    · refine iz_aload_n (n := 1) 134 1 rfl rfl ?_
      refine iz_aload_n (n := 0) 135 0 rfl rfl ?_
      refine iz_iload_n (n := 3) 136 3 rfl rfl ?_
      refine iz_iconst (v := 1) 137 (by decide) rfl ?_
      refine iz_iadd 138 rfl ?_
      refine iz_sld 139 rfl ?_
      refine iz_aload_n (n := 0) 140 0 rfl rfl ?_
      refine iz_iload_n (n := 3) 141 3 rfl rfl ?_
      refine iz_iconst (v := 2) 142 (by decide) rfl ?_
      refine iz_iadd 143 rfl ?_
      refine iz_sld 144 rfl ?_
      refine iz_callVI (As := [.int (xs (Int32.toNatClampNeg (x3 + 1))), .int (xs (Int32.toNatClampNeg (x3 + 2)))]) (rest := []) 145 ml_L_39 cw_X9_reach ci_X9_reach lw_s0 (fun r9 hr9 => m_Ic_reach lw_s0 hr9) rfl (by decide) (by decide) rfl rfl (Nat.le_of_ble_eq_true rfl) (fun r26 S25 => ?_)
      refine iz_aload_n (n := 2) 146 2 rfl rfl ?_
      refine iz_aload_n (n := 0) 147 0 rfl rfl ?_
      refine iz_iload_n (n := 3) 148 3 rfl rfl ?_
      refine iz_iconst (v := 1) 149 (by decide) rfl ?_
      refine iz_iadd 150 rfl ?_
      refine iz_sld 151 rfl ?_
      refine iz_aload_n (n := 0) 152 0 rfl rfl ?_
      refine iz_iload_n (n := 3) 153 3 rfl rfl ?_
      refine iz_iconst (v := 2) 154 (by decide) rfl ?_
      refine iz_iadd 155 rfl ?_
      refine iz_sld 156 rfl ?_
      refine iz_callVI (As := [.int (xs (Int32.toNatClampNeg (x3 + 1))), .int (xs (Int32.toNatClampNeg (x3 + 2)))]) (rest := [.int r26]) 157 ml_L_42 cw_X10_reach ci_X10_reach lw_s82 (fun r9 hr9 => m_Mo_reach lw_s82 hr9) rfl (by decide) (by decide) rfl rfl (Nat.le_of_ble_eq_true rfl) (fun r28 S27 => ?_)
      refine iz_cmp_eq (tgt := 1250) 158 rfl (by decide) ?_ ?_
      · exact c_Lw_law_1250 hk18 x3 S27
      · refine iz_iconst (v := 0) 159 (by decide) rfl ?_
        exact iz_lwret 160 rfl
    · refine iz_aload_n (n := 1) 161 1 rfl rfl ?_
      refine iz_aload_n (n := 0) 162 0 rfl rfl ?_
      refine iz_iload_n (n := 3) 163 3 rfl rfl ?_
      refine iz_iconst (v := 1) 164 (by decide) rfl ?_
      refine iz_iadd 165 rfl ?_
      refine iz_sld 166 rfl ?_
      refine iz_callVI (As := [.int (xs (Int32.toNatClampNeg (x3 + 1)))]) (rest := []) 167 ml_L_43 cw_X9_bars ci_X9_bars lw_s0 (fun r9 hr9 => m_Ic_bars lw_s0 hr9) rfl (by decide) (by decide) rfl rfl (Nat.le_of_ble_eq_true rfl) (fun r30 S29 => ?_)
      refine iz_aload_n (n := 2) 168 2 rfl rfl ?_
      refine iz_aload_n (n := 0) 169 0 rfl rfl ?_
      refine iz_iload_n (n := 3) 170 3 rfl rfl ?_
      refine iz_iconst (v := 1) 171 (by decide) rfl ?_
      refine iz_iadd 172 rfl ?_
      refine iz_sld 173 rfl ?_
      refine iz_callVI (As := [.int (xs (Int32.toNatClampNeg (x3 + 1)))]) (rest := [.int r30]) 174 ml_L_46 cw_X10_bars ci_X10_bars lw_s82 (fun r9 hr9 => m_Mo_bars lw_s82 hr9) rfl (by decide) (by decide) rfl rfl (Nat.le_of_ble_eq_true rfl) (fun r32 S31 => ?_)
      refine iz_cmp_eq (tgt := 1250) 175 rfl (by decide) ?_ ?_
      · exact c_Lw_law_1250 hk18 x3 S31
      · refine iz_iconst (v := 0) 176 (by decide) rfl ?_
        exact iz_lwret 177 rfl
    · refine iz_aload_n (n := 1) 178 1 rfl rfl ?_
      refine iz_aload_n (n := 0) 179 0 rfl rfl ?_
      refine iz_iload_n (n := 3) 180 3 rfl rfl ?_
      refine iz_iconst (v := 1) 181 (by decide) rfl ?_
      refine iz_iadd 182 rfl ?_
      refine iz_sld 183 rfl ?_
      refine iz_callVI (As := [.int (xs (Int32.toNatClampNeg (x3 + 1)))]) (rest := []) 184 ml_L_47 cw_X9_cut ci_X9_cut lw_s0 (fun r9 hr9 => m_Ic_cut lw_s0 hr9) rfl (by decide) (by decide) rfl rfl (Nat.le_of_ble_eq_true rfl) (fun r34 S33 => ?_)
      refine iz_aload_n (n := 2) 185 2 rfl rfl ?_
      refine iz_aload_n (n := 0) 186 0 rfl rfl ?_
      refine iz_iload_n (n := 3) 187 3 rfl rfl ?_
      refine iz_iconst (v := 1) 188 (by decide) rfl ?_
      refine iz_iadd 189 rfl ?_
      refine iz_sld 190 rfl ?_
      refine iz_callVI (As := [.int (xs (Int32.toNatClampNeg (x3 + 1)))]) (rest := [.int r34]) 191 ml_L_50 cw_X10_cut ci_X10_cut lw_s82 (fun r9 hr9 => m_Mo_cut lw_s82 hr9) rfl (by decide) (by decide) rfl rfl (Nat.le_of_ble_eq_true rfl) (fun r36 S35 => ?_)
      refine iz_cmp_eq (tgt := 1250) 192 rfl (by decide) ?_ ?_
      · exact c_Lw_law_1250 hk18 x3 S35
      · refine iz_iconst (v := 0) 193 (by decide) rfl ?_
        exact iz_lwret 194 rfl
    · refine iz_aload_n (n := 1) 195 1 rfl rfl ?_
      refine iz_aload_n (n := 0) 196 0 rfl rfl ?_
      refine iz_iload_n (n := 3) 197 3 rfl rfl ?_
      refine iz_iconst (v := 1) 198 (by decide) rfl ?_
      refine iz_iadd 199 rfl ?_
      refine iz_sld 200 rfl ?_
      refine iz_callVI (As := [.int (xs (Int32.toNatClampNeg (x3 + 1)))]) (rest := []) 201 ml_L_51 cw_X9_season ci_X9_season lw_s0 (fun r9 hr9 => m_Ic_season lw_s0 hr9) rfl (by decide) (by decide) rfl rfl (Nat.le_of_ble_eq_true rfl) (fun r38 S37 => ?_)
      refine iz_aload_n (n := 2) 202 2 rfl rfl ?_
      refine iz_aload_n (n := 0) 203 0 rfl rfl ?_
      refine iz_iload_n (n := 3) 204 3 rfl rfl ?_
      refine iz_iconst (v := 1) 205 (by decide) rfl ?_
      refine iz_iadd 206 rfl ?_
      refine iz_sld 207 rfl ?_
      refine iz_callVI (As := [.int (xs (Int32.toNatClampNeg (x3 + 1)))]) (rest := [.int r38]) 208 ml_L_54 cw_X10_season ci_X10_season lw_s82 (fun r9 hr9 => m_Mo_season lw_s82 hr9) rfl (by decide) (by decide) rfl rfl (Nat.le_of_ble_eq_true rfl) (fun r40 S39 => ?_)
      refine iz_cmp_eq (tgt := 1250) 209 rfl (by decide) ?_ ?_
      · exact c_Lw_law_1250 hk18 x3 S39
      · refine iz_iconst (v := 0) 210 (by decide) rfl ?_
        exact iz_lwret 211 rfl
    · refine iz_aload_n (n := 1) 212 1 rfl rfl ?_
      refine iz_aload_n (n := 0) 213 0 rfl rfl ?_
      refine iz_iload_n (n := 3) 214 3 rfl rfl ?_
      refine iz_iconst (v := 1) 215 (by decide) rfl ?_
      refine iz_iadd 216 rfl ?_
      refine iz_sld 217 rfl ?_
      refine iz_aload_n (n := 0) 218 0 rfl rfl ?_
      refine iz_iload_n (n := 3) 219 3 rfl rfl ?_
      refine iz_iconst (v := 2) 220 (by decide) rfl ?_
      refine iz_iadd 221 rfl ?_
      refine iz_sld 222 rfl ?_
      refine iz_callVI (As := [.int (xs (Int32.toNatClampNeg (x3 + 1))), .int (xs (Int32.toNatClampNeg (x3 + 2)))]) (rest := []) 223 ml_L_55 cw_X9_put ci_X9_put lw_s0 (fun r9 hr9 => m_Ic_put lw_s0 hr9) rfl (by decide) (by decide) rfl rfl (Nat.le_of_ble_eq_true rfl) (fun r42 S41 => ?_)
      refine iz_aload_n (n := 2) 224 2 rfl rfl ?_
      refine iz_aload_n (n := 0) 225 0 rfl rfl ?_
      refine iz_iload_n (n := 3) 226 3 rfl rfl ?_
      refine iz_iconst (v := 1) 227 (by decide) rfl ?_
      refine iz_iadd 228 rfl ?_
      refine iz_sld 229 rfl ?_
      refine iz_aload_n (n := 0) 230 0 rfl rfl ?_
      refine iz_iload_n (n := 3) 231 3 rfl rfl ?_
      refine iz_iconst (v := 2) 232 (by decide) rfl ?_
      refine iz_iadd 233 rfl ?_
      refine iz_sld 234 rfl ?_
      refine iz_callVI (As := [.int (xs (Int32.toNatClampNeg (x3 + 1))), .int (xs (Int32.toNatClampNeg (x3 + 2)))]) (rest := [.int r42]) 235 ml_L_58 cw_X10_put ci_X10_put lw_s82 (fun r9 hr9 => m_Mo_put lw_s82 hr9) rfl (by decide) (by decide) rfl rfl (Nat.le_of_ble_eq_true rfl) (fun r44 S43 => ?_)
      refine iz_cmp_eq (tgt := 1250) 236 rfl (by decide) ?_ ?_
      · exact c_Lw_law_1250 hk18 x3 S43
      · refine iz_iconst (v := 0) 237 (by decide) rfl ?_
        exact iz_lwret 238 rfl
    · refine iz_aload_n (n := 1) 239 1 rfl rfl ?_
      refine iz_aload_n (n := 0) 240 0 rfl rfl ?_
      refine iz_iload_n (n := 3) 241 3 rfl rfl ?_
      refine iz_iconst (v := 1) 242 (by decide) rfl ?_
      refine iz_iadd 243 rfl ?_
      refine iz_sld 244 rfl ?_
      refine iz_callVI (As := [.int (xs (Int32.toNatClampNeg (x3 + 1)))]) (rest := []) 245 ml_L_59 cw_X9_take ci_X9_take lw_s0 (fun r9 hr9 => m_Ic_take lw_s0 hr9) rfl (by decide) (by decide) rfl rfl (Nat.le_of_ble_eq_true rfl) (fun r46 S45 => ?_)
      refine iz_aload_n (n := 2) 246 2 rfl rfl ?_
      refine iz_aload_n (n := 0) 247 0 rfl rfl ?_
      refine iz_iload_n (n := 3) 248 3 rfl rfl ?_
      refine iz_iconst (v := 1) 249 (by decide) rfl ?_
      refine iz_iadd 250 rfl ?_
      refine iz_sld 251 rfl ?_
      refine iz_callVI (As := [.int (xs (Int32.toNatClampNeg (x3 + 1)))]) (rest := [.int r46]) 252 ml_L_62 cw_X10_take ci_X10_take lw_s82 (fun r9 hr9 => m_Mo_take lw_s82 hr9) rfl (by decide) (by decide) rfl rfl (Nat.le_of_ble_eq_true rfl) (fun r48 S47 => ?_)
      refine iz_cmp_eq (tgt := 1250) 253 rfl (by decide) ?_ ?_
      · exact c_Lw_law_1250 hk18 x3 S47
      · refine iz_iconst (v := 0) 254 (by decide) rfl ?_
        exact iz_lwret 255 rfl
    · refine iz_aload_n (n := 1) 256 1 rfl rfl ?_
      refine iz_aload_n (n := 0) 257 0 rfl rfl ?_
      refine iz_iload_n (n := 3) 258 3 rfl rfl ?_
      refine iz_iconst (v := 1) 259 (by decide) rfl ?_
      refine iz_iadd 260 rfl ?_
      refine iz_sld 261 rfl ?_
      refine iz_aload_n (n := 0) 262 0 rfl rfl ?_
      refine iz_iload_n (n := 3) 263 3 rfl rfl ?_
      refine iz_iconst (v := 2) 264 (by decide) rfl ?_
      refine iz_iadd 265 rfl ?_
      refine iz_sld 266 rfl ?_
      refine iz_callVI (As := [.int (xs (Int32.toNatClampNeg (x3 + 1))), .int (xs (Int32.toNatClampNeg (x3 + 2)))]) (rest := []) 267 ml_L_63 cw_X9_move ci_X9_move lw_s0 (fun r9 hr9 => m_Ic_move lw_s0 hr9) rfl (by decide) (by decide) rfl rfl (Nat.le_of_ble_eq_true rfl) (fun r50 S49 => ?_)
      refine iz_aload_n (n := 2) 268 2 rfl rfl ?_
      refine iz_aload_n (n := 0) 269 0 rfl rfl ?_
      refine iz_iload_n (n := 3) 270 3 rfl rfl ?_
      refine iz_iconst (v := 1) 271 (by decide) rfl ?_
      refine iz_iadd 272 rfl ?_
      refine iz_sld 273 rfl ?_
      refine iz_aload_n (n := 0) 274 0 rfl rfl ?_
      refine iz_iload_n (n := 3) 275 3 rfl rfl ?_
      refine iz_iconst (v := 2) 276 (by decide) rfl ?_
      refine iz_iadd 277 rfl ?_
      refine iz_sld 278 rfl ?_
      refine iz_callVI (As := [.int (xs (Int32.toNatClampNeg (x3 + 1))), .int (xs (Int32.toNatClampNeg (x3 + 2)))]) (rest := [.int r50]) 279 ml_L_66 cw_X10_move ci_X10_move lw_s82 (fun r9 hr9 => m_Mo_move lw_s82 hr9) rfl (by decide) (by decide) rfl rfl (Nat.le_of_ble_eq_true rfl) (fun r52 S51 => ?_)
      refine iz_cmp_eq (tgt := 1250) 280 rfl (by decide) ?_ ?_
      · exact c_Lw_law_1250 hk18 x3 S51
      · refine iz_iconst (v := 0) 281 (by decide) rfl ?_
        exact iz_lwret 282 rfl
    · refine iz_aload_n (n := 1) 283 1 rfl rfl ?_
      refine iz_aload_n (n := 0) 284 0 rfl rfl ?_
      refine iz_iload_n (n := 3) 285 3 rfl rfl ?_
      refine iz_iconst (v := 1) 286 (by decide) rfl ?_
      refine iz_iadd 287 rfl ?_
      refine iz_sld 288 rfl ?_
      refine iz_aload_n (n := 0) 289 0 rfl rfl ?_
      refine iz_iload_n (n := 3) 290 3 rfl rfl ?_
      refine iz_iconst (v := 2) 291 (by decide) rfl ?_
      refine iz_iadd 292 rfl ?_
      refine iz_sld 293 rfl ?_
      refine iz_callVI (As := [.int (xs (Int32.toNatClampNeg (x3 + 1))), .int (xs (Int32.toNatClampNeg (x3 + 2)))]) (rest := []) 294 ml_L_67 cw_X9_as ci_X9_as lw_s0 (fun r9 hr9 => m_Ic_as lw_s0 hr9) rfl (by decide) (by decide) rfl rfl (Nat.le_of_ble_eq_true rfl) (fun r54 S53 => ?_)
      refine iz_aload_n (n := 2) 295 2 rfl rfl ?_
      refine iz_aload_n (n := 0) 296 0 rfl rfl ?_
      refine iz_iload_n (n := 3) 297 3 rfl rfl ?_
      refine iz_iconst (v := 1) 298 (by decide) rfl ?_
      refine iz_iadd 299 rfl ?_
      refine iz_sld 300 rfl ?_
      refine iz_aload_n (n := 0) 301 0 rfl rfl ?_
      refine iz_iload_n (n := 3) 302 3 rfl rfl ?_
      refine iz_iconst (v := 2) 303 (by decide) rfl ?_
      refine iz_iadd 304 rfl ?_
      refine iz_sld 305 rfl ?_
      refine iz_callVI (As := [.int (xs (Int32.toNatClampNeg (x3 + 1))), .int (xs (Int32.toNatClampNeg (x3 + 2)))]) (rest := [.int r54]) 306 ml_L_70 cw_X10_as ci_X10_as lw_s82 (fun r9 hr9 => m_Mo_as lw_s82 hr9) rfl (by decide) (by decide) rfl rfl (Nat.le_of_ble_eq_true rfl) (fun r56 S55 => ?_)
      refine iz_cmp_eq (tgt := 1250) 307 rfl (by decide) ?_ ?_
      · exact c_Lw_law_1250 hk18 x3 S55
      · refine iz_iconst (v := 0) 308 (by decide) rfl ?_
        exact iz_lwret 309 rfl
    · refine iz_aload_n (n := 1) 310 1 rfl rfl ?_
      refine iz_aload_n (n := 0) 311 0 rfl rfl ?_
      refine iz_iload_n (n := 3) 312 3 rfl rfl ?_
      refine iz_iconst (v := 1) 313 (by decide) rfl ?_
      refine iz_iadd 314 rfl ?_
      refine iz_sld 315 rfl ?_
      refine iz_aload_n (n := 0) 316 0 rfl rfl ?_
      refine iz_iload_n (n := 3) 317 3 rfl rfl ?_
      refine iz_iconst (v := 2) 318 (by decide) rfl ?_
      refine iz_iadd 319 rfl ?_
      refine iz_sld 320 rfl ?_
      refine iz_callVI (As := [.int (xs (Int32.toNatClampNeg (x3 + 1))), .int (xs (Int32.toNatClampNeg (x3 + 2)))]) (rest := []) 321 ml_L_71 cw_X9_about ci_X9_about lw_s0 (fun r9 hr9 => m_Ic_about lw_s0 hr9) rfl (by decide) (by decide) rfl rfl (Nat.le_of_ble_eq_true rfl) (fun r58 S57 => ?_)
      refine iz_aload_n (n := 2) 322 2 rfl rfl ?_
      refine iz_aload_n (n := 0) 323 0 rfl rfl ?_
      refine iz_iload_n (n := 3) 324 3 rfl rfl ?_
      refine iz_iconst (v := 1) 325 (by decide) rfl ?_
      refine iz_iadd 326 rfl ?_
      refine iz_sld 327 rfl ?_
      refine iz_aload_n (n := 0) 328 0 rfl rfl ?_
      refine iz_iload_n (n := 3) 329 3 rfl rfl ?_
      refine iz_iconst (v := 2) 330 (by decide) rfl ?_
      refine iz_iadd 331 rfl ?_
      refine iz_sld 332 rfl ?_
      refine iz_callVI (As := [.int (xs (Int32.toNatClampNeg (x3 + 1))), .int (xs (Int32.toNatClampNeg (x3 + 2)))]) (rest := [.int r58]) 333 ml_L_74 cw_X10_about ci_X10_about lw_s82 (fun r9 hr9 => m_Mo_about lw_s82 hr9) rfl (by decide) (by decide) rfl rfl (Nat.le_of_ble_eq_true rfl) (fun r60 S59 => ?_)
      refine iz_cmp_eq (tgt := 1250) 334 rfl (by decide) ?_ ?_
      · exact c_Lw_law_1250 hk18 x3 S59
      · refine iz_iconst (v := 0) 335 (by decide) rfl ?_
        exact iz_lwret 336 rfl
    · refine iz_aload_n (n := 1) 337 1 rfl rfl ?_
      refine iz_aload_n (n := 0) 338 0 rfl rfl ?_
      refine iz_iload_n (n := 3) 339 3 rfl rfl ?_
      refine iz_iconst (v := 1) 340 (by decide) rfl ?_
      refine iz_iadd 341 rfl ?_
      refine iz_sld 342 rfl ?_
      refine iz_aload_n (n := 0) 343 0 rfl rfl ?_
      refine iz_iload_n (n := 3) 344 3 rfl rfl ?_
      refine iz_iconst (v := 2) 345 (by decide) rfl ?_
      refine iz_iadd 346 rfl ?_
      refine iz_sld 347 rfl ?_
      refine iz_callVI (As := [.int (xs (Int32.toNatClampNeg (x3 + 1))), .int (xs (Int32.toNatClampNeg (x3 + 2)))]) (rest := []) 348 ml_L_75 cw_X9_at ci_X9_at lw_s0 (fun r9 hr9 => m_Ic_at lw_s0 hr9) rfl (by decide) (by decide) rfl rfl (Nat.le_of_ble_eq_true rfl) (fun r62 S61 => ?_)
      refine iz_aload_n (n := 2) 349 2 rfl rfl ?_
      refine iz_aload_n (n := 0) 350 0 rfl rfl ?_
      refine iz_iload_n (n := 3) 351 3 rfl rfl ?_
      refine iz_iconst (v := 1) 352 (by decide) rfl ?_
      refine iz_iadd 353 rfl ?_
      refine iz_sld 354 rfl ?_
      refine iz_aload_n (n := 0) 355 0 rfl rfl ?_
      refine iz_iload_n (n := 3) 356 3 rfl rfl ?_
      refine iz_iconst (v := 2) 357 (by decide) rfl ?_
      refine iz_iadd 358 rfl ?_
      refine iz_sld 359 rfl ?_
      refine iz_callVI (As := [.int (xs (Int32.toNatClampNeg (x3 + 1))), .int (xs (Int32.toNatClampNeg (x3 + 2)))]) (rest := [.int r62]) 360 ml_L_78 cw_X10_at ci_X10_at lw_s82 (fun r9 hr9 => m_Mo_at lw_s82 hr9) rfl (by decide) (by decide) rfl rfl (Nat.le_of_ble_eq_true rfl) (fun r64 S63 => ?_)
      refine iz_cmp_eq (tgt := 1250) 361 rfl (by decide) ?_ ?_
      · exact c_Lw_law_1250 hk18 x3 S63
      · refine iz_iconst (v := 0) 362 (by decide) rfl ?_
        exact iz_lwret 363 rfl
    · refine iz_aload_n (n := 1) 364 1 rfl rfl ?_
      refine iz_aload_n (n := 0) 365 0 rfl rfl ?_
      refine iz_iload_n (n := 3) 366 3 rfl rfl ?_
      refine iz_iconst (v := 1) 367 (by decide) rfl ?_
      refine iz_iadd 368 rfl ?_
      refine iz_sld 369 rfl ?_
      refine iz_aload_n (n := 0) 370 0 rfl rfl ?_
      refine iz_iload_n (n := 3) 371 3 rfl rfl ?_
      refine iz_iconst (v := 2) 372 (by decide) rfl ?_
      refine iz_iadd 373 rfl ?_
      refine iz_sld 374 rfl ?_
      refine iz_callVI (As := [.int (xs (Int32.toNatClampNeg (x3 + 1))), .int (xs (Int32.toNatClampNeg (x3 + 2)))]) (rest := []) 375 ml_L_79 cw_X9_dust ci_X9_dust lw_s0 (fun r9 hr9 => m_Ic_dust lw_s0 hr9) rfl (by decide) (by decide) rfl rfl (Nat.le_of_ble_eq_true rfl) (fun r66 S65 => ?_)
      refine iz_aload_n (n := 2) 376 2 rfl rfl ?_
      refine iz_aload_n (n := 0) 377 0 rfl rfl ?_
      refine iz_iload_n (n := 3) 378 3 rfl rfl ?_
      refine iz_iconst (v := 1) 379 (by decide) rfl ?_
      refine iz_iadd 380 rfl ?_
      refine iz_sld 381 rfl ?_
      refine iz_aload_n (n := 0) 382 0 rfl rfl ?_
      refine iz_iload_n (n := 3) 383 3 rfl rfl ?_
      refine iz_iconst (v := 2) 384 (by decide) rfl ?_
      refine iz_iadd 385 rfl ?_
      refine iz_sld 386 rfl ?_
      refine iz_callVI (As := [.int (xs (Int32.toNatClampNeg (x3 + 1))), .int (xs (Int32.toNatClampNeg (x3 + 2)))]) (rest := [.int r66]) 387 ml_L_82 cw_X10_dust ci_X10_dust lw_s82 (fun r9 hr9 => m_Mo_dust lw_s82 hr9) rfl (by decide) (by decide) rfl rfl (Nat.le_of_ble_eq_true rfl) (fun r68 S67 => ?_)
      refine iz_cmp_eq (tgt := 1250) 388 rfl (by decide) ?_ ?_
      · exact c_Lw_law_1250 hk18 x3 S67
      · refine iz_iconst (v := 0) 389 (by decide) rfl ?_
        exact iz_lwret 390 rfl
    · refine iz_aload_n (n := 1) 391 1 rfl rfl ?_
      refine iz_aload_n (n := 0) 392 0 rfl rfl ?_
      refine iz_iload_n (n := 3) 393 3 rfl rfl ?_
      refine iz_iconst (v := 1) 394 (by decide) rfl ?_
      refine iz_iadd 395 rfl ?_
      refine iz_sld 396 rfl ?_
      refine iz_aload_n (n := 0) 397 0 rfl rfl ?_
      refine iz_iload_n (n := 3) 398 3 rfl rfl ?_
      refine iz_iconst (v := 2) 399 (by decide) rfl ?_
      refine iz_iadd 400 rfl ?_
      refine iz_sld 401 rfl ?_
      refine iz_callVI (As := [.int (xs (Int32.toNatClampNeg (x3 + 1))), .int (xs (Int32.toNatClampNeg (x3 + 2)))]) (rest := []) 402 ml_L_83 cw_X9_cover ci_X9_cover lw_s0 (fun r9 hr9 => m_Ic_cover lw_s0 hr9) rfl (by decide) (by decide) rfl rfl (Nat.le_of_ble_eq_true rfl) (fun r70 S69 => ?_)
      refine iz_aload_n (n := 2) 403 2 rfl rfl ?_
      refine iz_aload_n (n := 0) 404 0 rfl rfl ?_
      refine iz_iload_n (n := 3) 405 3 rfl rfl ?_
      refine iz_iconst (v := 1) 406 (by decide) rfl ?_
      refine iz_iadd 407 rfl ?_
      refine iz_sld 408 rfl ?_
      refine iz_aload_n (n := 0) 409 0 rfl rfl ?_
      refine iz_iload_n (n := 3) 410 3 rfl rfl ?_
      refine iz_iconst (v := 2) 411 (by decide) rfl ?_
      refine iz_iadd 412 rfl ?_
      refine iz_sld 413 rfl ?_
      refine iz_callVI (As := [.int (xs (Int32.toNatClampNeg (x3 + 1))), .int (xs (Int32.toNatClampNeg (x3 + 2)))]) (rest := [.int r70]) 414 ml_L_86 cw_X10_cover ci_X10_cover lw_s82 (fun r9 hr9 => m_Mo_cover lw_s82 hr9) rfl (by decide) (by decide) rfl rfl (Nat.le_of_ble_eq_true rfl) (fun r72 S71 => ?_)
      refine iz_cmp_eq (tgt := 1250) 415 rfl (by decide) ?_ ?_
      · exact c_Lw_law_1250 hk18 x3 S71
      · refine iz_iconst (v := 0) 416 (by decide) rfl ?_
        exact iz_lwret 417 rfl
    · refine iz_aload_n (n := 1) 418 1 rfl rfl ?_
      refine iz_aload_n (n := 0) 419 0 rfl rfl ?_
      refine iz_iload_n (n := 3) 420 3 rfl rfl ?_
      refine iz_iconst (v := 1) 421 (by decide) rfl ?_
      refine iz_iadd 422 rfl ?_
      refine iz_sld 423 rfl ?_
      refine iz_aload_n (n := 0) 424 0 rfl rfl ?_
      refine iz_iload_n (n := 3) 425 3 rfl rfl ?_
      refine iz_iconst (v := 2) 426 (by decide) rfl ?_
      refine iz_iadd 427 rfl ?_
      refine iz_sld 428 rfl ?_
      refine iz_callVI (As := [.int (xs (Int32.toNatClampNeg (x3 + 1))), .int (xs (Int32.toNatClampNeg (x3 + 2)))]) (rest := []) 429 ml_L_87 cw_X9_warmth ci_X9_warmth lw_s0 (fun r9 hr9 => m_Ic_warmth lw_s0 hr9) rfl (by decide) (by decide) rfl rfl (Nat.le_of_ble_eq_true rfl) (fun r74 S73 => ?_)
      refine iz_aload_n (n := 2) 430 2 rfl rfl ?_
      refine iz_aload_n (n := 0) 431 0 rfl rfl ?_
      refine iz_iload_n (n := 3) 432 3 rfl rfl ?_
      refine iz_iconst (v := 1) 433 (by decide) rfl ?_
      refine iz_iadd 434 rfl ?_
      refine iz_sld 435 rfl ?_
      refine iz_aload_n (n := 0) 436 0 rfl rfl ?_
      refine iz_iload_n (n := 3) 437 3 rfl rfl ?_
      refine iz_iconst (v := 2) 438 (by decide) rfl ?_
      refine iz_iadd 439 rfl ?_
      refine iz_sld 440 rfl ?_
      refine iz_callVI (As := [.int (xs (Int32.toNatClampNeg (x3 + 1))), .int (xs (Int32.toNatClampNeg (x3 + 2)))]) (rest := [.int r74]) 441 ml_L_90 cw_X10_warmth ci_X10_warmth lw_s82 (fun r9 hr9 => m_Mo_warmth lw_s82 hr9) rfl (by decide) (by decide) rfl rfl (Nat.le_of_ble_eq_true rfl) (fun r76 S75 => ?_)
      refine iz_cmp_eq (tgt := 1250) 442 rfl (by decide) ?_ ?_
      · exact c_Lw_law_1250 hk18 x3 S75
      · refine iz_iconst (v := 0) 443 (by decide) rfl ?_
        exact iz_lwret 444 rfl
    · refine iz_aload_n (n := 1) 445 1 rfl rfl ?_
      refine iz_callVI (As := []) (rest := []) 446 ml_L_91 cw_X9_melts ci_X9_melts lw_s0 (fun r9 hr9 => m_Ic_melts lw_s0 hr9) rfl (by decide) (by decide) rfl rfl (Nat.le_of_ble_eq_true rfl) (fun r78 S77 => ?_)
      refine iz_aload_n (n := 2) 447 2 rfl rfl ?_
      refine iz_callVI (As := []) (rest := [.int r78]) 448 ml_L_95 cw_X10_melts ci_X10_melts lw_s82 (fun r9 hr9 => m_Mo_melts lw_s82 hr9) rfl (by decide) (by decide) rfl rfl (Nat.le_of_ble_eq_true rfl) (fun r80 S79 => ?_)
      refine iz_cmp_eq (tgt := 1250) 449 rfl (by decide) ?_ ?_
      · exact c_Lw_law_1250 hk18 x3 S79
      · refine iz_iconst (v := 0) 450 (by decide) rfl ?_
        exact iz_lwret 451 rfl
    · refine iz_aload_n (n := 1) 452 1 rfl rfl ?_
      refine iz_aload_n (n := 0) 453 0 rfl rfl ?_
      refine iz_iload_n (n := 3) 454 3 rfl rfl ?_
      refine iz_iconst (v := 1) 455 (by decide) rfl ?_
      refine iz_iadd 456 rfl ?_
      refine iz_sld 457 rfl ?_
      refine iz_callVI (As := [.int (xs (Int32.toNatClampNeg (x3 + 1)))]) (rest := []) 458 ml_L_96 cw_X9_weeks ci_X9_weeks lw_s0 (fun r9 hr9 => m_Ic_weeks lw_s0 hr9) rfl (by decide) (by decide) rfl rfl (Nat.le_of_ble_eq_true rfl) (fun r82 S81 => ?_)
      refine iz_aload_n (n := 2) 459 2 rfl rfl ?_
      refine iz_aload_n (n := 0) 460 0 rfl rfl ?_
      refine iz_iload_n (n := 3) 461 3 rfl rfl ?_
      refine iz_iconst (v := 1) 462 (by decide) rfl ?_
      refine iz_iadd 463 rfl ?_
      refine iz_sld 464 rfl ?_
      refine iz_callVI (As := [.int (xs (Int32.toNatClampNeg (x3 + 1)))]) (rest := [.int r82]) 465 ml_L_99 cw_X10_weeks ci_X10_weeks lw_s82 (fun r9 hr9 => m_Mo_weeks lw_s82 hr9) rfl (by decide) (by decide) rfl rfl (Nat.le_of_ble_eq_true rfl) (fun r84 S83 => ?_)
      refine iz_cmp_eq (tgt := 1250) 466 rfl (by decide) ?_ ?_
      · exact c_Lw_law_1250 hk18 x3 S83
      · refine iz_iconst (v := 0) 467 (by decide) rfl ?_
        exact iz_lwret 468 rfl
    · refine iz_aload_n (n := 1) 469 1 rfl rfl ?_
      refine iz_aload_n (n := 0) 470 0 rfl rfl ?_
      refine iz_iload_n (n := 3) 471 3 rfl rfl ?_
      refine iz_iconst (v := 1) 472 (by decide) rfl ?_
      refine iz_iadd 473 rfl ?_
      refine iz_sld 474 rfl ?_
      refine iz_callVI (As := [.int (xs (Int32.toNatClampNeg (x3 + 1)))]) (rest := []) 475 ml_L_100 cw_X9_after ci_X9_after lw_s0 (fun r9 hr9 => m_Ic_after lw_s0 hr9) rfl (by decide) (by decide) rfl rfl (Nat.le_of_ble_eq_true rfl) (fun r86 S85 => ?_)
      refine iz_aload_n (n := 2) 476 2 rfl rfl ?_
      refine iz_aload_n (n := 0) 477 0 rfl rfl ?_
      refine iz_iload_n (n := 3) 478 3 rfl rfl ?_
      refine iz_iconst (v := 1) 479 (by decide) rfl ?_
      refine iz_iadd 480 rfl ?_
      refine iz_sld 481 rfl ?_
      refine iz_callVI (As := [.int (xs (Int32.toNatClampNeg (x3 + 1)))]) (rest := [.int r86]) 482 ml_L_103 cw_X10_after ci_X10_after lw_s82 (fun r9 hr9 => m_Mo_after lw_s82 hr9) rfl (by decide) (by decide) rfl rfl (Nat.le_of_ble_eq_true rfl) (fun r88 S87 => ?_)
      refine iz_cmp_eq (tgt := 1250) 483 rfl (by decide) ?_ ?_
      · exact c_Lw_law_1250 hk18 x3 S87
      · refine iz_iconst (v := 0) 484 (by decide) rfl ?_
        exact iz_lwret 485 rfl
    · refine iz_aload_n (n := 1) 486 1 rfl rfl ?_
      refine iz_aload_n (n := 0) 487 0 rfl rfl ?_
      refine iz_iload_n (n := 3) 488 3 rfl rfl ?_
      refine iz_iconst (v := 1) 489 (by decide) rfl ?_
      refine iz_iadd 490 rfl ?_
      refine iz_sld 491 rfl ?_
      refine iz_callVI (As := [.int (xs (Int32.toNatClampNeg (x3 + 1)))]) (rest := []) 492 ml_L_104 cw_X9_lasts ci_X9_lasts lw_s0 (fun r9 hr9 => m_Ic_lasts lw_s0 hr9) rfl (by decide) (by decide) rfl rfl (Nat.le_of_ble_eq_true rfl) (fun r90 S89 => ?_)
      refine iz_aload_n (n := 2) 493 2 rfl rfl ?_
      refine iz_aload_n (n := 0) 494 0 rfl rfl ?_
      refine iz_iload_n (n := 3) 495 3 rfl rfl ?_
      refine iz_iconst (v := 1) 496 (by decide) rfl ?_
      refine iz_iadd 497 rfl ?_
      refine iz_sld 498 rfl ?_
      refine iz_callVI (As := [.int (xs (Int32.toNatClampNeg (x3 + 1)))]) (rest := [.int r90]) 499 ml_L_107 cw_X10_lasts ci_X10_lasts lw_s82 (fun r9 hr9 => m_Mo_lasts lw_s82 hr9) rfl (by decide) (by decide) rfl rfl (Nat.le_of_ble_eq_true rfl) (fun r92 S91 => ?_)
      refine iz_cmp_eq (tgt := 1250) 500 rfl (by decide) ?_ ?_
      · exact c_Lw_law_1250 hk18 x3 S91
      · refine iz_iconst (v := 0) 501 (by decide) rfl ?_
        exact iz_lwret 502 rfl
    · refine iz_aload_n (n := 1) 503 1 rfl rfl ?_
      refine iz_aload_n (n := 0) 504 0 rfl rfl ?_
      refine iz_iload_n (n := 3) 505 3 rfl rfl ?_
      refine iz_iconst (v := 1) 506 (by decide) rfl ?_
      refine iz_iadd 507 rfl ?_
      refine iz_sld 508 rfl ?_
      refine iz_aload_n (n := 0) 509 0 rfl rfl ?_
      refine iz_iload_n (n := 3) 510 3 rfl rfl ?_
      refine iz_iconst (v := 2) 511 (by decide) rfl ?_
      refine iz_iadd 512 rfl ?_
      refine iz_sld 513 rfl ?_
      refine iz_callVI (As := [.int (xs (Int32.toNatClampNeg (x3 + 1))), .int (xs (Int32.toNatClampNeg (x3 + 2)))]) (rest := []) 514 ml_L_108 cw_X9_best ci_X9_best lw_s0 (fun r9 hr9 => m_Ic_best lw_s0 hr9) rfl (by decide) (by decide) rfl rfl (Nat.le_of_ble_eq_true rfl) (fun r94 S93 => ?_)
      refine iz_aload_n (n := 2) 515 2 rfl rfl ?_
      refine iz_aload_n (n := 0) 516 0 rfl rfl ?_
      refine iz_iload_n (n := 3) 517 3 rfl rfl ?_
      refine iz_iconst (v := 1) 518 (by decide) rfl ?_
      refine iz_iadd 519 rfl ?_
      refine iz_sld 520 rfl ?_
      refine iz_aload_n (n := 0) 521 0 rfl rfl ?_
      refine iz_iload_n (n := 3) 522 3 rfl rfl ?_
      refine iz_iconst (v := 2) 523 (by decide) rfl ?_
      refine iz_iadd 524 rfl ?_
      refine iz_sld 525 rfl ?_
      refine iz_callVI (As := [.int (xs (Int32.toNatClampNeg (x3 + 1))), .int (xs (Int32.toNatClampNeg (x3 + 2)))]) (rest := [.int r94]) 526 ml_L_111 cw_X10_best ci_X10_best lw_s82 (fun r9 hr9 => m_Mo_best lw_s82 hr9) rfl (by decide) (by decide) rfl rfl (Nat.le_of_ble_eq_true rfl) (fun r96 S95 => ?_)
      refine iz_cmp_eq (tgt := 1250) 527 rfl (by decide) ?_ ?_
      · exact c_Lw_law_1250 hk18 x3 S95
      · refine iz_iconst (v := 0) 528 (by decide) rfl ?_
        exact iz_lwret 529 rfl
    · refine iz_aload_n (n := 1) 530 1 rfl rfl ?_
      refine iz_aload_n (n := 0) 531 0 rfl rfl ?_
      refine iz_iload_n (n := 3) 532 3 rfl rfl ?_
      refine iz_iconst (v := 1) 533 (by decide) rfl ?_
      refine iz_iadd 534 rfl ?_
      refine iz_sld 535 rfl ?_
      refine iz_aload_n (n := 0) 536 0 rfl rfl ?_
      refine iz_iload_n (n := 3) 537 3 rfl rfl ?_
      refine iz_iconst (v := 2) 538 (by decide) rfl ?_
      refine iz_iadd 539 rfl ?_
      refine iz_sld 540 rfl ?_
      refine iz_aload_n (n := 0) 541 0 rfl rfl ?_
      refine iz_iload_n (n := 3) 542 3 rfl rfl ?_
      refine iz_iconst (v := 3) 543 (by decide) rfl ?_
      refine iz_iadd 544 rfl ?_
      refine iz_sld 545 rfl ?_
      refine iz_aload_n (n := 0) 546 0 rfl rfl ?_
      refine iz_iload_n (n := 3) 547 3 rfl rfl ?_
      refine iz_iconst (v := 4) 548 (by decide) rfl ?_
      refine iz_iadd 549 rfl ?_
      refine iz_sld 550 rfl ?_
      refine iz_aload_n (n := 0) 551 0 rfl rfl ?_
      refine iz_iload_n (n := 3) 552 3 rfl rfl ?_
      refine iz_iconst (v := 5) 553 (by decide) rfl ?_
      refine iz_iadd 554 rfl ?_
      refine iz_sld 555 rfl ?_
      refine iz_callVI (As := [.int (xs (Int32.toNatClampNeg (x3 + 1))), .int (xs (Int32.toNatClampNeg (x3 + 2))), .int (xs (Int32.toNatClampNeg (x3 + 3))), .int (xs (Int32.toNatClampNeg (x3 + 4))), .int (xs (Int32.toNatClampNeg (x3 + 5)))]) (rest := []) 556 ml_L_112 cw_X9_order ci_X9_order lw_s0 (fun r9 hr9 => m_Ic_order lw_s0 hr9) rfl (by decide) (by decide) rfl rfl (Nat.le_of_ble_eq_true rfl) (fun r98 S97 => ?_)
      refine iz_aload_n (n := 2) 557 2 rfl rfl ?_
      refine iz_aload_n (n := 0) 558 0 rfl rfl ?_
      refine iz_iload_n (n := 3) 559 3 rfl rfl ?_
      refine iz_iconst (v := 1) 560 (by decide) rfl ?_
      refine iz_iadd 561 rfl ?_
      refine iz_sld 562 rfl ?_
      refine iz_aload_n (n := 0) 563 0 rfl rfl ?_
      refine iz_iload_n (n := 3) 564 3 rfl rfl ?_
      refine iz_iconst (v := 2) 565 (by decide) rfl ?_
      refine iz_iadd 566 rfl ?_
      refine iz_sld 567 rfl ?_
      refine iz_aload_n (n := 0) 568 0 rfl rfl ?_
      refine iz_iload_n (n := 3) 569 3 rfl rfl ?_
      refine iz_iconst (v := 3) 570 (by decide) rfl ?_
      refine iz_iadd 571 rfl ?_
      refine iz_sld 572 rfl ?_
      refine iz_aload_n (n := 0) 573 0 rfl rfl ?_
      refine iz_iload_n (n := 3) 574 3 rfl rfl ?_
      refine iz_iconst (v := 4) 575 (by decide) rfl ?_
      refine iz_iadd 576 rfl ?_
      refine iz_sld 577 rfl ?_
      refine iz_aload_n (n := 0) 578 0 rfl rfl ?_
      refine iz_iload_n (n := 3) 579 3 rfl rfl ?_
      refine iz_iconst (v := 5) 580 (by decide) rfl ?_
      refine iz_iadd 581 rfl ?_
      refine iz_sld 582 rfl ?_
      refine iz_callVI (As := [.int (xs (Int32.toNatClampNeg (x3 + 1))), .int (xs (Int32.toNatClampNeg (x3 + 2))), .int (xs (Int32.toNatClampNeg (x3 + 3))), .int (xs (Int32.toNatClampNeg (x3 + 4))), .int (xs (Int32.toNatClampNeg (x3 + 5)))]) (rest := [.int r98]) 583 ml_L_116 cw_X10_order ci_X10_order lw_s82 (fun r9 hr9 => m_Mo_order lw_s82 hr9) rfl (by decide) (by decide) rfl rfl (Nat.le_of_ble_eq_true rfl) (fun r100 S99 => ?_)
      refine iz_cmp_eq (tgt := 1250) 584 rfl (by decide) ?_ ?_
      · exact c_Lw_law_1250 hk18 x3 S99
      · refine iz_iconst (v := 0) 585 (by decide) rfl ?_
        exact iz_lwret 586 rfl
    · refine iz_aload_n (n := 1) 587 1 rfl rfl ?_
      refine iz_aload_n (n := 0) 588 0 rfl rfl ?_
      refine iz_iload_n (n := 3) 589 3 rfl rfl ?_
      refine iz_iconst (v := 1) 590 (by decide) rfl ?_
      refine iz_iadd 591 rfl ?_
      refine iz_sld 592 rfl ?_
      refine iz_aload_n (n := 0) 593 0 rfl rfl ?_
      refine iz_iload_n (n := 3) 594 3 rfl rfl ?_
      refine iz_iconst (v := 2) 595 (by decide) rfl ?_
      refine iz_iadd 596 rfl ?_
      refine iz_sld 597 rfl ?_
      refine iz_callVI (As := [.int (xs (Int32.toNatClampNeg (x3 + 1))), .int (xs (Int32.toNatClampNeg (x3 + 2)))]) (rest := []) 598 ml_L_117 cw_X9_why ci_X9_why lw_s0 (fun r9 hr9 => m_Ic_why lw_s0 hr9) rfl (by decide) (by decide) rfl rfl (Nat.le_of_ble_eq_true rfl) (fun r102 S101 => ?_)
      refine iz_aload_n (n := 2) 599 2 rfl rfl ?_
      refine iz_aload_n (n := 0) 600 0 rfl rfl ?_
      refine iz_iload_n (n := 3) 601 3 rfl rfl ?_
      refine iz_iconst (v := 1) 602 (by decide) rfl ?_
      refine iz_iadd 603 rfl ?_
      refine iz_sld 604 rfl ?_
      refine iz_aload_n (n := 0) 605 0 rfl rfl ?_
      refine iz_iload_n (n := 3) 606 3 rfl rfl ?_
      refine iz_iconst (v := 2) 607 (by decide) rfl ?_
      refine iz_iadd 608 rfl ?_
      refine iz_sld 609 rfl ?_
      refine iz_callVI (As := [.int (xs (Int32.toNatClampNeg (x3 + 1))), .int (xs (Int32.toNatClampNeg (x3 + 2)))]) (rest := [.int r102]) 610 ml_L_120 cw_X10_why ci_X10_why lw_s82 (fun r9 hr9 => m_Mo_why lw_s82 hr9) rfl (by decide) (by decide) rfl rfl (Nat.le_of_ble_eq_true rfl) (fun r104 S103 => ?_)
      refine iz_cmp_eq (tgt := 1250) 611 rfl (by decide) ?_ ?_
      · exact c_Lw_law_1250 hk18 x3 S103
      · refine iz_iconst (v := 0) 612 (by decide) rfl ?_
        exact iz_lwret 613 rfl
    · refine iz_aload_n (n := 1) 614 1 rfl rfl ?_
      refine iz_aload_n (n := 0) 615 0 rfl rfl ?_
      refine iz_iload_n (n := 3) 616 3 rfl rfl ?_
      refine iz_iconst (v := 1) 617 (by decide) rfl ?_
      refine iz_iadd 618 rfl ?_
      refine iz_sld 619 rfl ?_
      refine iz_aload_n (n := 0) 620 0 rfl rfl ?_
      refine iz_iload_n (n := 3) 621 3 rfl rfl ?_
      refine iz_iconst (v := 2) 622 (by decide) rfl ?_
      refine iz_iadd 623 rfl ?_
      refine iz_sld 624 rfl ?_
      refine iz_callVI (As := [.int (xs (Int32.toNatClampNeg (x3 + 1))), .int (xs (Int32.toNatClampNeg (x3 + 2)))]) (rest := []) 625 ml_L_121 cw_X9_serve ci_X9_serve lw_s0 (fun r9 hr9 => m_Ic_serve lw_s0 hr9) rfl (by decide) (by decide) rfl rfl (Nat.le_of_ble_eq_true rfl) (fun r106 S105 => ?_)
      refine iz_aload_n (n := 2) 626 2 rfl rfl ?_
      refine iz_aload_n (n := 0) 627 0 rfl rfl ?_
      refine iz_iload_n (n := 3) 628 3 rfl rfl ?_
      refine iz_iconst (v := 1) 629 (by decide) rfl ?_
      refine iz_iadd 630 rfl ?_
      refine iz_sld 631 rfl ?_
      refine iz_aload_n (n := 0) 632 0 rfl rfl ?_
      refine iz_iload_n (n := 3) 633 3 rfl rfl ?_
      refine iz_iconst (v := 2) 634 (by decide) rfl ?_
      refine iz_iadd 635 rfl ?_
      refine iz_sld 636 rfl ?_
      refine iz_callVI (As := [.int (xs (Int32.toNatClampNeg (x3 + 1))), .int (xs (Int32.toNatClampNeg (x3 + 2)))]) (rest := [.int r106]) 637 ml_L_124 cw_X10_serve ci_X10_serve lw_s82 (fun r9 hr9 => m_Mo_serve lw_s82 hr9) rfl (by decide) (by decide) rfl rfl (Nat.le_of_ble_eq_true rfl) (fun r108 S107 => ?_)
      refine iz_cmp_eq (tgt := 1250) 638 rfl (by decide) ?_ ?_
      · exact c_Lw_law_1250 hk18 x3 S107
      · refine iz_iconst (v := 0) 639 (by decide) rfl ?_
        exact iz_lwret 640 rfl
    · refine iz_aload_n (n := 1) 641 1 rfl rfl ?_
      refine iz_aload_n (n := 0) 642 0 rfl rfl ?_
      refine iz_iload_n (n := 3) 643 3 rfl rfl ?_
      refine iz_iconst (v := 1) 644 (by decide) rfl ?_
      refine iz_iadd 645 rfl ?_
      refine iz_sld 646 rfl ?_
      refine iz_callVI (As := [.int (xs (Int32.toNatClampNeg (x3 + 1)))]) (rest := []) 647 ml_L_125 cw_X9_sales ci_X9_sales lw_s0 (fun r9 hr9 => m_Ic_sales lw_s0 hr9) rfl (by decide) (by decide) rfl rfl (Nat.le_of_ble_eq_true rfl) (fun r110 S109 => ?_)
      refine iz_aload_n (n := 2) 648 2 rfl rfl ?_
      refine iz_aload_n (n := 0) 649 0 rfl rfl ?_
      refine iz_iload_n (n := 3) 650 3 rfl rfl ?_
      refine iz_iconst (v := 1) 651 (by decide) rfl ?_
      refine iz_iadd 652 rfl ?_
      refine iz_sld 653 rfl ?_
      refine iz_callVI (As := [.int (xs (Int32.toNatClampNeg (x3 + 1)))]) (rest := [.int r110]) 654 ml_L_128 cw_X10_sales ci_X10_sales lw_s82 (fun r9 hr9 => m_Mo_sales lw_s82 hr9) rfl (by decide) (by decide) rfl rfl (Nat.le_of_ble_eq_true rfl) (fun r112 S111 => ?_)
      refine iz_cmp_eq (tgt := 1250) 655 rfl (by decide) ?_ ?_
      · exact c_Lw_law_1250 hk18 x3 S111
      · refine iz_iconst (v := 0) 656 (by decide) rfl ?_
        exact iz_lwret 657 rfl
    · refine iz_aload_n (n := 1) 658 1 rfl rfl ?_
      refine iz_aload_n (n := 0) 659 0 rfl rfl ?_
      refine iz_iload_n (n := 3) 660 3 rfl rfl ?_
      refine iz_iconst (v := 1) 661 (by decide) rfl ?_
      refine iz_iadd 662 rfl ?_
      refine iz_sld 663 rfl ?_
      refine iz_aload_n (n := 0) 664 0 rfl rfl ?_
      refine iz_iload_n (n := 3) 665 3 rfl rfl ?_
      refine iz_iconst (v := 2) 666 (by decide) rfl ?_
      refine iz_iadd 667 rfl ?_
      refine iz_sld 668 rfl ?_
      refine iz_aload_n (n := 0) 669 0 rfl rfl ?_
      refine iz_iload_n (n := 3) 670 3 rfl rfl ?_
      refine iz_iconst (v := 3) 671 (by decide) rfl ?_
      refine iz_iadd 672 rfl ?_
      refine iz_sld 673 rfl ?_
      refine iz_callVI (As := [.int (xs (Int32.toNatClampNeg (x3 + 1))), .int (xs (Int32.toNatClampNeg (x3 + 2))), .int (xs (Int32.toNatClampNeg (x3 + 3)))]) (rest := []) 674 ml_L_129 cw_X9_station ci_X9_station lw_s0 (fun r9 hr9 => m_Ic_station lw_s0 hr9) rfl (by decide) (by decide) rfl rfl (Nat.le_of_ble_eq_true rfl) (fun r114 S113 => ?_)
      refine iz_aload_n (n := 2) 675 2 rfl rfl ?_
      refine iz_aload_n (n := 0) 676 0 rfl rfl ?_
      refine iz_iload_n (n := 3) 677 3 rfl rfl ?_
      refine iz_iconst (v := 1) 678 (by decide) rfl ?_
      refine iz_iadd 679 rfl ?_
      refine iz_sld 680 rfl ?_
      refine iz_aload_n (n := 0) 681 0 rfl rfl ?_
      refine iz_iload_n (n := 3) 682 3 rfl rfl ?_
      refine iz_iconst (v := 2) 683 (by decide) rfl ?_
      refine iz_iadd 684 rfl ?_
      refine iz_sld 685 rfl ?_
      refine iz_aload_n (n := 0) 686 0 rfl rfl ?_
      refine iz_iload_n (n := 3) 687 3 rfl rfl ?_
      refine iz_iconst (v := 3) 688 (by decide) rfl ?_
      refine iz_iadd 689 rfl ?_
      refine iz_sld 690 rfl ?_
      refine iz_callVI (As := [.int (xs (Int32.toNatClampNeg (x3 + 1))), .int (xs (Int32.toNatClampNeg (x3 + 2))), .int (xs (Int32.toNatClampNeg (x3 + 3)))]) (rest := [.int r114]) 691 ml_L_133 cw_X10_station ci_X10_station lw_s82 (fun r9 hr9 => m_Mo_station lw_s82 hr9) rfl (by decide) (by decide) rfl rfl (Nat.le_of_ble_eq_true rfl) (fun r116 S115 => ?_)
      refine iz_cmp_eq (tgt := 1250) 692 rfl (by decide) ?_ ?_
      · exact c_Lw_law_1250 hk18 x3 S115
      · refine iz_iconst (v := 0) 693 (by decide) rfl ?_
        exact iz_lwret 694 rfl
    · refine iz_aload_n (n := 1) 695 1 rfl rfl ?_
      refine iz_aload_n (n := 0) 696 0 rfl rfl ?_
      refine iz_iload_n (n := 3) 697 3 rfl rfl ?_
      refine iz_iconst (v := 1) 698 (by decide) rfl ?_
      refine iz_iadd 699 rfl ?_
      refine iz_sld 700 rfl ?_
      refine iz_aload_n (n := 0) 701 0 rfl rfl ?_
      refine iz_iload_n (n := 3) 702 3 rfl rfl ?_
      refine iz_iconst (v := 2) 703 (by decide) rfl ?_
      refine iz_iadd 704 rfl ?_
      refine iz_sld 705 rfl ?_
      refine iz_aload_n (n := 0) 706 0 rfl rfl ?_
      refine iz_iload_n (n := 3) 707 3 rfl rfl ?_
      refine iz_iconst (v := 3) 708 (by decide) rfl ?_
      refine iz_iadd 709 rfl ?_
      refine iz_sld 710 rfl ?_
      refine iz_aload_n (n := 0) 711 0 rfl rfl ?_
      refine iz_iload_n (n := 3) 712 3 rfl rfl ?_
      refine iz_iconst (v := 4) 713 (by decide) rfl ?_
      refine iz_iadd 714 rfl ?_
      refine iz_sld 715 rfl ?_
      refine iz_callVI (As := [.int (xs (Int32.toNatClampNeg (x3 + 1))), .int (xs (Int32.toNatClampNeg (x3 + 2))), .int (xs (Int32.toNatClampNeg (x3 + 3))), .int (xs (Int32.toNatClampNeg (x3 + 4)))]) (rest := []) 716 ml_L_134 cw_X9_change ci_X9_change lw_s0 (fun r9 hr9 => m_Ic_change lw_s0 hr9) rfl (by decide) (by decide) rfl rfl (Nat.le_of_ble_eq_true rfl) (fun r118 S117 => ?_)
      refine iz_aload_n (n := 2) 717 2 rfl rfl ?_
      refine iz_aload_n (n := 0) 718 0 rfl rfl ?_
      refine iz_iload_n (n := 3) 719 3 rfl rfl ?_
      refine iz_iconst (v := 1) 720 (by decide) rfl ?_
      refine iz_iadd 721 rfl ?_
      refine iz_sld 722 rfl ?_
      refine iz_aload_n (n := 0) 723 0 rfl rfl ?_
      refine iz_iload_n (n := 3) 724 3 rfl rfl ?_
      refine iz_iconst (v := 2) 725 (by decide) rfl ?_
      refine iz_iadd 726 rfl ?_
      refine iz_sld 727 rfl ?_
      refine iz_aload_n (n := 0) 728 0 rfl rfl ?_
      refine iz_iload_n (n := 3) 729 3 rfl rfl ?_
      refine iz_iconst (v := 3) 730 (by decide) rfl ?_
      refine iz_iadd 731 rfl ?_
      refine iz_sld 732 rfl ?_
      refine iz_aload_n (n := 0) 733 0 rfl rfl ?_
      refine iz_iload_n (n := 3) 734 3 rfl rfl ?_
      refine iz_iconst (v := 4) 735 (by decide) rfl ?_
      refine iz_iadd 736 rfl ?_
      refine iz_sld 737 rfl ?_
      refine iz_callVI (As := [.int (xs (Int32.toNatClampNeg (x3 + 1))), .int (xs (Int32.toNatClampNeg (x3 + 2))), .int (xs (Int32.toNatClampNeg (x3 + 3))), .int (xs (Int32.toNatClampNeg (x3 + 4)))]) (rest := [.int r118]) 738 ml_L_138 cw_X10_change ci_X10_change lw_s82 (fun r9 hr9 => m_Mo_change lw_s82 hr9) rfl (by decide) (by decide) rfl rfl (Nat.le_of_ble_eq_true rfl) (fun r120 S119 => ?_)
      refine iz_cmp_eq (tgt := 1250) 739 rfl (by decide) ?_ ?_
      · exact c_Lw_law_1250 hk18 x3 S119
      · refine iz_iconst (v := 0) 740 (by decide) rfl ?_
        exact iz_lwret 741 rfl
    · refine iz_aload_n (n := 1) 742 1 rfl rfl ?_
      refine iz_aload_n (n := 0) 743 0 rfl rfl ?_
      refine iz_iload_n (n := 3) 744 3 rfl rfl ?_
      refine iz_iconst (v := 1) 745 (by decide) rfl ?_
      refine iz_iadd 746 rfl ?_
      refine iz_sld 747 rfl ?_
      refine iz_aload_n (n := 0) 748 0 rfl rfl ?_
      refine iz_iload_n (n := 3) 749 3 rfl rfl ?_
      refine iz_iconst (v := 2) 750 (by decide) rfl ?_
      refine iz_iadd 751 rfl ?_
      refine iz_sld 752 rfl ?_
      refine iz_aload_n (n := 0) 753 0 rfl rfl ?_
      refine iz_iload_n (n := 3) 754 3 rfl rfl ?_
      refine iz_iconst (v := 3) 755 (by decide) rfl ?_
      refine iz_iadd 756 rfl ?_
      refine iz_sld 757 rfl ?_
      refine iz_callVI (As := [.int (xs (Int32.toNatClampNeg (x3 + 1))), .int (xs (Int32.toNatClampNeg (x3 + 2))), .int (xs (Int32.toNatClampNeg (x3 + 3)))]) (rest := []) 758 ml_L_139 cw_X9_icing ci_X9_icing lw_s0 (fun r9 hr9 => m_Ic_icing lw_s0 hr9) rfl (by decide) (by decide) rfl rfl (Nat.le_of_ble_eq_true rfl) (fun r122 S121 => ?_)
      refine iz_aload_n (n := 2) 759 2 rfl rfl ?_
      refine iz_aload_n (n := 0) 760 0 rfl rfl ?_
      refine iz_iload_n (n := 3) 761 3 rfl rfl ?_
      refine iz_iconst (v := 1) 762 (by decide) rfl ?_
      refine iz_iadd 763 rfl ?_
      refine iz_sld 764 rfl ?_
      refine iz_aload_n (n := 0) 765 0 rfl rfl ?_
      refine iz_iload_n (n := 3) 766 3 rfl rfl ?_
      refine iz_iconst (v := 2) 767 (by decide) rfl ?_
      refine iz_iadd 768 rfl ?_
      refine iz_sld 769 rfl ?_
      refine iz_aload_n (n := 0) 770 0 rfl rfl ?_
      refine iz_iload_n (n := 3) 771 3 rfl rfl ?_
      refine iz_iconst (v := 3) 772 (by decide) rfl ?_
      refine iz_iadd 773 rfl ?_
      refine iz_sld 774 rfl ?_
      refine iz_callVI (As := [.int (xs (Int32.toNatClampNeg (x3 + 1))), .int (xs (Int32.toNatClampNeg (x3 + 2))), .int (xs (Int32.toNatClampNeg (x3 + 3)))]) (rest := [.int r122]) 775 ml_L_142 cw_X10_icing ci_X10_icing lw_s82 (fun r9 hr9 => m_Mo_icing lw_s82 hr9) rfl (by decide) (by decide) rfl rfl (Nat.le_of_ble_eq_true rfl) (fun r124 S123 => ?_)
      refine iz_cmp_eq (tgt := 1250) 776 rfl (by decide) ?_ ?_
      · exact c_Lw_law_1250 hk18 x3 S123
      · refine iz_iconst (v := 0) 777 (by decide) rfl ?_
        exact iz_lwret 778 rfl
    · refine iz_aload_n (n := 1) 779 1 rfl rfl ?_
      refine iz_aload_n (n := 0) 780 0 rfl rfl ?_
      refine iz_iload_n (n := 3) 781 3 rfl rfl ?_
      refine iz_iconst (v := 1) 782 (by decide) rfl ?_
      refine iz_iadd 783 rfl ?_
      refine iz_sld 784 rfl ?_
      refine iz_callVI (As := [.int (xs (Int32.toNatClampNeg (x3 + 1)))]) (rest := []) 785 ml_L_143 cw_X9_ledger ci_X9_ledger lw_s0 (fun r9 hr9 => m_Ic_ledger lw_s0 hr9) rfl (by decide) (by decide) rfl rfl (Nat.le_of_ble_eq_true rfl) (fun r126 S125 => ?_)
      refine iz_aload_n (n := 2) 786 2 rfl rfl ?_
      refine iz_aload_n (n := 0) 787 0 rfl rfl ?_
      refine iz_iload_n (n := 3) 788 3 rfl rfl ?_
      refine iz_iconst (v := 1) 789 (by decide) rfl ?_
      refine iz_iadd 790 rfl ?_
      refine iz_sld 791 rfl ?_
      refine iz_callVI (As := [.int (xs (Int32.toNatClampNeg (x3 + 1)))]) (rest := [.int r126]) 792 ml_L_146 cw_X10_ledger ci_X10_ledger lw_s82 (fun r9 hr9 => m_Mo_ledger lw_s82 hr9) rfl (by decide) (by decide) rfl rfl (Nat.le_of_ble_eq_true rfl) (fun r128 S127 => ?_)
      refine iz_cmp_eq (tgt := 1250) 793 rfl (by decide) ?_ ?_
      · exact c_Lw_law_1250 hk18 x3 S127
      · refine iz_iconst (v := 0) 794 (by decide) rfl ?_
        exact iz_lwret 795 rfl
    · refine iz_aload_n (n := 1) 796 1 rfl rfl ?_
      refine iz_aload_n (n := 0) 797 0 rfl rfl ?_
      refine iz_iload_n (n := 3) 798 3 rfl rfl ?_
      refine iz_iconst (v := 1) 799 (by decide) rfl ?_
      refine iz_iadd 800 rfl ?_
      refine iz_sld 801 rfl ?_
      refine iz_callVI (As := [.int (xs (Int32.toNatClampNeg (x3 + 1)))]) (rest := []) 802 ml_L_147 cw_X9_tell ci_X9_tell lw_s0 (fun r9 hr9 => m_Ic_tell lw_s0 hr9) rfl (by decide) (by decide) rfl rfl (Nat.le_of_ble_eq_true rfl) (fun r130 S129 => ?_)
      refine iz_aload_n (n := 2) 803 2 rfl rfl ?_
      refine iz_aload_n (n := 0) 804 0 rfl rfl ?_
      refine iz_iload_n (n := 3) 805 3 rfl rfl ?_
      refine iz_iconst (v := 1) 806 (by decide) rfl ?_
      refine iz_iadd 807 rfl ?_
      refine iz_sld 808 rfl ?_
      refine iz_callVI (As := [.int (xs (Int32.toNatClampNeg (x3 + 1)))]) (rest := [.int r130]) 809 ml_L_150 cw_X10_tell ci_X10_tell lw_s82 (fun r9 hr9 => m_Mo_tell lw_s82 hr9) rfl (by decide) (by decide) rfl rfl (Nat.le_of_ble_eq_true rfl) (fun r132 S131 => ?_)
      refine iz_cmp_eq (tgt := 1250) 810 rfl (by decide) ?_ ?_
      · exact c_Lw_law_1250 hk18 x3 S131
      · refine iz_iconst (v := 0) 811 (by decide) rfl ?_
        exact iz_lwret 812 rfl
    · refine iz_aload_n (n := 1) 813 1 rfl rfl ?_
      refine iz_aload_n (n := 0) 814 0 rfl rfl ?_
      refine iz_iload_n (n := 3) 815 3 rfl rfl ?_
      refine iz_iconst (v := 1) 816 (by decide) rfl ?_
      refine iz_iadd 817 rfl ?_
      refine iz_sld 818 rfl ?_
      refine iz_callVI (As := [.int (xs (Int32.toNatClampNeg (x3 + 1)))]) (rest := []) 819 ml_L_151 cw_X9_check ci_X9_check lw_s0 (fun r9 hr9 => m_Ic_check lw_s0 hr9) rfl (by decide) (by decide) rfl rfl (Nat.le_of_ble_eq_true rfl) (fun r134 S133 => ?_)
      refine iz_aload_n (n := 2) 820 2 rfl rfl ?_
      refine iz_aload_n (n := 0) 821 0 rfl rfl ?_
      refine iz_iload_n (n := 3) 822 3 rfl rfl ?_
      refine iz_iconst (v := 1) 823 (by decide) rfl ?_
      refine iz_iadd 824 rfl ?_
      refine iz_sld 825 rfl ?_
      refine iz_callVI (As := [.int (xs (Int32.toNatClampNeg (x3 + 1)))]) (rest := [.int r134]) 826 ml_L_154 cw_X10_check ci_X10_check lw_s82 (fun r9 hr9 => m_Mo_check lw_s82 hr9) rfl (by decide) (by decide) rfl rfl (Nat.le_of_ble_eq_true rfl) (fun r136 S135 => ?_)
      refine iz_cmp_eq (tgt := 1250) 827 rfl (by decide) ?_ ?_
      · exact c_Lw_law_1250 hk18 x3 S135
      · refine iz_iconst (v := 0) 828 (by decide) rfl ?_
        exact iz_lwret 829 rfl
    · refine iz_aload_n (n := 1) 830 1 rfl rfl ?_
      refine iz_aload_n (n := 0) 831 0 rfl rfl ?_
      refine iz_iload_n (n := 3) 832 3 rfl rfl ?_
      refine iz_iconst (v := 1) 833 (by decide) rfl ?_
      refine iz_iadd 834 rfl ?_
      refine iz_sld 835 rfl ?_
      refine iz_callVI (As := [.int (xs (Int32.toNatClampNeg (x3 + 1)))]) (rest := []) 836 ml_L_155 cw_X9_count ci_X9_count lw_s0 (fun r9 hr9 => m_Ic_count lw_s0 hr9) rfl (by decide) (by decide) rfl rfl (Nat.le_of_ble_eq_true rfl) (fun r138 S137 => ?_)
      refine iz_aload_n (n := 2) 837 2 rfl rfl ?_
      refine iz_aload_n (n := 0) 838 0 rfl rfl ?_
      refine iz_iload_n (n := 3) 839 3 rfl rfl ?_
      refine iz_iconst (v := 1) 840 (by decide) rfl ?_
      refine iz_iadd 841 rfl ?_
      refine iz_sld 842 rfl ?_
      refine iz_callVI (As := [.int (xs (Int32.toNatClampNeg (x3 + 1)))]) (rest := [.int r138]) 843 ml_L_158 cw_X10_count ci_X10_count lw_s82 (fun r9 hr9 => m_Mo_count lw_s82 hr9) rfl (by decide) (by decide) rfl rfl (Nat.le_of_ble_eq_true rfl) (fun r140 S139 => ?_)
      refine iz_cmp_eq (tgt := 1250) 844 rfl (by decide) ?_ ?_
      · exact c_Lw_law_1250 hk18 x3 S139
      · refine iz_iconst (v := 0) 845 (by decide) rfl ?_
        exact iz_lwret 846 rfl
    · refine iz_aload_n (n := 1) 847 1 rfl rfl ?_
      refine iz_aload_n (n := 0) 848 0 rfl rfl ?_
      refine iz_iload_n (n := 3) 849 3 rfl rfl ?_
      refine iz_iconst (v := 1) 850 (by decide) rfl ?_
      refine iz_iadd 851 rfl ?_
      refine iz_sld 852 rfl ?_
      refine iz_callVI (As := [.int (xs (Int32.toNatClampNeg (x3 + 1)))]) (rest := []) 853 ml_L_159 cw_X9_found ci_X9_found lw_s0 (fun r9 hr9 => m_Ic_found lw_s0 hr9) rfl (by decide) (by decide) rfl rfl (Nat.le_of_ble_eq_true rfl) (fun r142 S141 => ?_)
      refine iz_aload_n (n := 2) 854 2 rfl rfl ?_
      refine iz_aload_n (n := 0) 855 0 rfl rfl ?_
      refine iz_iload_n (n := 3) 856 3 rfl rfl ?_
      refine iz_iconst (v := 1) 857 (by decide) rfl ?_
      refine iz_iadd 858 rfl ?_
      refine iz_sld 859 rfl ?_
      refine iz_callVI (As := [.int (xs (Int32.toNatClampNeg (x3 + 1)))]) (rest := [.int r142]) 860 ml_L_162 cw_X10_found ci_X10_found lw_s82 (fun r9 hr9 => m_Mo_found lw_s82 hr9) rfl (by decide) (by decide) rfl rfl (Nat.le_of_ble_eq_true rfl) (fun r144 S143 => ?_)
      refine iz_cmp_eq (tgt := 1250) 861 rfl (by decide) ?_ ?_
      · exact c_Lw_law_1250 hk18 x3 S143
      · refine iz_iconst (v := 0) 862 (by decide) rfl ?_
        exact iz_lwret 863 rfl
def Lw_law_18 (L : Nat) (xs : Nat → Int32) : Nat → Int32 → iz_S → Option Int32
  | 0 => fun _ _ => none
  | n9 + 1 => Lw_law_18b L xs (Lw_law_18 L xs n9)
theorem c_Lw_law_18 {X : iz_X} {l : Launch} {b L : Nat} {xs : Nat → Int32} : ∀ (n9 : Nat) (x3 : Int32) (S : iz_S), iz_Y X l RL tL_law 4 20 (iz_KL X b L xs) 18 [(0, .ref b), (1, .ref (X.1 0)), (2, .ref (X.1 82)), (3, .int x3)] [] S (Lw_law_18 L xs n9 x3 S)
  | 0 => by
    intros
    exact iz_none
  | n9 + 1 => c_Lw_law_18b (c_Lw_law_18 n9)
