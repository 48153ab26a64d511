/-! WORDS by their places; shapes of the fields -/
def iz_cs {α : Type} (F : Nat → Option α → Prop) : List Nat → List (Option α) → Prop
  | [], _ => True
  | _ :: _, [] => False
  | t :: ts, o :: os => F t o ∧ iz_cs F ts os
theorem iz_cs_at {α : Type} {F : Nat → Option α → Prop} : ∀ {ts : List Nat} {os : List (Option α)}, iz_cs F ts os → ∀ (i t : Nat), ts[i]? = some t → F t (os.getD i none)
  | [], _, _, i, t, h => by simp at h
  | _ :: _, [], h0, _, _, _ => h0.elim
  | t0 :: ts, o0 :: os, h0, 0, t, h => by
    have e : t0 = t := by simpa using h
    subst e
    exact h0.1
  | t0 :: ts, o0 :: os, h0, i + 1, t, h => by
    have h1 : ts[i]? = some t := by simpa using h
    exact iz_cs_at h0.2 i t h1
theorem iz_tsw2 {α : Type} {X : iz_X} {l : Launch} {own : String} {dt : List (Nat × Instr × Nat)} {nL d : Nat} {K : iz_KP α} {pc : Nat} {ls : List (Nat × Value)} {st : List Value} {S : iz_S} (j : Nat) {dflt lo hi : Int} {offs : Array Int} {len : Nat} {x : Int32} {dtgt : Nat} (tgts : List Nat) {os : List (Option α)} {od : Option α} (hd : dt[j]? = some (pc, .tableswitch dflt lo hi offs, len)) (htd : (pc : Int) + dflt = (dtgt : Int)) (hto : offs.toList.map (fun q => (pc : Int) + q) = tgts.map (fun q : Nat => (q : Int))) (hn : (hi - lo).toNat < offs.size)
    (kd : iz_Y X l own dt nL d K dtgt ls st S od) (kk : iz_cs (fun t o => iz_Y X l own dt nL d K t ls st S o) tgts os) : iz_Y X l own dt nL d K pc ls (.int x :: st) S (iz_sw x lo hi os od) :=
  iz_tsw j tgts hd htd hto hn kd (fun i t h => iz_cs_at kk i t h)
def iz_FU : Nat := 20000
theorem fl_X2_9 : iz_FL RX2 9 2 0 "[I" true := ⟨RX2, TX2, 3, rfl, by decide, rfl, rfl, List.mem_of_getElem? (i := 94) (by decide +kernel)⟩
theorem fl_X9_120 : iz_FL RX9 120 2 0 "[I" true := ⟨RX2, TX2, 3, rfl, by decide, rfl, rfl, List.mem_of_getElem? (i := 95) (by decide +kernel)⟩
theorem fl_X2_15 : iz_FL RX2 15 2 1 "[I" true := ⟨RX2, TX2, 3, rfl, by decide, rfl, rfl, List.mem_of_getElem? (i := 96) (by decide +kernel)⟩
theorem fl_X9_123 : iz_FL RX9 123 2 1 "[I" true := ⟨RX2, TX2, 3, rfl, by decide, rfl, rfl, List.mem_of_getElem? (i := 97) (by decide +kernel)⟩
theorem fl_X2_18 : iz_FL RX2 18 2 2 "[Z" true := ⟨RX2, TX2, 3, rfl, by decide, rfl, rfl, List.mem_of_getElem? (i := 98) (by decide +kernel)⟩
theorem fl_X9_126 : iz_FL RX9 126 2 2 "[Z" true := ⟨RX2, TX2, 3, rfl, by decide, rfl, rfl, List.mem_of_getElem? (i := 99) (by decide +kernel)⟩
theorem fl_X6_9 : iz_FL RX6 9 6 0 "[I" true := ⟨RX6, TX6, 8, rfl, by decide, rfl, rfl, List.mem_of_getElem? (i := 115) (by decide +kernel)⟩
theorem fl_X9_169 : iz_FL RX9 169 6 0 "[I" true := ⟨RX6, TX6, 8, rfl, by decide, rfl, rfl, List.mem_of_getElem? (i := 116) (by decide +kernel)⟩
theorem fl_X6_77 : iz_FL RX6 77 6 1 "I" false := ⟨RX6, TX6, 8, rfl, by decide, rfl, rfl, List.mem_of_getElem? (i := 117) (by decide +kernel)⟩
theorem fl_X9_166 : iz_FL RX9 166 6 1 "I" false := ⟨RX6, TX6, 8, rfl, by decide, rfl, rfl, List.mem_of_getElem? (i := 118) (by decide +kernel)⟩
theorem fl_X6_15 : iz_FL RX6 15 6 2 "[I" true := ⟨RX6, TX6, 8, rfl, by decide, rfl, rfl, List.mem_of_getElem? (i := 119) (by decide +kernel)⟩
theorem fl_X6_30 : iz_FL RX6 30 6 3 "I" false := ⟨RX6, TX6, 8, rfl, by decide, rfl, rfl, List.mem_of_getElem? (i := 120) (by decide +kernel)⟩
theorem fl_X6_18 : iz_FL RX6 18 6 4 "[I" true := ⟨RX6, TX6, 8, rfl, by decide, rfl, rfl, List.mem_of_getElem? (i := 121) (by decide +kernel)⟩
theorem fl_X6_21 : iz_FL RX6 21 6 5 "[I" true := ⟨RX6, TX6, 8, rfl, by decide, rfl, rfl, List.mem_of_getElem? (i := 122) (by decide +kernel)⟩
theorem fl_X6_44 : iz_FL RX6 44 6 6 "J" false := ⟨RX6, TX6, 8, rfl, by decide, rfl, rfl, List.mem_of_getElem? (i := 123) (by decide +kernel)⟩
theorem fl_X6_51 : iz_FL RX6 51 6 7 "J" false := ⟨RX6, TX6, 8, rfl, by decide, rfl, rfl, List.mem_of_getElem? (i := 124) (by decide +kernel)⟩
theorem fl_X7_9 : iz_FL RX7 9 7 0 "[I" true := ⟨RX7, TX7, 3, rfl, by decide, rfl, rfl, List.mem_of_getElem? (i := 151) (by decide +kernel)⟩
theorem fl_X9_224 : iz_FL RX9 224 7 0 "[I" true := ⟨RX7, TX7, 3, rfl, by decide, rfl, rfl, List.mem_of_getElem? (i := 152) (by decide +kernel)⟩
theorem fl_X7_15 : iz_FL RX7 15 7 1 "[I" true := ⟨RX7, TX7, 3, rfl, by decide, rfl, rfl, List.mem_of_getElem? (i := 153) (by decide +kernel)⟩
theorem fl_X9_231 : iz_FL RX9 231 7 1 "[I" true := ⟨RX7, TX7, 3, rfl, by decide, rfl, rfl, List.mem_of_getElem? (i := 154) (by decide +kernel)⟩
theorem fl_X1_121 : iz_FL RX1 121 7 1 "[I" true := ⟨RX7, TX7, 3, rfl, by decide, rfl, rfl, List.mem_of_getElem? (i := 155) (by decide +kernel)⟩
theorem fl_X7_18 : iz_FL RX7 18 7 2 "[I" true := ⟨RX7, TX7, 3, rfl, by decide, rfl, rfl, List.mem_of_getElem? (i := 156) (by decide +kernel)⟩
theorem fl_X9_234 : iz_FL RX9 234 7 2 "[I" true := ⟨RX7, TX7, 3, rfl, by decide, rfl, rfl, List.mem_of_getElem? (i := 157) (by decide +kernel)⟩
theorem fl_X1_31 : iz_FL RX1 31 1 0 "I" false := ⟨RX1, TX1, 13, rfl, by decide, rfl, rfl, List.mem_of_getElem? (i := 171) (by decide +kernel)⟩
theorem fl_X9_141 : iz_FL RX9 141 1 0 "I" false := ⟨RX1, TX1, 13, rfl, by decide, rfl, rfl, List.mem_of_getElem? (i := 172) (by decide +kernel)⟩
theorem fl_X1_9 : iz_FL RX1 9 1 1 "[I" true := ⟨RX1, TX1, 13, rfl, by decide, rfl, rfl, List.mem_of_getElem? (i := 173) (by decide +kernel)⟩
theorem fl_X3_48 : iz_FL RX3 48 1 1 "[I" true := ⟨RX1, TX1, 13, rfl, by decide, rfl, rfl, List.mem_of_getElem? (i := 174) (by decide +kernel)⟩
theorem fl_X9_203 : iz_FL RX9 203 1 1 "[I" true := ⟨RX1, TX1, 13, rfl, by decide, rfl, rfl, List.mem_of_getElem? (i := 175) (by decide +kernel)⟩
theorem fl_X1_15 : iz_FL RX1 15 1 2 "[I" true := ⟨RX1, TX1, 13, rfl, by decide, rfl, rfl, List.mem_of_getElem? (i := 176) (by decide +kernel)⟩
theorem fl_X3_72 : iz_FL RX3 72 1 2 "[I" true := ⟨RX1, TX1, 13, rfl, by decide, rfl, rfl, List.mem_of_getElem? (i := 177) (by decide +kernel)⟩
theorem fl_X9_209 : iz_FL RX9 209 1 2 "[I" true := ⟨RX1, TX1, 13, rfl, by decide, rfl, rfl, List.mem_of_getElem? (i := 178) (by decide +kernel)⟩
theorem fl_X1_18 : iz_FL RX1 18 1 3 "[I" true := ⟨RX1, TX1, 13, rfl, by decide, rfl, rfl, List.mem_of_getElem? (i := 179) (by decide +kernel)⟩
theorem fl_X9_178 : iz_FL RX9 178 1 3 "[I" true := ⟨RX1, TX1, 13, rfl, by decide, rfl, rfl, List.mem_of_getElem? (i := 180) (by decide +kernel)⟩
theorem fl_X1_21 : iz_FL RX1 21 1 4 "[I" true := ⟨RX1, TX1, 13, rfl, by decide, rfl, rfl, List.mem_of_getElem? (i := 181) (by decide +kernel)⟩
theorem fl_X5_87 : iz_FL RX5 87 1 4 "[I" true := ⟨RX1, TX1, 13, rfl, by decide, rfl, rfl, List.mem_of_getElem? (i := 182) (by decide +kernel)⟩
theorem fl_X9_188 : iz_FL RX9 188 1 4 "[I" true := ⟨RX1, TX1, 13, rfl, by decide, rfl, rfl, List.mem_of_getElem? (i := 183) (by decide +kernel)⟩
theorem fl_X1_35 : iz_FL RX1 35 1 5 "I" false := ⟨RX1, TX1, 13, rfl, by decide, rfl, rfl, List.mem_of_getElem? (i := 184) (by decide +kernel)⟩
theorem fl_X3_43 : iz_FL RX3 43 1 5 "I" false := ⟨RX1, TX1, 13, rfl, by decide, rfl, rfl, List.mem_of_getElem? (i := 185) (by decide +kernel)⟩
theorem fl_X9_240 : iz_FL RX9 240 1 5 "I" false := ⟨RX1, TX1, 13, rfl, by decide, rfl, rfl, List.mem_of_getElem? (i := 186) (by decide +kernel)⟩
theorem fl_X1_52 : iz_FL RX1 52 1 6 "I" false := ⟨RX1, TX1, 13, rfl, by decide, rfl, rfl, List.mem_of_getElem? (i := 187) (by decide +kernel)⟩
theorem fl_X9_321 : iz_FL RX9 321 1 6 "I" false := ⟨RX1, TX1, 13, rfl, by decide, rfl, rfl, List.mem_of_getElem? (i := 188) (by decide +kernel)⟩
theorem fl_X1_82 : iz_FL RX1 82 1 7 "I" false := ⟨RX1, TX1, 13, rfl, by decide, rfl, rfl, List.mem_of_getElem? (i := 189) (by decide +kernel)⟩
theorem fl_X9_324 : iz_FL RX9 324 1 7 "I" false := ⟨RX1, TX1, 13, rfl, by decide, rfl, rfl, List.mem_of_getElem? (i := 190) (by decide +kernel)⟩
theorem fl_X1_95 : iz_FL RX1 95 1 8 "I" false := ⟨RX1, TX1, 13, rfl, by decide, rfl, rfl, List.mem_of_getElem? (i := 191) (by decide +kernel)⟩
theorem fl_X9_327 : iz_FL RX9 327 1 8 "I" false := ⟨RX1, TX1, 13, rfl, by decide, rfl, rfl, List.mem_of_getElem? (i := 192) (by decide +kernel)⟩
theorem fl_X1_79 : iz_FL RX1 79 1 9 "I" false := ⟨RX1, TX1, 13, rfl, by decide, rfl, rfl, List.mem_of_getElem? (i := 193) (by decide +kernel)⟩
theorem fl_X9_330 : iz_FL RX9 330 1 9 "I" false := ⟨RX1, TX1, 13, rfl, by decide, rfl, rfl, List.mem_of_getElem? (i := 194) (by decide +kernel)⟩
theorem fl_X1_73 : iz_FL RX1 73 1 10 "I" false := ⟨RX1, TX1, 13, rfl, by decide, rfl, rfl, List.mem_of_getElem? (i := 195) (by decide +kernel)⟩
theorem fl_X9_333 : iz_FL RX9 333 1 10 "I" false := ⟨RX1, TX1, 13, rfl, by decide, rfl, rfl, List.mem_of_getElem? (i := 196) (by decide +kernel)⟩
theorem fl_X1_27 : iz_FL RX1 27 1 11 "LIceHouse$Shelter;" true := ⟨RX1, TX1, 13, rfl, by decide, rfl, rfl, List.mem_of_getElem? (i := 197) (by decide +kernel)⟩
theorem fl_X3_62 : iz_FL RX3 62 1 11 "LIceHouse$Shelter;" true := ⟨RX1, TX1, 13, rfl, by decide, rfl, rfl, List.mem_of_getElem? (i := 198) (by decide +kernel)⟩
theorem fl_X1_24 : iz_FL RX1 24 1 12 "[I" true := ⟨RX1, TX1, 13, rfl, by decide, rfl, rfl, List.mem_of_getElem? (i := 199) (by decide +kernel)⟩
theorem fl_X0_49 : iz_FL RX0 49 0 0 "I" false := ⟨RX0, TX0, 7, rfl, by decide, rfl, rfl, List.mem_of_getElem? (i := 235) (by decide +kernel)⟩
theorem fl_X9_256 : iz_FL RX9 256 0 0 "I" false := ⟨RX0, TX0, 7, rfl, by decide, rfl, rfl, List.mem_of_getElem? (i := 236) (by decide +kernel)⟩
theorem fl_X0_9 : iz_FL RX0 9 0 1 "[I" true := ⟨RX0, TX0, 7, rfl, by decide, rfl, rfl, List.mem_of_getElem? (i := 237) (by decide +kernel)⟩
theorem fl_X9_259 : iz_FL RX9 259 0 1 "[I" true := ⟨RX0, TX0, 7, rfl, by decide, rfl, rfl, List.mem_of_getElem? (i := 238) (by decide +kernel)⟩
theorem fl_X0_53 : iz_FL RX0 53 0 2 "I" false := ⟨RX0, TX0, 7, rfl, by decide, rfl, rfl, List.mem_of_getElem? (i := 239) (by decide +kernel)⟩
theorem fl_X0_56 : iz_FL RX0 56 0 3 "I" false := ⟨RX0, TX0, 7, rfl, by decide, rfl, rfl, List.mem_of_getElem? (i := 240) (by decide +kernel)⟩
theorem fl_X0_17 : iz_FL RX0 17 0 4 "[[I" true := ⟨RX0, TX0, 7, rfl, by decide, rfl, rfl, List.mem_of_getElem? (i := 241) (by decide +kernel)⟩
theorem fl_X0_20 : iz_FL RX0 20 0 5 "[[I" true := ⟨RX0, TX0, 7, rfl, by decide, rfl, rfl, List.mem_of_getElem? (i := 242) (by decide +kernel)⟩
theorem fl_X0_23 : iz_FL RX0 23 0 6 "[I" true := ⟨RX0, TX0, 7, rfl, by decide, rfl, rfl, List.mem_of_getElem? (i := 243) (by decide +kernel)⟩
theorem fl_X3_35 : iz_FL RX3 35 3 0 "I" false := ⟨RX3, TX3, 10, rfl, by decide, rfl, rfl, List.mem_of_getElem? (i := 265) (by decide +kernel)⟩
theorem fl_X5_71 : iz_FL RX5 71 3 0 "I" false := ⟨RX3, TX3, 10, rfl, by decide, rfl, rfl, List.mem_of_getElem? (i := 266) (by decide +kernel)⟩
theorem fl_X9_262 : iz_FL RX9 262 3 0 "I" false := ⟨RX3, TX3, 10, rfl, by decide, rfl, rfl, List.mem_of_getElem? (i := 267) (by decide +kernel)⟩
theorem fl_X3_87 : iz_FL RX3 87 3 1 "I" false := ⟨RX3, TX3, 10, rfl, by decide, rfl, rfl, List.mem_of_getElem? (i := 268) (by decide +kernel)⟩
theorem fl_X9_352 : iz_FL RX9 352 3 1 "I" false := ⟨RX3, TX3, 10, rfl, by decide, rfl, rfl, List.mem_of_getElem? (i := 269) (by decide +kernel)⟩
theorem fl_X3_90 : iz_FL RX3 90 3 2 "I" false := ⟨RX3, TX3, 10, rfl, by decide, rfl, rfl, List.mem_of_getElem? (i := 270) (by decide +kernel)⟩
theorem fl_X9_336 : iz_FL RX9 336 3 2 "I" false := ⟨RX3, TX3, 10, rfl, by decide, rfl, rfl, List.mem_of_getElem? (i := 271) (by decide +kernel)⟩
theorem fl_X3_9 : iz_FL RX3 9 3 3 "[I" true := ⟨RX3, TX3, 10, rfl, by decide, rfl, rfl, List.mem_of_getElem? (i := 272) (by decide +kernel)⟩
theorem fl_X5_103 : iz_FL RX5 103 3 3 "[I" true := ⟨RX3, TX3, 10, rfl, by decide, rfl, rfl, List.mem_of_getElem? (i := 273) (by decide +kernel)⟩
theorem fl_X3_31 : iz_FL RX3 31 3 4 "LIceHouse$House;" true := ⟨RX3, TX3, 10, rfl, by decide, rfl, rfl, List.mem_of_getElem? (i := 274) (by decide +kernel)⟩
theorem fl_X3_15 : iz_FL RX3 15 3 5 "[I" true := ⟨RX3, TX3, 10, rfl, by decide, rfl, rfl, List.mem_of_getElem? (i := 275) (by decide +kernel)⟩
theorem fl_X3_18 : iz_FL RX3 18 3 6 "[I" true := ⟨RX3, TX3, 10, rfl, by decide, rfl, rfl, List.mem_of_getElem? (i := 276) (by decide +kernel)⟩
theorem fl_X3_21 : iz_FL RX3 21 3 7 "[I" true := ⟨RX3, TX3, 10, rfl, by decide, rfl, rfl, List.mem_of_getElem? (i := 277) (by decide +kernel)⟩
theorem fl_X3_24 : iz_FL RX3 24 3 8 "[I" true := ⟨RX3, TX3, 10, rfl, by decide, rfl, rfl, List.mem_of_getElem? (i := 278) (by decide +kernel)⟩
theorem fl_X3_27 : iz_FL RX3 27 3 9 "[Z" true := ⟨RX3, TX3, 10, rfl, by decide, rfl, rfl, List.mem_of_getElem? (i := 279) (by decide +kernel)⟩
theorem fl_X5_9 : iz_FL RX5 9 5 0 "[I" true := ⟨RX5, TX5, 15, rfl, by decide, rfl, rfl, List.mem_of_getElem? (i := 307) (by decide +kernel)⟩
theorem fl_X9_293 : iz_FL RX9 293 5 0 "[I" true := ⟨RX5, TX5, 15, rfl, by decide, rfl, rfl, List.mem_of_getElem? (i := 308) (by decide +kernel)⟩
theorem fl_X5_62 : iz_FL RX5 62 5 1 "I" false := ⟨RX5, TX5, 15, rfl, by decide, rfl, rfl, List.mem_of_getElem? (i := 309) (by decide +kernel)⟩
theorem fl_X9_284 : iz_FL RX9 284 5 1 "I" false := ⟨RX5, TX5, 15, rfl, by decide, rfl, rfl, List.mem_of_getElem? (i := 310) (by decide +kernel)⟩
theorem fl_X5_65 : iz_FL RX5 65 5 2 "I" false := ⟨RX5, TX5, 15, rfl, by decide, rfl, rfl, List.mem_of_getElem? (i := 311) (by decide +kernel)⟩
theorem fl_X9_287 : iz_FL RX9 287 5 2 "I" false := ⟨RX5, TX5, 15, rfl, by decide, rfl, rfl, List.mem_of_getElem? (i := 312) (by decide +kernel)⟩
theorem fl_X5_15 : iz_FL RX5 15 5 3 "[I" true := ⟨RX5, TX5, 15, rfl, by decide, rfl, rfl, List.mem_of_getElem? (i := 313) (by decide +kernel)⟩
theorem fl_X9_290 : iz_FL RX9 290 5 3 "[I" true := ⟨RX5, TX5, 15, rfl, by decide, rfl, rfl, List.mem_of_getElem? (i := 314) (by decide +kernel)⟩
theorem fl_X5_18 : iz_FL RX5 18 5 4 "[I" true := ⟨RX5, TX5, 15, rfl, by decide, rfl, rfl, List.mem_of_getElem? (i := 315) (by decide +kernel)⟩
theorem fl_X9_296 : iz_FL RX9 296 5 4 "[I" true := ⟨RX5, TX5, 15, rfl, by decide, rfl, rfl, List.mem_of_getElem? (i := 316) (by decide +kernel)⟩
theorem fl_X5_40 : iz_FL RX5 40 5 5 "LIceHouse$House;" true := ⟨RX5, TX5, 15, rfl, by decide, rfl, rfl, List.mem_of_getElem? (i := 317) (by decide +kernel)⟩
theorem fl_X5_44 : iz_FL RX5 44 5 6 "LIceHouse$Orders;" true := ⟨RX5, TX5, 15, rfl, by decide, rfl, rfl, List.mem_of_getElem? (i := 318) (by decide +kernel)⟩
theorem fl_X5_54 : iz_FL RX5 54 5 7 "I" false := ⟨RX5, TX5, 15, rfl, by decide, rfl, rfl, List.mem_of_getElem? (i := 319) (by decide +kernel)⟩
theorem fl_X5_21 : iz_FL RX5 21 5 8 "[Z" true := ⟨RX5, TX5, 15, rfl, by decide, rfl, rfl, List.mem_of_getElem? (i := 320) (by decide +kernel)⟩
theorem fl_X5_25 : iz_FL RX5 25 5 9 "[I" true := ⟨RX5, TX5, 15, rfl, by decide, rfl, rfl, List.mem_of_getElem? (i := 321) (by decide +kernel)⟩
theorem fl_X5_68 : iz_FL RX5 68 5 10 "I" false := ⟨RX5, TX5, 15, rfl, by decide, rfl, rfl, List.mem_of_getElem? (i := 322) (by decide +kernel)⟩
theorem fl_X5_28 : iz_FL RX5 28 5 11 "[Z" true := ⟨RX5, TX5, 15, rfl, by decide, rfl, rfl, List.mem_of_getElem? (i := 323) (by decide +kernel)⟩
theorem fl_X5_31 : iz_FL RX5 31 5 12 "[I" true := ⟨RX5, TX5, 15, rfl, by decide, rfl, rfl, List.mem_of_getElem? (i := 324) (by decide +kernel)⟩
theorem fl_X5_34 : iz_FL RX5 34 5 13 "[I" true := ⟨RX5, TX5, 15, rfl, by decide, rfl, rfl, List.mem_of_getElem? (i := 325) (by decide +kernel)⟩
theorem fl_X5_37 : iz_FL RX5 37 5 14 "[I" true := ⟨RX5, TX5, 15, rfl, by decide, rfl, rfl, List.mem_of_getElem? (i := 326) (by decide +kernel)⟩
theorem fl_X4_29 : iz_FL RX4 29 4 0 "I" false := ⟨RX4, TX4, 6, rfl, by decide, rfl, rfl, List.mem_of_getElem? (i := 365) (by decide +kernel)⟩
theorem fl_X9_302 : iz_FL RX9 302 4 0 "I" false := ⟨RX4, TX4, 6, rfl, by decide, rfl, rfl, List.mem_of_getElem? (i := 366) (by decide +kernel)⟩
theorem fl_X4_9 : iz_FL RX4 9 4 1 "[I" true := ⟨RX4, TX4, 6, rfl, by decide, rfl, rfl, List.mem_of_getElem? (i := 367) (by decide +kernel)⟩
theorem fl_X9_306 : iz_FL RX9 306 4 1 "[I" true := ⟨RX4, TX4, 6, rfl, by decide, rfl, rfl, List.mem_of_getElem? (i := 368) (by decide +kernel)⟩
theorem fl_X4_15 : iz_FL RX4 15 4 2 "[I" true := ⟨RX4, TX4, 6, rfl, by decide, rfl, rfl, List.mem_of_getElem? (i := 369) (by decide +kernel)⟩
theorem fl_X4_18 : iz_FL RX4 18 4 3 "[I" true := ⟨RX4, TX4, 6, rfl, by decide, rfl, rfl, List.mem_of_getElem? (i := 370) (by decide +kernel)⟩
theorem fl_X4_23 : iz_FL RX4 23 4 4 "[[I" true := ⟨RX4, TX4, 6, rfl, by decide, rfl, rfl, List.mem_of_getElem? (i := 371) (by decide +kernel)⟩
theorem fl_X4_26 : iz_FL RX4 26 4 5 "[[I" true := ⟨RX4, TX4, 6, rfl, by decide, rfl, rfl, List.mem_of_getElem? (i := 372) (by decide +kernel)⟩
theorem fl_X8_15 : iz_FL RX8 15 8 0 "I" false := ⟨RX8, TX8, 2, rfl, by decide, rfl, rfl, List.mem_of_getElem? (i := 392) (by decide +kernel)⟩
theorem fl_X9_339 : iz_FL RX9 339 8 0 "I" false := ⟨RX8, TX8, 2, rfl, by decide, rfl, rfl, List.mem_of_getElem? (i := 393) (by decide +kernel)⟩
theorem fl_X8_9 : iz_FL RX8 9 8 1 "[I" true := ⟨RX8, TX8, 2, rfl, by decide, rfl, rfl, List.mem_of_getElem? (i := 394) (by decide +kernel)⟩
theorem fl_X9_10 : iz_FL RX9 10 9 0 "LIceHouse$Lake;" true := ⟨RX9, TX9, 11, rfl, by decide, rfl, rfl, List.mem_of_getElem? (i := 400) (by decide +kernel)⟩
theorem fl_X9_19 : iz_FL RX9 19 9 1 "LIceHouse$Season;" true := ⟨RX9, TX9, 11, rfl, by decide, rfl, rfl, List.mem_of_getElem? (i := 401) (by decide +kernel)⟩
theorem fl_X9_26 : iz_FL RX9 26 9 2 "LIceHouse$Shelter;" true := ⟨RX9, TX9, 11, rfl, by decide, rfl, rfl, List.mem_of_getElem? (i := 402) (by decide +kernel)⟩
theorem fl_X9_35 : iz_FL RX9 35 9 3 "LIceHouse$House;" true := ⟨RX9, TX9, 11, rfl, by decide, rfl, rfl, List.mem_of_getElem? (i := 403) (by decide +kernel)⟩
theorem fl_X9_39 : iz_FL RX9 39 9 4 "LIceHouse$House;" true := ⟨RX9, TX9, 11, rfl, by decide, rfl, rfl, List.mem_of_getElem? (i := 404) (by decide +kernel)⟩
theorem fl_X9_45 : iz_FL RX9 45 9 5 "LIceHouse$DustPlan;" true := ⟨RX9, TX9, 11, rfl, by decide, rfl, rfl, List.mem_of_getElem? (i := 405) (by decide +kernel)⟩
theorem fl_X9_54 : iz_FL RX9 54 9 6 "LIceHouse$Orders;" true := ⟨RX9, TX9, 11, rfl, by decide, rfl, rfl, List.mem_of_getElem? (i := 406) (by decide +kernel)⟩
theorem fl_X9_63 : iz_FL RX9 63 9 7 "LIceHouse$SalesPlan;" true := ⟨RX9, TX9, 11, rfl, by decide, rfl, rfl, List.mem_of_getElem? (i := 407) (by decide +kernel)⟩
theorem fl_X9_70 : iz_FL RX9 70 9 8 "LIceHouse$Railway;" true := ⟨RX9, TX9, 11, rfl, by decide, rfl, rfl, List.mem_of_getElem? (i := 408) (by decide +kernel)⟩
theorem fl_X9_77 : iz_FL RX9 77 9 9 "LIceHouse$Waiting;" true := ⟨RX9, TX9, 11, rfl, by decide, rfl, rfl, List.mem_of_getElem? (i := 409) (by decide +kernel)⟩
theorem fl_X9_81 : iz_FL RX9 81 9 10 "[I" true := ⟨RX9, TX9, 11, rfl, by decide, rfl, rfl, List.mem_of_getElem? (i := 410) (by decide +kernel)⟩
theorem sl_X2_48 : Cond.fieldLinkNest RX2 48 (iz_zC 0) (iz_zN 0) "[I" "IceHouse" ∈ lw_tbl := List.mem_of_getElem? (i := 457) (by decide +kernel)
theorem sl_X9_356 : Cond.fieldLink RX9 356 (iz_zC 1) (iz_zN 1) "[I" ∈ lw_tbl := List.mem_of_getElem? (i := 709) (by decide +kernel)
theorem sl_X1_113 : Cond.fieldLinkNest RX1 113 (iz_zC 2) (iz_zN 2) "[I" "IceHouse" ∈ lw_tbl := List.mem_of_getElem? (i := 755) (by decide +kernel)
theorem fl_X10_7 : iz_FL RX10 7 10 0 "[I" true := ⟨RX10, TX10, 48, rfl, by decide, rfl, rfl, List.mem_of_getElem? (i := 1050) (by decide +kernel)⟩
theorem fl_X10_13 : iz_FL RX10 13 10 1 "[I" true := ⟨RX10, TX10, 48, rfl, by decide, rfl, rfl, List.mem_of_getElem? (i := 1051) (by decide +kernel)⟩
theorem fl_X10_16 : iz_FL RX10 16 10 2 "[Z" true := ⟨RX10, TX10, 48, rfl, by decide, rfl, rfl, List.mem_of_getElem? (i := 1052) (by decide +kernel)⟩
theorem fl_X10_163 : iz_FL RX10 163 10 3 "I" false := ⟨RX10, TX10, 48, rfl, by decide, rfl, rfl, List.mem_of_getElem? (i := 1053) (by decide +kernel)⟩
theorem fl_X10_20 : iz_FL RX10 20 10 4 "[I" true := ⟨RX10, TX10, 48, rfl, by decide, rfl, rfl, List.mem_of_getElem? (i := 1054) (by decide +kernel)⟩
theorem fl_X10_23 : iz_FL RX10 23 10 5 "[I" true := ⟨RX10, TX10, 48, rfl, by decide, rfl, rfl, List.mem_of_getElem? (i := 1055) (by decide +kernel)⟩
theorem fl_X10_26 : iz_FL RX10 26 10 6 "[I" true := ⟨RX10, TX10, 48, rfl, by decide, rfl, rfl, List.mem_of_getElem? (i := 1056) (by decide +kernel)⟩
theorem fl_X10_29 : iz_FL RX10 29 10 7 "[I" true := ⟨RX10, TX10, 48, rfl, by decide, rfl, rfl, List.mem_of_getElem? (i := 1057) (by decide +kernel)⟩
theorem fl_X10_32 : iz_FL RX10 32 10 8 "[I" true := ⟨RX10, TX10, 48, rfl, by decide, rfl, rfl, List.mem_of_getElem? (i := 1058) (by decide +kernel)⟩
theorem fl_X10_35 : iz_FL RX10 35 10 9 "[I" true := ⟨RX10, TX10, 48, rfl, by decide, rfl, rfl, List.mem_of_getElem? (i := 1059) (by decide +kernel)⟩
theorem fl_X10_38 : iz_FL RX10 38 10 10 "[I" true := ⟨RX10, TX10, 48, rfl, by decide, rfl, rfl, List.mem_of_getElem? (i := 1060) (by decide +kernel)⟩
theorem fl_X10_41 : iz_FL RX10 41 10 11 "[I" true := ⟨RX10, TX10, 48, rfl, by decide, rfl, rfl, List.mem_of_getElem? (i := 1061) (by decide +kernel)⟩
theorem fl_X10_44 : iz_FL RX10 44 10 12 "[I" true := ⟨RX10, TX10, 48, rfl, by decide, rfl, rfl, List.mem_of_getElem? (i := 1062) (by decide +kernel)⟩
theorem fl_X10_206 : iz_FL RX10 206 10 13 "I" false := ⟨RX10, TX10, 48, rfl, by decide, rfl, rfl, List.mem_of_getElem? (i := 1063) (by decide +kernel)⟩
theorem fl_X10_245 : iz_FL RX10 245 10 14 "I" false := ⟨RX10, TX10, 48, rfl, by decide, rfl, rfl, List.mem_of_getElem? (i := 1064) (by decide +kernel)⟩
theorem fl_X10_47 : iz_FL RX10 47 10 15 "[I" true := ⟨RX10, TX10, 48, rfl, by decide, rfl, rfl, List.mem_of_getElem? (i := 1065) (by decide +kernel)⟩
theorem fl_X10_50 : iz_FL RX10 50 10 16 "[I" true := ⟨RX10, TX10, 48, rfl, by decide, rfl, rfl, List.mem_of_getElem? (i := 1066) (by decide +kernel)⟩
theorem fl_X10_53 : iz_FL RX10 53 10 17 "[I" true := ⟨RX10, TX10, 48, rfl, by decide, rfl, rfl, List.mem_of_getElem? (i := 1067) (by decide +kernel)⟩
theorem fl_X10_56 : iz_FL RX10 56 10 18 "[I" true := ⟨RX10, TX10, 48, rfl, by decide, rfl, rfl, List.mem_of_getElem? (i := 1068) (by decide +kernel)⟩
theorem fl_X10_59 : iz_FL RX10 59 10 19 "[I" true := ⟨RX10, TX10, 48, rfl, by decide, rfl, rfl, List.mem_of_getElem? (i := 1069) (by decide +kernel)⟩
theorem fl_X10_62 : iz_FL RX10 62 10 20 "[Z" true := ⟨RX10, TX10, 48, rfl, by decide, rfl, rfl, List.mem_of_getElem? (i := 1070) (by decide +kernel)⟩
theorem fl_X10_272 : iz_FL RX10 272 10 21 "I" false := ⟨RX10, TX10, 48, rfl, by decide, rfl, rfl, List.mem_of_getElem? (i := 1071) (by decide +kernel)⟩
theorem fl_X10_65 : iz_FL RX10 65 10 22 "[I" true := ⟨RX10, TX10, 48, rfl, by decide, rfl, rfl, List.mem_of_getElem? (i := 1072) (by decide +kernel)⟩
theorem fl_X10_68 : iz_FL RX10 68 10 23 "[I" true := ⟨RX10, TX10, 48, rfl, by decide, rfl, rfl, List.mem_of_getElem? (i := 1073) (by decide +kernel)⟩
theorem fl_X10_71 : iz_FL RX10 71 10 24 "[I" true := ⟨RX10, TX10, 48, rfl, by decide, rfl, rfl, List.mem_of_getElem? (i := 1074) (by decide +kernel)⟩
theorem fl_X10_74 : iz_FL RX10 74 10 25 "[I" true := ⟨RX10, TX10, 48, rfl, by decide, rfl, rfl, List.mem_of_getElem? (i := 1075) (by decide +kernel)⟩
theorem fl_X10_176 : iz_FL RX10 176 10 26 "I" false := ⟨RX10, TX10, 48, rfl, by decide, rfl, rfl, List.mem_of_getElem? (i := 1076) (by decide +kernel)⟩
theorem fl_X10_77 : iz_FL RX10 77 10 27 "[I" true := ⟨RX10, TX10, 48, rfl, by decide, rfl, rfl, List.mem_of_getElem? (i := 1077) (by decide +kernel)⟩
theorem fl_X10_80 : iz_FL RX10 80 10 28 "[I" true := ⟨RX10, TX10, 48, rfl, by decide, rfl, rfl, List.mem_of_getElem? (i := 1078) (by decide +kernel)⟩
theorem fl_X10_83 : iz_FL RX10 83 10 29 "[Z" true := ⟨RX10, TX10, 48, rfl, by decide, rfl, rfl, List.mem_of_getElem? (i := 1079) (by decide +kernel)⟩
theorem fl_X10_86 : iz_FL RX10 86 10 30 "[I" true := ⟨RX10, TX10, 48, rfl, by decide, rfl, rfl, List.mem_of_getElem? (i := 1080) (by decide +kernel)⟩
theorem fl_X10_89 : iz_FL RX10 89 10 31 "[I" true := ⟨RX10, TX10, 48, rfl, by decide, rfl, rfl, List.mem_of_getElem? (i := 1081) (by decide +kernel)⟩
theorem fl_X10_170 : iz_FL RX10 170 10 32 "I" false := ⟨RX10, TX10, 48, rfl, by decide, rfl, rfl, List.mem_of_getElem? (i := 1082) (by decide +kernel)⟩
theorem fl_X10_92 : iz_FL RX10 92 10 33 "[I" true := ⟨RX10, TX10, 48, rfl, by decide, rfl, rfl, List.mem_of_getElem? (i := 1083) (by decide +kernel)⟩
theorem fl_X10_95 : iz_FL RX10 95 10 34 "[I" true := ⟨RX10, TX10, 48, rfl, by decide, rfl, rfl, List.mem_of_getElem? (i := 1084) (by decide +kernel)⟩
theorem fl_X10_167 : iz_FL RX10 167 10 35 "I" false := ⟨RX10, TX10, 48, rfl, by decide, rfl, rfl, List.mem_of_getElem? (i := 1085) (by decide +kernel)⟩
theorem fl_X10_98 : iz_FL RX10 98 10 36 "[I" true := ⟨RX10, TX10, 48, rfl, by decide, rfl, rfl, List.mem_of_getElem? (i := 1086) (by decide +kernel)⟩
theorem fl_X10_101 : iz_FL RX10 101 10 37 "[I" true := ⟨RX10, TX10, 48, rfl, by decide, rfl, rfl, List.mem_of_getElem? (i := 1087) (by decide +kernel)⟩
theorem fl_X10_104 : iz_FL RX10 104 10 38 "[I" true := ⟨RX10, TX10, 48, rfl, by decide, rfl, rfl, List.mem_of_getElem? (i := 1088) (by decide +kernel)⟩
theorem fl_X10_226 : iz_FL RX10 226 10 39 "I" false := ⟨RX10, TX10, 48, rfl, by decide, rfl, rfl, List.mem_of_getElem? (i := 1089) (by decide +kernel)⟩
theorem fl_X10_233 : iz_FL RX10 233 10 40 "I" false := ⟨RX10, TX10, 48, rfl, by decide, rfl, rfl, List.mem_of_getElem? (i := 1090) (by decide +kernel)⟩
theorem fl_X10_107 : iz_FL RX10 107 10 41 "[I" true := ⟨RX10, TX10, 48, rfl, by decide, rfl, rfl, List.mem_of_getElem? (i := 1091) (by decide +kernel)⟩
theorem fl_X10_110 : iz_FL RX10 110 10 42 "[I" true := ⟨RX10, TX10, 48, rfl, by decide, rfl, rfl, List.mem_of_getElem? (i := 1092) (by decide +kernel)⟩
theorem fl_X10_113 : iz_FL RX10 113 10 43 "[I" true := ⟨RX10, TX10, 48, rfl, by decide, rfl, rfl, List.mem_of_getElem? (i := 1093) (by decide +kernel)⟩
theorem fl_X10_116 : iz_FL RX10 116 10 44 "[I" true := ⟨RX10, TX10, 48, rfl, by decide, rfl, rfl, List.mem_of_getElem? (i := 1094) (by decide +kernel)⟩
theorem fl_X10_263 : iz_FL RX10 263 10 45 "I" false := ⟨RX10, TX10, 48, rfl, by decide, rfl, rfl, List.mem_of_getElem? (i := 1095) (by decide +kernel)⟩
theorem fl_X10_260 : iz_FL RX10 260 10 46 "I" false := ⟨RX10, TX10, 48, rfl, by decide, rfl, rfl, List.mem_of_getElem? (i := 1096) (by decide +kernel)⟩
theorem fl_X10_119 : iz_FL RX10 119 10 47 "[I" true := ⟨RX10, TX10, 48, rfl, by decide, rfl, rfl, List.mem_of_getElem? (i := 1097) (by decide +kernel)⟩
theorem sl_X10_135 : Cond.fieldLink RX10 135 (iz_zC 3) (iz_zN 3) "[I" ∈ lw_tbl := List.mem_of_getElem? (i := 1211) (by decide +kernel)
theorem ml_L_9 : Cond.methodLink RL 9 yX9_init ∈ lw_tbl := List.mem_of_getElem? (i := 82) (by decide +kernel)
theorem ml_X9_9 : Cond.methodLinkNest RX9 9 yX2_init "IceHouse" ∈ lw_tbl := List.mem_of_getElem? (i := 90) (by decide +kernel)
theorem ml_X9_18 : Cond.methodLinkNest RX9 18 yX6_init "IceHouse" ∈ lw_tbl := List.mem_of_getElem? (i := 111) (by decide +kernel)
theorem ml_X9_25 : Cond.methodLink RX9 25 yX7_init ∈ lw_tbl := List.mem_of_getElem? (i := 144) (by decide +kernel)
theorem ml_X7_21 : Cond.methodLink RX7 21 yJ7_fill_53178 ∈ lw_tbl := List.mem_of_getElem? (i := 148) (by decide +kernel)
theorem ml_X9_32 : Cond.methodLink RX9 32 yX1_init ∈ lw_tbl := List.mem_of_getElem? (i := 167) (by decide +kernel)
theorem ml_X9_44 : Cond.methodLinkNest RX9 44 yX0_init "IceHouse" ∈ lw_tbl := List.mem_of_getElem? (i := 229) (by decide +kernel)
theorem ml_X9_51 : Cond.methodLink RX9 51 yX3_init ∈ lw_tbl := List.mem_of_getElem? (i := 261) (by decide +kernel)
theorem ml_X9_60 : Cond.methodLink RX9 60 yX5_init ∈ lw_tbl := List.mem_of_getElem? (i := 303) (by decide +kernel)
theorem ml_X9_69 : Cond.methodLinkNest RX9 69 yX4_init "IceHouse" ∈ lw_tbl := List.mem_of_getElem? (i := 360) (by decide +kernel)
theorem ml_X9_76 : Cond.methodLinkNest RX9 76 yX8_init "IceHouse" ∈ lw_tbl := List.mem_of_getElem? (i := 388) (by decide +kernel)
theorem ml_L_13 : Cond.methodLink RL 13 yX9_frost ∈ lw_tbl := List.mem_of_getElem? (i := 434) (by decide +kernel)
theorem ml_X9_85 : Cond.methodLink RX9 85 yX9_within ∈ lw_tbl := List.mem_of_getElem? (i := 438) (by decide +kernel)
theorem ml_X9_89 : Cond.methodLink RX9 89 yX9_finding ∈ lw_tbl := List.mem_of_getElem? (i := 441) (by decide +kernel)
theorem ml_X9_93 : Cond.methodLink RX9 93 yX2_freeze ∈ lw_tbl := List.mem_of_getElem? (i := 446) (by decide +kernel)
theorem ml_X2_22 : Cond.methodLink RX2 22 yX2_rootUpFrom ∈ lw_tbl := List.mem_of_getElem? (i := 450) (by decide +kernel)
theorem ml_X9_97 : Cond.methodLink RX9 97 yX2_bearing ∈ lw_tbl := List.mem_of_getElem? (i := 453) (by decide +kernel)
theorem ml_X2_38 : Cond.methodLink RX2 38 yX2_cellsOf ∈ lw_tbl := List.mem_of_getElem? (i := 459) (by decide +kernel)
theorem ml_X9_101 : Cond.methodLink RX9 101 yJ13_bitCount_95d88 ∈ lw_tbl := List.mem_of_getElem? (i := 463) (by decide +kernel)
theorem ml_L_18 : Cond.methodLink RL 18 yX9_thaw ∈ lw_tbl := List.mem_of_getElem? (i := 469) (by decide +kernel)
theorem ml_X9_107 : Cond.methodLink RX9 107 yX2_soften ∈ lw_tbl := List.mem_of_getElem? (i := 473) (by decide +kernel)
theorem ml_X2_26 : Cond.methodLink RX2 26 yJ9_max_7cf53 ∈ lw_tbl := List.mem_of_getElem? (i := 477) (by decide +kernel)
theorem ml_X9_110 : Cond.methodLink RX9 110 yX2_frozenCells ∈ lw_tbl := List.mem_of_getElem? (i := 480) (by decide +kernel)
theorem ml_X2_42 : Cond.methodLink RX2 42 yJ13_bitCount_95d88 ∈ lw_tbl := List.mem_of_getElem? (i := 484) (by decide +kernel)
theorem ml_L_22 : Cond.methodLink RL 22 yX9_snow ∈ lw_tbl := List.mem_of_getElem? (i := 485) (by decide +kernel)
theorem ml_X9_114 : Cond.methodLink RX9 114 yX2_snowOver ∈ lw_tbl := List.mem_of_getElem? (i := 489) (by decide +kernel)
theorem ml_X2_31 : Cond.methodLink RX2 31 yJ9_min_7cf53 ∈ lw_tbl := List.mem_of_getElem? (i := 493) (by decide +kernel)
theorem ml_L_26 : Cond.methodLink RL 26 yX9_scrape ∈ lw_tbl := List.mem_of_getElem? (i := 496) (by decide +kernel)
theorem ml_X9_117 : Cond.methodLink RX9 117 yX2_clearRow ∈ lw_tbl := List.mem_of_getElem? (i := 500) (by decide +kernel)
theorem ml_X2_34 : Cond.methodLinkNest RX2 34 yX9_exchange "IceHouse" ∈ lw_tbl := List.mem_of_getElem? (i := 504) (by decide +kernel)
theorem ml_L_30 : Cond.methodLink RL 30 yX9_cell ∈ lw_tbl := List.mem_of_getElem? (i := 507) (by decide +kernel)
theorem ml_L_35 : Cond.methodLink RL 35 yX9_reached ∈ lw_tbl := List.mem_of_getElem? (i := 511) (by decide +kernel)
theorem ml_X9_130 : Cond.methodLink RX9 130 yX2_reachedOver ∈ lw_tbl := List.mem_of_getElem? (i := 515) (by decide +kernel)
theorem ml_X2_53 : Cond.methodLink RX2 53 yX2_beside ∈ lw_tbl := List.mem_of_getElem? (i := 519) (by decide +kernel)
theorem ml_L_39 : Cond.methodLink RL 39 yX9_reach ∈ lw_tbl := List.mem_of_getElem? (i := 524) (by decide +kernel)
theorem ml_L_43 : Cond.methodLink RL 43 yX9_bars ∈ lw_tbl := List.mem_of_getElem? (i := 528) (by decide +kernel)
theorem ml_X9_134 : Cond.methodLink RX9 134 yX2_isSquare ∈ lw_tbl := List.mem_of_getElem? (i := 532) (by decide +kernel)
theorem ml_X2_61 : Cond.methodLinkNest RX2 61 yX9_within "IceHouse" ∈ lw_tbl := List.mem_of_getElem? (i := 535) (by decide +kernel)
theorem ml_X9_138 : Cond.methodLink RX9 138 yX2_barTo ∈ lw_tbl := List.mem_of_getElem? (i := 536) (by decide +kernel)
theorem ml_X2_67 : Cond.methodLink RX2 67 yX2_cellsOfSquare ∈ lw_tbl := List.mem_of_getElem? (i := 540) (by decide +kernel)
theorem ml_X2_70 : Cond.methodLink RX2 70 yX2_bearing ∈ lw_tbl := List.mem_of_getElem? (i := 544) (by decide +kernel)
theorem ml_X2_73 : Cond.methodLink RX2 73 yX2_barAmong ∈ lw_tbl := List.mem_of_getElem? (i := 545) (by decide +kernel)
theorem ml_X2_79 : Cond.methodLink RX2 79 yX2_reachedOver ∈ lw_tbl := List.mem_of_getElem? (i := 549) (by decide +kernel)
theorem ml_L_47 : Cond.methodLink RL 47 yX9_cut ∈ lw_tbl := List.mem_of_getElem? (i := 550) (by decide +kernel)
theorem ml_X9_145 : Cond.methodLink RX9 145 yX2_kindOf ∈ lw_tbl := List.mem_of_getElem? (i := 554) (by decide +kernel)
theorem ml_X2_82 : Cond.methodLink RX2 82 yX2_milk ∈ lw_tbl := List.mem_of_getElem? (i := 558) (by decide +kernel)
theorem ml_X2_86 : Cond.methodLink RX2 86 yX2_thicksOf ∈ lw_tbl := List.mem_of_getElem? (i := 562) (by decide +kernel)
theorem ml_X9_148 : Cond.methodLink RX9 148 yX2_thicksOf ∈ lw_tbl := List.mem_of_getElem? (i := 566) (by decide +kernel)
theorem ml_X9_151 : Cond.methodLink RX9 151 yX1_newBlock ∈ lw_tbl := List.mem_of_getElem? (i := 567) (by decide +kernel)
theorem ml_X9_155 : Cond.methodLink RX9 155 yX2_open ∈ lw_tbl := List.mem_of_getElem? (i := 571) (by decide +kernel)
theorem ml_X2_89 : Cond.methodLink RX2 89 yX2_openCell ∈ lw_tbl := List.mem_of_getElem? (i := 575) (by decide +kernel)
theorem ml_L_51 : Cond.methodLink RL 51 yX9_season ∈ lw_tbl := List.mem_of_getElem? (i := 579) (by decide +kernel)
theorem ml_X9_158 : Cond.methodLink RX9 158 yX6_takeOver ∈ lw_tbl := List.mem_of_getElem? (i := 583) (by decide +kernel)
theorem ml_X6_24 : Cond.methodLink RX6 24 yX8_handOver ∈ lw_tbl := List.mem_of_getElem? (i := 587) (by decide +kernel)
theorem ml_X8_19 : Cond.methodLink RX8 19 yX8_hasTwins ∈ lw_tbl := List.mem_of_getElem? (i := 591) (by decide +kernel)
theorem ml_X8_23 : Cond.methodLink RX8 23 arraycopyName ∈ lw_tbl := List.mem_of_getElem? (i := 595) (by decide +kernel)
theorem ml_X8_29 : Cond.methodLink RX8 29 yX8_clear ∈ lw_tbl := List.mem_of_getElem? (i := 598) (by decide +kernel)
theorem ml_X6_34 : Cond.methodLink RX6 34 yX2_isSquare ∈ lw_tbl := List.mem_of_getElem? (i := 602) (by decide +kernel)
theorem ml_X9_162 : Cond.methodLink RX9 162 yX6_plan ∈ lw_tbl := List.mem_of_getElem? (i := 603) (by decide +kernel)
theorem ml_X6_40 : Cond.methodLink RX6 40 yX2_cellsOf ∈ lw_tbl := List.mem_of_getElem? (i := 607) (by decide +kernel)
theorem ml_X6_48 : Cond.methodLink RX6 48 yX2_bearing ∈ lw_tbl := List.mem_of_getElem? (i := 608) (by decide +kernel)
theorem ml_X6_54 : Cond.methodLink RX6 54 yX6_askBehind ∈ lw_tbl := List.mem_of_getElem? (i := 609) (by decide +kernel)
theorem ml_X6_61 : Cond.methodLink RX6 61 yX6_mayFollow ∈ lw_tbl := List.mem_of_getElem? (i := 613) (by decide +kernel)
theorem ml_X6_65 : Cond.methodLink RX6 65 yX6_openCells ∈ lw_tbl := List.mem_of_getElem? (i := 617) (by decide +kernel)
theorem ml_X6_68 : Cond.methodLink RX6 68 yX2_cellsOfSquare ∈ lw_tbl := List.mem_of_getElem? (i := 621) (by decide +kernel)
theorem ml_X6_73 : Cond.methodLink RX6 73 yX2_barAmong ∈ lw_tbl := List.mem_of_getElem? (i := 623) (by decide +kernel)
theorem ml_X6_58 : Cond.methodLink RX6 58 yX6_walk ∈ lw_tbl := List.mem_of_getElem? (i := 624) (by decide +kernel)
theorem ml_L_55 : Cond.methodLink RL 55 yX9_put ∈ lw_tbl := List.mem_of_getElem? (i := 628) (by decide +kernel)
theorem ml_X9_172 : Cond.methodLink RX9 172 yX1_hasBlock ∈ lw_tbl := List.mem_of_getElem? (i := 632) (by decide +kernel)
theorem ml_X1_44 : Cond.methodLinkNest RX1 44 yX9_within "IceHouse" ∈ lw_tbl := List.mem_of_getElem? (i := 636) (by decide +kernel)
theorem ml_X9_175 : Cond.methodLink RX9 175 yX9_isColumn ∈ lw_tbl := List.mem_of_getElem? (i := 637) (by decide +kernel)
theorem ml_X9_181 : Cond.methodLink RX9 181 yX1_isFull ∈ lw_tbl := List.mem_of_getElem? (i := 640) (by decide +kernel)
theorem ml_X9_184 : Cond.methodLink RX9 184 yX1_bringIn ∈ lw_tbl := List.mem_of_getElem? (i := 644) (by decide +kernel)
theorem ml_X1_55 : Cond.methodLink RX1 55 yX1_layOn ∈ lw_tbl := List.mem_of_getElem? (i := 648) (by decide +kernel)
theorem ml_X1_59 : Cond.methodLink RX1 59 yX1_breakShelves ∈ lw_tbl := List.mem_of_getElem? (i := 652) (by decide +kernel)
theorem ml_X1_48 : Cond.methodLink RX1 48 yX1_blockAt ∈ lw_tbl := List.mem_of_getElem? (i := 656) (by decide +kernel)
theorem ml_X1_91 : Cond.methodLink RX1 91 yX1_breaksAt ∈ lw_tbl := List.mem_of_getElem? (i := 660) (by decide +kernel)
theorem ml_X1_85 : Cond.methodLink RX1 85 yX1_loadOver ∈ lw_tbl := List.mem_of_getElem? (i := 664) (by decide +kernel)
theorem ml_X1_67 : Cond.methodLink RX1 67 yX1_removeAt ∈ lw_tbl := List.mem_of_getElem? (i := 668) (by decide +kernel)
theorem ml_X1_76 : Cond.methodLink RX1 76 yX1_letGo ∈ lw_tbl := List.mem_of_getElem? (i := 672) (by decide +kernel)
theorem ml_L_59 : Cond.methodLink RL 59 yX9_take ∈ lw_tbl := List.mem_of_getElem? (i := 676) (by decide +kernel)
theorem ml_X9_191 : Cond.methodLink RX9 191 yX1_isEmpty ∈ lw_tbl := List.mem_of_getElem? (i := 680) (by decide +kernel)
theorem ml_X9_194 : Cond.methodLink RX9 194 yX1_throwOut ∈ lw_tbl := List.mem_of_getElem? (i := 684) (by decide +kernel)
theorem ml_X1_70 : Cond.methodLink RX1 70 yX1_liftTop ∈ lw_tbl := List.mem_of_getElem? (i := 688) (by decide +kernel)
theorem ml_X1_63 : Cond.methodLink RX1 63 yX1_topOf ∈ lw_tbl := List.mem_of_getElem? (i := 692) (by decide +kernel)
theorem ml_L_63 : Cond.methodLink RL 63 yX9_move ∈ lw_tbl := List.mem_of_getElem? (i := 696) (by decide +kernel)
theorem ml_X9_197 : Cond.methodLink RX9 197 yX1_liftTop ∈ lw_tbl := List.mem_of_getElem? (i := 700) (by decide +kernel)
theorem ml_X9_200 : Cond.methodLink RX9 200 yX1_layOn ∈ lw_tbl := List.mem_of_getElem? (i := 701) (by decide +kernel)
theorem ml_L_67 : Cond.methodLink RL 67 yX9_as ∈ lw_tbl := List.mem_of_getElem? (i := 702) (by decide +kernel)
theorem ml_X9_205 : Cond.methodLink RX9 205 yX9_isUnder ∈ lw_tbl := List.mem_of_getElem? (i := 706) (by decide +kernel)
theorem ml_L_71 : Cond.methodLink RL 71 yX9_about ∈ lw_tbl := List.mem_of_getElem? (i := 711) (by decide +kernel)
theorem ml_X9_212 : Cond.methodLink RX9 212 yX1_slotOf ∈ lw_tbl := List.mem_of_getElem? (i := 715) (by decide +kernel)
theorem ml_X9_215 : Cond.methodLink RX9 215 yX1_loadOver ∈ lw_tbl := List.mem_of_getElem? (i := 719) (by decide +kernel)
theorem ml_X9_218 : Cond.methodLink RX9 218 yX1_meltAt ∈ lw_tbl := List.mem_of_getElem? (i := 720) (by decide +kernel)
theorem ml_X1_98 : Cond.methodLink RX1 98 yX7_wallTenths ∈ lw_tbl := List.mem_of_getElem? (i := 724) (by decide +kernel)
theorem ml_X7_31 : Cond.methodLink RX7 31 yX7_rowWall ∈ lw_tbl := List.mem_of_getElem? (i := 728) (by decide +kernel)
theorem ml_X7_35 : Cond.methodLink RX7 35 yX7_tenthsAt ∈ lw_tbl := List.mem_of_getElem? (i := 731) (by decide +kernel)
theorem ml_X7_38 : Cond.methodLink RX7 38 yX7_sideWall ∈ lw_tbl := List.mem_of_getElem? (i := 735) (by decide +kernel)
theorem ml_X1_103 : Cond.methodLink RX1 103 yX1_meltBehind ∈ lw_tbl := List.mem_of_getElem? (i := 738) (by decide +kernel)
theorem ml_X1_107 : Cond.methodLink RX1 107 yX7_warmthOf ∈ lw_tbl := List.mem_of_getElem? (i := 742) (by decide +kernel)
theorem ml_X7_27 : Cond.methodLinkNest RX7 27 yX9_within "IceHouse" ∈ lw_tbl := List.mem_of_getElem? (i := 746) (by decide +kernel)
theorem ml_X1_110 : Cond.methodLink RX1 110 yX1_openTenths ∈ lw_tbl := List.mem_of_getElem? (i := 747) (by decide +kernel)
theorem ml_X1_124 : Cond.methodLink RX1 124 yX1_sideTenths ∈ lw_tbl := List.mem_of_getElem? (i := 751) (by decide +kernel)
theorem ml_X1_116 : Cond.methodLink RX1 116 yJ9_min_7cf53 ∈ lw_tbl := List.mem_of_getElem? (i := 757) (by decide +kernel)
theorem ml_L_75 : Cond.methodLink RL 75 yX9_at ∈ lw_tbl := List.mem_of_getElem? (i := 758) (by decide +kernel)
theorem ml_X9_221 : Cond.methodLink RX9 221 yX1_blockAt ∈ lw_tbl := List.mem_of_getElem? (i := 762) (by decide +kernel)
theorem ml_L_79 : Cond.methodLink RL 79 yX9_dust ∈ lw_tbl := List.mem_of_getElem? (i := 763) (by decide +kernel)
theorem ml_X9_227 : Cond.methodLink RX9 227 yX9_exchange ∈ lw_tbl := List.mem_of_getElem? (i := 767) (by decide +kernel)
theorem ml_L_83 : Cond.methodLink RL 83 yX9_cover ∈ lw_tbl := List.mem_of_getElem? (i := 768) (by decide +kernel)
theorem ml_L_87 : Cond.methodLink RL 87 yX9_warmth ∈ lw_tbl := List.mem_of_getElem? (i := 772) (by decide +kernel)
theorem ml_L_91 : Cond.methodLink RL 91 yX9_melts ∈ lw_tbl := List.mem_of_getElem? (i := 776) (by decide +kernel)
theorem ml_X9_237 : Cond.methodLink RX9 237 yX1_allMelts ∈ lw_tbl := List.mem_of_getElem? (i := 780) (by decide +kernel)
theorem ml_X1_127 : Cond.methodLink RX1 127 yX1_columnMelts ∈ lw_tbl := List.mem_of_getElem? (i := 784) (by decide +kernel)
theorem ml_L_96 : Cond.methodLink RL 96 yX9_weeks ∈ lw_tbl := List.mem_of_getElem? (i := 788) (by decide +kernel)
theorem ml_X9_243 : Cond.methodLink RX9 243 yX1_passWeeks ∈ lw_tbl := List.mem_of_getElem? (i := 792) (by decide +kernel)
theorem ml_X1_130 : Cond.methodLink RX1 130 yX1_meltAll ∈ lw_tbl := List.mem_of_getElem? (i := 796) (by decide +kernel)
theorem ml_X1_136 : Cond.methodLink RX1 136 yX1_meltAt ∈ lw_tbl := List.mem_of_getElem? (i := 800) (by decide +kernel)
theorem ml_X1_133 : Cond.methodLink RX1 133 yX1_dropMelted ∈ lw_tbl := List.mem_of_getElem? (i := 801) (by decide +kernel)
theorem ml_X9_246 : Cond.methodLink RX9 246 yX1_allWeight ∈ lw_tbl := List.mem_of_getElem? (i := 805) (by decide +kernel)
theorem ml_X1_88 : Cond.methodLink RX1 88 yX1_columnWeight ∈ lw_tbl := List.mem_of_getElem? (i := 809) (by decide +kernel)
theorem ml_L_100 : Cond.methodLink RL 100 yX9_after ∈ lw_tbl := List.mem_of_getElem? (i := 813) (by decide +kernel)
theorem ml_X9_249 : Cond.methodLink RX9 249 yX1_becomeLike ∈ lw_tbl := List.mem_of_getElem? (i := 817) (by decide +kernel)
theorem ml_X1_38 : Cond.methodLink RX1 38 arraycopyName ∈ lw_tbl := List.mem_of_getElem? (i := 821) (by decide +kernel)
theorem ml_L_104 : Cond.methodLink RL 104 yX9_lasts ∈ lw_tbl := List.mem_of_getElem? (i := 822) (by decide +kernel)
theorem ml_L_108 : Cond.methodLink RL 108 yX9_best ∈ lw_tbl := List.mem_of_getElem? (i := 827) (by decide +kernel)
theorem ml_X9_253 : Cond.methodLink RX9 253 yX0_plan ∈ lw_tbl := List.mem_of_getElem? (i := 831) (by decide +kernel)
theorem ml_X0_26 : Cond.methodLink RX0 26 yX0_clearTables ∈ lw_tbl := List.mem_of_getElem? (i := 835) (by decide +kernel)
theorem ml_X0_59 : Cond.methodLink RX0 59 yJ7_fill_53178 ∈ lw_tbl := List.mem_of_getElem? (i := 840) (by decide +kernel)
theorem ml_X0_29 : Cond.methodLink RX0 29 yX7_rowWall ∈ lw_tbl := List.mem_of_getElem? (i := 841) (by decide +kernel)
theorem ml_X0_35 : Cond.methodLink RX0 35 yX7_sideWall ∈ lw_tbl := List.mem_of_getElem? (i := 842) (by decide +kernel)
theorem ml_X0_38 : Cond.methodLink RX0 38 yX0_addColumn ∈ lw_tbl := List.mem_of_getElem? (i := 843) (by decide +kernel)
theorem ml_X0_65 : Cond.methodLink RX0 65 yX1_columnMelts ∈ lw_tbl := List.mem_of_getElem? (i := 847) (by decide +kernel)
theorem ml_X0_71 : Cond.methodLink RX0 71 yJ9_max_7cf53 ∈ lw_tbl := List.mem_of_getElem? (i := 848) (by decide +kernel)
theorem ml_X0_42 : Cond.methodLink RX0 42 yX0_trySides ∈ lw_tbl := List.mem_of_getElem? (i := 849) (by decide +kernel)
theorem ml_X0_76 : Cond.methodLink RX0 76 yX0_fillFewest ∈ lw_tbl := List.mem_of_getElem? (i := 853) (by decide +kernel)
theorem ml_X0_83 : Cond.methodLink RX0 83 yX0_sideMelts ∈ lw_tbl := List.mem_of_getElem? (i := 857) (by decide +kernel)
theorem ml_X0_80 : Cond.methodLink RX0 80 yJ9_min_7cf53 ∈ lw_tbl := List.mem_of_getElem? (i := 861) (by decide +kernel)
theorem ml_X0_87 : Cond.methodLink RX0 87 yX0_keep ∈ lw_tbl := List.mem_of_getElem? (i := 862) (by decide +kernel)
theorem ml_L_112 : Cond.methodLink RL 112 yX9_order ∈ lw_tbl := List.mem_of_getElem? (i := 866) (by decide +kernel)
theorem ml_X9_265 : Cond.methodLink RX9 265 yX3_enter ∈ lw_tbl := List.mem_of_getElem? (i := 870) (by decide +kernel)
theorem ml_L_117 : Cond.methodLink RL 117 yX9_why ∈ lw_tbl := List.mem_of_getElem? (i := 874) (by decide +kernel)
theorem ml_X9_269 : Cond.methodLink RX9 269 yX3_has ∈ lw_tbl := List.mem_of_getElem? (i := 878) (by decide +kernel)
theorem ml_X3_39 : Cond.methodLinkNest RX3 39 yX9_within "IceHouse" ∈ lw_tbl := List.mem_of_getElem? (i := 882) (by decide +kernel)
theorem ml_X9_272 : Cond.methodLink RX9 272 yX1_topOf ∈ lw_tbl := List.mem_of_getElem? (i := 883) (by decide +kernel)
theorem ml_X9_275 : Cond.methodLink RX9 275 yX3_hindrance ∈ lw_tbl := List.mem_of_getElem? (i := 884) (by decide +kernel)
theorem ml_X3_51 : Cond.methodLink RX3 51 yX3_isOfGrade ∈ lw_tbl := List.mem_of_getElem? (i := 888) (by decide +kernel)
theorem ml_X3_59 : Cond.methodLinkNest RX3 59 yX9_isUnder "IceHouse" ∈ lw_tbl := List.mem_of_getElem? (i := 891) (by decide +kernel)
theorem ml_X3_55 : Cond.methodLink RX3 55 yX3_whatComes ∈ lw_tbl := List.mem_of_getElem? (i := 892) (by decide +kernel)
theorem ml_X3_66 : Cond.methodLink RX3 66 yX7_warmthOf ∈ lw_tbl := List.mem_of_getElem? (i := 896) (by decide +kernel)
theorem ml_X3_75 : Cond.methodLink RX3 75 yJ9_max_7cf53 ∈ lw_tbl := List.mem_of_getElem? (i := 897) (by decide +kernel)
theorem ml_L_121 : Cond.methodLink RL 121 yX9_serve ∈ lw_tbl := List.mem_of_getElem? (i := 898) (by decide +kernel)
theorem ml_X9_278 : Cond.methodLink RX9 278 yX3_fulfil ∈ lw_tbl := List.mem_of_getElem? (i := 902) (by decide +kernel)
theorem ml_X3_80 : Cond.methodLink RX3 80 yX1_topOf ∈ lw_tbl := List.mem_of_getElem? (i := 906) (by decide +kernel)
theorem ml_X3_83 : Cond.methodLink RX3 83 yX1_sellTop ∈ lw_tbl := List.mem_of_getElem? (i := 907) (by decide +kernel)
theorem ml_L_125 : Cond.methodLink RL 125 yX9_sales ∈ lw_tbl := List.mem_of_getElem? (i := 911) (by decide +kernel)
theorem ml_X9_281 : Cond.methodLink RX9 281 yX5_takeOver ∈ lw_tbl := List.mem_of_getElem? (i := 915) (by decide +kernel)
theorem ml_X5_48 : Cond.methodLink RX5 48 yX8_handOver ∈ lw_tbl := List.mem_of_getElem? (i := 919) (by decide +kernel)
theorem ml_X5_58 : Cond.methodLinkNest RX5 58 yX9_isColumn "IceHouse" ∈ lw_tbl := List.mem_of_getElem? (i := 920) (by decide +kernel)
theorem ml_X9_282 : Cond.methodLink RX9 282 yX5_plan ∈ lw_tbl := List.mem_of_getElem? (i := 921) (by decide +kernel)
theorem ml_X5_76 : Cond.methodLink RX5 76 yX5_fillFits ∈ lw_tbl := List.mem_of_getElem? (i := 925) (by decide +kernel)
theorem ml_X5_92 : Cond.methodLink RX5 92 yX1_blockAt ∈ lw_tbl := List.mem_of_getElem? (i := 929) (by decide +kernel)
theorem ml_X5_96 : Cond.methodLink RX5 96 yX3_hindrance ∈ lw_tbl := List.mem_of_getElem? (i := 930) (by decide +kernel)
theorem ml_X5_99 : Cond.methodLink RX5 99 yX5_slot ∈ lw_tbl := List.mem_of_getElem? (i := 931) (by decide +kernel)
theorem ml_X5_79 : Cond.methodLink RX5 79 yX5_enlist ∈ lw_tbl := List.mem_of_getElem? (i := 934) (by decide +kernel)
theorem ml_X5_83 : Cond.methodLink RX5 83 yX5_tryRows ∈ lw_tbl := List.mem_of_getElem? (i := 938) (by decide +kernel)
theorem ml_X5_106 : Cond.methodLink RX5 106 yX5_keepIfBetter ∈ lw_tbl := List.mem_of_getElem? (i := 941) (by decide +kernel)
theorem ml_X5_124 : Cond.methodLink RX5 124 arraycopyName ∈ lw_tbl := List.mem_of_getElem? (i := 945) (by decide +kernel)
theorem ml_X5_110 : Cond.methodLink RX5 110 yX5_mayImprove ∈ lw_tbl := List.mem_of_getElem? (i := 946) (by decide +kernel)
theorem ml_X5_130 : Cond.methodLink RX5 130 yX5_dearest ∈ lw_tbl := List.mem_of_getElem? (i := 950) (by decide +kernel)
theorem ml_X5_114 : Cond.methodLink RX5 114 yX5_mayServe ∈ lw_tbl := List.mem_of_getElem? (i := 954) (by decide +kernel)
theorem ml_X5_134 : Cond.methodLinkNest RX5 134 yX9_within "IceHouse" ∈ lw_tbl := List.mem_of_getElem? (i := 958) (by decide +kernel)
theorem ml_X5_117 : Cond.methodLink RX5 117 yX5_push ∈ lw_tbl := List.mem_of_getElem? (i := 959) (by decide +kernel)
theorem ml_X5_121 : Cond.methodLink RX5 121 yX5_pop ∈ lw_tbl := List.mem_of_getElem? (i := 963) (by decide +kernel)
theorem ml_L_129 : Cond.methodLink RL 129 yX9_station ∈ lw_tbl := List.mem_of_getElem? (i := 967) (by decide +kernel)
theorem ml_X9_299 : Cond.methodLink RX9 299 yX9_isStation ∈ lw_tbl := List.mem_of_getElem? (i := 971) (by decide +kernel)
theorem ml_X9_303 : Cond.methodLink RX9 303 yX4_enter ∈ lw_tbl := List.mem_of_getElem? (i := 974) (by decide +kernel)
theorem ml_X4_33 : Cond.methodLink RX4 33 yX4_describe ∈ lw_tbl := List.mem_of_getElem? (i := 978) (by decide +kernel)
theorem ml_L_134 : Cond.methodLink RL 134 yX9_change ∈ lw_tbl := List.mem_of_getElem? (i := 982) (by decide +kernel)
theorem ml_X9_309 : Cond.methodLink RX9 309 yX4_describe ∈ lw_tbl := List.mem_of_getElem? (i := 986) (by decide +kernel)
theorem ml_L_139 : Cond.methodLink RL 139 yX9_icing ∈ lw_tbl := List.mem_of_getElem? (i := 987) (by decide +kernel)
theorem ml_X9_313 : Cond.methodLink RX9 313 yX4_plan ∈ lw_tbl := List.mem_of_getElem? (i := 991) (by decide +kernel)
theorem ml_X4_37 : Cond.methodLink RX4 37 yJ7_fill_53178 ∈ lw_tbl := List.mem_of_getElem? (i := 995) (by decide +kernel)
theorem ml_X4_43 : Cond.methodLink RX4 43 yX4_planAt ∈ lw_tbl := List.mem_of_getElem? (i := 996) (by decide +kernel)
theorem ml_X4_47 : Cond.methodLink RX4 47 yJ9_min_7cf53 ∈ lw_tbl := List.mem_of_getElem? (i := 1000) (by decide +kernel)
theorem ml_X4_53 : Cond.methodLink RX4 53 yJ9_max_7cf53 ∈ lw_tbl := List.mem_of_getElem? (i := 1001) (by decide +kernel)
theorem ml_X9_315 : Cond.methodLink RX9 315 yX4_costFrom ∈ lw_tbl := List.mem_of_getElem? (i := 1002) (by decide +kernel)
theorem ml_X9_318 : Cond.methodLink RX9 318 yX4_boughtAt ∈ lw_tbl := List.mem_of_getElem? (i := 1006) (by decide +kernel)
theorem ml_L_143 : Cond.methodLink RL 143 yX9_ledger ∈ lw_tbl := List.mem_of_getElem? (i := 1010) (by decide +kernel)
theorem ml_L_147 : Cond.methodLink RL 147 yX9_tell ∈ lw_tbl := List.mem_of_getElem? (i := 1014) (by decide +kernel)
theorem ml_X9_340 : Cond.methodLink RX9 340 yX8_enter ∈ lw_tbl := List.mem_of_getElem? (i := 1018) (by decide +kernel)
theorem ml_L_151 : Cond.methodLink RL 151 yX9_check ∈ lw_tbl := List.mem_of_getElem? (i := 1022) (by decide +kernel)
theorem ml_X9_342 : Cond.methodLink RX9 342 yX8_clear ∈ lw_tbl := List.mem_of_getElem? (i := 1026) (by decide +kernel)
theorem ml_X9_345 : Cond.methodLink RX9 345 yX8_firstWrong ∈ lw_tbl := List.mem_of_getElem? (i := 1027) (by decide +kernel)
theorem ml_X8_32 : Cond.methodLink RX8 32 yX1_columnWeight ∈ lw_tbl := List.mem_of_getElem? (i := 1031) (by decide +kernel)
theorem ml_L_155 : Cond.methodLink RL 155 yX9_count ∈ lw_tbl := List.mem_of_getElem? (i := 1032) (by decide +kernel)
theorem ml_X9_349 : Cond.methodLink RX9 349 yX1_blocksWhere ∈ lw_tbl := List.mem_of_getElem? (i := 1036) (by decide +kernel)
theorem ml_L_159 : Cond.methodLink RL 159 yX9_found ∈ lw_tbl := List.mem_of_getElem? (i := 1040) (by decide +kernel)
theorem ml_L_12 : Cond.methodLink RL 12 yX10_init ∈ lw_tbl := List.mem_of_getElem? (i := 1046) (by decide +kernel)
theorem ml_L_17 : Cond.methodLink RL 17 yX10_frost ∈ lw_tbl := List.mem_of_getElem? (i := 1195) (by decide +kernel)
theorem ml_X10_123 : Cond.methodLink RX10 123 yX10_isIn ∈ lw_tbl := List.mem_of_getElem? (i := 1199) (by decide +kernel)
theorem ml_X10_127 : Cond.methodLink RX10 127 yX10_finding ∈ lw_tbl := List.mem_of_getElem? (i := 1202) (by decide +kernel)
theorem ml_X10_131 : Cond.methodLink RX10 131 yX10_clean ∈ lw_tbl := List.mem_of_getElem? (i := 1207) (by decide +kernel)
theorem ml_X10_138 : Cond.methodLink RX10 138 yX10_bearing ∈ lw_tbl := List.mem_of_getElem? (i := 1213) (by decide +kernel)
theorem ml_L_21 : Cond.methodLink RL 21 yX10_thaw ∈ lw_tbl := List.mem_of_getElem? (i := 1217) (by decide +kernel)
theorem ml_L_25 : Cond.methodLink RL 25 yX10_snow ∈ lw_tbl := List.mem_of_getElem? (i := 1221) (by decide +kernel)
theorem ml_L_29 : Cond.methodLink RL 29 yX10_scrape ∈ lw_tbl := List.mem_of_getElem? (i := 1225) (by decide +kernel)
theorem ml_L_34 : Cond.methodLink RL 34 yX10_cell ∈ lw_tbl := List.mem_of_getElem? (i := 1229) (by decide +kernel)
theorem ml_X10_141 : Cond.methodLink RX10 141 yX10_isCell ∈ lw_tbl := List.mem_of_getElem? (i := 1233) (by decide +kernel)
theorem ml_L_38 : Cond.methodLink RL 38 yX10_reached ∈ lw_tbl := List.mem_of_getElem? (i := 1236) (by decide +kernel)
theorem ml_X10_153 : Cond.methodLink RX10 153 yX10_flood ∈ lw_tbl := List.mem_of_getElem? (i := 1240) (by decide +kernel)
theorem ml_X10_145 : Cond.methodLink RX10 145 yX10_isOf ∈ lw_tbl := List.mem_of_getElem? (i := 1244) (by decide +kernel)
theorem ml_X10_149 : Cond.methodLink RX10 149 yX10_beside ∈ lw_tbl := List.mem_of_getElem? (i := 1247) (by decide +kernel)
theorem ml_L_42 : Cond.methodLink RL 42 yX10_reach ∈ lw_tbl := List.mem_of_getElem? (i := 1250) (by decide +kernel)
theorem ml_L_46 : Cond.methodLink RL 46 yX10_bars ∈ lw_tbl := List.mem_of_getElem? (i := 1254) (by decide +kernel)
theorem ml_X10_157 : Cond.methodLink RX10 157 yX10_isSquare ∈ lw_tbl := List.mem_of_getElem? (i := 1258) (by decide +kernel)
theorem ml_X10_160 : Cond.methodLink RX10 160 yX10_barOf ∈ lw_tbl := List.mem_of_getElem? (i := 1261) (by decide +kernel)
theorem ml_L_50 : Cond.methodLink RL 50 yX10_cut ∈ lw_tbl := List.mem_of_getElem? (i := 1265) (by decide +kernel)
theorem ml_L_54 : Cond.methodLink RL 54 yX10_season ∈ lw_tbl := List.mem_of_getElem? (i := 1269) (by decide +kernel)
theorem ml_X10_173 : Cond.methodLink RX10 173 yX10_trySeason ∈ lw_tbl := List.mem_of_getElem? (i := 1273) (by decide +kernel)
theorem ml_L_58 : Cond.methodLink RL 58 yX10_put ∈ lw_tbl := List.mem_of_getElem? (i := 1277) (by decide +kernel)
theorem ml_X10_191 : Cond.methodLink RX10 191 yX10_isBlock ∈ lw_tbl := List.mem_of_getElem? (i := 1281) (by decide +kernel)
theorem ml_X10_194 : Cond.methodLink RX10 194 yX10_isColumn ∈ lw_tbl := List.mem_of_getElem? (i := 1285) (by decide +kernel)
theorem ml_X10_197 : Cond.methodLink RX10 197 yX10_lay ∈ lw_tbl := List.mem_of_getElem? (i := 1288) (by decide +kernel)
theorem ml_X10_200 : Cond.methodLink RX10 200 yX10_breakAll ∈ lw_tbl := List.mem_of_getElem? (i := 1292) (by decide +kernel)
theorem ml_X10_179 : Cond.methodLink RX10 179 yX10_blockAt ∈ lw_tbl := List.mem_of_getElem? (i := 1296) (by decide +kernel)
theorem ml_X10_185 : Cond.methodLink RX10 185 yX10_loadOf ∈ lw_tbl := List.mem_of_getElem? (i := 1300) (by decide +kernel)
theorem ml_X10_188 : Cond.methodLink RX10 188 yX10_goes ∈ lw_tbl := List.mem_of_getElem? (i := 1304) (by decide +kernel)
theorem ml_X10_182 : Cond.methodLink RX10 182 yX10_takeOut ∈ lw_tbl := List.mem_of_getElem? (i := 1308) (by decide +kernel)
theorem ml_X10_203 : Cond.methodLink RX10 203 yX10_levelOf ∈ lw_tbl := List.mem_of_getElem? (i := 1312) (by decide +kernel)
theorem ml_L_62 : Cond.methodLink RL 62 yX10_take ∈ lw_tbl := List.mem_of_getElem? (i := 1316) (by decide +kernel)
theorem ml_L_66 : Cond.methodLink RL 66 yX10_move ∈ lw_tbl := List.mem_of_getElem? (i := 1320) (by decide +kernel)
theorem ml_L_70 : Cond.methodLink RL 70 yX10_as ∈ lw_tbl := List.mem_of_getElem? (i := 1324) (by decide +kernel)
theorem ml_L_74 : Cond.methodLink RL 74 yX10_about ∈ lw_tbl := List.mem_of_getElem? (i := 1328) (by decide +kernel)
theorem ml_X10_209 : Cond.methodLink RX10 209 yX10_warmthOf ∈ lw_tbl := List.mem_of_getElem? (i := 1332) (by decide +kernel)
theorem ml_X10_212 : Cond.methodLink RX10 212 yX10_meltOf ∈ lw_tbl := List.mem_of_getElem? (i := 1336) (by decide +kernel)
theorem ml_L_78 : Cond.methodLink RL 78 yX10_at ∈ lw_tbl := List.mem_of_getElem? (i := 1340) (by decide +kernel)
theorem ml_L_82 : Cond.methodLink RL 82 yX10_dust ∈ lw_tbl := List.mem_of_getElem? (i := 1344) (by decide +kernel)
theorem ml_L_86 : Cond.methodLink RL 86 yX10_cover ∈ lw_tbl := List.mem_of_getElem? (i := 1348) (by decide +kernel)
theorem ml_L_90 : Cond.methodLink RL 90 yX10_warmth ∈ lw_tbl := List.mem_of_getElem? (i := 1352) (by decide +kernel)
theorem ml_L_95 : Cond.methodLink RL 95 yX10_melts ∈ lw_tbl := List.mem_of_getElem? (i := 1356) (by decide +kernel)
theorem ml_X10_216 : Cond.methodLink RX10 216 yX10_allMelts ∈ lw_tbl := List.mem_of_getElem? (i := 1360) (by decide +kernel)
theorem ml_L_99 : Cond.methodLink RL 99 yX10_weeks ∈ lw_tbl := List.mem_of_getElem? (i := 1364) (by decide +kernel)
theorem ml_X10_220 : Cond.methodLink RX10 220 yX10_weekGoes ∈ lw_tbl := List.mem_of_getElem? (i := 1368) (by decide +kernel)
theorem ml_X10_223 : Cond.methodLink RX10 223 yX10_allWeight ∈ lw_tbl := List.mem_of_getElem? (i := 1372) (by decide +kernel)
theorem ml_L_103 : Cond.methodLink RL 103 yX10_after ∈ lw_tbl := List.mem_of_getElem? (i := 1376) (by decide +kernel)
theorem ml_X10_236 : Cond.methodLink RX10 236 yX10_layAside ∈ lw_tbl := List.mem_of_getElem? (i := 1380) (by decide +kernel)
theorem ml_X10_229 : Cond.methodLink RX10 229 yX10_lays ∈ lw_tbl := List.mem_of_getElem? (i := 1384) (by decide +kernel)
theorem ml_L_107 : Cond.methodLink RL 107 yX10_lasts ∈ lw_tbl := List.mem_of_getElem? (i := 1388) (by decide +kernel)
theorem ml_L_111 : Cond.methodLink RL 111 yX10_best ∈ lw_tbl := List.mem_of_getElem? (i := 1393) (by decide +kernel)
theorem ml_X10_242 : Cond.methodLink RX10 242 yX10_findDust ∈ lw_tbl := List.mem_of_getElem? (i := 1397) (by decide +kernel)
theorem ml_L_116 : Cond.methodLink RL 116 yX10_order ∈ lw_tbl := List.mem_of_getElem? (i := 1402) (by decide +kernel)
theorem ml_L_120 : Cond.methodLink RL 120 yX10_why ∈ lw_tbl := List.mem_of_getElem? (i := 1406) (by decide +kernel)
theorem ml_X10_254 : Cond.methodLink RX10 254 yX10_isOrder ∈ lw_tbl := List.mem_of_getElem? (i := 1410) (by decide +kernel)
theorem ml_X10_257 : Cond.methodLink RX10 257 yX10_whyNot ∈ lw_tbl := List.mem_of_getElem? (i := 1414) (by decide +kernel)
theorem ml_X10_248 : Cond.methodLink RX10 248 yX10_isOfGrade ∈ lw_tbl := List.mem_of_getElem? (i := 1418) (by decide +kernel)
theorem ml_X10_251 : Cond.methodLink RX10 251 yX10_comesOf ∈ lw_tbl := List.mem_of_getElem? (i := 1422) (by decide +kernel)
theorem ml_L_124 : Cond.methodLink RL 124 yX10_serve ∈ lw_tbl := List.mem_of_getElem? (i := 1426) (by decide +kernel)
theorem ml_L_128 : Cond.methodLink RL 128 yX10_sales ∈ lw_tbl := List.mem_of_getElem? (i := 1430) (by decide +kernel)
theorem ml_X10_266 : Cond.methodLink RX10 266 yX10_trySales ∈ lw_tbl := List.mem_of_getElem? (i := 1434) (by decide +kernel)
theorem ml_L_133 : Cond.methodLink RL 133 yX10_station ∈ lw_tbl := List.mem_of_getElem? (i := 1438) (by decide +kernel)
theorem ml_X10_269 : Cond.methodLink RX10 269 yX10_isStation ∈ lw_tbl := List.mem_of_getElem? (i := 1442) (by decide +kernel)
theorem ml_X10_275 : Cond.methodLink RX10 275 yX10_tellStation ∈ lw_tbl := List.mem_of_getElem? (i := 1445) (by decide +kernel)
theorem ml_L_138 : Cond.methodLink RL 138 yX10_change ∈ lw_tbl := List.mem_of_getElem? (i := 1449) (by decide +kernel)
theorem ml_L_142 : Cond.methodLink RL 142 yX10_icing ∈ lw_tbl := List.mem_of_getElem? (i := 1453) (by decide +kernel)
theorem ml_X10_279 : Cond.methodLink RX10 279 yX10_costOf ∈ lw_tbl := List.mem_of_getElem? (i := 1457) (by decide +kernel)
theorem ml_L_146 : Cond.methodLink RL 146 yX10_ledger ∈ lw_tbl := List.mem_of_getElem? (i := 1461) (by decide +kernel)
theorem ml_L_150 : Cond.methodLink RL 150 yX10_tell ∈ lw_tbl := List.mem_of_getElem? (i := 1465) (by decide +kernel)
theorem ml_L_154 : Cond.methodLink RL 154 yX10_check ∈ lw_tbl := List.mem_of_getElem? (i := 1469) (by decide +kernel)
theorem ml_L_158 : Cond.methodLink RL 158 yX10_count ∈ lw_tbl := List.mem_of_getElem? (i := 1473) (by decide +kernel)
theorem ml_X10_283 : Cond.methodLink RX10 283 yX10_placed ∈ lw_tbl := List.mem_of_getElem? (i := 1477) (by decide +kernel)
theorem ml_L_162 : Cond.methodLink RL 162 yX10_found ∈ lw_tbl := List.mem_of_getElem? (i := 1481) (by decide +kernel)
theorem kc_X9_355 : Cond.constant RX9 355 (-1000000) ∈ lw_tbl := List.mem_of_getElem? (i := 445) (by decide +kernel)
theorem kc_X9_252 : Cond.constant RX9 252 (100000) ∈ lw_tbl := List.mem_of_getElem? (i := 826) (by decide +kernel)
theorem kc_X0_48 : Cond.constant RX0 48 (2147483647) ∈ lw_tbl := List.mem_of_getElem? (i := 839) (by decide +kernel)
theorem kc_X10_122 : Cond.constant RX10 122 (-1000000) ∈ lw_tbl := List.mem_of_getElem? (i := 1206) (by decide +kernel)
theorem kc_X10_240 : Cond.constant RX10 240 (100000) ∈ lw_tbl := List.mem_of_getElem? (i := 1392) (by decide +kernel)
theorem kc_X10_241 : Cond.constant RX10 241 (1000000) ∈ lw_tbl := List.mem_of_getElem? (i := 1401) (by decide +kernel)
theorem kc_J13_314 : Cond.constantLong RJ13 314 (6148914691236517205) ∈ lw_tbl := List.mem_of_getElem? (i := 466) (by decide +kernel)
theorem kc_J13_316 : Cond.constantLong RJ13 316 (3689348814741910323) ∈ lw_tbl := List.mem_of_getElem? (i := 467) (by decide +kernel)
theorem kc_J13_318 : Cond.constantLong RJ13 318 (1085102592571150095) ∈ lw_tbl := List.mem_of_getElem? (i := 468) (by decide +kernel)
theorem kc_X2_51 : Cond.constantLong RX2 51 (255) ∈ lw_tbl := List.mem_of_getElem? (i := 518) (by decide +kernel)
theorem kc_X2_57 : Cond.constantLong RX2 57 (-72340172838076674) ∈ lw_tbl := List.mem_of_getElem? (i := 522) (by decide +kernel)
theorem kc_X2_59 : Cond.constantLong RX2 59 (9187201950435737471) ∈ lw_tbl := List.mem_of_getElem? (i := 523) (by decide +kernel)
theorem kc_X2_65 : Cond.constantLong RX2 65 (771) ∈ lw_tbl := List.mem_of_getElem? (i := 543) (by decide +kernel)
theorem kc_X2_77 : Cond.constantLong RX2 77 (-1) ∈ lw_tbl := List.mem_of_getElem? (i := 548) (by decide +kernel)
theorem kc_X6_71 : Cond.constantLong RX6 71 (-1) ∈ lw_tbl := List.mem_of_getElem? (i := 622) (by decide +kernel)
theorem cw_X0_init : iz_CW yX0_init cX0_init 1 none 0 := ⟨List.mem_of_getElem? (i := 231) (by decide +kernel), List.mem_of_getElem? (i := 71) (by decide +kernel), by decide +kernel, by decide⟩
theorem cw_X0_plan : iz_CW yX0_plan cX0_plan 5 none 2 := ⟨List.mem_of_getElem? (i := 834) (by decide +kernel), List.mem_of_getElem? (i := 71) (by decide +kernel), by decide +kernel, by decide⟩
theorem ci_X0_plan : iz_CI yX0_plan 0 := ⟨List.mem_of_getElem? (i := 832) (by decide +kernel), List.mem_of_getElem? (i := 833) (by decide +kernel), ⟨TX0, 7, rfl⟩⟩
theorem cw_X0_clearTables : iz_CW yX0_clearTables cX0_clearTables 2 none 0 := ⟨List.mem_of_getElem? (i := 838) (by decide +kernel), List.mem_of_getElem? (i := 71) (by decide +kernel), by decide +kernel, by decide⟩
theorem ci_X0_clearTables : iz_CI yX0_clearTables 0 := ⟨List.mem_of_getElem? (i := 837) (by decide +kernel), List.mem_of_getElem? (i := 18) (by decide +kernel), ⟨TX0, 7, rfl⟩⟩
theorem cw_X0_addColumn : iz_CW yX0_addColumn cX0_addColumn 7 none 4 := ⟨List.mem_of_getElem? (i := 846) (by decide +kernel), List.mem_of_getElem? (i := 71) (by decide +kernel), by decide +kernel, by decide⟩
theorem ci_X0_addColumn : iz_CI yX0_addColumn 0 := ⟨List.mem_of_getElem? (i := 845) (by decide +kernel), List.mem_of_getElem? (i := 19) (by decide +kernel), ⟨TX0, 7, rfl⟩⟩
theorem cw_X0_trySides : iz_CW yX0_trySides cX0_trySides 9 none 3 := ⟨List.mem_of_getElem? (i := 852) (by decide +kernel), List.mem_of_getElem? (i := 71) (by decide +kernel), by decide +kernel, by decide⟩
theorem ci_X0_trySides : iz_CI yX0_trySides 0 := ⟨List.mem_of_getElem? (i := 851) (by decide +kernel), List.mem_of_getElem? (i := 20) (by decide +kernel), ⟨TX0, 7, rfl⟩⟩
theorem cw_X0_fillFewest : iz_CW yX0_fillFewest cX0_fillFewest 5 none 2 := ⟨List.mem_of_getElem? (i := 856) (by decide +kernel), List.mem_of_getElem? (i := 71) (by decide +kernel), by decide +kernel, by decide⟩
theorem ci_X0_fillFewest : iz_CI yX0_fillFewest 0 := ⟨List.mem_of_getElem? (i := 855) (by decide +kernel), List.mem_of_getElem? (i := 21) (by decide +kernel), ⟨TX0, 7, rfl⟩⟩
theorem cw_X0_sideMelts : iz_CW yX0_sideMelts cX0_sideMelts 5 (some .int) 4 := ⟨List.mem_of_getElem? (i := 860) (by decide +kernel), List.mem_of_getElem? (i := 71) (by decide +kernel), by decide +kernel, by decide⟩
theorem ci_X0_sideMelts : iz_CI yX0_sideMelts 0 := ⟨List.mem_of_getElem? (i := 859) (by decide +kernel), List.mem_of_getElem? (i := 22) (by decide +kernel), ⟨TX0, 7, rfl⟩⟩
theorem cw_X0_keep : iz_CW yX0_keep cX0_keep 6 none 5 := ⟨List.mem_of_getElem? (i := 865) (by decide +kernel), List.mem_of_getElem? (i := 71) (by decide +kernel), by decide +kernel, by decide⟩
theorem ci_X0_keep : iz_CI yX0_keep 0 := ⟨List.mem_of_getElem? (i := 864) (by decide +kernel), List.mem_of_getElem? (i := 23) (by decide +kernel), ⟨TX0, 7, rfl⟩⟩
theorem cw_X1_init : iz_CW yX1_init cX1_init 2 none 1 := ⟨List.mem_of_getElem? (i := 169) (by decide +kernel), List.mem_of_getElem? (i := 70) (by decide +kernel), by decide +kernel, by decide⟩
theorem cw_X1_becomeLike : iz_CW yX1_becomeLike cX1_becomeLike 2 none 1 := ⟨List.mem_of_getElem? (i := 820) (by decide +kernel), List.mem_of_getElem? (i := 70) (by decide +kernel), by decide +kernel, by decide⟩
theorem ci_X1_becomeLike : iz_CI yX1_becomeLike 1 := ⟨List.mem_of_getElem? (i := 818) (by decide +kernel), List.mem_of_getElem? (i := 819) (by decide +kernel), ⟨TX1, 13, rfl⟩⟩
theorem cw_X1_newBlock : iz_CW yX1_newBlock cX1_newBlock 3 (some .int) 2 := ⟨List.mem_of_getElem? (i := 570) (by decide +kernel), List.mem_of_getElem? (i := 70) (by decide +kernel), by decide +kernel, by decide⟩
theorem ci_X1_newBlock : iz_CI yX1_newBlock 1 := ⟨List.mem_of_getElem? (i := 568) (by decide +kernel), List.mem_of_getElem? (i := 569) (by decide +kernel), ⟨TX1, 13, rfl⟩⟩
theorem cw_X1_hasBlock : iz_CW yX1_hasBlock cX1_hasBlock 2 (some .boolean) 1 := ⟨List.mem_of_getElem? (i := 635) (by decide +kernel), List.mem_of_getElem? (i := 70) (by decide +kernel), by decide +kernel, by decide⟩
theorem ci_X1_hasBlock : iz_CI yX1_hasBlock 1 := ⟨List.mem_of_getElem? (i := 633) (by decide +kernel), List.mem_of_getElem? (i := 634) (by decide +kernel), ⟨TX1, 13, rfl⟩⟩
theorem cw_X1_blocksWhere : iz_CW yX1_blocksWhere cX1_blocksWhere 4 (some .int) 1 := ⟨List.mem_of_getElem? (i := 1039) (by decide +kernel), List.mem_of_getElem? (i := 70) (by decide +kernel), by decide +kernel, by decide⟩
theorem ci_X1_blocksWhere : iz_CI yX1_blocksWhere 1 := ⟨List.mem_of_getElem? (i := 1037) (by decide +kernel), List.mem_of_getElem? (i := 1038) (by decide +kernel), ⟨TX1, 13, rfl⟩⟩
theorem cw_X1_isEmpty : iz_CW yX1_isEmpty cX1_isEmpty 2 (some .boolean) 1 := ⟨List.mem_of_getElem? (i := 683) (by decide +kernel), List.mem_of_getElem? (i := 70) (by decide +kernel), by decide +kernel, by decide⟩
theorem ci_X1_isEmpty : iz_CI yX1_isEmpty 1 := ⟨List.mem_of_getElem? (i := 681) (by decide +kernel), List.mem_of_getElem? (i := 682) (by decide +kernel), ⟨TX1, 13, rfl⟩⟩
theorem cw_X1_isFull : iz_CW yX1_isFull cX1_isFull 2 (some .boolean) 1 := ⟨List.mem_of_getElem? (i := 643) (by decide +kernel), List.mem_of_getElem? (i := 70) (by decide +kernel), by decide +kernel, by decide⟩
theorem ci_X1_isFull : iz_CI yX1_isFull 1 := ⟨List.mem_of_getElem? (i := 641) (by decide +kernel), List.mem_of_getElem? (i := 642) (by decide +kernel), ⟨TX1, 13, rfl⟩⟩
theorem cw_X1_blockAt : iz_CW yX1_blockAt cX1_blockAt 3 (some .int) 2 := ⟨List.mem_of_getElem? (i := 659) (by decide +kernel), List.mem_of_getElem? (i := 70) (by decide +kernel), by decide +kernel, by decide⟩
theorem ci_X1_blockAt : iz_CI yX1_blockAt 1 := ⟨List.mem_of_getElem? (i := 657) (by decide +kernel), List.mem_of_getElem? (i := 658) (by decide +kernel), ⟨TX1, 13, rfl⟩⟩
theorem cw_X1_topOf : iz_CW yX1_topOf cX1_topOf 2 (some .int) 1 := ⟨List.mem_of_getElem? (i := 695) (by decide +kernel), List.mem_of_getElem? (i := 70) (by decide +kernel), by decide +kernel, by decide⟩
theorem ci_X1_topOf : iz_CI yX1_topOf 1 := ⟨List.mem_of_getElem? (i := 693) (by decide +kernel), List.mem_of_getElem? (i := 694) (by decide +kernel), ⟨TX1, 13, rfl⟩⟩
theorem cw_X1_slotOf : iz_CW yX1_slotOf cX1_slotOf 3 (some .int) 1 := ⟨List.mem_of_getElem? (i := 718) (by decide +kernel), List.mem_of_getElem? (i := 70) (by decide +kernel), by decide +kernel, by decide⟩
theorem ci_X1_slotOf : iz_CI yX1_slotOf 1 := ⟨List.mem_of_getElem? (i := 716) (by decide +kernel), List.mem_of_getElem? (i := 717) (by decide +kernel), ⟨TX1, 13, rfl⟩⟩
theorem cw_X1_bringIn : iz_CW yX1_bringIn cX1_bringIn 3 none 2 := ⟨List.mem_of_getElem? (i := 647) (by decide +kernel), List.mem_of_getElem? (i := 70) (by decide +kernel), by decide +kernel, by decide⟩
theorem ci_X1_bringIn : iz_CI yX1_bringIn 1 := ⟨List.mem_of_getElem? (i := 645) (by decide +kernel), List.mem_of_getElem? (i := 646) (by decide +kernel), ⟨TX1, 13, rfl⟩⟩
theorem cw_X1_layOn : iz_CW yX1_layOn cX1_layOn 3 none 2 := ⟨List.mem_of_getElem? (i := 651) (by decide +kernel), List.mem_of_getElem? (i := 70) (by decide +kernel), by decide +kernel, by decide⟩
theorem ci_X1_layOn : iz_CI yX1_layOn 1 := ⟨List.mem_of_getElem? (i := 649) (by decide +kernel), List.mem_of_getElem? (i := 650) (by decide +kernel), ⟨TX1, 13, rfl⟩⟩
theorem cw_X1_liftTop : iz_CW yX1_liftTop cX1_liftTop 3 (some .int) 1 := ⟨List.mem_of_getElem? (i := 691) (by decide +kernel), List.mem_of_getElem? (i := 70) (by decide +kernel), by decide +kernel, by decide⟩
theorem ci_X1_liftTop : iz_CI yX1_liftTop 1 := ⟨List.mem_of_getElem? (i := 689) (by decide +kernel), List.mem_of_getElem? (i := 690) (by decide +kernel), ⟨TX1, 13, rfl⟩⟩
theorem cw_X1_throwOut : iz_CW yX1_throwOut cX1_throwOut 3 (some .int) 1 := ⟨List.mem_of_getElem? (i := 687) (by decide +kernel), List.mem_of_getElem? (i := 70) (by decide +kernel), by decide +kernel, by decide⟩
theorem ci_X1_throwOut : iz_CI yX1_throwOut 1 := ⟨List.mem_of_getElem? (i := 685) (by decide +kernel), List.mem_of_getElem? (i := 686) (by decide +kernel), ⟨TX1, 13, rfl⟩⟩
theorem cw_X1_sellTop : iz_CW yX1_sellTop cX1_sellTop 4 none 2 := ⟨List.mem_of_getElem? (i := 910) (by decide +kernel), List.mem_of_getElem? (i := 70) (by decide +kernel), by decide +kernel, by decide⟩
theorem ci_X1_sellTop : iz_CI yX1_sellTop 1 := ⟨List.mem_of_getElem? (i := 908) (by decide +kernel), List.mem_of_getElem? (i := 909) (by decide +kernel), ⟨TX1, 13, rfl⟩⟩
theorem cw_X1_letGo : iz_CW yX1_letGo cX1_letGo 2 none 1 := ⟨List.mem_of_getElem? (i := 675) (by decide +kernel), List.mem_of_getElem? (i := 70) (by decide +kernel), by decide +kernel, by decide⟩
theorem ci_X1_letGo : iz_CI yX1_letGo 1 := ⟨List.mem_of_getElem? (i := 674) (by decide +kernel), List.mem_of_getElem? (i := 11) (by decide +kernel), ⟨TX1, 13, rfl⟩⟩
theorem cw_X1_removeAt : iz_CW yX1_removeAt cX1_removeAt 5 none 2 := ⟨List.mem_of_getElem? (i := 671) (by decide +kernel), List.mem_of_getElem? (i := 70) (by decide +kernel), by decide +kernel, by decide⟩
theorem ci_X1_removeAt : iz_CI yX1_removeAt 1 := ⟨List.mem_of_getElem? (i := 670) (by decide +kernel), List.mem_of_getElem? (i := 10) (by decide +kernel), ⟨TX1, 13, rfl⟩⟩
theorem cw_X1_loadOver : iz_CW yX1_loadOver cX1_loadOver 5 (some .int) 2 := ⟨List.mem_of_getElem? (i := 667) (by decide +kernel), List.mem_of_getElem? (i := 70) (by decide +kernel), by decide +kernel, by decide⟩
theorem ci_X1_loadOver : iz_CI yX1_loadOver 1 := ⟨List.mem_of_getElem? (i := 665) (by decide +kernel), List.mem_of_getElem? (i := 666) (by decide +kernel), ⟨TX1, 13, rfl⟩⟩
theorem cw_X1_columnWeight : iz_CW yX1_columnWeight cX1_columnWeight 2 (some .int) 1 := ⟨List.mem_of_getElem? (i := 812) (by decide +kernel), List.mem_of_getElem? (i := 70) (by decide +kernel), by decide +kernel, by decide⟩
theorem ci_X1_columnWeight : iz_CI yX1_columnWeight 1 := ⟨List.mem_of_getElem? (i := 810) (by decide +kernel), List.mem_of_getElem? (i := 811) (by decide +kernel), ⟨TX1, 13, rfl⟩⟩
theorem cw_X1_allWeight : iz_CW yX1_allWeight cX1_allWeight 3 (some .int) 0 := ⟨List.mem_of_getElem? (i := 808) (by decide +kernel), List.mem_of_getElem? (i := 70) (by decide +kernel), by decide +kernel, by decide⟩
theorem ci_X1_allWeight : iz_CI yX1_allWeight 1 := ⟨List.mem_of_getElem? (i := 806) (by decide +kernel), List.mem_of_getElem? (i := 807) (by decide +kernel), ⟨TX1, 13, rfl⟩⟩
theorem cw_X1_breakShelves : iz_CW yX1_breakShelves cX1_breakShelves 5 none 1 := ⟨List.mem_of_getElem? (i := 655) (by decide +kernel), List.mem_of_getElem? (i := 70) (by decide +kernel), by decide +kernel, by decide⟩
theorem ci_X1_breakShelves : iz_CI yX1_breakShelves 1 := ⟨List.mem_of_getElem? (i := 654) (by decide +kernel), List.mem_of_getElem? (i := 8) (by decide +kernel), ⟨TX1, 13, rfl⟩⟩
theorem cw_X1_breaksAt : iz_CW yX1_breaksAt cX1_breaksAt 4 (some .boolean) 2 := ⟨List.mem_of_getElem? (i := 663) (by decide +kernel), List.mem_of_getElem? (i := 70) (by decide +kernel), by decide +kernel, by decide⟩
theorem ci_X1_breaksAt : iz_CI yX1_breaksAt 1 := ⟨List.mem_of_getElem? (i := 662) (by decide +kernel), List.mem_of_getElem? (i := 9) (by decide +kernel), ⟨TX1, 13, rfl⟩⟩
theorem cw_X1_meltAt : iz_CW yX1_meltAt cX1_meltAt 3 (some .int) 2 := ⟨List.mem_of_getElem? (i := 723) (by decide +kernel), List.mem_of_getElem? (i := 70) (by decide +kernel), by decide +kernel, by decide⟩
theorem ci_X1_meltAt : iz_CI yX1_meltAt 1 := ⟨List.mem_of_getElem? (i := 721) (by decide +kernel), List.mem_of_getElem? (i := 722) (by decide +kernel), ⟨TX1, 13, rfl⟩⟩
theorem cw_X1_meltBehind : iz_CW yX1_meltBehind cX1_meltBehind 6 (some .int) 3 := ⟨List.mem_of_getElem? (i := 741) (by decide +kernel), List.mem_of_getElem? (i := 70) (by decide +kernel), by decide +kernel, by decide⟩
theorem ci_X1_meltBehind : iz_CI yX1_meltBehind 1 := ⟨List.mem_of_getElem? (i := 740) (by decide +kernel), List.mem_of_getElem? (i := 13) (by decide +kernel), ⟨TX1, 13, rfl⟩⟩
theorem cw_X1_openTenths : iz_CW yX1_openTenths cX1_openTenths 6 (some .int) 2 := ⟨List.mem_of_getElem? (i := 750) (by decide +kernel), List.mem_of_getElem? (i := 70) (by decide +kernel), by decide +kernel, by decide⟩
theorem ci_X1_openTenths : iz_CI yX1_openTenths 1 := ⟨List.mem_of_getElem? (i := 749) (by decide +kernel), List.mem_of_getElem? (i := 14) (by decide +kernel), ⟨TX1, 13, rfl⟩⟩
theorem cw_X1_sideTenths : iz_CW yX1_sideTenths cX1_sideTenths 3 (some .int) 2 := ⟨List.mem_of_getElem? (i := 754) (by decide +kernel), List.mem_of_getElem? (i := 70) (by decide +kernel), by decide +kernel, by decide⟩
theorem ci_X1_sideTenths : iz_CI yX1_sideTenths 1 := ⟨List.mem_of_getElem? (i := 753) (by decide +kernel), List.mem_of_getElem? (i := 15) (by decide +kernel), ⟨TX1, 13, rfl⟩⟩
theorem cw_X1_columnMelts : iz_CW yX1_columnMelts cX1_columnMelts 5 (some .int) 2 := ⟨List.mem_of_getElem? (i := 787) (by decide +kernel), List.mem_of_getElem? (i := 70) (by decide +kernel), by decide +kernel, by decide⟩
theorem ci_X1_columnMelts : iz_CI yX1_columnMelts 1 := ⟨List.mem_of_getElem? (i := 785) (by decide +kernel), List.mem_of_getElem? (i := 786) (by decide +kernel), ⟨TX1, 13, rfl⟩⟩
theorem cw_X1_allMelts : iz_CW yX1_allMelts cX1_allMelts 3 (some .int) 0 := ⟨List.mem_of_getElem? (i := 783) (by decide +kernel), List.mem_of_getElem? (i := 70) (by decide +kernel), by decide +kernel, by decide⟩
theorem ci_X1_allMelts : iz_CI yX1_allMelts 1 := ⟨List.mem_of_getElem? (i := 781) (by decide +kernel), List.mem_of_getElem? (i := 782) (by decide +kernel), ⟨TX1, 13, rfl⟩⟩
theorem cw_X1_passWeeks : iz_CW yX1_passWeeks cX1_passWeeks 4 none 1 := ⟨List.mem_of_getElem? (i := 795) (by decide +kernel), List.mem_of_getElem? (i := 70) (by decide +kernel), by decide +kernel, by decide⟩
theorem ci_X1_passWeeks : iz_CI yX1_passWeeks 1 := ⟨List.mem_of_getElem? (i := 793) (by decide +kernel), List.mem_of_getElem? (i := 794) (by decide +kernel), ⟨TX1, 13, rfl⟩⟩
theorem cw_X1_meltAll : iz_CW yX1_meltAll cX1_meltAll 4 none 0 := ⟨List.mem_of_getElem? (i := 799) (by decide +kernel), List.mem_of_getElem? (i := 70) (by decide +kernel), by decide +kernel, by decide⟩
theorem ci_X1_meltAll : iz_CI yX1_meltAll 1 := ⟨List.mem_of_getElem? (i := 798) (by decide +kernel), List.mem_of_getElem? (i := 16) (by decide +kernel), ⟨TX1, 13, rfl⟩⟩
theorem cw_X1_dropMelted : iz_CW yX1_dropMelted cX1_dropMelted 4 none 1 := ⟨List.mem_of_getElem? (i := 804) (by decide +kernel), List.mem_of_getElem? (i := 70) (by decide +kernel), by decide +kernel, by decide⟩
theorem ci_X1_dropMelted : iz_CI yX1_dropMelted 1 := ⟨List.mem_of_getElem? (i := 803) (by decide +kernel), List.mem_of_getElem? (i := 17) (by decide +kernel), ⟨TX1, 13, rfl⟩⟩
theorem cw_X2_init : iz_CW yX2_init cX2_init 1 none 0 := ⟨List.mem_of_getElem? (i := 92) (by decide +kernel), List.mem_of_getElem? (i := 66) (by decide +kernel), by decide +kernel, by decide⟩
theorem cw_X2_freeze : iz_CW yX2_freeze cX2_freeze 4 none 1 := ⟨List.mem_of_getElem? (i := 449) (by decide +kernel), List.mem_of_getElem? (i := 66) (by decide +kernel), by decide +kernel, by decide⟩
theorem ci_X2_freeze : iz_CI yX2_freeze 2 := ⟨List.mem_of_getElem? (i := 447) (by decide +kernel), List.mem_of_getElem? (i := 448) (by decide +kernel), ⟨TX2, 3, rfl⟩⟩
theorem cw_X2_rootUpFrom : iz_CW yX2_rootUpFrom cX2_rootUpFrom 3 (some .int) 2 := ⟨List.mem_of_getElem? (i := 452) (by decide +kernel), List.mem_of_getElem? (i := 66) (by decide +kernel), by decide +kernel, by decide⟩
theorem ci_X2_rootUpFrom : Cond.static yX2_rootUpFrom ∈ lw_tbl := List.mem_of_getElem? (i := 451) (by decide +kernel)
theorem cw_X2_soften : iz_CW yX2_soften cX2_soften 3 none 1 := ⟨List.mem_of_getElem? (i := 476) (by decide +kernel), List.mem_of_getElem? (i := 66) (by decide +kernel), by decide +kernel, by decide⟩
theorem ci_X2_soften : iz_CI yX2_soften 2 := ⟨List.mem_of_getElem? (i := 474) (by decide +kernel), List.mem_of_getElem? (i := 475) (by decide +kernel), ⟨TX2, 3, rfl⟩⟩
theorem cw_X2_snowOver : iz_CW yX2_snowOver cX2_snowOver 4 (some .int) 1 := ⟨List.mem_of_getElem? (i := 492) (by decide +kernel), List.mem_of_getElem? (i := 66) (by decide +kernel), by decide +kernel, by decide⟩
theorem ci_X2_snowOver : iz_CI yX2_snowOver 2 := ⟨List.mem_of_getElem? (i := 490) (by decide +kernel), List.mem_of_getElem? (i := 491) (by decide +kernel), ⟨TX2, 3, rfl⟩⟩
theorem cw_X2_clearRow : iz_CW yX2_clearRow cX2_clearRow 4 (some .int) 1 := ⟨List.mem_of_getElem? (i := 503) (by decide +kernel), List.mem_of_getElem? (i := 66) (by decide +kernel), by decide +kernel, by decide⟩
theorem ci_X2_clearRow : iz_CI yX2_clearRow 2 := ⟨List.mem_of_getElem? (i := 501) (by decide +kernel), List.mem_of_getElem? (i := 502) (by decide +kernel), ⟨TX2, 3, rfl⟩⟩
theorem cw_X2_frozenCells : iz_CW yX2_frozenCells cX2_frozenCells 1 (some .int) 0 := ⟨List.mem_of_getElem? (i := 483) (by decide +kernel), List.mem_of_getElem? (i := 66) (by decide +kernel), by decide +kernel, by decide⟩
theorem ci_X2_frozenCells : iz_CI yX2_frozenCells 2 := ⟨List.mem_of_getElem? (i := 481) (by decide +kernel), List.mem_of_getElem? (i := 482) (by decide +kernel), ⟨TX2, 3, rfl⟩⟩
theorem cw_X2_bearing : iz_CW yX2_bearing cX2_bearing 2 (some .long) 1 := ⟨List.mem_of_getElem? (i := 456) (by decide +kernel), List.mem_of_getElem? (i := 66) (by decide +kernel), by decide +kernel, by decide⟩
theorem ci_X2_bearing : iz_CI yX2_bearing 2 := ⟨List.mem_of_getElem? (i := 454) (by decide +kernel), List.mem_of_getElem? (i := 455) (by decide +kernel), ⟨TX2, 3, rfl⟩⟩
theorem cw_X2_cellsOf : iz_CW yX2_cellsOf cX2_cellsOf 5 (some .long) 1 := ⟨List.mem_of_getElem? (i := 462) (by decide +kernel), List.mem_of_getElem? (i := 66) (by decide +kernel), by decide +kernel, by decide⟩
theorem ci_X2_cellsOf : iz_CI yX2_cellsOf 2 := ⟨List.mem_of_getElem? (i := 460) (by decide +kernel), List.mem_of_getElem? (i := 461) (by decide +kernel), ⟨TX2, 3, rfl⟩⟩
theorem cw_X2_reachedOver : iz_CW yX2_reachedOver cX2_reachedOver 7 (some .long) 1 := ⟨List.mem_of_getElem? (i := 517) (by decide +kernel), List.mem_of_getElem? (i := 66) (by decide +kernel), by decide +kernel, by decide⟩
theorem ci_X2_reachedOver : Cond.static yX2_reachedOver ∈ lw_tbl := List.mem_of_getElem? (i := 516) (by decide +kernel)
theorem cw_X2_beside : iz_CW yX2_beside cX2_beside 2 (some .long) 1 := ⟨List.mem_of_getElem? (i := 521) (by decide +kernel), List.mem_of_getElem? (i := 66) (by decide +kernel), by decide +kernel, by decide⟩
theorem ci_X2_beside : Cond.static yX2_beside ∈ lw_tbl := List.mem_of_getElem? (i := 520) (by decide +kernel)
theorem cw_X2_isSquare : iz_CW yX2_isSquare cX2_isSquare 1 (some .boolean) 1 := ⟨List.mem_of_getElem? (i := 534) (by decide +kernel), List.mem_of_getElem? (i := 66) (by decide +kernel), by decide +kernel, by decide⟩
theorem ci_X2_isSquare : Cond.static yX2_isSquare ∈ lw_tbl := List.mem_of_getElem? (i := 533) (by decide +kernel)
theorem cw_X2_cellsOfSquare : iz_CW yX2_cellsOfSquare cX2_cellsOfSquare 1 (some .long) 1 := ⟨List.mem_of_getElem? (i := 542) (by decide +kernel), List.mem_of_getElem? (i := 66) (by decide +kernel), by decide +kernel, by decide⟩
theorem ci_X2_cellsOfSquare : Cond.static yX2_cellsOfSquare ∈ lw_tbl := List.mem_of_getElem? (i := 541) (by decide +kernel)
theorem cw_X2_barTo : iz_CW yX2_barTo cX2_barTo 2 (some .int) 1 := ⟨List.mem_of_getElem? (i := 539) (by decide +kernel), List.mem_of_getElem? (i := 66) (by decide +kernel), by decide +kernel, by decide⟩
theorem ci_X2_barTo : iz_CI yX2_barTo 2 := ⟨List.mem_of_getElem? (i := 537) (by decide +kernel), List.mem_of_getElem? (i := 538) (by decide +kernel), ⟨TX2, 3, rfl⟩⟩
theorem cw_X2_barAmong : iz_CW yX2_barAmong cX2_barAmong 8 (some .int) 3 := ⟨List.mem_of_getElem? (i := 547) (by decide +kernel), List.mem_of_getElem? (i := 66) (by decide +kernel), by decide +kernel, by decide⟩
theorem ci_X2_barAmong : Cond.static yX2_barAmong ∈ lw_tbl := List.mem_of_getElem? (i := 546) (by decide +kernel)
theorem cw_X2_thicksOf : iz_CW yX2_thicksOf cX2_thicksOf 2 (some .int) 1 := ⟨List.mem_of_getElem? (i := 565) (by decide +kernel), List.mem_of_getElem? (i := 66) (by decide +kernel), by decide +kernel, by decide⟩
theorem ci_X2_thicksOf : iz_CI yX2_thicksOf 2 := ⟨List.mem_of_getElem? (i := 563) (by decide +kernel), List.mem_of_getElem? (i := 564) (by decide +kernel), ⟨TX2, 3, rfl⟩⟩
theorem cw_X2_kindOf : iz_CW yX2_kindOf cX2_kindOf 3 (some .int) 1 := ⟨List.mem_of_getElem? (i := 557) (by decide +kernel), List.mem_of_getElem? (i := 66) (by decide +kernel), by decide +kernel, by decide⟩
theorem ci_X2_kindOf : iz_CI yX2_kindOf 2 := ⟨List.mem_of_getElem? (i := 555) (by decide +kernel), List.mem_of_getElem? (i := 556) (by decide +kernel), ⟨TX2, 3, rfl⟩⟩
theorem cw_X2_milk : iz_CW yX2_milk cX2_milk 2 (some .int) 1 := ⟨List.mem_of_getElem? (i := 561) (by decide +kernel), List.mem_of_getElem? (i := 66) (by decide +kernel), by decide +kernel, by decide⟩
theorem ci_X2_milk : iz_CI yX2_milk 2 := ⟨List.mem_of_getElem? (i := 560) (by decide +kernel), List.mem_of_getElem? (i := 1) (by decide +kernel), ⟨TX2, 3, rfl⟩⟩
theorem cw_X2_open : iz_CW yX2_open cX2_open 2 none 1 := ⟨List.mem_of_getElem? (i := 574) (by decide +kernel), List.mem_of_getElem? (i := 66) (by decide +kernel), by decide +kernel, by decide⟩
theorem ci_X2_open : iz_CI yX2_open 2 := ⟨List.mem_of_getElem? (i := 572) (by decide +kernel), List.mem_of_getElem? (i := 573) (by decide +kernel), ⟨TX2, 3, rfl⟩⟩
theorem cw_X2_openCell : iz_CW yX2_openCell cX2_openCell 2 none 1 := ⟨List.mem_of_getElem? (i := 578) (by decide +kernel), List.mem_of_getElem? (i := 66) (by decide +kernel), by decide +kernel, by decide⟩
theorem ci_X2_openCell : iz_CI yX2_openCell 2 := ⟨List.mem_of_getElem? (i := 577) (by decide +kernel), List.mem_of_getElem? (i := 2) (by decide +kernel), ⟨TX2, 3, rfl⟩⟩
theorem cw_X3_init : iz_CW yX3_init cX3_init 2 none 1 := ⟨List.mem_of_getElem? (i := 263) (by decide +kernel), List.mem_of_getElem? (i := 72) (by decide +kernel), by decide +kernel, by decide⟩
theorem cw_X3_has : iz_CW yX3_has cX3_has 2 (some .boolean) 1 := ⟨List.mem_of_getElem? (i := 881) (by decide +kernel), List.mem_of_getElem? (i := 72) (by decide +kernel), by decide +kernel, by decide⟩
theorem ci_X3_has : iz_CI yX3_has 3 := ⟨List.mem_of_getElem? (i := 879) (by decide +kernel), List.mem_of_getElem? (i := 880) (by decide +kernel), ⟨TX3, 10, rfl⟩⟩
theorem cw_X3_enter : iz_CW yX3_enter cX3_enter 6 (some .int) 5 := ⟨List.mem_of_getElem? (i := 873) (by decide +kernel), List.mem_of_getElem? (i := 72) (by decide +kernel), by decide +kernel, by decide⟩
theorem ci_X3_enter : iz_CI yX3_enter 3 := ⟨List.mem_of_getElem? (i := 871) (by decide +kernel), List.mem_of_getElem? (i := 872) (by decide +kernel), ⟨TX3, 10, rfl⟩⟩
theorem cw_X3_hindrance : iz_CW yX3_hindrance cX3_hindrance 3 (some .int) 2 := ⟨List.mem_of_getElem? (i := 887) (by decide +kernel), List.mem_of_getElem? (i := 72) (by decide +kernel), by decide +kernel, by decide⟩
theorem ci_X3_hindrance : iz_CI yX3_hindrance 3 := ⟨List.mem_of_getElem? (i := 885) (by decide +kernel), List.mem_of_getElem? (i := 886) (by decide +kernel), ⟨TX3, 10, rfl⟩⟩
theorem cw_X3_isOfGrade : iz_CW yX3_isOfGrade cX3_isOfGrade 2 (some .boolean) 2 := ⟨List.mem_of_getElem? (i := 890) (by decide +kernel), List.mem_of_getElem? (i := 72) (by decide +kernel), by decide +kernel, by decide⟩
theorem ci_X3_isOfGrade : Cond.static yX3_isOfGrade ∈ lw_tbl := List.mem_of_getElem? (i := 889) (by decide +kernel)
theorem cw_X3_whatComes : iz_CW yX3_whatComes cX3_whatComes 4 (some .int) 2 := ⟨List.mem_of_getElem? (i := 895) (by decide +kernel), List.mem_of_getElem? (i := 72) (by decide +kernel), by decide +kernel, by decide⟩
theorem ci_X3_whatComes : iz_CI yX3_whatComes 3 := ⟨List.mem_of_getElem? (i := 894) (by decide +kernel), List.mem_of_getElem? (i := 24) (by decide +kernel), ⟨TX3, 10, rfl⟩⟩
theorem cw_X3_fulfil : iz_CW yX3_fulfil cX3_fulfil 4 (some .int) 2 := ⟨List.mem_of_getElem? (i := 905) (by decide +kernel), List.mem_of_getElem? (i := 72) (by decide +kernel), by decide +kernel, by decide⟩
theorem ci_X3_fulfil : iz_CI yX3_fulfil 3 := ⟨List.mem_of_getElem? (i := 903) (by decide +kernel), List.mem_of_getElem? (i := 904) (by decide +kernel), ⟨TX3, 10, rfl⟩⟩
theorem cw_X4_init : iz_CW yX4_init cX4_init 1 none 0 := ⟨List.mem_of_getElem? (i := 362) (by decide +kernel), List.mem_of_getElem? (i := 74) (by decide +kernel), by decide +kernel, by decide⟩
theorem cw_X4_enter : iz_CW yX4_enter cX4_enter 4 (some .int) 3 := ⟨List.mem_of_getElem? (i := 977) (by decide +kernel), List.mem_of_getElem? (i := 74) (by decide +kernel), by decide +kernel, by decide⟩
theorem ci_X4_enter : iz_CI yX4_enter 4 := ⟨List.mem_of_getElem? (i := 975) (by decide +kernel), List.mem_of_getElem? (i := 976) (by decide +kernel), ⟨TX4, 6, rfl⟩⟩
theorem cw_X4_describe : iz_CW yX4_describe cX4_describe 5 none 4 := ⟨List.mem_of_getElem? (i := 981) (by decide +kernel), List.mem_of_getElem? (i := 74) (by decide +kernel), by decide +kernel, by decide⟩
theorem ci_X4_describe : iz_CI yX4_describe 4 := ⟨List.mem_of_getElem? (i := 979) (by decide +kernel), List.mem_of_getElem? (i := 980) (by decide +kernel), ⟨TX4, 6, rfl⟩⟩
theorem cw_X4_plan : iz_CW yX4_plan cX4_plan 4 none 1 := ⟨List.mem_of_getElem? (i := 994) (by decide +kernel), List.mem_of_getElem? (i := 74) (by decide +kernel), by decide +kernel, by decide⟩
theorem ci_X4_plan : iz_CI yX4_plan 4 := ⟨List.mem_of_getElem? (i := 992) (by decide +kernel), List.mem_of_getElem? (i := 993) (by decide +kernel), ⟨TX4, 6, rfl⟩⟩
theorem cw_X4_planAt : iz_CW yX4_planAt cX4_planAt 10 none 3 := ⟨List.mem_of_getElem? (i := 999) (by decide +kernel), List.mem_of_getElem? (i := 74) (by decide +kernel), by decide +kernel, by decide⟩
theorem ci_X4_planAt : iz_CI yX4_planAt 4 := ⟨List.mem_of_getElem? (i := 998) (by decide +kernel), List.mem_of_getElem? (i := 33) (by decide +kernel), ⟨TX4, 6, rfl⟩⟩
theorem cw_X4_costFrom : iz_CW yX4_costFrom cX4_costFrom 2 (some .int) 1 := ⟨List.mem_of_getElem? (i := 1005) (by decide +kernel), List.mem_of_getElem? (i := 74) (by decide +kernel), by decide +kernel, by decide⟩
theorem ci_X4_costFrom : iz_CI yX4_costFrom 4 := ⟨List.mem_of_getElem? (i := 1003) (by decide +kernel), List.mem_of_getElem? (i := 1004) (by decide +kernel), ⟨TX4, 6, rfl⟩⟩
theorem cw_X4_boughtAt : iz_CW yX4_boughtAt cX4_boughtAt 5 (some .int) 2 := ⟨List.mem_of_getElem? (i := 1009) (by decide +kernel), List.mem_of_getElem? (i := 74) (by decide +kernel), by decide +kernel, by decide⟩
theorem ci_X4_boughtAt : iz_CI yX4_boughtAt 4 := ⟨List.mem_of_getElem? (i := 1007) (by decide +kernel), List.mem_of_getElem? (i := 1008) (by decide +kernel), ⟨TX4, 6, rfl⟩⟩
theorem cw_X5_init : iz_CW yX5_init cX5_init 3 none 2 := ⟨List.mem_of_getElem? (i := 305) (by decide +kernel), List.mem_of_getElem? (i := 73) (by decide +kernel), by decide +kernel, by decide⟩
theorem cw_X5_takeOver : iz_CW yX5_takeOver cX5_takeOver 3 (some .boolean) 1 := ⟨List.mem_of_getElem? (i := 918) (by decide +kernel), List.mem_of_getElem? (i := 73) (by decide +kernel), by decide +kernel, by decide⟩
theorem ci_X5_takeOver : iz_CI yX5_takeOver 5 := ⟨List.mem_of_getElem? (i := 916) (by decide +kernel), List.mem_of_getElem? (i := 917) (by decide +kernel), ⟨TX5, 15, rfl⟩⟩
theorem cw_X5_plan : iz_CW yX5_plan cX5_plan 2 none 0 := ⟨List.mem_of_getElem? (i := 924) (by decide +kernel), List.mem_of_getElem? (i := 73) (by decide +kernel), by decide +kernel, by decide⟩
theorem ci_X5_plan : iz_CI yX5_plan 5 := ⟨List.mem_of_getElem? (i := 922) (by decide +kernel), List.mem_of_getElem? (i := 923) (by decide +kernel), ⟨TX5, 15, rfl⟩⟩
theorem cw_X5_slot : iz_CW yX5_slot cX5_slot 3 (some .int) 3 := ⟨List.mem_of_getElem? (i := 933) (by decide +kernel), List.mem_of_getElem? (i := 73) (by decide +kernel), by decide +kernel, by decide⟩
theorem ci_X5_slot : Cond.static yX5_slot ∈ lw_tbl := List.mem_of_getElem? (i := 932) (by decide +kernel)
theorem cw_X5_fillFits : iz_CW yX5_fillFits cX5_fillFits 8 (some .boolean) 1 := ⟨List.mem_of_getElem? (i := 928) (by decide +kernel), List.mem_of_getElem? (i := 73) (by decide +kernel), by decide +kernel, by decide⟩
theorem ci_X5_fillFits : iz_CI yX5_fillFits 5 := ⟨List.mem_of_getElem? (i := 927) (by decide +kernel), List.mem_of_getElem? (i := 25) (by decide +kernel), ⟨TX5, 15, rfl⟩⟩
theorem cw_X5_enlist : iz_CW yX5_enlist cX5_enlist 3 none 1 := ⟨List.mem_of_getElem? (i := 937) (by decide +kernel), List.mem_of_getElem? (i := 73) (by decide +kernel), by decide +kernel, by decide⟩
theorem ci_X5_enlist : iz_CI yX5_enlist 5 := ⟨List.mem_of_getElem? (i := 936) (by decide +kernel), List.mem_of_getElem? (i := 26) (by decide +kernel), ⟨TX5, 15, rfl⟩⟩
theorem cw_X5_tryRows : iz_CW yX5_tryRows cX5_tryRows 5 none 3 := ⟨List.mem_of_getElem? (i := 940) (by decide +kernel), List.mem_of_getElem? (i := 73) (by decide +kernel), by decide +kernel, by decide⟩
theorem ci_X5_tryRows : Cond.static yX5_tryRows ∈ lw_tbl := List.mem_of_getElem? (i := 939) (by decide +kernel)
theorem cw_X5_keepIfBetter : iz_CW yX5_keepIfBetter cX5_keepIfBetter 3 none 2 := ⟨List.mem_of_getElem? (i := 944) (by decide +kernel), List.mem_of_getElem? (i := 73) (by decide +kernel), by decide +kernel, by decide⟩
theorem ci_X5_keepIfBetter : iz_CI yX5_keepIfBetter 5 := ⟨List.mem_of_getElem? (i := 943) (by decide +kernel), List.mem_of_getElem? (i := 27) (by decide +kernel), ⟨TX5, 15, rfl⟩⟩
theorem cw_X5_mayImprove : iz_CW yX5_mayImprove cX5_mayImprove 3 (some .boolean) 2 := ⟨List.mem_of_getElem? (i := 949) (by decide +kernel), List.mem_of_getElem? (i := 73) (by decide +kernel), by decide +kernel, by decide⟩
theorem ci_X5_mayImprove : iz_CI yX5_mayImprove 5 := ⟨List.mem_of_getElem? (i := 948) (by decide +kernel), List.mem_of_getElem? (i := 28) (by decide +kernel), ⟨TX5, 15, rfl⟩⟩
theorem cw_X5_dearest : iz_CW yX5_dearest cX5_dearest 5 (some .int) 1 := ⟨List.mem_of_getElem? (i := 953) (by decide +kernel), List.mem_of_getElem? (i := 73) (by decide +kernel), by decide +kernel, by decide⟩
theorem ci_X5_dearest : iz_CI yX5_dearest 5 := ⟨List.mem_of_getElem? (i := 952) (by decide +kernel), List.mem_of_getElem? (i := 29) (by decide +kernel), ⟨TX5, 15, rfl⟩⟩
theorem cw_X5_mayServe : iz_CW yX5_mayServe cX5_mayServe 3 (some .boolean) 2 := ⟨List.mem_of_getElem? (i := 957) (by decide +kernel), List.mem_of_getElem? (i := 73) (by decide +kernel), by decide +kernel, by decide⟩
theorem ci_X5_mayServe : iz_CI yX5_mayServe 5 := ⟨List.mem_of_getElem? (i := 956) (by decide +kernel), List.mem_of_getElem? (i := 30) (by decide +kernel), ⟨TX5, 15, rfl⟩⟩
theorem cw_X5_push : iz_CW yX5_push cX5_push 4 none 3 := ⟨List.mem_of_getElem? (i := 962) (by decide +kernel), List.mem_of_getElem? (i := 73) (by decide +kernel), by decide +kernel, by decide⟩
theorem ci_X5_push : iz_CI yX5_push 5 := ⟨List.mem_of_getElem? (i := 961) (by decide +kernel), List.mem_of_getElem? (i := 31) (by decide +kernel), ⟨TX5, 15, rfl⟩⟩
theorem cw_X5_pop : iz_CW yX5_pop cX5_pop 3 none 2 := ⟨List.mem_of_getElem? (i := 966) (by decide +kernel), List.mem_of_getElem? (i := 73) (by decide +kernel), by decide +kernel, by decide⟩
theorem ci_X5_pop : iz_CI yX5_pop 5 := ⟨List.mem_of_getElem? (i := 965) (by decide +kernel), List.mem_of_getElem? (i := 32) (by decide +kernel), ⟨TX5, 15, rfl⟩⟩
theorem cw_X6_init : iz_CW yX6_init cX6_init 1 none 0 := ⟨List.mem_of_getElem? (i := 113) (by decide +kernel), List.mem_of_getElem? (i := 67) (by decide +kernel), by decide +kernel, by decide⟩
theorem cw_X6_takeOver : iz_CW yX6_takeOver cX6_takeOver 3 (some .boolean) 1 := ⟨List.mem_of_getElem? (i := 586) (by decide +kernel), List.mem_of_getElem? (i := 67) (by decide +kernel), by decide +kernel, by decide⟩
theorem ci_X6_takeOver : iz_CI yX6_takeOver 6 := ⟨List.mem_of_getElem? (i := 584) (by decide +kernel), List.mem_of_getElem? (i := 585) (by decide +kernel), ⟨TX6, 8, rfl⟩⟩
theorem cw_X6_plan : iz_CW yX6_plan cX6_plan 3 none 1 := ⟨List.mem_of_getElem? (i := 606) (by decide +kernel), List.mem_of_getElem? (i := 67) (by decide +kernel), by decide +kernel, by decide⟩
theorem ci_X6_plan : iz_CI yX6_plan 6 := ⟨List.mem_of_getElem? (i := 604) (by decide +kernel), List.mem_of_getElem? (i := 605) (by decide +kernel), ⟨TX6, 8, rfl⟩⟩
theorem cw_X6_askBehind : iz_CW yX6_askBehind cX6_askBehind 3 none 1 := ⟨List.mem_of_getElem? (i := 612) (by decide +kernel), List.mem_of_getElem? (i := 67) (by decide +kernel), by decide +kernel, by decide⟩
theorem ci_X6_askBehind : iz_CI yX6_askBehind 6 := ⟨List.mem_of_getElem? (i := 611) (by decide +kernel), List.mem_of_getElem? (i := 4) (by decide +kernel), ⟨TX6, 8, rfl⟩⟩
theorem cw_X6_mayFollow : iz_CW yX6_mayFollow cX6_mayFollow 5 (some .boolean) 2 := ⟨List.mem_of_getElem? (i := 616) (by decide +kernel), List.mem_of_getElem? (i := 67) (by decide +kernel), by decide +kernel, by decide⟩
theorem ci_X6_mayFollow : iz_CI yX6_mayFollow 6 := ⟨List.mem_of_getElem? (i := 615) (by decide +kernel), List.mem_of_getElem? (i := 5) (by decide +kernel), ⟨TX6, 8, rfl⟩⟩
theorem cw_X6_openCells : iz_CW yX6_openCells cX6_openCells 5 (some .long) 1 := ⟨List.mem_of_getElem? (i := 620) (by decide +kernel), List.mem_of_getElem? (i := 67) (by decide +kernel), by decide +kernel, by decide⟩
theorem ci_X6_openCells : iz_CI yX6_openCells 6 := ⟨List.mem_of_getElem? (i := 619) (by decide +kernel), List.mem_of_getElem? (i := 6) (by decide +kernel), ⟨TX6, 8, rfl⟩⟩
theorem cw_X6_walk : iz_CW yX6_walk cX6_walk 3 none 0 := ⟨List.mem_of_getElem? (i := 627) (by decide +kernel), List.mem_of_getElem? (i := 67) (by decide +kernel), by decide +kernel, by decide⟩
theorem ci_X6_walk : iz_CI yX6_walk 6 := ⟨List.mem_of_getElem? (i := 626) (by decide +kernel), List.mem_of_getElem? (i := 7) (by decide +kernel), ⟨TX6, 8, rfl⟩⟩
theorem cw_X7_init : iz_CW yX7_init cX7_init 1 none 0 := ⟨List.mem_of_getElem? (i := 146) (by decide +kernel), List.mem_of_getElem? (i := 68) (by decide +kernel), by decide +kernel, by decide⟩
theorem cw_X7_warmthOf : iz_CW yX7_warmthOf cX7_warmthOf 2 (some .int) 1 := ⟨List.mem_of_getElem? (i := 745) (by decide +kernel), List.mem_of_getElem? (i := 68) (by decide +kernel), by decide +kernel, by decide⟩
theorem ci_X7_warmthOf : iz_CI yX7_warmthOf 7 := ⟨List.mem_of_getElem? (i := 743) (by decide +kernel), List.mem_of_getElem? (i := 744) (by decide +kernel), ⟨TX7, 3, rfl⟩⟩
theorem cw_X7_wallTenths : iz_CW yX7_wallTenths cX7_wallTenths 2 (some .int) 1 := ⟨List.mem_of_getElem? (i := 727) (by decide +kernel), List.mem_of_getElem? (i := 68) (by decide +kernel), by decide +kernel, by decide⟩
theorem ci_X7_wallTenths : iz_CI yX7_wallTenths 7 := ⟨List.mem_of_getElem? (i := 725) (by decide +kernel), List.mem_of_getElem? (i := 726) (by decide +kernel), ⟨TX7, 3, rfl⟩⟩
theorem cw_X7_tenthsAt : iz_CW yX7_tenthsAt cX7_tenthsAt 2 (some .int) 1 := ⟨List.mem_of_getElem? (i := 734) (by decide +kernel), List.mem_of_getElem? (i := 68) (by decide +kernel), by decide +kernel, by decide⟩
theorem ci_X7_tenthsAt : iz_CI yX7_tenthsAt 7 := ⟨List.mem_of_getElem? (i := 733) (by decide +kernel), List.mem_of_getElem? (i := 12) (by decide +kernel), ⟨TX7, 3, rfl⟩⟩
theorem cw_X7_rowWall : iz_CW yX7_rowWall cX7_rowWall 2 (some .int) 1 := ⟨List.mem_of_getElem? (i := 730) (by decide +kernel), List.mem_of_getElem? (i := 68) (by decide +kernel), by decide +kernel, by decide⟩
theorem ci_X7_rowWall : Cond.static yX7_rowWall ∈ lw_tbl := List.mem_of_getElem? (i := 729) (by decide +kernel)
theorem cw_X7_sideWall : iz_CW yX7_sideWall cX7_sideWall 2 (some .int) 1 := ⟨List.mem_of_getElem? (i := 737) (by decide +kernel), List.mem_of_getElem? (i := 68) (by decide +kernel), by decide +kernel, by decide⟩
theorem ci_X7_sideWall : Cond.static yX7_sideWall ∈ lw_tbl := List.mem_of_getElem? (i := 736) (by decide +kernel)
theorem cw_X8_init : iz_CW yX8_init cX8_init 1 none 0 := ⟨List.mem_of_getElem? (i := 390) (by decide +kernel), List.mem_of_getElem? (i := 75) (by decide +kernel), by decide +kernel, by decide⟩
theorem cw_X8_enter : iz_CW yX8_enter cX8_enter 2 (some .int) 1 := ⟨List.mem_of_getElem? (i := 1021) (by decide +kernel), List.mem_of_getElem? (i := 75) (by decide +kernel), by decide +kernel, by decide⟩
theorem ci_X8_enter : iz_CI yX8_enter 8 := ⟨List.mem_of_getElem? (i := 1019) (by decide +kernel), List.mem_of_getElem? (i := 1020) (by decide +kernel), ⟨TX8, 2, rfl⟩⟩
theorem cw_X8_clear : iz_CW yX8_clear cX8_clear 1 none 0 := ⟨List.mem_of_getElem? (i := 601) (by decide +kernel), List.mem_of_getElem? (i := 75) (by decide +kernel), by decide +kernel, by decide⟩
theorem ci_X8_clear : iz_CI yX8_clear 8 := ⟨List.mem_of_getElem? (i := 599) (by decide +kernel), List.mem_of_getElem? (i := 600) (by decide +kernel), ⟨TX8, 2, rfl⟩⟩
theorem cw_X8_handOver : iz_CW yX8_handOver cX8_handOver 3 (some .int) 1 := ⟨List.mem_of_getElem? (i := 590) (by decide +kernel), List.mem_of_getElem? (i := 75) (by decide +kernel), by decide +kernel, by decide⟩
theorem ci_X8_handOver : iz_CI yX8_handOver 8 := ⟨List.mem_of_getElem? (i := 588) (by decide +kernel), List.mem_of_getElem? (i := 589) (by decide +kernel), ⟨TX8, 2, rfl⟩⟩
theorem cw_X8_hasTwins : iz_CW yX8_hasTwins cX8_hasTwins 3 (some .boolean) 0 := ⟨List.mem_of_getElem? (i := 594) (by decide +kernel), List.mem_of_getElem? (i := 75) (by decide +kernel), by decide +kernel, by decide⟩
theorem ci_X8_hasTwins : iz_CI yX8_hasTwins 8 := ⟨List.mem_of_getElem? (i := 593) (by decide +kernel), List.mem_of_getElem? (i := 3) (by decide +kernel), ⟨TX8, 2, rfl⟩⟩
theorem cw_X8_firstWrong : iz_CW yX8_firstWrong cX8_firstWrong 3 (some .int) 1 := ⟨List.mem_of_getElem? (i := 1030) (by decide +kernel), List.mem_of_getElem? (i := 75) (by decide +kernel), by decide +kernel, by decide⟩
theorem ci_X8_firstWrong : iz_CI yX8_firstWrong 8 := ⟨List.mem_of_getElem? (i := 1028) (by decide +kernel), List.mem_of_getElem? (i := 1029) (by decide +kernel), ⟨TX8, 2, rfl⟩⟩
theorem cw_X9_init : iz_CW yX9_init cX9_init 1 none 0 := ⟨List.mem_of_getElem? (i := 84) (by decide +kernel), List.mem_of_getElem? (i := 65) (by decide +kernel), by decide +kernel, by decide⟩
theorem cw_X9_frost : iz_CW yX9_frost cX9_frost 2 (some .int) 1 := ⟨List.mem_of_getElem? (i := 437) (by decide +kernel), List.mem_of_getElem? (i := 65) (by decide +kernel), by decide +kernel, by decide⟩
theorem ci_X9_frost : iz_CI yX9_frost 9 := ⟨List.mem_of_getElem? (i := 435) (by decide +kernel), List.mem_of_getElem? (i := 436) (by decide +kernel), ⟨TX9, 11, rfl⟩⟩
theorem cw_X9_thaw : iz_CW yX9_thaw cX9_thaw 2 (some .int) 1 := ⟨List.mem_of_getElem? (i := 472) (by decide +kernel), List.mem_of_getElem? (i := 65) (by decide +kernel), by decide +kernel, by decide⟩
theorem ci_X9_thaw : iz_CI yX9_thaw 9 := ⟨List.mem_of_getElem? (i := 470) (by decide +kernel), List.mem_of_getElem? (i := 471) (by decide +kernel), ⟨TX9, 11, rfl⟩⟩
theorem cw_X9_snow : iz_CW yX9_snow cX9_snow 2 (some .int) 1 := ⟨List.mem_of_getElem? (i := 488) (by decide +kernel), List.mem_of_getElem? (i := 65) (by decide +kernel), by decide +kernel, by decide⟩
theorem ci_X9_snow : iz_CI yX9_snow 9 := ⟨List.mem_of_getElem? (i := 486) (by decide +kernel), List.mem_of_getElem? (i := 487) (by decide +kernel), ⟨TX9, 11, rfl⟩⟩
theorem cw_X9_scrape : iz_CW yX9_scrape cX9_scrape 2 (some .int) 1 := ⟨List.mem_of_getElem? (i := 499) (by decide +kernel), List.mem_of_getElem? (i := 65) (by decide +kernel), by decide +kernel, by decide⟩
theorem ci_X9_scrape : iz_CI yX9_scrape 9 := ⟨List.mem_of_getElem? (i := 497) (by decide +kernel), List.mem_of_getElem? (i := 498) (by decide +kernel), ⟨TX9, 11, rfl⟩⟩
theorem cw_X9_cell : iz_CW yX9_cell cX9_cell 3 (some .int) 2 := ⟨List.mem_of_getElem? (i := 510) (by decide +kernel), List.mem_of_getElem? (i := 65) (by decide +kernel), by decide +kernel, by decide⟩
theorem ci_X9_cell : iz_CI yX9_cell 9 := ⟨List.mem_of_getElem? (i := 508) (by decide +kernel), List.mem_of_getElem? (i := 509) (by decide +kernel), ⟨TX9, 11, rfl⟩⟩
theorem cw_X9_reached : iz_CW yX9_reached cX9_reached 2 (some .int) 1 := ⟨List.mem_of_getElem? (i := 514) (by decide +kernel), List.mem_of_getElem? (i := 65) (by decide +kernel), by decide +kernel, by decide⟩
theorem ci_X9_reached : iz_CI yX9_reached 9 := ⟨List.mem_of_getElem? (i := 512) (by decide +kernel), List.mem_of_getElem? (i := 513) (by decide +kernel), ⟨TX9, 11, rfl⟩⟩
theorem cw_X9_reach : iz_CW yX9_reach cX9_reach 3 (some .int) 2 := ⟨List.mem_of_getElem? (i := 527) (by decide +kernel), List.mem_of_getElem? (i := 65) (by decide +kernel), by decide +kernel, by decide⟩
theorem ci_X9_reach : iz_CI yX9_reach 9 := ⟨List.mem_of_getElem? (i := 525) (by decide +kernel), List.mem_of_getElem? (i := 526) (by decide +kernel), ⟨TX9, 11, rfl⟩⟩
theorem cw_X9_bars : iz_CW yX9_bars cX9_bars 2 (some .int) 1 := ⟨List.mem_of_getElem? (i := 531) (by decide +kernel), List.mem_of_getElem? (i := 65) (by decide +kernel), by decide +kernel, by decide⟩
theorem ci_X9_bars : iz_CI yX9_bars 9 := ⟨List.mem_of_getElem? (i := 529) (by decide +kernel), List.mem_of_getElem? (i := 530) (by decide +kernel), ⟨TX9, 11, rfl⟩⟩
theorem cw_X9_cut : iz_CW yX9_cut cX9_cut 3 (some .int) 1 := ⟨List.mem_of_getElem? (i := 553) (by decide +kernel), List.mem_of_getElem? (i := 65) (by decide +kernel), by decide +kernel, by decide⟩
theorem ci_X9_cut : iz_CI yX9_cut 9 := ⟨List.mem_of_getElem? (i := 551) (by decide +kernel), List.mem_of_getElem? (i := 552) (by decide +kernel), ⟨TX9, 11, rfl⟩⟩
theorem cw_X9_season : iz_CW yX9_season cX9_season 2 (some .int) 1 := ⟨List.mem_of_getElem? (i := 582) (by decide +kernel), List.mem_of_getElem? (i := 65) (by decide +kernel), by decide +kernel, by decide⟩
theorem ci_X9_season : iz_CI yX9_season 9 := ⟨List.mem_of_getElem? (i := 580) (by decide +kernel), List.mem_of_getElem? (i := 581) (by decide +kernel), ⟨TX9, 11, rfl⟩⟩
theorem cw_X9_put : iz_CW yX9_put cX9_put 3 (some .int) 2 := ⟨List.mem_of_getElem? (i := 631) (by decide +kernel), List.mem_of_getElem? (i := 65) (by decide +kernel), by decide +kernel, by decide⟩
theorem ci_X9_put : iz_CI yX9_put 9 := ⟨List.mem_of_getElem? (i := 629) (by decide +kernel), List.mem_of_getElem? (i := 630) (by decide +kernel), ⟨TX9, 11, rfl⟩⟩
theorem cw_X9_take : iz_CW yX9_take cX9_take 2 (some .int) 1 := ⟨List.mem_of_getElem? (i := 679) (by decide +kernel), List.mem_of_getElem? (i := 65) (by decide +kernel), by decide +kernel, by decide⟩
theorem ci_X9_take : iz_CI yX9_take 9 := ⟨List.mem_of_getElem? (i := 677) (by decide +kernel), List.mem_of_getElem? (i := 678) (by decide +kernel), ⟨TX9, 11, rfl⟩⟩
theorem cw_X9_move : iz_CW yX9_move cX9_move 4 (some .int) 2 := ⟨List.mem_of_getElem? (i := 699) (by decide +kernel), List.mem_of_getElem? (i := 65) (by decide +kernel), by decide +kernel, by decide⟩
theorem ci_X9_move : iz_CI yX9_move 9 := ⟨List.mem_of_getElem? (i := 697) (by decide +kernel), List.mem_of_getElem? (i := 698) (by decide +kernel), ⟨TX9, 11, rfl⟩⟩
theorem cw_X9_as : iz_CW yX9_as cX9_as 3 (some .int) 2 := ⟨List.mem_of_getElem? (i := 705) (by decide +kernel), List.mem_of_getElem? (i := 65) (by decide +kernel), by decide +kernel, by decide⟩
theorem ci_X9_as : iz_CI yX9_as 9 := ⟨List.mem_of_getElem? (i := 703) (by decide +kernel), List.mem_of_getElem? (i := 704) (by decide +kernel), ⟨TX9, 11, rfl⟩⟩
theorem cw_X9_about : iz_CW yX9_about cX9_about 4 (some .int) 2 := ⟨List.mem_of_getElem? (i := 714) (by decide +kernel), List.mem_of_getElem? (i := 65) (by decide +kernel), by decide +kernel, by decide⟩
theorem ci_X9_about : iz_CI yX9_about 9 := ⟨List.mem_of_getElem? (i := 712) (by decide +kernel), List.mem_of_getElem? (i := 713) (by decide +kernel), ⟨TX9, 11, rfl⟩⟩
theorem cw_X9_at : iz_CW yX9_at cX9_at 4 (some .int) 2 := ⟨List.mem_of_getElem? (i := 761) (by decide +kernel), List.mem_of_getElem? (i := 65) (by decide +kernel), by decide +kernel, by decide⟩
theorem ci_X9_at : iz_CI yX9_at 9 := ⟨List.mem_of_getElem? (i := 759) (by decide +kernel), List.mem_of_getElem? (i := 760) (by decide +kernel), ⟨TX9, 11, rfl⟩⟩
theorem cw_X9_dust : iz_CW yX9_dust cX9_dust 3 (some .int) 2 := ⟨List.mem_of_getElem? (i := 766) (by decide +kernel), List.mem_of_getElem? (i := 65) (by decide +kernel), by decide +kernel, by decide⟩
theorem ci_X9_dust : iz_CI yX9_dust 9 := ⟨List.mem_of_getElem? (i := 764) (by decide +kernel), List.mem_of_getElem? (i := 765) (by decide +kernel), ⟨TX9, 11, rfl⟩⟩
theorem cw_X9_cover : iz_CW yX9_cover cX9_cover 3 (some .int) 2 := ⟨List.mem_of_getElem? (i := 771) (by decide +kernel), List.mem_of_getElem? (i := 65) (by decide +kernel), by decide +kernel, by decide⟩
theorem ci_X9_cover : iz_CI yX9_cover 9 := ⟨List.mem_of_getElem? (i := 769) (by decide +kernel), List.mem_of_getElem? (i := 770) (by decide +kernel), ⟨TX9, 11, rfl⟩⟩
theorem cw_X9_warmth : iz_CW yX9_warmth cX9_warmth 3 (some .int) 2 := ⟨List.mem_of_getElem? (i := 775) (by decide +kernel), List.mem_of_getElem? (i := 65) (by decide +kernel), by decide +kernel, by decide⟩
theorem ci_X9_warmth : iz_CI yX9_warmth 9 := ⟨List.mem_of_getElem? (i := 773) (by decide +kernel), List.mem_of_getElem? (i := 774) (by decide +kernel), ⟨TX9, 11, rfl⟩⟩
theorem cw_X9_melts : iz_CW yX9_melts cX9_melts 1 (some .int) 0 := ⟨List.mem_of_getElem? (i := 779) (by decide +kernel), List.mem_of_getElem? (i := 65) (by decide +kernel), by decide +kernel, by decide⟩
theorem ci_X9_melts : iz_CI yX9_melts 9 := ⟨List.mem_of_getElem? (i := 777) (by decide +kernel), List.mem_of_getElem? (i := 778) (by decide +kernel), ⟨TX9, 11, rfl⟩⟩
theorem cw_X9_weeks : iz_CW yX9_weeks cX9_weeks 2 (some .int) 1 := ⟨List.mem_of_getElem? (i := 791) (by decide +kernel), List.mem_of_getElem? (i := 65) (by decide +kernel), by decide +kernel, by decide⟩
theorem ci_X9_weeks : iz_CI yX9_weeks 9 := ⟨List.mem_of_getElem? (i := 789) (by decide +kernel), List.mem_of_getElem? (i := 790) (by decide +kernel), ⟨TX9, 11, rfl⟩⟩
theorem cw_X9_after : iz_CW yX9_after cX9_after 2 (some .int) 1 := ⟨List.mem_of_getElem? (i := 816) (by decide +kernel), List.mem_of_getElem? (i := 65) (by decide +kernel), by decide +kernel, by decide⟩
theorem ci_X9_after : iz_CI yX9_after 9 := ⟨List.mem_of_getElem? (i := 814) (by decide +kernel), List.mem_of_getElem? (i := 815) (by decide +kernel), ⟨TX9, 11, rfl⟩⟩
theorem cw_X9_lasts : iz_CW yX9_lasts cX9_lasts 3 (some .int) 1 := ⟨List.mem_of_getElem? (i := 825) (by decide +kernel), List.mem_of_getElem? (i := 65) (by decide +kernel), by decide +kernel, by decide⟩
theorem ci_X9_lasts : iz_CI yX9_lasts 9 := ⟨List.mem_of_getElem? (i := 823) (by decide +kernel), List.mem_of_getElem? (i := 824) (by decide +kernel), ⟨TX9, 11, rfl⟩⟩
theorem cw_X9_best : iz_CW yX9_best cX9_best 3 (some .int) 2 := ⟨List.mem_of_getElem? (i := 830) (by decide +kernel), List.mem_of_getElem? (i := 65) (by decide +kernel), by decide +kernel, by decide⟩
theorem ci_X9_best : iz_CI yX9_best 9 := ⟨List.mem_of_getElem? (i := 828) (by decide +kernel), List.mem_of_getElem? (i := 829) (by decide +kernel), ⟨TX9, 11, rfl⟩⟩
theorem cw_X9_order : iz_CW yX9_order cX9_order 7 (some .int) 5 := ⟨List.mem_of_getElem? (i := 869) (by decide +kernel), List.mem_of_getElem? (i := 65) (by decide +kernel), by decide +kernel, by decide⟩
theorem ci_X9_order : iz_CI yX9_order 9 := ⟨List.mem_of_getElem? (i := 867) (by decide +kernel), List.mem_of_getElem? (i := 868) (by decide +kernel), ⟨TX9, 11, rfl⟩⟩
theorem cw_X9_why : iz_CW yX9_why cX9_why 3 (some .int) 2 := ⟨List.mem_of_getElem? (i := 877) (by decide +kernel), List.mem_of_getElem? (i := 65) (by decide +kernel), by decide +kernel, by decide⟩
theorem ci_X9_why : iz_CI yX9_why 9 := ⟨List.mem_of_getElem? (i := 875) (by decide +kernel), List.mem_of_getElem? (i := 876) (by decide +kernel), ⟨TX9, 11, rfl⟩⟩
theorem cw_X9_serve : iz_CW yX9_serve cX9_serve 3 (some .int) 2 := ⟨List.mem_of_getElem? (i := 901) (by decide +kernel), List.mem_of_getElem? (i := 65) (by decide +kernel), by decide +kernel, by decide⟩
theorem ci_X9_serve : iz_CI yX9_serve 9 := ⟨List.mem_of_getElem? (i := 899) (by decide +kernel), List.mem_of_getElem? (i := 900) (by decide +kernel), ⟨TX9, 11, rfl⟩⟩
theorem cw_X9_sales : iz_CW yX9_sales cX9_sales 3 (some .int) 1 := ⟨List.mem_of_getElem? (i := 914) (by decide +kernel), List.mem_of_getElem? (i := 65) (by decide +kernel), by decide +kernel, by decide⟩
theorem ci_X9_sales : iz_CI yX9_sales 9 := ⟨List.mem_of_getElem? (i := 912) (by decide +kernel), List.mem_of_getElem? (i := 913) (by decide +kernel), ⟨TX9, 11, rfl⟩⟩
theorem cw_X9_station : iz_CW yX9_station cX9_station 4 (some .int) 3 := ⟨List.mem_of_getElem? (i := 970) (by decide +kernel), List.mem_of_getElem? (i := 65) (by decide +kernel), by decide +kernel, by decide⟩
theorem ci_X9_station : iz_CI yX9_station 9 := ⟨List.mem_of_getElem? (i := 968) (by decide +kernel), List.mem_of_getElem? (i := 969) (by decide +kernel), ⟨TX9, 11, rfl⟩⟩
theorem cw_X9_change : iz_CW yX9_change cX9_change 6 (some .int) 4 := ⟨List.mem_of_getElem? (i := 985) (by decide +kernel), List.mem_of_getElem? (i := 65) (by decide +kernel), by decide +kernel, by decide⟩
theorem ci_X9_change : iz_CI yX9_change 9 := ⟨List.mem_of_getElem? (i := 983) (by decide +kernel), List.mem_of_getElem? (i := 984) (by decide +kernel), ⟨TX9, 11, rfl⟩⟩
theorem cw_X9_icing : iz_CW yX9_icing cX9_icing 5 (some .int) 3 := ⟨List.mem_of_getElem? (i := 990) (by decide +kernel), List.mem_of_getElem? (i := 65) (by decide +kernel), by decide +kernel, by decide⟩
theorem ci_X9_icing : iz_CI yX9_icing 9 := ⟨List.mem_of_getElem? (i := 988) (by decide +kernel), List.mem_of_getElem? (i := 989) (by decide +kernel), ⟨TX9, 11, rfl⟩⟩
theorem cw_X9_ledger : iz_CW yX9_ledger cX9_ledger 2 (some .int) 1 := ⟨List.mem_of_getElem? (i := 1013) (by decide +kernel), List.mem_of_getElem? (i := 65) (by decide +kernel), by decide +kernel, by decide⟩
theorem ci_X9_ledger : iz_CI yX9_ledger 9 := ⟨List.mem_of_getElem? (i := 1011) (by decide +kernel), List.mem_of_getElem? (i := 1012) (by decide +kernel), ⟨TX9, 11, rfl⟩⟩
theorem cw_X9_tell : iz_CW yX9_tell cX9_tell 2 (some .int) 1 := ⟨List.mem_of_getElem? (i := 1017) (by decide +kernel), List.mem_of_getElem? (i := 65) (by decide +kernel), by decide +kernel, by decide⟩
theorem ci_X9_tell : iz_CI yX9_tell 9 := ⟨List.mem_of_getElem? (i := 1015) (by decide +kernel), List.mem_of_getElem? (i := 1016) (by decide +kernel), ⟨TX9, 11, rfl⟩⟩
theorem cw_X9_check : iz_CW yX9_check cX9_check 3 (some .int) 1 := ⟨List.mem_of_getElem? (i := 1025) (by decide +kernel), List.mem_of_getElem? (i := 65) (by decide +kernel), by decide +kernel, by decide⟩
theorem ci_X9_check : iz_CI yX9_check 9 := ⟨List.mem_of_getElem? (i := 1023) (by decide +kernel), List.mem_of_getElem? (i := 1024) (by decide +kernel), ⟨TX9, 11, rfl⟩⟩
theorem cw_X9_count : iz_CW yX9_count cX9_count 2 (some .int) 1 := ⟨List.mem_of_getElem? (i := 1035) (by decide +kernel), List.mem_of_getElem? (i := 65) (by decide +kernel), by decide +kernel, by decide⟩
theorem ci_X9_count : iz_CI yX9_count 9 := ⟨List.mem_of_getElem? (i := 1033) (by decide +kernel), List.mem_of_getElem? (i := 1034) (by decide +kernel), ⟨TX9, 11, rfl⟩⟩
theorem cw_X9_found : iz_CW yX9_found cX9_found 2 (some .int) 1 := ⟨List.mem_of_getElem? (i := 1043) (by decide +kernel), List.mem_of_getElem? (i := 65) (by decide +kernel), by decide +kernel, by decide⟩
theorem ci_X9_found : iz_CI yX9_found 9 := ⟨List.mem_of_getElem? (i := 1041) (by decide +kernel), List.mem_of_getElem? (i := 1042) (by decide +kernel), ⟨TX9, 11, rfl⟩⟩
theorem cw_X9_finding : iz_CW yX9_finding cX9_finding 2 (some .int) 1 := ⟨List.mem_of_getElem? (i := 444) (by decide +kernel), List.mem_of_getElem? (i := 65) (by decide +kernel), by decide +kernel, by decide⟩
theorem ci_X9_finding : iz_CI yX9_finding 9 := ⟨List.mem_of_getElem? (i := 443) (by decide +kernel), List.mem_of_getElem? (i := 0) (by decide +kernel), ⟨TX9, 11, rfl⟩⟩
theorem cw_X9_within : iz_CW yX9_within cX9_within 3 (some .boolean) 3 := ⟨List.mem_of_getElem? (i := 440) (by decide +kernel), List.mem_of_getElem? (i := 65) (by decide +kernel), by decide +kernel, by decide⟩
theorem ci_X9_within : Cond.static yX9_within ∈ lw_tbl := List.mem_of_getElem? (i := 439) (by decide +kernel)
theorem cw_X9_isColumn : iz_CW yX9_isColumn cX9_isColumn 1 (some .boolean) 1 := ⟨List.mem_of_getElem? (i := 639) (by decide +kernel), List.mem_of_getElem? (i := 65) (by decide +kernel), by decide +kernel, by decide⟩
theorem ci_X9_isColumn : Cond.static yX9_isColumn ∈ lw_tbl := List.mem_of_getElem? (i := 638) (by decide +kernel)
theorem cw_X9_isStation : iz_CW yX9_isStation cX9_isStation 3 (some .boolean) 3 := ⟨List.mem_of_getElem? (i := 973) (by decide +kernel), List.mem_of_getElem? (i := 65) (by decide +kernel), by decide +kernel, by decide⟩
theorem ci_X9_isStation : Cond.static yX9_isStation ∈ lw_tbl := List.mem_of_getElem? (i := 972) (by decide +kernel)
theorem cw_X9_isUnder : iz_CW yX9_isUnder cX9_isUnder 4 (some .boolean) 2 := ⟨List.mem_of_getElem? (i := 708) (by decide +kernel), List.mem_of_getElem? (i := 65) (by decide +kernel), by decide +kernel, by decide⟩
theorem ci_X9_isUnder : Cond.static yX9_isUnder ∈ lw_tbl := List.mem_of_getElem? (i := 707) (by decide +kernel)
theorem cw_X9_exchange : iz_CW yX9_exchange cX9_exchange 4 (some .int) 3 := ⟨List.mem_of_getElem? (i := 506) (by decide +kernel), List.mem_of_getElem? (i := 65) (by decide +kernel), by decide +kernel, by decide⟩
theorem ci_X9_exchange : Cond.static yX9_exchange ∈ lw_tbl := List.mem_of_getElem? (i := 505) (by decide +kernel)
theorem cw_X10_init : iz_CW yX10_init cX10_init 2 none 0 := ⟨List.mem_of_getElem? (i := 1048) (by decide +kernel), List.mem_of_getElem? (i := 76) (by decide +kernel), by decide +kernel, by decide⟩
theorem cw_X10_finding : iz_CW yX10_finding cX10_finding 2 (some .int) 1 := ⟨List.mem_of_getElem? (i := 1205) (by decide +kernel), List.mem_of_getElem? (i := 76) (by decide +kernel), by decide +kernel, by decide⟩
theorem ci_X10_finding : iz_CI yX10_finding 10 := ⟨List.mem_of_getElem? (i := 1204) (by decide +kernel), List.mem_of_getElem? (i := 34) (by decide +kernel), ⟨TX10, 48, rfl⟩⟩
theorem cw_X10_isIn : iz_CW yX10_isIn cX10_isIn 3 (some .boolean) 3 := ⟨List.mem_of_getElem? (i := 1201) (by decide +kernel), List.mem_of_getElem? (i := 76) (by decide +kernel), by decide +kernel, by decide⟩
theorem ci_X10_isIn : Cond.static yX10_isIn ∈ lw_tbl := List.mem_of_getElem? (i := 1200) (by decide +kernel)
theorem cw_X10_isCell : iz_CW yX10_isCell cX10_isCell 1 (some .boolean) 1 := ⟨List.mem_of_getElem? (i := 1235) (by decide +kernel), List.mem_of_getElem? (i := 76) (by decide +kernel), by decide +kernel, by decide⟩
theorem ci_X10_isCell : Cond.static yX10_isCell ∈ lw_tbl := List.mem_of_getElem? (i := 1234) (by decide +kernel)
theorem cw_X10_clean : iz_CW yX10_clean cX10_clean 2 none 1 := ⟨List.mem_of_getElem? (i := 1210) (by decide +kernel), List.mem_of_getElem? (i := 76) (by decide +kernel), by decide +kernel, by decide⟩
theorem ci_X10_clean : iz_CI yX10_clean 10 := ⟨List.mem_of_getElem? (i := 1209) (by decide +kernel), List.mem_of_getElem? (i := 35) (by decide +kernel), ⟨TX10, 48, rfl⟩⟩
theorem cw_X10_bearing : iz_CW yX10_bearing cX10_bearing 4 (some .int) 1 := ⟨List.mem_of_getElem? (i := 1216) (by decide +kernel), List.mem_of_getElem? (i := 76) (by decide +kernel), by decide +kernel, by decide⟩
theorem ci_X10_bearing : iz_CI yX10_bearing 10 := ⟨List.mem_of_getElem? (i := 1215) (by decide +kernel), List.mem_of_getElem? (i := 36) (by decide +kernel), ⟨TX10, 48, rfl⟩⟩
theorem cw_X10_frost : iz_CW yX10_frost cX10_frost 5 (some .int) 1 := ⟨List.mem_of_getElem? (i := 1198) (by decide +kernel), List.mem_of_getElem? (i := 76) (by decide +kernel), by decide +kernel, by decide⟩
theorem ci_X10_frost : iz_CI yX10_frost 10 := ⟨List.mem_of_getElem? (i := 1196) (by decide +kernel), List.mem_of_getElem? (i := 1197) (by decide +kernel), ⟨TX10, 48, rfl⟩⟩
theorem cw_X10_thaw : iz_CW yX10_thaw cX10_thaw 3 (some .int) 1 := ⟨List.mem_of_getElem? (i := 1220) (by decide +kernel), List.mem_of_getElem? (i := 76) (by decide +kernel), by decide +kernel, by decide⟩
theorem ci_X10_thaw : iz_CI yX10_thaw 10 := ⟨List.mem_of_getElem? (i := 1218) (by decide +kernel), List.mem_of_getElem? (i := 1219) (by decide +kernel), ⟨TX10, 48, rfl⟩⟩
theorem cw_X10_snow : iz_CW yX10_snow cX10_snow 4 (some .int) 1 := ⟨List.mem_of_getElem? (i := 1224) (by decide +kernel), List.mem_of_getElem? (i := 76) (by decide +kernel), by decide +kernel, by decide⟩
theorem ci_X10_snow : iz_CI yX10_snow 10 := ⟨List.mem_of_getElem? (i := 1222) (by decide +kernel), List.mem_of_getElem? (i := 1223) (by decide +kernel), ⟨TX10, 48, rfl⟩⟩
theorem cw_X10_scrape : iz_CW yX10_scrape cX10_scrape 4 (some .int) 1 := ⟨List.mem_of_getElem? (i := 1228) (by decide +kernel), List.mem_of_getElem? (i := 76) (by decide +kernel), by decide +kernel, by decide⟩
theorem ci_X10_scrape : iz_CI yX10_scrape 10 := ⟨List.mem_of_getElem? (i := 1226) (by decide +kernel), List.mem_of_getElem? (i := 1227) (by decide +kernel), ⟨TX10, 48, rfl⟩⟩
theorem cw_X10_cell : iz_CW yX10_cell cX10_cell 3 (some .int) 2 := ⟨List.mem_of_getElem? (i := 1232) (by decide +kernel), List.mem_of_getElem? (i := 76) (by decide +kernel), by decide +kernel, by decide⟩
theorem ci_X10_cell : iz_CI yX10_cell 10 := ⟨List.mem_of_getElem? (i := 1230) (by decide +kernel), List.mem_of_getElem? (i := 1231) (by decide +kernel), ⟨TX10, 48, rfl⟩⟩
theorem cw_X10_beside : iz_CW yX10_beside cX10_beside 4 (some .int) 2 := ⟨List.mem_of_getElem? (i := 1249) (by decide +kernel), List.mem_of_getElem? (i := 76) (by decide +kernel), by decide +kernel, by decide⟩
theorem ci_X10_beside : Cond.static yX10_beside ∈ lw_tbl := List.mem_of_getElem? (i := 1248) (by decide +kernel)
theorem cw_X10_isOf : iz_CW yX10_isOf cX10_isOf 2 (some .boolean) 2 := ⟨List.mem_of_getElem? (i := 1246) (by decide +kernel), List.mem_of_getElem? (i := 76) (by decide +kernel), by decide +kernel, by decide⟩
theorem ci_X10_isOf : Cond.static yX10_isOf ∈ lw_tbl := List.mem_of_getElem? (i := 1245) (by decide +kernel)
theorem cw_X10_flood : iz_CW yX10_flood cX10_flood 7 none 2 := ⟨List.mem_of_getElem? (i := 1243) (by decide +kernel), List.mem_of_getElem? (i := 76) (by decide +kernel), by decide +kernel, by decide⟩
theorem ci_X10_flood : iz_CI yX10_flood 10 := ⟨List.mem_of_getElem? (i := 1242) (by decide +kernel), List.mem_of_getElem? (i := 37) (by decide +kernel), ⟨TX10, 48, rfl⟩⟩
theorem cw_X10_reached : iz_CW yX10_reached cX10_reached 4 (some .int) 1 := ⟨List.mem_of_getElem? (i := 1239) (by decide +kernel), List.mem_of_getElem? (i := 76) (by decide +kernel), by decide +kernel, by decide⟩
theorem ci_X10_reached : iz_CI yX10_reached 10 := ⟨List.mem_of_getElem? (i := 1237) (by decide +kernel), List.mem_of_getElem? (i := 1238) (by decide +kernel), ⟨TX10, 48, rfl⟩⟩
theorem cw_X10_reach : iz_CW yX10_reach cX10_reach 3 (some .int) 2 := ⟨List.mem_of_getElem? (i := 1253) (by decide +kernel), List.mem_of_getElem? (i := 76) (by decide +kernel), by decide +kernel, by decide⟩
theorem ci_X10_reach : iz_CI yX10_reach 10 := ⟨List.mem_of_getElem? (i := 1251) (by decide +kernel), List.mem_of_getElem? (i := 1252) (by decide +kernel), ⟨TX10, 48, rfl⟩⟩
theorem cw_X10_isSquare : iz_CW yX10_isSquare cX10_isSquare 1 (some .boolean) 1 := ⟨List.mem_of_getElem? (i := 1260) (by decide +kernel), List.mem_of_getElem? (i := 76) (by decide +kernel), by decide +kernel, by decide⟩
theorem ci_X10_isSquare : Cond.static yX10_isSquare ∈ lw_tbl := List.mem_of_getElem? (i := 1259) (by decide +kernel)
theorem cw_X10_barOf : iz_CW yX10_barOf cX10_barOf 5 (some .int) 1 := ⟨List.mem_of_getElem? (i := 1264) (by decide +kernel), List.mem_of_getElem? (i := 76) (by decide +kernel), by decide +kernel, by decide⟩
theorem ci_X10_barOf : iz_CI yX10_barOf 10 := ⟨List.mem_of_getElem? (i := 1263) (by decide +kernel), List.mem_of_getElem? (i := 38) (by decide +kernel), ⟨TX10, 48, rfl⟩⟩
theorem cw_X10_bars : iz_CW yX10_bars cX10_bars 2 (some .int) 1 := ⟨List.mem_of_getElem? (i := 1257) (by decide +kernel), List.mem_of_getElem? (i := 76) (by decide +kernel), by decide +kernel, by decide⟩
theorem ci_X10_bars : iz_CI yX10_bars 10 := ⟨List.mem_of_getElem? (i := 1255) (by decide +kernel), List.mem_of_getElem? (i := 1256) (by decide +kernel), ⟨TX10, 48, rfl⟩⟩
theorem cw_X10_cut : iz_CW yX10_cut cX10_cut 5 (some .int) 1 := ⟨List.mem_of_getElem? (i := 1268) (by decide +kernel), List.mem_of_getElem? (i := 76) (by decide +kernel), by decide +kernel, by decide⟩
theorem ci_X10_cut : iz_CI yX10_cut 10 := ⟨List.mem_of_getElem? (i := 1266) (by decide +kernel), List.mem_of_getElem? (i := 1267) (by decide +kernel), ⟨TX10, 48, rfl⟩⟩
theorem cw_X10_trySeason : iz_CW yX10_trySeason cX10_trySeason 8 none 2 := ⟨List.mem_of_getElem? (i := 1276) (by decide +kernel), List.mem_of_getElem? (i := 76) (by decide +kernel), by decide +kernel, by decide⟩
theorem ci_X10_trySeason : iz_CI yX10_trySeason 10 := ⟨List.mem_of_getElem? (i := 1275) (by decide +kernel), List.mem_of_getElem? (i := 39) (by decide +kernel), ⟨TX10, 48, rfl⟩⟩
theorem cw_X10_season : iz_CW yX10_season cX10_season 6 (some .int) 1 := ⟨List.mem_of_getElem? (i := 1272) (by decide +kernel), List.mem_of_getElem? (i := 76) (by decide +kernel), by decide +kernel, by decide⟩
theorem ci_X10_season : iz_CI yX10_season 10 := ⟨List.mem_of_getElem? (i := 1270) (by decide +kernel), List.mem_of_getElem? (i := 1271) (by decide +kernel), ⟨TX10, 48, rfl⟩⟩
theorem cw_X10_isBlock : iz_CW yX10_isBlock cX10_isBlock 2 (some .boolean) 1 := ⟨List.mem_of_getElem? (i := 1284) (by decide +kernel), List.mem_of_getElem? (i := 76) (by decide +kernel), by decide +kernel, by decide⟩
theorem ci_X10_isBlock : iz_CI yX10_isBlock 10 := ⟨List.mem_of_getElem? (i := 1283) (by decide +kernel), List.mem_of_getElem? (i := 40) (by decide +kernel), ⟨TX10, 48, rfl⟩⟩
theorem cw_X10_isColumn : iz_CW yX10_isColumn cX10_isColumn 1 (some .boolean) 1 := ⟨List.mem_of_getElem? (i := 1287) (by decide +kernel), List.mem_of_getElem? (i := 76) (by decide +kernel), by decide +kernel, by decide⟩
theorem ci_X10_isColumn : Cond.static yX10_isColumn ∈ lw_tbl := List.mem_of_getElem? (i := 1286) (by decide +kernel)
theorem cw_X10_blockAt : iz_CW yX10_blockAt cX10_blockAt 3 (some .int) 2 := ⟨List.mem_of_getElem? (i := 1299) (by decide +kernel), List.mem_of_getElem? (i := 76) (by decide +kernel), by decide +kernel, by decide⟩
theorem ci_X10_blockAt : iz_CI yX10_blockAt 10 := ⟨List.mem_of_getElem? (i := 1298) (by decide +kernel), List.mem_of_getElem? (i := 43) (by decide +kernel), ⟨TX10, 48, rfl⟩⟩
theorem cw_X10_levelOf : iz_CW yX10_levelOf cX10_levelOf 3 (some .int) 1 := ⟨List.mem_of_getElem? (i := 1315) (by decide +kernel), List.mem_of_getElem? (i := 76) (by decide +kernel), by decide +kernel, by decide⟩
theorem ci_X10_levelOf : iz_CI yX10_levelOf 10 := ⟨List.mem_of_getElem? (i := 1314) (by decide +kernel), List.mem_of_getElem? (i := 47) (by decide +kernel), ⟨TX10, 48, rfl⟩⟩
theorem cw_X10_loadOf : iz_CW yX10_loadOf cX10_loadOf 5 (some .int) 2 := ⟨List.mem_of_getElem? (i := 1303) (by decide +kernel), List.mem_of_getElem? (i := 76) (by decide +kernel), by decide +kernel, by decide⟩
theorem ci_X10_loadOf : iz_CI yX10_loadOf 10 := ⟨List.mem_of_getElem? (i := 1302) (by decide +kernel), List.mem_of_getElem? (i := 44) (by decide +kernel), ⟨TX10, 48, rfl⟩⟩
theorem cw_X10_takeOut : iz_CW yX10_takeOut cX10_takeOut 5 none 2 := ⟨List.mem_of_getElem? (i := 1311) (by decide +kernel), List.mem_of_getElem? (i := 76) (by decide +kernel), by decide +kernel, by decide⟩
theorem ci_X10_takeOut : iz_CI yX10_takeOut 10 := ⟨List.mem_of_getElem? (i := 1310) (by decide +kernel), List.mem_of_getElem? (i := 46) (by decide +kernel), ⟨TX10, 48, rfl⟩⟩
theorem cw_X10_goes : iz_CW yX10_goes cX10_goes 4 none 2 := ⟨List.mem_of_getElem? (i := 1307) (by decide +kernel), List.mem_of_getElem? (i := 76) (by decide +kernel), by decide +kernel, by decide⟩
theorem ci_X10_goes : iz_CI yX10_goes 10 := ⟨List.mem_of_getElem? (i := 1306) (by decide +kernel), List.mem_of_getElem? (i := 45) (by decide +kernel), ⟨TX10, 48, rfl⟩⟩
theorem cw_X10_breakAll : iz_CW yX10_breakAll cX10_breakAll 4 none 0 := ⟨List.mem_of_getElem? (i := 1295) (by decide +kernel), List.mem_of_getElem? (i := 76) (by decide +kernel), by decide +kernel, by decide⟩
theorem ci_X10_breakAll : iz_CI yX10_breakAll 10 := ⟨List.mem_of_getElem? (i := 1294) (by decide +kernel), List.mem_of_getElem? (i := 42) (by decide +kernel), ⟨TX10, 48, rfl⟩⟩
theorem cw_X10_lay : iz_CW yX10_lay cX10_lay 3 none 2 := ⟨List.mem_of_getElem? (i := 1291) (by decide +kernel), List.mem_of_getElem? (i := 76) (by decide +kernel), by decide +kernel, by decide⟩
theorem ci_X10_lay : iz_CI yX10_lay 10 := ⟨List.mem_of_getElem? (i := 1290) (by decide +kernel), List.mem_of_getElem? (i := 41) (by decide +kernel), ⟨TX10, 48, rfl⟩⟩
theorem cw_X10_put : iz_CW yX10_put cX10_put 3 (some .int) 2 := ⟨List.mem_of_getElem? (i := 1280) (by decide +kernel), List.mem_of_getElem? (i := 76) (by decide +kernel), by decide +kernel, by decide⟩
theorem ci_X10_put : iz_CI yX10_put 10 := ⟨List.mem_of_getElem? (i := 1278) (by decide +kernel), List.mem_of_getElem? (i := 1279) (by decide +kernel), ⟨TX10, 48, rfl⟩⟩
theorem cw_X10_take : iz_CW yX10_take cX10_take 3 (some .int) 1 := ⟨List.mem_of_getElem? (i := 1319) (by decide +kernel), List.mem_of_getElem? (i := 76) (by decide +kernel), by decide +kernel, by decide⟩
theorem ci_X10_take : iz_CI yX10_take 10 := ⟨List.mem_of_getElem? (i := 1317) (by decide +kernel), List.mem_of_getElem? (i := 1318) (by decide +kernel), ⟨TX10, 48, rfl⟩⟩
theorem cw_X10_move : iz_CW yX10_move cX10_move 4 (some .int) 2 := ⟨List.mem_of_getElem? (i := 1323) (by decide +kernel), List.mem_of_getElem? (i := 76) (by decide +kernel), by decide +kernel, by decide⟩
theorem ci_X10_move : iz_CI yX10_move 10 := ⟨List.mem_of_getElem? (i := 1321) (by decide +kernel), List.mem_of_getElem? (i := 1322) (by decide +kernel), ⟨TX10, 48, rfl⟩⟩
theorem cw_X10_as : iz_CW yX10_as cX10_as 3 (some .int) 2 := ⟨List.mem_of_getElem? (i := 1327) (by decide +kernel), List.mem_of_getElem? (i := 76) (by decide +kernel), by decide +kernel, by decide⟩
theorem ci_X10_as : iz_CI yX10_as 10 := ⟨List.mem_of_getElem? (i := 1325) (by decide +kernel), List.mem_of_getElem? (i := 1326) (by decide +kernel), ⟨TX10, 48, rfl⟩⟩
theorem cw_X10_warmthOf : iz_CW yX10_warmthOf cX10_warmthOf 2 (some .int) 1 := ⟨List.mem_of_getElem? (i := 1335) (by decide +kernel), List.mem_of_getElem? (i := 76) (by decide +kernel), by decide +kernel, by decide⟩
theorem ci_X10_warmthOf : iz_CI yX10_warmthOf 10 := ⟨List.mem_of_getElem? (i := 1334) (by decide +kernel), List.mem_of_getElem? (i := 48) (by decide +kernel), ⟨TX10, 48, rfl⟩⟩
theorem cw_X10_meltOf : iz_CW yX10_meltOf cX10_meltOf 9 (some .int) 3 := ⟨List.mem_of_getElem? (i := 1339) (by decide +kernel), List.mem_of_getElem? (i := 76) (by decide +kernel), by decide +kernel, by decide⟩
theorem ci_X10_meltOf : iz_CI yX10_meltOf 10 := ⟨List.mem_of_getElem? (i := 1338) (by decide +kernel), List.mem_of_getElem? (i := 49) (by decide +kernel), ⟨TX10, 48, rfl⟩⟩
theorem cw_X10_allMelts : iz_CW yX10_allMelts cX10_allMelts 4 (some .int) 0 := ⟨List.mem_of_getElem? (i := 1363) (by decide +kernel), List.mem_of_getElem? (i := 76) (by decide +kernel), by decide +kernel, by decide⟩
theorem ci_X10_allMelts : iz_CI yX10_allMelts 10 := ⟨List.mem_of_getElem? (i := 1362) (by decide +kernel), List.mem_of_getElem? (i := 50) (by decide +kernel), ⟨TX10, 48, rfl⟩⟩
theorem cw_X10_about : iz_CW yX10_about cX10_about 4 (some .int) 2 := ⟨List.mem_of_getElem? (i := 1331) (by decide +kernel), List.mem_of_getElem? (i := 76) (by decide +kernel), by decide +kernel, by decide⟩
theorem ci_X10_about : iz_CI yX10_about 10 := ⟨List.mem_of_getElem? (i := 1329) (by decide +kernel), List.mem_of_getElem? (i := 1330) (by decide +kernel), ⟨TX10, 48, rfl⟩⟩
theorem cw_X10_at : iz_CW yX10_at cX10_at 3 (some .int) 2 := ⟨List.mem_of_getElem? (i := 1343) (by decide +kernel), List.mem_of_getElem? (i := 76) (by decide +kernel), by decide +kernel, by decide⟩
theorem ci_X10_at : iz_CI yX10_at 10 := ⟨List.mem_of_getElem? (i := 1341) (by decide +kernel), List.mem_of_getElem? (i := 1342) (by decide +kernel), ⟨TX10, 48, rfl⟩⟩
theorem cw_X10_dust : iz_CW yX10_dust cX10_dust 4 (some .int) 2 := ⟨List.mem_of_getElem? (i := 1347) (by decide +kernel), List.mem_of_getElem? (i := 76) (by decide +kernel), by decide +kernel, by decide⟩
theorem ci_X10_dust : iz_CI yX10_dust 10 := ⟨List.mem_of_getElem? (i := 1345) (by decide +kernel), List.mem_of_getElem? (i := 1346) (by decide +kernel), ⟨TX10, 48, rfl⟩⟩
theorem cw_X10_cover : iz_CW yX10_cover cX10_cover 4 (some .int) 2 := ⟨List.mem_of_getElem? (i := 1351) (by decide +kernel), List.mem_of_getElem? (i := 76) (by decide +kernel), by decide +kernel, by decide⟩
theorem ci_X10_cover : iz_CI yX10_cover 10 := ⟨List.mem_of_getElem? (i := 1349) (by decide +kernel), List.mem_of_getElem? (i := 1350) (by decide +kernel), ⟨TX10, 48, rfl⟩⟩
theorem cw_X10_warmth : iz_CW yX10_warmth cX10_warmth 4 (some .int) 2 := ⟨List.mem_of_getElem? (i := 1355) (by decide +kernel), List.mem_of_getElem? (i := 76) (by decide +kernel), by decide +kernel, by decide⟩
theorem ci_X10_warmth : iz_CI yX10_warmth 10 := ⟨List.mem_of_getElem? (i := 1353) (by decide +kernel), List.mem_of_getElem? (i := 1354) (by decide +kernel), ⟨TX10, 48, rfl⟩⟩
theorem cw_X10_melts : iz_CW yX10_melts cX10_melts 1 (some .int) 0 := ⟨List.mem_of_getElem? (i := 1359) (by decide +kernel), List.mem_of_getElem? (i := 76) (by decide +kernel), by decide +kernel, by decide⟩
theorem ci_X10_melts : iz_CI yX10_melts 10 := ⟨List.mem_of_getElem? (i := 1357) (by decide +kernel), List.mem_of_getElem? (i := 1358) (by decide +kernel), ⟨TX10, 48, rfl⟩⟩
theorem cw_X10_weekGoes : iz_CW yX10_weekGoes cX10_weekGoes 5 none 0 := ⟨List.mem_of_getElem? (i := 1371) (by decide +kernel), List.mem_of_getElem? (i := 76) (by decide +kernel), by decide +kernel, by decide⟩
theorem ci_X10_weekGoes : iz_CI yX10_weekGoes 10 := ⟨List.mem_of_getElem? (i := 1370) (by decide +kernel), List.mem_of_getElem? (i := 51) (by decide +kernel), ⟨TX10, 48, rfl⟩⟩
theorem cw_X10_allWeight : iz_CW yX10_allWeight cX10_allWeight 4 (some .int) 0 := ⟨List.mem_of_getElem? (i := 1375) (by decide +kernel), List.mem_of_getElem? (i := 76) (by decide +kernel), by decide +kernel, by decide⟩
theorem ci_X10_allWeight : iz_CI yX10_allWeight 10 := ⟨List.mem_of_getElem? (i := 1374) (by decide +kernel), List.mem_of_getElem? (i := 52) (by decide +kernel), ⟨TX10, 48, rfl⟩⟩
theorem cw_X10_weeks : iz_CW yX10_weeks cX10_weeks 3 (some .int) 1 := ⟨List.mem_of_getElem? (i := 1367) (by decide +kernel), List.mem_of_getElem? (i := 76) (by decide +kernel), by decide +kernel, by decide⟩
theorem ci_X10_weeks : iz_CI yX10_weeks 10 := ⟨List.mem_of_getElem? (i := 1365) (by decide +kernel), List.mem_of_getElem? (i := 1366) (by decide +kernel), ⟨TX10, 48, rfl⟩⟩
theorem cw_X10_lays : iz_CW yX10_lays cX10_lays 4 none 2 := ⟨List.mem_of_getElem? (i := 1387) (by decide +kernel), List.mem_of_getElem? (i := 76) (by decide +kernel), by decide +kernel, by decide⟩
theorem ci_X10_lays : iz_CI yX10_lays 10 := ⟨List.mem_of_getElem? (i := 1386) (by decide +kernel), List.mem_of_getElem? (i := 54) (by decide +kernel), ⟨TX10, 48, rfl⟩⟩
theorem cw_X10_layAside : iz_CW yX10_layAside cX10_layAside 2 none 1 := ⟨List.mem_of_getElem? (i := 1383) (by decide +kernel), List.mem_of_getElem? (i := 76) (by decide +kernel), by decide +kernel, by decide⟩
theorem ci_X10_layAside : iz_CI yX10_layAside 10 := ⟨List.mem_of_getElem? (i := 1382) (by decide +kernel), List.mem_of_getElem? (i := 53) (by decide +kernel), ⟨TX10, 48, rfl⟩⟩
theorem cw_X10_after : iz_CW yX10_after cX10_after 3 (some .int) 1 := ⟨List.mem_of_getElem? (i := 1379) (by decide +kernel), List.mem_of_getElem? (i := 76) (by decide +kernel), by decide +kernel, by decide⟩
theorem ci_X10_after : iz_CI yX10_after 10 := ⟨List.mem_of_getElem? (i := 1377) (by decide +kernel), List.mem_of_getElem? (i := 1378) (by decide +kernel), ⟨TX10, 48, rfl⟩⟩
theorem cw_X10_lasts : iz_CW yX10_lasts cX10_lasts 4 (some .int) 1 := ⟨List.mem_of_getElem? (i := 1391) (by decide +kernel), List.mem_of_getElem? (i := 76) (by decide +kernel), by decide +kernel, by decide⟩
theorem ci_X10_lasts : iz_CI yX10_lasts 10 := ⟨List.mem_of_getElem? (i := 1389) (by decide +kernel), List.mem_of_getElem? (i := 1390) (by decide +kernel), ⟨TX10, 48, rfl⟩⟩
theorem cw_X10_findDust : iz_CW yX10_findDust cX10_findDust 9 (some .int) 1 := ⟨List.mem_of_getElem? (i := 1400) (by decide +kernel), List.mem_of_getElem? (i := 76) (by decide +kernel), by decide +kernel, by decide⟩
theorem ci_X10_findDust : iz_CI yX10_findDust 10 := ⟨List.mem_of_getElem? (i := 1399) (by decide +kernel), List.mem_of_getElem? (i := 55) (by decide +kernel), ⟨TX10, 48, rfl⟩⟩
theorem cw_X10_best : iz_CW yX10_best cX10_best 4 (some .int) 2 := ⟨List.mem_of_getElem? (i := 1396) (by decide +kernel), List.mem_of_getElem? (i := 76) (by decide +kernel), by decide +kernel, by decide⟩
theorem ci_X10_best : iz_CI yX10_best 10 := ⟨List.mem_of_getElem? (i := 1394) (by decide +kernel), List.mem_of_getElem? (i := 1395) (by decide +kernel), ⟨TX10, 48, rfl⟩⟩
theorem cw_X10_order : iz_CW yX10_order cX10_order 6 (some .int) 5 := ⟨List.mem_of_getElem? (i := 1405) (by decide +kernel), List.mem_of_getElem? (i := 76) (by decide +kernel), by decide +kernel, by decide⟩
theorem ci_X10_order : iz_CI yX10_order 10 := ⟨List.mem_of_getElem? (i := 1403) (by decide +kernel), List.mem_of_getElem? (i := 1404) (by decide +kernel), ⟨TX10, 48, rfl⟩⟩
theorem cw_X10_comesOf : iz_CW yX10_comesOf cX10_comesOf 4 (some .int) 2 := ⟨List.mem_of_getElem? (i := 1425) (by decide +kernel), List.mem_of_getElem? (i := 76) (by decide +kernel), by decide +kernel, by decide⟩
theorem ci_X10_comesOf : iz_CI yX10_comesOf 10 := ⟨List.mem_of_getElem? (i := 1424) (by decide +kernel), List.mem_of_getElem? (i := 59) (by decide +kernel), ⟨TX10, 48, rfl⟩⟩
theorem cw_X10_isOfGrade : iz_CW yX10_isOfGrade cX10_isOfGrade 3 (some .boolean) 2 := ⟨List.mem_of_getElem? (i := 1421) (by decide +kernel), List.mem_of_getElem? (i := 76) (by decide +kernel), by decide +kernel, by decide⟩
theorem ci_X10_isOfGrade : iz_CI yX10_isOfGrade 10 := ⟨List.mem_of_getElem? (i := 1420) (by decide +kernel), List.mem_of_getElem? (i := 58) (by decide +kernel), ⟨TX10, 48, rfl⟩⟩
theorem cw_X10_whyNot : iz_CW yX10_whyNot cX10_whyNot 4 (some .int) 2 := ⟨List.mem_of_getElem? (i := 1417) (by decide +kernel), List.mem_of_getElem? (i := 76) (by decide +kernel), by decide +kernel, by decide⟩
theorem ci_X10_whyNot : iz_CI yX10_whyNot 10 := ⟨List.mem_of_getElem? (i := 1416) (by decide +kernel), List.mem_of_getElem? (i := 57) (by decide +kernel), ⟨TX10, 48, rfl⟩⟩
theorem cw_X10_isOrder : iz_CW yX10_isOrder cX10_isOrder 2 (some .boolean) 1 := ⟨List.mem_of_getElem? (i := 1413) (by decide +kernel), List.mem_of_getElem? (i := 76) (by decide +kernel), by decide +kernel, by decide⟩
theorem ci_X10_isOrder : iz_CI yX10_isOrder 10 := ⟨List.mem_of_getElem? (i := 1412) (by decide +kernel), List.mem_of_getElem? (i := 56) (by decide +kernel), ⟨TX10, 48, rfl⟩⟩
theorem cw_X10_why : iz_CW yX10_why cX10_why 3 (some .int) 2 := ⟨List.mem_of_getElem? (i := 1409) (by decide +kernel), List.mem_of_getElem? (i := 76) (by decide +kernel), by decide +kernel, by decide⟩
theorem ci_X10_why : iz_CI yX10_why 10 := ⟨List.mem_of_getElem? (i := 1407) (by decide +kernel), List.mem_of_getElem? (i := 1408) (by decide +kernel), ⟨TX10, 48, rfl⟩⟩
theorem cw_X10_serve : iz_CW yX10_serve cX10_serve 5 (some .int) 2 := ⟨List.mem_of_getElem? (i := 1429) (by decide +kernel), List.mem_of_getElem? (i := 76) (by decide +kernel), by decide +kernel, by decide⟩
theorem ci_X10_serve : iz_CI yX10_serve 10 := ⟨List.mem_of_getElem? (i := 1427) (by decide +kernel), List.mem_of_getElem? (i := 1428) (by decide +kernel), ⟨TX10, 48, rfl⟩⟩
theorem cw_X10_trySales : iz_CW yX10_trySales cX10_trySales 6 none 2 := ⟨List.mem_of_getElem? (i := 1437) (by decide +kernel), List.mem_of_getElem? (i := 76) (by decide +kernel), by decide +kernel, by decide⟩
theorem ci_X10_trySales : iz_CI yX10_trySales 10 := ⟨List.mem_of_getElem? (i := 1436) (by decide +kernel), List.mem_of_getElem? (i := 60) (by decide +kernel), ⟨TX10, 48, rfl⟩⟩
theorem cw_X10_sales : iz_CW yX10_sales cX10_sales 6 (some .int) 1 := ⟨List.mem_of_getElem? (i := 1433) (by decide +kernel), List.mem_of_getElem? (i := 76) (by decide +kernel), by decide +kernel, by decide⟩
theorem ci_X10_sales : iz_CI yX10_sales 10 := ⟨List.mem_of_getElem? (i := 1431) (by decide +kernel), List.mem_of_getElem? (i := 1432) (by decide +kernel), ⟨TX10, 48, rfl⟩⟩
theorem cw_X10_isStation : iz_CW yX10_isStation cX10_isStation 3 (some .boolean) 3 := ⟨List.mem_of_getElem? (i := 1444) (by decide +kernel), List.mem_of_getElem? (i := 76) (by decide +kernel), by decide +kernel, by decide⟩
theorem ci_X10_isStation : Cond.static yX10_isStation ∈ lw_tbl := List.mem_of_getElem? (i := 1443) (by decide +kernel)
theorem cw_X10_tellStation : iz_CW yX10_tellStation cX10_tellStation 5 none 4 := ⟨List.mem_of_getElem? (i := 1448) (by decide +kernel), List.mem_of_getElem? (i := 76) (by decide +kernel), by decide +kernel, by decide⟩
theorem ci_X10_tellStation : iz_CI yX10_tellStation 10 := ⟨List.mem_of_getElem? (i := 1447) (by decide +kernel), List.mem_of_getElem? (i := 61) (by decide +kernel), ⟨TX10, 48, rfl⟩⟩
theorem cw_X10_station : iz_CW yX10_station cX10_station 4 (some .int) 3 := ⟨List.mem_of_getElem? (i := 1441) (by decide +kernel), List.mem_of_getElem? (i := 76) (by decide +kernel), by decide +kernel, by decide⟩
theorem ci_X10_station : iz_CI yX10_station 10 := ⟨List.mem_of_getElem? (i := 1439) (by decide +kernel), List.mem_of_getElem? (i := 1440) (by decide +kernel), ⟨TX10, 48, rfl⟩⟩
theorem cw_X10_change : iz_CW yX10_change cX10_change 6 (some .int) 4 := ⟨List.mem_of_getElem? (i := 1452) (by decide +kernel), List.mem_of_getElem? (i := 76) (by decide +kernel), by decide +kernel, by decide⟩
theorem ci_X10_change : iz_CI yX10_change 10 := ⟨List.mem_of_getElem? (i := 1450) (by decide +kernel), List.mem_of_getElem? (i := 1451) (by decide +kernel), ⟨TX10, 48, rfl⟩⟩
theorem cw_X10_costOf : iz_CW yX10_costOf cX10_costOf 6 (some .int) 4 := ⟨List.mem_of_getElem? (i := 1460) (by decide +kernel), List.mem_of_getElem? (i := 76) (by decide +kernel), by decide +kernel, by decide⟩
theorem ci_X10_costOf : iz_CI yX10_costOf 10 := ⟨List.mem_of_getElem? (i := 1459) (by decide +kernel), List.mem_of_getElem? (i := 62) (by decide +kernel), ⟨TX10, 48, rfl⟩⟩
theorem cw_X10_icing : iz_CW yX10_icing cX10_icing 9 (some .int) 3 := ⟨List.mem_of_getElem? (i := 1456) (by decide +kernel), List.mem_of_getElem? (i := 76) (by decide +kernel), by decide +kernel, by decide⟩
theorem ci_X10_icing : iz_CI yX10_icing 10 := ⟨List.mem_of_getElem? (i := 1454) (by decide +kernel), List.mem_of_getElem? (i := 1455) (by decide +kernel), ⟨TX10, 48, rfl⟩⟩
theorem cw_X10_ledger : iz_CW yX10_ledger cX10_ledger 2 (some .int) 1 := ⟨List.mem_of_getElem? (i := 1464) (by decide +kernel), List.mem_of_getElem? (i := 76) (by decide +kernel), by decide +kernel, by decide⟩
theorem ci_X10_ledger : iz_CI yX10_ledger 10 := ⟨List.mem_of_getElem? (i := 1462) (by decide +kernel), List.mem_of_getElem? (i := 1463) (by decide +kernel), ⟨TX10, 48, rfl⟩⟩
theorem cw_X10_tell : iz_CW yX10_tell cX10_tell 2 (some .int) 1 := ⟨List.mem_of_getElem? (i := 1468) (by decide +kernel), List.mem_of_getElem? (i := 76) (by decide +kernel), by decide +kernel, by decide⟩
theorem ci_X10_tell : iz_CI yX10_tell 10 := ⟨List.mem_of_getElem? (i := 1466) (by decide +kernel), List.mem_of_getElem? (i := 1467) (by decide +kernel), ⟨TX10, 48, rfl⟩⟩
theorem cw_X10_check : iz_CW yX10_check cX10_check 7 (some .int) 1 := ⟨List.mem_of_getElem? (i := 1472) (by decide +kernel), List.mem_of_getElem? (i := 76) (by decide +kernel), by decide +kernel, by decide⟩
theorem ci_X10_check : iz_CI yX10_check 10 := ⟨List.mem_of_getElem? (i := 1470) (by decide +kernel), List.mem_of_getElem? (i := 1471) (by decide +kernel), ⟨TX10, 48, rfl⟩⟩
theorem cw_X10_placed : iz_CW yX10_placed cX10_placed 4 (some .int) 1 := ⟨List.mem_of_getElem? (i := 1480) (by decide +kernel), List.mem_of_getElem? (i := 76) (by decide +kernel), by decide +kernel, by decide⟩
theorem ci_X10_placed : iz_CI yX10_placed 10 := ⟨List.mem_of_getElem? (i := 1479) (by decide +kernel), List.mem_of_getElem? (i := 63) (by decide +kernel), ⟨TX10, 48, rfl⟩⟩
theorem cw_X10_count : iz_CW yX10_count cX10_count 4 (some .int) 1 := ⟨List.mem_of_getElem? (i := 1476) (by decide +kernel), List.mem_of_getElem? (i := 76) (by decide +kernel), by decide +kernel, by decide⟩
theorem ci_X10_count : iz_CI yX10_count 10 := ⟨List.mem_of_getElem? (i := 1474) (by decide +kernel), List.mem_of_getElem? (i := 1475) (by decide +kernel), ⟨TX10, 48, rfl⟩⟩
theorem cw_X10_found : iz_CW yX10_found cX10_found 2 (some .int) 1 := ⟨List.mem_of_getElem? (i := 1484) (by decide +kernel), List.mem_of_getElem? (i := 76) (by decide +kernel), by decide +kernel, by decide⟩
theorem ci_X10_found : iz_CI yX10_found 10 := ⟨List.mem_of_getElem? (i := 1482) (by decide +kernel), List.mem_of_getElem? (i := 1483) (by decide +kernel), ⟨TX10, 48, rfl⟩⟩
theorem cw_J13_bitCount_95d88 : iz_CW yJ13_bitCount_95d88 cJ13_bitCount_95d88 2 (some .int) 1 := ⟨List.mem_of_getElem? (i := 465) (by decide +kernel), List.mem_of_getElem? (i := 77) (by decide +kernel), by decide +kernel, by decide⟩
theorem ci_J13_bitCount_95d88 : Cond.static yJ13_bitCount_95d88 ∈ lw_tbl := List.mem_of_getElem? (i := 464) (by decide +kernel)
theorem cw_J9_max_7cf53 : iz_CW yJ9_max_7cf53 cJ9_max_7cf53 2 (some .int) 2 := ⟨List.mem_of_getElem? (i := 479) (by decide +kernel), List.mem_of_getElem? (i := 78) (by decide +kernel), by decide +kernel, by decide⟩
theorem ci_J9_max_7cf53 : Cond.static yJ9_max_7cf53 ∈ lw_tbl := List.mem_of_getElem? (i := 478) (by decide +kernel)
theorem cw_J9_min_7cf53 : iz_CW yJ9_min_7cf53 cJ9_min_7cf53 2 (some .int) 2 := ⟨List.mem_of_getElem? (i := 495) (by decide +kernel), List.mem_of_getElem? (i := 78) (by decide +kernel), by decide +kernel, by decide⟩
theorem ci_J9_min_7cf53 : Cond.static yJ9_min_7cf53 ∈ lw_tbl := List.mem_of_getElem? (i := 494) (by decide +kernel)
theorem cw_J7_fill_53178 : iz_CW yJ7_fill_53178 cJ7_fill_53178 4 none 2 := ⟨List.mem_of_getElem? (i := 150) (by decide +kernel), List.mem_of_getElem? (i := 69) (by decide +kernel), by decide +kernel, by decide⟩
theorem ci_J7_fill_53178 : Cond.static yJ7_fill_53178 ∈ lw_tbl := List.mem_of_getElem? (i := 149) (by decide +kernel)
theorem ac_nat : Cond.native arraycopyName ∈ lw_tbl := List.mem_of_getElem? (i := 597) (by decide +kernel)
theorem ac_sta : Cond.static arraycopyName ∈ lw_tbl := List.mem_of_getElem? (i := 596) (by decide +kernel)
theorem ac_ini : Cond.initialized "java/lang/System" ∈ lw_tbl := List.mem_of_getElem? (i := 79) (by decide +kernel)
theorem sf_0_1_all : ∀ k, k < 121 → iz_sh k = (0 + 3, 7) → iz_sh (iz_rf k 1) = (0, 4) := by decide +kernel
theorem sf_0_1 {k : Nat} (h : iz_sh k = (0 + 3, 7)) : iz_sh (iz_rf k 1) = (0, 4) := sf_0_1_all k (iz_sh_lt h (by decide)) h
theorem sf_0_4_all : ∀ k, k < 121 → iz_sh k = (0 + 3, 7) → iz_sh (iz_rf k 4) = (2, 4) := by decide +kernel
theorem sf_0_4 {k : Nat} (h : iz_sh k = (0 + 3, 7)) : iz_sh (iz_rf k 4) = (2, 4) := sf_0_4_all k (iz_sh_lt h (by decide)) h
theorem sr_0_4_all : ∀ k, k < 121 → iz_sh k = (0 + 3, 7) → ∀ q, q < 4 → iz_sh (iz_rf (iz_rf k 4) q) = (0, 11) := by decide +kernel
theorem sr_0_4 {k : Nat} (h : iz_sh k = (0 + 3, 7)) {q : Int32} (hq : iz_in q 4 = true) : iz_sh (iz_rf (iz_rf k 4) q.toNatClampNeg) = (0, 11) := sr_0_4_all k (iz_sh_lt h (by decide)) h _ (Nat.not_le.mp fun e => iz_in_p hq (Or.inr e))
theorem sf_0_5_all : ∀ k, k < 121 → iz_sh k = (0 + 3, 7) → iz_sh (iz_rf k 5) = (2, 4) := by decide +kernel
theorem sf_0_5 {k : Nat} (h : iz_sh k = (0 + 3, 7)) : iz_sh (iz_rf k 5) = (2, 4) := sf_0_5_all k (iz_sh_lt h (by decide)) h
theorem sr_0_5_all : ∀ k, k < 121 → iz_sh k = (0 + 3, 7) → ∀ q, q < 4 → iz_sh (iz_rf (iz_rf k 5) q) = (0, 21) := by decide +kernel
theorem sr_0_5 {k : Nat} (h : iz_sh k = (0 + 3, 7)) {q : Int32} (hq : iz_in q 4 = true) : iz_sh (iz_rf (iz_rf k 5) q.toNatClampNeg) = (0, 21) := sr_0_5_all k (iz_sh_lt h (by decide)) h _ (Nat.not_le.mp fun e => iz_in_p hq (Or.inr e))
theorem sf_0_6_all : ∀ k, k < 121 → iz_sh k = (0 + 3, 7) → iz_sh (iz_rf k 6) = (0, 11) := by decide +kernel
theorem sf_0_6 {k : Nat} (h : iz_sh k = (0 + 3, 7)) : iz_sh (iz_rf k 6) = (0, 11) := sf_0_6_all k (iz_sh_lt h (by decide)) h
theorem sf_1_1_all : ∀ k, k < 121 → iz_sh k = (1 + 3, 13) → iz_sh (iz_rf k 1) = (0, 60) := by decide +kernel
theorem sf_1_1 {k : Nat} (h : iz_sh k = (1 + 3, 13)) : iz_sh (iz_rf k 1) = (0, 60) := sf_1_1_all k (iz_sh_lt h (by decide)) h
theorem sf_1_2_all : ∀ k, k < 121 → iz_sh k = (1 + 3, 13) → iz_sh (iz_rf k 2) = (0, 60) := by decide +kernel
theorem sf_1_2 {k : Nat} (h : iz_sh k = (1 + 3, 13)) : iz_sh (iz_rf k 2) = (0, 60) := sf_1_2_all k (iz_sh_lt h (by decide)) h
theorem sf_1_3_all : ∀ k, k < 121 → iz_sh k = (1 + 3, 13) → iz_sh (iz_rf k 3) = (0, 60) := by decide +kernel
theorem sf_1_3 {k : Nat} (h : iz_sh k = (1 + 3, 13)) : iz_sh (iz_rf k 3) = (0, 60) := sf_1_3_all k (iz_sh_lt h (by decide)) h
theorem sf_1_4_all : ∀ k, k < 121 → iz_sh k = (1 + 3, 13) → iz_sh (iz_rf k 4) = (0, 16) := by decide +kernel
theorem sf_1_4 {k : Nat} (h : iz_sh k = (1 + 3, 13)) : iz_sh (iz_rf k 4) = (0, 16) := sf_1_4_all k (iz_sh_lt h (by decide)) h
theorem sf_1_11_all : ∀ k, k < 121 → iz_sh k = (1 + 3, 13) → iz_sh (iz_rf k 11) = (7 + 3, 3) := by decide +kernel
theorem sf_1_11 {k : Nat} (h : iz_sh k = (1 + 3, 13)) : iz_sh (iz_rf k 11) = (7 + 3, 3) := sf_1_11_all k (iz_sh_lt h (by decide)) h
theorem sf_1_12_all : ∀ k, k < 121 → iz_sh k = (1 + 3, 13) → iz_sh (iz_rf k 12) = (0, 96) := by decide +kernel
theorem sf_1_12 {k : Nat} (h : iz_sh k = (1 + 3, 13)) : iz_sh (iz_rf k 12) = (0, 96) := sf_1_12_all k (iz_sh_lt h (by decide)) h
theorem sf_2_0_all : ∀ k, k < 121 → iz_sh k = (2 + 3, 3) → iz_sh (iz_rf k 0) = (0, 64) := by decide +kernel
theorem sf_2_0 {k : Nat} (h : iz_sh k = (2 + 3, 3)) : iz_sh (iz_rf k 0) = (0, 64) := sf_2_0_all k (iz_sh_lt h (by decide)) h
theorem sf_2_1_all : ∀ k, k < 121 → iz_sh k = (2 + 3, 3) → iz_sh (iz_rf k 1) = (0, 64) := by decide +kernel
theorem sf_2_1 {k : Nat} (h : iz_sh k = (2 + 3, 3)) : iz_sh (iz_rf k 1) = (0, 64) := sf_2_1_all k (iz_sh_lt h (by decide)) h
theorem sf_2_2_all : ∀ k, k < 121 → iz_sh k = (2 + 3, 3) → iz_sh (iz_rf k 2) = (1, 64) := by decide +kernel
theorem sf_2_2 {k : Nat} (h : iz_sh k = (2 + 3, 3)) : iz_sh (iz_rf k 2) = (1, 64) := sf_2_2_all k (iz_sh_lt h (by decide)) h
theorem sf_3_3_all : ∀ k, k < 121 → iz_sh k = (3 + 3, 10) → iz_sh (iz_rf k 3) = (0, 10) := by decide +kernel
theorem sf_3_3 {k : Nat} (h : iz_sh k = (3 + 3, 10)) : iz_sh (iz_rf k 3) = (0, 10) := sf_3_3_all k (iz_sh_lt h (by decide)) h
theorem sf_3_4_all : ∀ k, k < 121 → iz_sh k = (3 + 3, 10) → iz_sh (iz_rf k 4) = (1 + 3, 13) := by decide +kernel
theorem sf_3_4 {k : Nat} (h : iz_sh k = (3 + 3, 10)) : iz_sh (iz_rf k 4) = (1 + 3, 13) := sf_3_4_all k (iz_sh_lt h (by decide)) h
theorem sf_3_5_all : ∀ k, k < 121 → iz_sh k = (3 + 3, 10) → iz_sh (iz_rf k 5) = (0, 10) := by decide +kernel
theorem sf_3_5 {k : Nat} (h : iz_sh k = (3 + 3, 10)) : iz_sh (iz_rf k 5) = (0, 10) := sf_3_5_all k (iz_sh_lt h (by decide)) h
theorem sf_3_6_all : ∀ k, k < 121 → iz_sh k = (3 + 3, 10) → iz_sh (iz_rf k 6) = (0, 10) := by decide +kernel
theorem sf_3_6 {k : Nat} (h : iz_sh k = (3 + 3, 10)) : iz_sh (iz_rf k 6) = (0, 10) := sf_3_6_all k (iz_sh_lt h (by decide)) h
theorem sf_3_7_all : ∀ k, k < 121 → iz_sh k = (3 + 3, 10) → iz_sh (iz_rf k 7) = (0, 10) := by decide +kernel
theorem sf_3_7 {k : Nat} (h : iz_sh k = (3 + 3, 10)) : iz_sh (iz_rf k 7) = (0, 10) := sf_3_7_all k (iz_sh_lt h (by decide)) h
theorem sf_3_8_all : ∀ k, k < 121 → iz_sh k = (3 + 3, 10) → iz_sh (iz_rf k 8) = (0, 10) := by decide +kernel
theorem sf_3_8 {k : Nat} (h : iz_sh k = (3 + 3, 10)) : iz_sh (iz_rf k 8) = (0, 10) := sf_3_8_all k (iz_sh_lt h (by decide)) h
theorem sf_3_9_all : ∀ k, k < 121 → iz_sh k = (3 + 3, 10) → iz_sh (iz_rf k 9) = (1, 10) := by decide +kernel
theorem sf_3_9 {k : Nat} (h : iz_sh k = (3 + 3, 10)) : iz_sh (iz_rf k 9) = (1, 10) := sf_3_9_all k (iz_sh_lt h (by decide)) h
theorem sf_4_1_all : ∀ k, k < 121 → iz_sh k = (4 + 3, 6) → iz_sh (iz_rf k 1) = (0, 9) := by decide +kernel
theorem sf_4_1 {k : Nat} (h : iz_sh k = (4 + 3, 6)) : iz_sh (iz_rf k 1) = (0, 9) := sf_4_1_all k (iz_sh_lt h (by decide)) h
theorem sf_4_2_all : ∀ k, k < 121 → iz_sh k = (4 + 3, 6) → iz_sh (iz_rf k 2) = (0, 9) := by decide +kernel
theorem sf_4_2 {k : Nat} (h : iz_sh k = (4 + 3, 6)) : iz_sh (iz_rf k 2) = (0, 9) := sf_4_2_all k (iz_sh_lt h (by decide)) h
theorem sf_4_3_all : ∀ k, k < 121 → iz_sh k = (4 + 3, 6) → iz_sh (iz_rf k 3) = (0, 9) := by decide +kernel
theorem sf_4_3 {k : Nat} (h : iz_sh k = (4 + 3, 6)) : iz_sh (iz_rf k 3) = (0, 9) := sf_4_3_all k (iz_sh_lt h (by decide)) h
theorem sf_4_4_all : ∀ k, k < 121 → iz_sh k = (4 + 3, 6) → iz_sh (iz_rf k 4) = (2, 9) := by decide +kernel
theorem sf_4_4 {k : Nat} (h : iz_sh k = (4 + 3, 6)) : iz_sh (iz_rf k 4) = (2, 9) := sf_4_4_all k (iz_sh_lt h (by decide)) h
theorem sr_4_4_all : ∀ k, k < 121 → iz_sh k = (4 + 3, 6) → ∀ q, q < 9 → iz_sh (iz_rf (iz_rf k 4) q) = (0, 61) := by decide +kernel
theorem sr_4_4 {k : Nat} (h : iz_sh k = (4 + 3, 6)) {q : Int32} (hq : iz_in q 9 = true) : iz_sh (iz_rf (iz_rf k 4) q.toNatClampNeg) = (0, 61) := sr_4_4_all k (iz_sh_lt h (by decide)) h _ (Nat.not_le.mp fun e => iz_in_p hq (Or.inr e))
theorem sf_4_5_all : ∀ k, k < 121 → iz_sh k = (4 + 3, 6) → iz_sh (iz_rf k 5) = (2, 9) := by decide +kernel
theorem sf_4_5 {k : Nat} (h : iz_sh k = (4 + 3, 6)) : iz_sh (iz_rf k 5) = (2, 9) := sf_4_5_all k (iz_sh_lt h (by decide)) h
theorem sr_4_5_all : ∀ k, k < 121 → iz_sh k = (4 + 3, 6) → ∀ q, q < 9 → iz_sh (iz_rf (iz_rf k 5) q) = (0, 61) := by decide +kernel
theorem sr_4_5 {k : Nat} (h : iz_sh k = (4 + 3, 6)) {q : Int32} (hq : iz_in q 9 = true) : iz_sh (iz_rf (iz_rf k 5) q.toNatClampNeg) = (0, 61) := sr_4_5_all k (iz_sh_lt h (by decide)) h _ (Nat.not_le.mp fun e => iz_in_p hq (Or.inr e))
theorem sf_5_0_all : ∀ k, k < 121 → iz_sh k = (5 + 3, 15) → iz_sh (iz_rf k 0) = (0, 3) := by decide +kernel
theorem sf_5_0 {k : Nat} (h : iz_sh k = (5 + 3, 15)) : iz_sh (iz_rf k 0) = (0, 3) := sf_5_0_all k (iz_sh_lt h (by decide)) h
theorem sf_5_3_all : ∀ k, k < 121 → iz_sh k = (5 + 3, 15) → iz_sh (iz_rf k 3) = (0, 4) := by decide +kernel
theorem sf_5_3 {k : Nat} (h : iz_sh k = (5 + 3, 15)) : iz_sh (iz_rf k 3) = (0, 4) := sf_5_3_all k (iz_sh_lt h (by decide)) h
theorem sf_5_4_all : ∀ k, k < 121 → iz_sh k = (5 + 3, 15) → iz_sh (iz_rf k 4) = (0, 4) := by decide +kernel
theorem sf_5_4 {k : Nat} (h : iz_sh k = (5 + 3, 15)) : iz_sh (iz_rf k 4) = (0, 4) := sf_5_4_all k (iz_sh_lt h (by decide)) h
theorem sf_5_5_all : ∀ k, k < 121 → iz_sh k = (5 + 3, 15) → iz_sh (iz_rf k 5) = (1 + 3, 13) := by decide +kernel
theorem sf_5_5 {k : Nat} (h : iz_sh k = (5 + 3, 15)) : iz_sh (iz_rf k 5) = (1 + 3, 13) := sf_5_5_all k (iz_sh_lt h (by decide)) h
theorem sf_5_6_all : ∀ k, k < 121 → iz_sh k = (5 + 3, 15) → iz_sh (iz_rf k 6) = (3 + 3, 10) := by decide +kernel
theorem sf_5_6 {k : Nat} (h : iz_sh k = (5 + 3, 15)) : iz_sh (iz_rf k 6) = (3 + 3, 10) := sf_5_6_all k (iz_sh_lt h (by decide)) h
theorem sf_5_8_all : ∀ k, k < 121 → iz_sh k = (5 + 3, 15) → iz_sh (iz_rf k 8) = (1, 120) := by decide +kernel
theorem sf_5_8 {k : Nat} (h : iz_sh k = (5 + 3, 15)) : iz_sh (iz_rf k 8) = (1, 120) := sf_5_8_all k (iz_sh_lt h (by decide)) h
theorem sf_5_9_all : ∀ k, k < 121 → iz_sh k = (5 + 3, 15) → iz_sh (iz_rf k 9) = (0, 10) := by decide +kernel
theorem sf_5_9 {k : Nat} (h : iz_sh k = (5 + 3, 15)) : iz_sh (iz_rf k 9) = (0, 10) := sf_5_9_all k (iz_sh_lt h (by decide)) h
theorem sf_5_11_all : ∀ k, k < 121 → iz_sh k = (5 + 3, 15) → iz_sh (iz_rf k 11) = (1, 10) := by decide +kernel
theorem sf_5_11 {k : Nat} (h : iz_sh k = (5 + 3, 15)) : iz_sh (iz_rf k 11) = (1, 10) := sf_5_11_all k (iz_sh_lt h (by decide)) h
theorem sf_5_12_all : ∀ k, k < 121 → iz_sh k = (5 + 3, 15) → iz_sh (iz_rf k 12) = (0, 3) := by decide +kernel
theorem sf_5_12 {k : Nat} (h : iz_sh k = (5 + 3, 15)) : iz_sh (iz_rf k 12) = (0, 3) := sf_5_12_all k (iz_sh_lt h (by decide)) h
theorem sf_5_13_all : ∀ k, k < 121 → iz_sh k = (5 + 3, 15) → iz_sh (iz_rf k 13) = (0, 4) := by decide +kernel
theorem sf_5_13 {k : Nat} (h : iz_sh k = (5 + 3, 15)) : iz_sh (iz_rf k 13) = (0, 4) := sf_5_13_all k (iz_sh_lt h (by decide)) h
theorem sf_5_14_all : ∀ k, k < 121 → iz_sh k = (5 + 3, 15) → iz_sh (iz_rf k 14) = (0, 4) := by decide +kernel
theorem sf_5_14 {k : Nat} (h : iz_sh k = (5 + 3, 15)) : iz_sh (iz_rf k 14) = (0, 4) := sf_5_14_all k (iz_sh_lt h (by decide)) h
theorem sf_6_0_all : ∀ k, k < 121 → iz_sh k = (6 + 3, 8) → iz_sh (iz_rf k 0) = (0, 6) := by decide +kernel
theorem sf_6_0 {k : Nat} (h : iz_sh k = (6 + 3, 8)) : iz_sh (iz_rf k 0) = (0, 6) := sf_6_0_all k (iz_sh_lt h (by decide)) h
theorem sf_6_2_all : ∀ k, k < 121 → iz_sh k = (6 + 3, 8) → iz_sh (iz_rf k 2) = (0, 6) := by decide +kernel
theorem sf_6_2 {k : Nat} (h : iz_sh k = (6 + 3, 8)) : iz_sh (iz_rf k 2) = (0, 6) := sf_6_2_all k (iz_sh_lt h (by decide)) h
theorem sf_6_4_all : ∀ k, k < 121 → iz_sh k = (6 + 3, 8) → iz_sh (iz_rf k 4) = (0, 64) := by decide +kernel
theorem sf_6_4 {k : Nat} (h : iz_sh k = (6 + 3, 8)) : iz_sh (iz_rf k 4) = (0, 64) := sf_6_4_all k (iz_sh_lt h (by decide)) h
theorem sf_6_5_all : ∀ k, k < 121 → iz_sh k = (6 + 3, 8) → iz_sh (iz_rf k 5) = (0, 64) := by decide +kernel
theorem sf_6_5 {k : Nat} (h : iz_sh k = (6 + 3, 8)) : iz_sh (iz_rf k 5) = (0, 64) := sf_6_5_all k (iz_sh_lt h (by decide)) h
theorem sf_7_0_all : ∀ k, k < 121 → iz_sh k = (7 + 3, 3) → iz_sh (iz_rf k 0) = (0, 4) := by decide +kernel
theorem sf_7_0 {k : Nat} (h : iz_sh k = (7 + 3, 3)) : iz_sh (iz_rf k 0) = (0, 4) := sf_7_0_all k (iz_sh_lt h (by decide)) h
theorem sf_7_1_all : ∀ k, k < 121 → iz_sh k = (7 + 3, 3) → iz_sh (iz_rf k 1) = (0, 16) := by decide +kernel
theorem sf_7_1 {k : Nat} (h : iz_sh k = (7 + 3, 3)) : iz_sh (iz_rf k 1) = (0, 16) := sf_7_1_all k (iz_sh_lt h (by decide)) h
theorem sf_7_2_all : ∀ k, k < 121 → iz_sh k = (7 + 3, 3) → iz_sh (iz_rf k 2) = (0, 100) := by decide +kernel
theorem sf_7_2 {k : Nat} (h : iz_sh k = (7 + 3, 3)) : iz_sh (iz_rf k 2) = (0, 100) := sf_7_2_all k (iz_sh_lt h (by decide)) h
theorem sf_8_1_all : ∀ k, k < 121 → iz_sh k = (8 + 3, 2) → iz_sh (iz_rf k 1) = (0, 16) := by decide +kernel
theorem sf_8_1 {k : Nat} (h : iz_sh k = (8 + 3, 2)) : iz_sh (iz_rf k 1) = (0, 16) := sf_8_1_all k (iz_sh_lt h (by decide)) h
theorem sf_9_0_all : ∀ k, k < 121 → iz_sh k = (9 + 3, 11) → iz_sh (iz_rf k 0) = (2 + 3, 3) := by decide +kernel
theorem sf_9_0 {k : Nat} (h : iz_sh k = (9 + 3, 11)) : iz_sh (iz_rf k 0) = (2 + 3, 3) := sf_9_0_all k (iz_sh_lt h (by decide)) h
theorem sf_9_1_all : ∀ k, k < 121 → iz_sh k = (9 + 3, 11) → iz_sh (iz_rf k 1) = (6 + 3, 8) := by decide +kernel
theorem sf_9_1 {k : Nat} (h : iz_sh k = (9 + 3, 11)) : iz_sh (iz_rf k 1) = (6 + 3, 8) := sf_9_1_all k (iz_sh_lt h (by decide)) h
theorem sf_9_2_all : ∀ k, k < 121 → iz_sh k = (9 + 3, 11) → iz_sh (iz_rf k 2) = (7 + 3, 3) := by decide +kernel
theorem sf_9_2 {k : Nat} (h : iz_sh k = (9 + 3, 11)) : iz_sh (iz_rf k 2) = (7 + 3, 3) := sf_9_2_all k (iz_sh_lt h (by decide)) h
theorem sf_9_3_all : ∀ k, k < 121 → iz_sh k = (9 + 3, 11) → iz_sh (iz_rf k 3) = (1 + 3, 13) := by decide +kernel
theorem sf_9_3 {k : Nat} (h : iz_sh k = (9 + 3, 11)) : iz_sh (iz_rf k 3) = (1 + 3, 13) := sf_9_3_all k (iz_sh_lt h (by decide)) h
theorem sf_9_4_all : ∀ k, k < 121 → iz_sh k = (9 + 3, 11) → iz_sh (iz_rf k 4) = (1 + 3, 13) := by decide +kernel
theorem sf_9_4 {k : Nat} (h : iz_sh k = (9 + 3, 11)) : iz_sh (iz_rf k 4) = (1 + 3, 13) := sf_9_4_all k (iz_sh_lt h (by decide)) h
theorem sf_9_5_all : ∀ k, k < 121 → iz_sh k = (9 + 3, 11) → iz_sh (iz_rf k 5) = (0 + 3, 7) := by decide +kernel
theorem sf_9_5 {k : Nat} (h : iz_sh k = (9 + 3, 11)) : iz_sh (iz_rf k 5) = (0 + 3, 7) := sf_9_5_all k (iz_sh_lt h (by decide)) h
theorem sf_9_6_all : ∀ k, k < 121 → iz_sh k = (9 + 3, 11) → iz_sh (iz_rf k 6) = (3 + 3, 10) := by decide +kernel
theorem sf_9_6 {k : Nat} (h : iz_sh k = (9 + 3, 11)) : iz_sh (iz_rf k 6) = (3 + 3, 10) := sf_9_6_all k (iz_sh_lt h (by decide)) h
theorem sf_9_7_all : ∀ k, k < 121 → iz_sh k = (9 + 3, 11) → iz_sh (iz_rf k 7) = (5 + 3, 15) := by decide +kernel
theorem sf_9_7 {k : Nat} (h : iz_sh k = (9 + 3, 11)) : iz_sh (iz_rf k 7) = (5 + 3, 15) := sf_9_7_all k (iz_sh_lt h (by decide)) h
theorem sf_9_8_all : ∀ k, k < 121 → iz_sh k = (9 + 3, 11) → iz_sh (iz_rf k 8) = (4 + 3, 6) := by decide +kernel
theorem sf_9_8 {k : Nat} (h : iz_sh k = (9 + 3, 11)) : iz_sh (iz_rf k 8) = (4 + 3, 6) := sf_9_8_all k (iz_sh_lt h (by decide)) h
theorem sf_9_9_all : ∀ k, k < 121 → iz_sh k = (9 + 3, 11) → iz_sh (iz_rf k 9) = (8 + 3, 2) := by decide +kernel
theorem sf_9_9 {k : Nat} (h : iz_sh k = (9 + 3, 11)) : iz_sh (iz_rf k 9) = (8 + 3, 2) := sf_9_9_all k (iz_sh_lt h (by decide)) h
theorem sf_9_10_all : ∀ k, k < 121 → iz_sh k = (9 + 3, 11) → iz_sh (iz_rf k 10) = (0, 6) := by decide +kernel
theorem sf_9_10 {k : Nat} (h : iz_sh k = (9 + 3, 11)) : iz_sh (iz_rf k 10) = (0, 6) := sf_9_10_all k (iz_sh_lt h (by decide)) h
theorem sf_10_0_all : ∀ k, k < 121 → iz_sh k = (10 + 3, 48) → iz_sh (iz_rf k 0) = (0, 64) := by decide +kernel
theorem sf_10_0 {k : Nat} (h : iz_sh k = (10 + 3, 48)) : iz_sh (iz_rf k 0) = (0, 64) := sf_10_0_all k (iz_sh_lt h (by decide)) h
theorem sf_10_1_all : ∀ k, k < 121 → iz_sh k = (10 + 3, 48) → iz_sh (iz_rf k 1) = (0, 64) := by decide +kernel
theorem sf_10_1 {k : Nat} (h : iz_sh k = (10 + 3, 48)) : iz_sh (iz_rf k 1) = (0, 64) := sf_10_1_all k (iz_sh_lt h (by decide)) h
theorem sf_10_2_all : ∀ k, k < 121 → iz_sh k = (10 + 3, 48) → iz_sh (iz_rf k 2) = (1, 64) := by decide +kernel
theorem sf_10_2 {k : Nat} (h : iz_sh k = (10 + 3, 48)) : iz_sh (iz_rf k 2) = (1, 64) := sf_10_2_all k (iz_sh_lt h (by decide)) h
theorem sf_10_4_all : ∀ k, k < 121 → iz_sh k = (10 + 3, 48) → iz_sh (iz_rf k 4) = (0, 60) := by decide +kernel
theorem sf_10_4 {k : Nat} (h : iz_sh k = (10 + 3, 48)) : iz_sh (iz_rf k 4) = (0, 60) := sf_10_4_all k (iz_sh_lt h (by decide)) h
theorem sf_10_5_all : ∀ k, k < 121 → iz_sh k = (10 + 3, 48) → iz_sh (iz_rf k 5) = (0, 60) := by decide +kernel
theorem sf_10_5 {k : Nat} (h : iz_sh k = (10 + 3, 48)) : iz_sh (iz_rf k 5) = (0, 60) := sf_10_5_all k (iz_sh_lt h (by decide)) h
theorem sf_10_6_all : ∀ k, k < 121 → iz_sh k = (10 + 3, 48) → iz_sh (iz_rf k 6) = (0, 60) := by decide +kernel
theorem sf_10_6 {k : Nat} (h : iz_sh k = (10 + 3, 48)) : iz_sh (iz_rf k 6) = (0, 60) := sf_10_6_all k (iz_sh_lt h (by decide)) h
theorem sf_10_7_all : ∀ k, k < 121 → iz_sh k = (10 + 3, 48) → iz_sh (iz_rf k 7) = (0, 60) := by decide +kernel
theorem sf_10_7 {k : Nat} (h : iz_sh k = (10 + 3, 48)) : iz_sh (iz_rf k 7) = (0, 60) := sf_10_7_all k (iz_sh_lt h (by decide)) h
theorem sf_10_8_all : ∀ k, k < 121 → iz_sh k = (10 + 3, 48) → iz_sh (iz_rf k 8) = (0, 96) := by decide +kernel
theorem sf_10_8 {k : Nat} (h : iz_sh k = (10 + 3, 48)) : iz_sh (iz_rf k 8) = (0, 96) := sf_10_8_all k (iz_sh_lt h (by decide)) h
theorem sf_10_9_all : ∀ k, k < 121 → iz_sh k = (10 + 3, 48) → iz_sh (iz_rf k 9) = (0, 16) := by decide +kernel
theorem sf_10_9 {k : Nat} (h : iz_sh k = (10 + 3, 48)) : iz_sh (iz_rf k 9) = (0, 16) := sf_10_9_all k (iz_sh_lt h (by decide)) h
theorem sf_10_10_all : ∀ k, k < 121 → iz_sh k = (10 + 3, 48) → iz_sh (iz_rf k 10) = (0, 4) := by decide +kernel
theorem sf_10_10 {k : Nat} (h : iz_sh k = (10 + 3, 48)) : iz_sh (iz_rf k 10) = (0, 4) := sf_10_10_all k (iz_sh_lt h (by decide)) h
theorem sf_10_11_all : ∀ k, k < 121 → iz_sh k = (10 + 3, 48) → iz_sh (iz_rf k 11) = (0, 16) := by decide +kernel
theorem sf_10_11 {k : Nat} (h : iz_sh k = (10 + 3, 48)) : iz_sh (iz_rf k 11) = (0, 16) := sf_10_11_all k (iz_sh_lt h (by decide)) h
theorem sf_10_12_all : ∀ k, k < 121 → iz_sh k = (10 + 3, 48) → iz_sh (iz_rf k 12) = (0, 100) := by decide +kernel
theorem sf_10_12 {k : Nat} (h : iz_sh k = (10 + 3, 48)) : iz_sh (iz_rf k 12) = (0, 100) := sf_10_12_all k (iz_sh_lt h (by decide)) h
theorem sf_10_15_all : ∀ k, k < 121 → iz_sh k = (10 + 3, 48) → iz_sh (iz_rf k 15) = (0, 10) := by decide +kernel
theorem sf_10_15 {k : Nat} (h : iz_sh k = (10 + 3, 48)) : iz_sh (iz_rf k 15) = (0, 10) := sf_10_15_all k (iz_sh_lt h (by decide)) h
theorem sf_10_16_all : ∀ k, k < 121 → iz_sh k = (10 + 3, 48) → iz_sh (iz_rf k 16) = (0, 10) := by decide +kernel
theorem sf_10_16 {k : Nat} (h : iz_sh k = (10 + 3, 48)) : iz_sh (iz_rf k 16) = (0, 10) := sf_10_16_all k (iz_sh_lt h (by decide)) h
theorem sf_10_17_all : ∀ k, k < 121 → iz_sh k = (10 + 3, 48) → iz_sh (iz_rf k 17) = (0, 10) := by decide +kernel
theorem sf_10_17 {k : Nat} (h : iz_sh k = (10 + 3, 48)) : iz_sh (iz_rf k 17) = (0, 10) := sf_10_17_all k (iz_sh_lt h (by decide)) h
theorem sf_10_18_all : ∀ k, k < 121 → iz_sh k = (10 + 3, 48) → iz_sh (iz_rf k 18) = (0, 10) := by decide +kernel
theorem sf_10_18 {k : Nat} (h : iz_sh k = (10 + 3, 48)) : iz_sh (iz_rf k 18) = (0, 10) := sf_10_18_all k (iz_sh_lt h (by decide)) h
theorem sf_10_19_all : ∀ k, k < 121 → iz_sh k = (10 + 3, 48) → iz_sh (iz_rf k 19) = (0, 10) := by decide +kernel
theorem sf_10_19 {k : Nat} (h : iz_sh k = (10 + 3, 48)) : iz_sh (iz_rf k 19) = (0, 10) := sf_10_19_all k (iz_sh_lt h (by decide)) h
theorem sf_10_20_all : ∀ k, k < 121 → iz_sh k = (10 + 3, 48) → iz_sh (iz_rf k 20) = (1, 10) := by decide +kernel
theorem sf_10_20 {k : Nat} (h : iz_sh k = (10 + 3, 48)) : iz_sh (iz_rf k 20) = (1, 10) := sf_10_20_all k (iz_sh_lt h (by decide)) h
theorem sf_10_22_all : ∀ k, k < 121 → iz_sh k = (10 + 3, 48) → iz_sh (iz_rf k 22) = (0, 9) := by decide +kernel
theorem sf_10_22 {k : Nat} (h : iz_sh k = (10 + 3, 48)) : iz_sh (iz_rf k 22) = (0, 9) := sf_10_22_all k (iz_sh_lt h (by decide)) h
theorem sf_10_23_all : ∀ k, k < 121 → iz_sh k = (10 + 3, 48) → iz_sh (iz_rf k 23) = (0, 9) := by decide +kernel
theorem sf_10_23 {k : Nat} (h : iz_sh k = (10 + 3, 48)) : iz_sh (iz_rf k 23) = (0, 9) := sf_10_23_all k (iz_sh_lt h (by decide)) h
theorem sf_10_24_all : ∀ k, k < 121 → iz_sh k = (10 + 3, 48) → iz_sh (iz_rf k 24) = (0, 9) := by decide +kernel
theorem sf_10_24 {k : Nat} (h : iz_sh k = (10 + 3, 48)) : iz_sh (iz_rf k 24) = (0, 9) := sf_10_24_all k (iz_sh_lt h (by decide)) h
theorem sf_10_25_all : ∀ k, k < 121 → iz_sh k = (10 + 3, 48) → iz_sh (iz_rf k 25) = (0, 6) := by decide +kernel
theorem sf_10_25 {k : Nat} (h : iz_sh k = (10 + 3, 48)) : iz_sh (iz_rf k 25) = (0, 6) := sf_10_25_all k (iz_sh_lt h (by decide)) h
theorem sf_10_27_all : ∀ k, k < 121 → iz_sh k = (10 + 3, 48) → iz_sh (iz_rf k 27) = (0, 16) := by decide +kernel
theorem sf_10_27 {k : Nat} (h : iz_sh k = (10 + 3, 48)) : iz_sh (iz_rf k 27) = (0, 16) := sf_10_27_all k (iz_sh_lt h (by decide)) h
theorem sf_10_28_all : ∀ k, k < 121 → iz_sh k = (10 + 3, 48) → iz_sh (iz_rf k 28) = (0, 6) := by decide +kernel
theorem sf_10_28 {k : Nat} (h : iz_sh k = (10 + 3, 48)) : iz_sh (iz_rf k 28) = (0, 6) := sf_10_28_all k (iz_sh_lt h (by decide)) h
theorem sf_10_29_all : ∀ k, k < 121 → iz_sh k = (10 + 3, 48) → iz_sh (iz_rf k 29) = (1, 64) := by decide +kernel
theorem sf_10_29 {k : Nat} (h : iz_sh k = (10 + 3, 48)) : iz_sh (iz_rf k 29) = (1, 64) := sf_10_29_all k (iz_sh_lt h (by decide)) h
theorem sf_10_30_all : ∀ k, k < 121 → iz_sh k = (10 + 3, 48) → iz_sh (iz_rf k 30) = (0, 64) := by decide +kernel
theorem sf_10_30 {k : Nat} (h : iz_sh k = (10 + 3, 48)) : iz_sh (iz_rf k 30) = (0, 64) := sf_10_30_all k (iz_sh_lt h (by decide)) h
theorem sf_10_31_all : ∀ k, k < 121 → iz_sh k = (10 + 3, 48) → iz_sh (iz_rf k 31) = (0, 6) := by decide +kernel
theorem sf_10_31 {k : Nat} (h : iz_sh k = (10 + 3, 48)) : iz_sh (iz_rf k 31) = (0, 6) := sf_10_31_all k (iz_sh_lt h (by decide)) h
theorem sf_10_33_all : ∀ k, k < 121 → iz_sh k = (10 + 3, 48) → iz_sh (iz_rf k 33) = (0, 6) := by decide +kernel
theorem sf_10_33 {k : Nat} (h : iz_sh k = (10 + 3, 48)) : iz_sh (iz_rf k 33) = (0, 6) := sf_10_33_all k (iz_sh_lt h (by decide)) h
theorem sf_10_34_all : ∀ k, k < 121 → iz_sh k = (10 + 3, 48) → iz_sh (iz_rf k 34) = (0, 6) := by decide +kernel
theorem sf_10_34 {k : Nat} (h : iz_sh k = (10 + 3, 48)) : iz_sh (iz_rf k 34) = (0, 6) := sf_10_34_all k (iz_sh_lt h (by decide)) h
theorem sf_10_36_all : ∀ k, k < 121 → iz_sh k = (10 + 3, 48) → iz_sh (iz_rf k 36) = (0, 256) := by decide +kernel
theorem sf_10_36 {k : Nat} (h : iz_sh k = (10 + 3, 48)) : iz_sh (iz_rf k 36) = (0, 256) := sf_10_36_all k (iz_sh_lt h (by decide)) h
theorem sf_10_37_all : ∀ k, k < 121 → iz_sh k = (10 + 3, 48) → iz_sh (iz_rf k 37) = (0, 96) := by decide +kernel
theorem sf_10_37 {k : Nat} (h : iz_sh k = (10 + 3, 48)) : iz_sh (iz_rf k 37) = (0, 96) := sf_10_37_all k (iz_sh_lt h (by decide)) h
theorem sf_10_38_all : ∀ k, k < 121 → iz_sh k = (10 + 3, 48) → iz_sh (iz_rf k 38) = (0, 320) := by decide +kernel
theorem sf_10_38 {k : Nat} (h : iz_sh k = (10 + 3, 48)) : iz_sh (iz_rf k 38) = (0, 320) := sf_10_38_all k (iz_sh_lt h (by decide)) h
theorem sf_10_41_all : ∀ k, k < 121 → iz_sh k = (10 + 3, 48) → iz_sh (iz_rf k 41) = (0, 4) := by decide +kernel
theorem sf_10_41 {k : Nat} (h : iz_sh k = (10 + 3, 48)) : iz_sh (iz_rf k 41) = (0, 4) := sf_10_41_all k (iz_sh_lt h (by decide)) h
theorem sf_10_42_all : ∀ k, k < 121 → iz_sh k = (10 + 3, 48) → iz_sh (iz_rf k 42) = (0, 4) := by decide +kernel
theorem sf_10_42 {k : Nat} (h : iz_sh k = (10 + 3, 48)) : iz_sh (iz_rf k 42) = (0, 4) := sf_10_42_all k (iz_sh_lt h (by decide)) h
theorem sf_10_43_all : ∀ k, k < 121 → iz_sh k = (10 + 3, 48) → iz_sh (iz_rf k 43) = (0, 8) := by decide +kernel
theorem sf_10_43 {k : Nat} (h : iz_sh k = (10 + 3, 48)) : iz_sh (iz_rf k 43) = (0, 8) := sf_10_43_all k (iz_sh_lt h (by decide)) h
theorem sf_10_44_all : ∀ k, k < 121 → iz_sh k = (10 + 3, 48) → iz_sh (iz_rf k 44) = (0, 8) := by decide +kernel
theorem sf_10_44 {k : Nat} (h : iz_sh k = (10 + 3, 48)) : iz_sh (iz_rf k 44) = (0, 8) := sf_10_44_all k (iz_sh_lt h (by decide)) h
theorem sf_10_47_all : ∀ k, k < 121 → iz_sh k = (10 + 3, 48) → iz_sh (iz_rf k 47) = (0, 549) := by decide +kernel
theorem sf_10_47 {k : Nat} (h : iz_sh k = (10 + 3, 48)) : iz_sh (iz_rf k 47) = (0, 549) := sf_10_47_all k (iz_sh_lt h (by decide)) h
