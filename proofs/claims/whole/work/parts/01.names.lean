-- ===== PART A: goes FIRST, ahead of the names: the tables' words, and 'selects' of the private methods out of them =====
/-- a private method of a class that the tables say can be made, by its rows of tables_1 -/
def lw_okq (q : MethodName × Nat) : Prop := (q.1.cls ≠ "java/lang/invoke/MethodHandle" ∧ q.1.cls ≠ "java/lang/invoke/VarHandle") ∧ Cond.instantiable q.1.cls q.2 ∈ tables_1 ∧ Cond.privateMethod q.1 ∈ tables_1 ∧ Cond.instanceMethod q.1 ∈ tables_1
theorem lw_p0 : lw_okq (⟨"IceHouse", "finding", "(I)I"⟩, 11) := ⟨⟨by decide +kernel, by decide +kernel⟩, List.mem_of_getElem? (i := 17) (by decide +kernel), List.mem_of_getElem? (i := 378) (by decide +kernel), List.mem_of_getElem? (i := 379) (by decide +kernel)⟩
theorem lw_p1 : lw_okq (⟨"IceHouse$Lake", "milk", "(I)I"⟩, 3) := ⟨⟨by decide +kernel, by decide +kernel⟩, List.mem_of_getElem? (i := 25) (by decide +kernel), List.mem_of_getElem? (i := 495) (by decide +kernel), List.mem_of_getElem? (i := 496) (by decide +kernel)⟩
theorem lw_p2 : lw_okq (⟨"IceHouse$Lake", "openCell", "(I)V"⟩, 3) := ⟨⟨by decide +kernel, by decide +kernel⟩, List.mem_of_getElem? (i := 25) (by decide +kernel), List.mem_of_getElem? (i := 512) (by decide +kernel), List.mem_of_getElem? (i := 513) (by decide +kernel)⟩
theorem lw_p3 : lw_okq (⟨"IceHouse$Waiting", "hasTwins", "()Z"⟩, 2) := ⟨⟨by decide +kernel, by decide +kernel⟩, List.mem_of_getElem? (i := 323) (by decide +kernel), List.mem_of_getElem? (i := 528) (by decide +kernel), List.mem_of_getElem? (i := 529) (by decide +kernel)⟩
theorem lw_p4 : lw_okq (⟨"IceHouse$Season", "askBehind", "(I)V"⟩, 8) := ⟨⟨by decide +kernel, by decide +kernel⟩, List.mem_of_getElem? (i := 46) (by decide +kernel), List.mem_of_getElem? (i := 546) (by decide +kernel), List.mem_of_getElem? (i := 547) (by decide +kernel)⟩
theorem lw_p5 : lw_okq (⟨"IceHouse$Season", "mayFollow", "(II)Z"⟩, 8) := ⟨⟨by decide +kernel, by decide +kernel⟩, List.mem_of_getElem? (i := 46) (by decide +kernel), List.mem_of_getElem? (i := 550) (by decide +kernel), List.mem_of_getElem? (i := 551) (by decide +kernel)⟩
theorem lw_p6 : lw_okq (⟨"IceHouse$Season", "openCells", "(I)J"⟩, 8) := ⟨⟨by decide +kernel, by decide +kernel⟩, List.mem_of_getElem? (i := 46) (by decide +kernel), List.mem_of_getElem? (i := 554) (by decide +kernel), List.mem_of_getElem? (i := 555) (by decide +kernel)⟩
theorem lw_p7 : lw_okq (⟨"IceHouse$Season", "walk", "()V"⟩, 8) := ⟨⟨by decide +kernel, by decide +kernel⟩, List.mem_of_getElem? (i := 46) (by decide +kernel), List.mem_of_getElem? (i := 561) (by decide +kernel), List.mem_of_getElem? (i := 562) (by decide +kernel)⟩
theorem lw_p8 : lw_okq (⟨"IceHouse$House", "breakShelves", "(I)V"⟩, 13) := ⟨⟨by decide +kernel, by decide +kernel⟩, List.mem_of_getElem? (i := 102) (by decide +kernel), List.mem_of_getElem? (i := 589) (by decide +kernel), List.mem_of_getElem? (i := 590) (by decide +kernel)⟩
theorem lw_p9 : lw_okq (⟨"IceHouse$House", "breaksAt", "(II)Z"⟩, 13) := ⟨⟨by decide +kernel, by decide +kernel⟩, List.mem_of_getElem? (i := 102) (by decide +kernel), List.mem_of_getElem? (i := 597) (by decide +kernel), List.mem_of_getElem? (i := 598) (by decide +kernel)⟩
theorem lw_p10 : lw_okq (⟨"IceHouse$House", "removeAt", "(II)V"⟩, 13) := ⟨⟨by decide +kernel, by decide +kernel⟩, List.mem_of_getElem? (i := 102) (by decide +kernel), List.mem_of_getElem? (i := 605) (by decide +kernel), List.mem_of_getElem? (i := 606) (by decide +kernel)⟩
theorem lw_p11 : lw_okq (⟨"IceHouse$House", "letGo", "(I)V"⟩, 13) := ⟨⟨by decide +kernel, by decide +kernel⟩, List.mem_of_getElem? (i := 102) (by decide +kernel), List.mem_of_getElem? (i := 609) (by decide +kernel), List.mem_of_getElem? (i := 610) (by decide +kernel)⟩
theorem lw_p12 : lw_okq (⟨"IceHouse$Shelter", "tenthsAt", "(I)I"⟩, 3) := ⟨⟨by decide +kernel, by decide +kernel⟩, List.mem_of_getElem? (i := 79) (by decide +kernel), List.mem_of_getElem? (i := 668) (by decide +kernel), List.mem_of_getElem? (i := 669) (by decide +kernel)⟩
theorem lw_p13 : lw_okq (⟨"IceHouse$House", "meltBehind", "(III)I"⟩, 13) := ⟨⟨by decide +kernel, by decide +kernel⟩, List.mem_of_getElem? (i := 102) (by decide +kernel), List.mem_of_getElem? (i := 675) (by decide +kernel), List.mem_of_getElem? (i := 676) (by decide +kernel)⟩
theorem lw_p14 : lw_okq (⟨"IceHouse$House", "openTenths", "(II)I"⟩, 13) := ⟨⟨by decide +kernel, by decide +kernel⟩, List.mem_of_getElem? (i := 102) (by decide +kernel), List.mem_of_getElem? (i := 684) (by decide +kernel), List.mem_of_getElem? (i := 685) (by decide +kernel)⟩
theorem lw_p15 : lw_okq (⟨"IceHouse$House", "sideTenths", "(II)I"⟩, 13) := ⟨⟨by decide +kernel, by decide +kernel⟩, List.mem_of_getElem? (i := 102) (by decide +kernel), List.mem_of_getElem? (i := 688) (by decide +kernel), List.mem_of_getElem? (i := 689) (by decide +kernel)⟩
def lw_privs_1 : List (MethodName × Nat) := [(⟨"IceHouse", "finding", "(I)I"⟩, 11), (⟨"IceHouse$Lake", "milk", "(I)I"⟩, 3), (⟨"IceHouse$Lake", "openCell", "(I)V"⟩, 3), (⟨"IceHouse$Waiting", "hasTwins", "()Z"⟩, 2), (⟨"IceHouse$Season", "askBehind", "(I)V"⟩, 8), (⟨"IceHouse$Season", "mayFollow", "(II)Z"⟩, 8), (⟨"IceHouse$Season", "openCells", "(I)J"⟩, 8), (⟨"IceHouse$Season", "walk", "()V"⟩, 8), (⟨"IceHouse$House", "breakShelves", "(I)V"⟩, 13), (⟨"IceHouse$House", "breaksAt", "(II)Z"⟩, 13), (⟨"IceHouse$House", "removeAt", "(II)V"⟩, 13), (⟨"IceHouse$House", "letGo", "(I)V"⟩, 13), (⟨"IceHouse$Shelter", "tenthsAt", "(I)I"⟩, 3), (⟨"IceHouse$House", "meltBehind", "(III)I"⟩, 13), (⟨"IceHouse$House", "openTenths", "(II)I"⟩, 13), (⟨"IceHouse$House", "sideTenths", "(II)I"⟩, 13)]
theorem lw_r1 : ∀ q ∈ lw_privs_1, lw_okq q := List.forall_mem_cons.mpr ⟨lw_p0, List.forall_mem_cons.mpr ⟨lw_p1, List.forall_mem_cons.mpr ⟨lw_p2, List.forall_mem_cons.mpr ⟨lw_p3, List.forall_mem_cons.mpr ⟨lw_p4, List.forall_mem_cons.mpr ⟨lw_p5, List.forall_mem_cons.mpr ⟨lw_p6, List.forall_mem_cons.mpr ⟨lw_p7, List.forall_mem_cons.mpr ⟨lw_p8, List.forall_mem_cons.mpr ⟨lw_p9, List.forall_mem_cons.mpr ⟨lw_p10, List.forall_mem_cons.mpr ⟨lw_p11, List.forall_mem_cons.mpr ⟨lw_p12, List.forall_mem_cons.mpr ⟨lw_p13, List.forall_mem_cons.mpr ⟨lw_p14, List.forall_mem_cons.mpr ⟨lw_p15, fun _ h => absurd h List.not_mem_nil⟩⟩⟩⟩⟩⟩⟩⟩⟩⟩⟩⟩⟩⟩⟩⟩
theorem lw_p16 : lw_okq (⟨"IceHouse$House", "meltAll", "()V"⟩, 13) := ⟨⟨by decide +kernel, by decide +kernel⟩, List.mem_of_getElem? (i := 102) (by decide +kernel), List.mem_of_getElem? (i := 733) (by decide +kernel), List.mem_of_getElem? (i := 734) (by decide +kernel)⟩
theorem lw_p17 : lw_okq (⟨"IceHouse$House", "dropMelted", "(I)V"⟩, 13) := ⟨⟨by decide +kernel, by decide +kernel⟩, List.mem_of_getElem? (i := 102) (by decide +kernel), List.mem_of_getElem? (i := 738) (by decide +kernel), List.mem_of_getElem? (i := 739) (by decide +kernel)⟩
theorem lw_p18 : lw_okq (⟨"IceHouse$DustPlan", "clearTables", "()V"⟩, 7) := ⟨⟨by decide +kernel, by decide +kernel⟩, List.mem_of_getElem? (i := 164) (by decide +kernel), List.mem_of_getElem? (i := 772) (by decide +kernel), List.mem_of_getElem? (i := 773) (by decide +kernel)⟩
theorem lw_p19 : lw_okq (⟨"IceHouse$DustPlan", "addColumn", "(LIceHouse$House;III)V"⟩, 7) := ⟨⟨by decide +kernel, by decide +kernel⟩, List.mem_of_getElem? (i := 164) (by decide +kernel), List.mem_of_getElem? (i := 780) (by decide +kernel), List.mem_of_getElem? (i := 781) (by decide +kernel)⟩
theorem lw_p20 : lw_okq (⟨"IceHouse$DustPlan", "trySides", "(III)V"⟩, 7) := ⟨⟨by decide +kernel, by decide +kernel⟩, List.mem_of_getElem? (i := 164) (by decide +kernel), List.mem_of_getElem? (i := 786) (by decide +kernel), List.mem_of_getElem? (i := 787) (by decide +kernel)⟩
theorem lw_p21 : lw_okq (⟨"IceHouse$DustPlan", "fillFewest", "(II)V"⟩, 7) := ⟨⟨by decide +kernel, by decide +kernel⟩, List.mem_of_getElem? (i := 164) (by decide +kernel), List.mem_of_getElem? (i := 790) (by decide +kernel), List.mem_of_getElem? (i := 791) (by decide +kernel)⟩
theorem lw_p22 : lw_okq (⟨"IceHouse$DustPlan", "sideMelts", "(IIII)I"⟩, 7) := ⟨⟨by decide +kernel, by decide +kernel⟩, List.mem_of_getElem? (i := 164) (by decide +kernel), List.mem_of_getElem? (i := 794) (by decide +kernel), List.mem_of_getElem? (i := 795) (by decide +kernel)⟩
theorem lw_p23 : lw_okq (⟨"IceHouse$DustPlan", "keep", "(IIIII)V"⟩, 7) := ⟨⟨by decide +kernel, by decide +kernel⟩, List.mem_of_getElem? (i := 164) (by decide +kernel), List.mem_of_getElem? (i := 799) (by decide +kernel), List.mem_of_getElem? (i := 800) (by decide +kernel)⟩
theorem lw_p24 : lw_okq (⟨"IceHouse$Orders", "whatComes", "(II)I"⟩, 10) := ⟨⟨by decide +kernel, by decide +kernel⟩, List.mem_of_getElem? (i := 196) (by decide +kernel), List.mem_of_getElem? (i := 829) (by decide +kernel), List.mem_of_getElem? (i := 830) (by decide +kernel)⟩
theorem lw_p25 : lw_okq (⟨"IceHouse$SalesPlan", "fillFits", "(I)Z"⟩, 15) := ⟨⟨by decide +kernel, by decide +kernel⟩, List.mem_of_getElem? (i := 238) (by decide +kernel), List.mem_of_getElem? (i := 862) (by decide +kernel), List.mem_of_getElem? (i := 863) (by decide +kernel)⟩
theorem lw_p26 : lw_okq (⟨"IceHouse$SalesPlan", "enlist", "(I)V"⟩, 15) := ⟨⟨by decide +kernel, by decide +kernel⟩, List.mem_of_getElem? (i := 238) (by decide +kernel), List.mem_of_getElem? (i := 871) (by decide +kernel), List.mem_of_getElem? (i := 872) (by decide +kernel)⟩
theorem lw_p27 : lw_okq (⟨"IceHouse$SalesPlan", "keepIfBetter", "(II)V"⟩, 15) := ⟨⟨by decide +kernel, by decide +kernel⟩, List.mem_of_getElem? (i := 238) (by decide +kernel), List.mem_of_getElem? (i := 878) (by decide +kernel), List.mem_of_getElem? (i := 879) (by decide +kernel)⟩
theorem lw_p28 : lw_okq (⟨"IceHouse$SalesPlan", "mayImprove", "(II)Z"⟩, 15) := ⟨⟨by decide +kernel, by decide +kernel⟩, List.mem_of_getElem? (i := 238) (by decide +kernel), List.mem_of_getElem? (i := 883) (by decide +kernel), List.mem_of_getElem? (i := 884) (by decide +kernel)⟩
theorem lw_p29 : lw_okq (⟨"IceHouse$SalesPlan", "dearest", "(I)I"⟩, 15) := ⟨⟨by decide +kernel, by decide +kernel⟩, List.mem_of_getElem? (i := 238) (by decide +kernel), List.mem_of_getElem? (i := 887) (by decide +kernel), List.mem_of_getElem? (i := 888) (by decide +kernel)⟩
theorem lw_p30 : lw_okq (⟨"IceHouse$SalesPlan", "mayServe", "(II)Z"⟩, 15) := ⟨⟨by decide +kernel, by decide +kernel⟩, List.mem_of_getElem? (i := 238) (by decide +kernel), List.mem_of_getElem? (i := 891) (by decide +kernel), List.mem_of_getElem? (i := 892) (by decide +kernel)⟩
theorem lw_p31 : lw_okq (⟨"IceHouse$SalesPlan", "push", "(III)V"⟩, 15) := ⟨⟨by decide +kernel, by decide +kernel⟩, List.mem_of_getElem? (i := 238) (by decide +kernel), List.mem_of_getElem? (i := 896) (by decide +kernel), List.mem_of_getElem? (i := 897) (by decide +kernel)⟩
def lw_privs_2 : List (MethodName × Nat) := [(⟨"IceHouse$House", "meltAll", "()V"⟩, 13), (⟨"IceHouse$House", "dropMelted", "(I)V"⟩, 13), (⟨"IceHouse$DustPlan", "clearTables", "()V"⟩, 7), (⟨"IceHouse$DustPlan", "addColumn", "(LIceHouse$House;III)V"⟩, 7), (⟨"IceHouse$DustPlan", "trySides", "(III)V"⟩, 7), (⟨"IceHouse$DustPlan", "fillFewest", "(II)V"⟩, 7), (⟨"IceHouse$DustPlan", "sideMelts", "(IIII)I"⟩, 7), (⟨"IceHouse$DustPlan", "keep", "(IIIII)V"⟩, 7), (⟨"IceHouse$Orders", "whatComes", "(II)I"⟩, 10), (⟨"IceHouse$SalesPlan", "fillFits", "(I)Z"⟩, 15), (⟨"IceHouse$SalesPlan", "enlist", "(I)V"⟩, 15), (⟨"IceHouse$SalesPlan", "keepIfBetter", "(II)V"⟩, 15), (⟨"IceHouse$SalesPlan", "mayImprove", "(II)Z"⟩, 15), (⟨"IceHouse$SalesPlan", "dearest", "(I)I"⟩, 15), (⟨"IceHouse$SalesPlan", "mayServe", "(II)Z"⟩, 15), (⟨"IceHouse$SalesPlan", "push", "(III)V"⟩, 15)]
theorem lw_r2 : ∀ q ∈ lw_privs_2, lw_okq q := List.forall_mem_cons.mpr ⟨lw_p16, List.forall_mem_cons.mpr ⟨lw_p17, List.forall_mem_cons.mpr ⟨lw_p18, List.forall_mem_cons.mpr ⟨lw_p19, List.forall_mem_cons.mpr ⟨lw_p20, List.forall_mem_cons.mpr ⟨lw_p21, List.forall_mem_cons.mpr ⟨lw_p22, List.forall_mem_cons.mpr ⟨lw_p23, List.forall_mem_cons.mpr ⟨lw_p24, List.forall_mem_cons.mpr ⟨lw_p25, List.forall_mem_cons.mpr ⟨lw_p26, List.forall_mem_cons.mpr ⟨lw_p27, List.forall_mem_cons.mpr ⟨lw_p28, List.forall_mem_cons.mpr ⟨lw_p29, List.forall_mem_cons.mpr ⟨lw_p30, List.forall_mem_cons.mpr ⟨lw_p31, fun _ h => absurd h List.not_mem_nil⟩⟩⟩⟩⟩⟩⟩⟩⟩⟩⟩⟩⟩⟩⟩⟩
theorem lw_p32 : lw_okq (⟨"IceHouse$SalesPlan", "pop", "(II)V"⟩, 15) := ⟨⟨by decide +kernel, by decide +kernel⟩, List.mem_of_getElem? (i := 238) (by decide +kernel), List.mem_of_getElem? (i := 900) (by decide +kernel), List.mem_of_getElem? (i := 901) (by decide +kernel)⟩
theorem lw_p33 : lw_okq (⟨"IceHouse$Railway", "planAt", "(III)V"⟩, 6) := ⟨⟨by decide +kernel, by decide +kernel⟩, List.mem_of_getElem? (i := 295) (by decide +kernel), List.mem_of_getElem? (i := 933) (by decide +kernel), List.mem_of_getElem? (i := 934) (by decide +kernel)⟩
theorem lw_p34 : lw_okq (⟨"IceHouseModel", "finding", "(I)I"⟩, 48) := ⟨⟨by decide +kernel, by decide +kernel⟩, List.mem_of_getElem? (i := 981) (by decide +kernel), List.mem_of_getElem? (i := 1139) (by decide +kernel), List.mem_of_getElem? (i := 1140) (by decide +kernel)⟩
theorem lw_p35 : lw_okq (⟨"IceHouseModel", "clean", "(I)V"⟩, 48) := ⟨⟨by decide +kernel, by decide +kernel⟩, List.mem_of_getElem? (i := 981) (by decide +kernel), List.mem_of_getElem? (i := 1144) (by decide +kernel), List.mem_of_getElem? (i := 1145) (by decide +kernel)⟩
theorem lw_p36 : lw_okq (⟨"IceHouseModel", "bearing", "(I)I"⟩, 48) := ⟨⟨by decide +kernel, by decide +kernel⟩, List.mem_of_getElem? (i := 981) (by decide +kernel), List.mem_of_getElem? (i := 1150) (by decide +kernel), List.mem_of_getElem? (i := 1151) (by decide +kernel)⟩
theorem lw_p37 : lw_okq (⟨"IceHouseModel", "flood", "(II)V"⟩, 48) := ⟨⟨by decide +kernel, by decide +kernel⟩, List.mem_of_getElem? (i := 981) (by decide +kernel), List.mem_of_getElem? (i := 1177) (by decide +kernel), List.mem_of_getElem? (i := 1178) (by decide +kernel)⟩
theorem lw_p38 : lw_okq (⟨"IceHouseModel", "barOf", "(I)I"⟩, 48) := ⟨⟨by decide +kernel, by decide +kernel⟩, List.mem_of_getElem? (i := 981) (by decide +kernel), List.mem_of_getElem? (i := 1198) (by decide +kernel), List.mem_of_getElem? (i := 1199) (by decide +kernel)⟩
theorem lw_p39 : lw_okq (⟨"IceHouseModel", "trySeason", "(II)V"⟩, 48) := ⟨⟨by decide +kernel, by decide +kernel⟩, List.mem_of_getElem? (i := 981) (by decide +kernel), List.mem_of_getElem? (i := 1210) (by decide +kernel), List.mem_of_getElem? (i := 1211) (by decide +kernel)⟩
theorem lw_p40 : lw_okq (⟨"IceHouseModel", "isBlock", "(I)Z"⟩, 48) := ⟨⟨by decide +kernel, by decide +kernel⟩, List.mem_of_getElem? (i := 981) (by decide +kernel), List.mem_of_getElem? (i := 1218) (by decide +kernel), List.mem_of_getElem? (i := 1219) (by decide +kernel)⟩
theorem lw_p41 : lw_okq (⟨"IceHouseModel", "lay", "(II)V"⟩, 48) := ⟨⟨by decide +kernel, by decide +kernel⟩, List.mem_of_getElem? (i := 981) (by decide +kernel), List.mem_of_getElem? (i := 1225) (by decide +kernel), List.mem_of_getElem? (i := 1226) (by decide +kernel)⟩
theorem lw_p42 : lw_okq (⟨"IceHouseModel", "breakAll", "()V"⟩, 48) := ⟨⟨by decide +kernel, by decide +kernel⟩, List.mem_of_getElem? (i := 981) (by decide +kernel), List.mem_of_getElem? (i := 1229) (by decide +kernel), List.mem_of_getElem? (i := 1230) (by decide +kernel)⟩
theorem lw_p43 : lw_okq (⟨"IceHouseModel", "blockAt", "(II)I"⟩, 48) := ⟨⟨by decide +kernel, by decide +kernel⟩, List.mem_of_getElem? (i := 981) (by decide +kernel), List.mem_of_getElem? (i := 1233) (by decide +kernel), List.mem_of_getElem? (i := 1234) (by decide +kernel)⟩
theorem lw_p44 : lw_okq (⟨"IceHouseModel", "loadOf", "(II)I"⟩, 48) := ⟨⟨by decide +kernel, by decide +kernel⟩, List.mem_of_getElem? (i := 981) (by decide +kernel), List.mem_of_getElem? (i := 1237) (by decide +kernel), List.mem_of_getElem? (i := 1238) (by decide +kernel)⟩
theorem lw_p45 : lw_okq (⟨"IceHouseModel", "goes", "(II)V"⟩, 48) := ⟨⟨by decide +kernel, by decide +kernel⟩, List.mem_of_getElem? (i := 981) (by decide +kernel), List.mem_of_getElem? (i := 1241) (by decide +kernel), List.mem_of_getElem? (i := 1242) (by decide +kernel)⟩
theorem lw_p46 : lw_okq (⟨"IceHouseModel", "takeOut", "(II)V"⟩, 48) := ⟨⟨by decide +kernel, by decide +kernel⟩, List.mem_of_getElem? (i := 981) (by decide +kernel), List.mem_of_getElem? (i := 1245) (by decide +kernel), List.mem_of_getElem? (i := 1246) (by decide +kernel)⟩
theorem lw_p47 : lw_okq (⟨"IceHouseModel", "levelOf", "(I)I"⟩, 48) := ⟨⟨by decide +kernel, by decide +kernel⟩, List.mem_of_getElem? (i := 981) (by decide +kernel), List.mem_of_getElem? (i := 1249) (by decide +kernel), List.mem_of_getElem? (i := 1250) (by decide +kernel)⟩
def lw_privs_3 : List (MethodName × Nat) := [(⟨"IceHouse$SalesPlan", "pop", "(II)V"⟩, 15), (⟨"IceHouse$Railway", "planAt", "(III)V"⟩, 6), (⟨"IceHouseModel", "finding", "(I)I"⟩, 48), (⟨"IceHouseModel", "clean", "(I)V"⟩, 48), (⟨"IceHouseModel", "bearing", "(I)I"⟩, 48), (⟨"IceHouseModel", "flood", "(II)V"⟩, 48), (⟨"IceHouseModel", "barOf", "(I)I"⟩, 48), (⟨"IceHouseModel", "trySeason", "(II)V"⟩, 48), (⟨"IceHouseModel", "isBlock", "(I)Z"⟩, 48), (⟨"IceHouseModel", "lay", "(II)V"⟩, 48), (⟨"IceHouseModel", "breakAll", "()V"⟩, 48), (⟨"IceHouseModel", "blockAt", "(II)I"⟩, 48), (⟨"IceHouseModel", "loadOf", "(II)I"⟩, 48), (⟨"IceHouseModel", "goes", "(II)V"⟩, 48), (⟨"IceHouseModel", "takeOut", "(II)V"⟩, 48), (⟨"IceHouseModel", "levelOf", "(I)I"⟩, 48)]
theorem lw_r3 : ∀ q ∈ lw_privs_3, lw_okq q := List.forall_mem_cons.mpr ⟨lw_p32, List.forall_mem_cons.mpr ⟨lw_p33, List.forall_mem_cons.mpr ⟨lw_p34, List.forall_mem_cons.mpr ⟨lw_p35, List.forall_mem_cons.mpr ⟨lw_p36, List.forall_mem_cons.mpr ⟨lw_p37, List.forall_mem_cons.mpr ⟨lw_p38, List.forall_mem_cons.mpr ⟨lw_p39, List.forall_mem_cons.mpr ⟨lw_p40, List.forall_mem_cons.mpr ⟨lw_p41, List.forall_mem_cons.mpr ⟨lw_p42, List.forall_mem_cons.mpr ⟨lw_p43, List.forall_mem_cons.mpr ⟨lw_p44, List.forall_mem_cons.mpr ⟨lw_p45, List.forall_mem_cons.mpr ⟨lw_p46, List.forall_mem_cons.mpr ⟨lw_p47, fun _ h => absurd h List.not_mem_nil⟩⟩⟩⟩⟩⟩⟩⟩⟩⟩⟩⟩⟩⟩⟩⟩
theorem lw_p48 : lw_okq (⟨"IceHouseModel", "warmthOf", "(I)I"⟩, 48) := ⟨⟨by decide +kernel, by decide +kernel⟩, List.mem_of_getElem? (i := 981) (by decide +kernel), List.mem_of_getElem? (i := 1269) (by decide +kernel), List.mem_of_getElem? (i := 1270) (by decide +kernel)⟩
theorem lw_p49 : lw_okq (⟨"IceHouseModel", "meltOf", "(III)I"⟩, 48) := ⟨⟨by decide +kernel, by decide +kernel⟩, List.mem_of_getElem? (i := 981) (by decide +kernel), List.mem_of_getElem? (i := 1273) (by decide +kernel), List.mem_of_getElem? (i := 1274) (by decide +kernel)⟩
theorem lw_p50 : lw_okq (⟨"IceHouseModel", "allMelts", "()I"⟩, 48) := ⟨⟨by decide +kernel, by decide +kernel⟩, List.mem_of_getElem? (i := 981) (by decide +kernel), List.mem_of_getElem? (i := 1297) (by decide +kernel), List.mem_of_getElem? (i := 1298) (by decide +kernel)⟩
theorem lw_p51 : lw_okq (⟨"IceHouseModel", "weekGoes", "()V"⟩, 48) := ⟨⟨by decide +kernel, by decide +kernel⟩, List.mem_of_getElem? (i := 981) (by decide +kernel), List.mem_of_getElem? (i := 1305) (by decide +kernel), List.mem_of_getElem? (i := 1306) (by decide +kernel)⟩
theorem lw_p52 : lw_okq (⟨"IceHouseModel", "allWeight", "()I"⟩, 48) := ⟨⟨by decide +kernel, by decide +kernel⟩, List.mem_of_getElem? (i := 981) (by decide +kernel), List.mem_of_getElem? (i := 1309) (by decide +kernel), List.mem_of_getElem? (i := 1310) (by decide +kernel)⟩
theorem lw_p53 : lw_okq (⟨"IceHouseModel", "layAside", "(Z)V"⟩, 48) := ⟨⟨by decide +kernel, by decide +kernel⟩, List.mem_of_getElem? (i := 981) (by decide +kernel), List.mem_of_getElem? (i := 1317) (by decide +kernel), List.mem_of_getElem? (i := 1318) (by decide +kernel)⟩
theorem lw_p54 : lw_okq (⟨"IceHouseModel", "lays", "([IZ)V"⟩, 48) := ⟨⟨by decide +kernel, by decide +kernel⟩, List.mem_of_getElem? (i := 981) (by decide +kernel), List.mem_of_getElem? (i := 1321) (by decide +kernel), List.mem_of_getElem? (i := 1322) (by decide +kernel)⟩
theorem lw_p55 : lw_okq (⟨"IceHouseModel", "findDust", "(I)I"⟩, 48) := ⟨⟨by decide +kernel, by decide +kernel⟩, List.mem_of_getElem? (i := 981) (by decide +kernel), List.mem_of_getElem? (i := 1334) (by decide +kernel), List.mem_of_getElem? (i := 1335) (by decide +kernel)⟩
theorem lw_p56 : lw_okq (⟨"IceHouseModel", "isOrder", "(I)Z"⟩, 48) := ⟨⟨by decide +kernel, by decide +kernel⟩, List.mem_of_getElem? (i := 981) (by decide +kernel), List.mem_of_getElem? (i := 1347) (by decide +kernel), List.mem_of_getElem? (i := 1348) (by decide +kernel)⟩
theorem lw_p57 : lw_okq (⟨"IceHouseModel", "whyNot", "(II)I"⟩, 48) := ⟨⟨by decide +kernel, by decide +kernel⟩, List.mem_of_getElem? (i := 981) (by decide +kernel), List.mem_of_getElem? (i := 1351) (by decide +kernel), List.mem_of_getElem? (i := 1352) (by decide +kernel)⟩
theorem lw_p58 : lw_okq (⟨"IceHouseModel", "isOfGrade", "(II)Z"⟩, 48) := ⟨⟨by decide +kernel, by decide +kernel⟩, List.mem_of_getElem? (i := 981) (by decide +kernel), List.mem_of_getElem? (i := 1355) (by decide +kernel), List.mem_of_getElem? (i := 1356) (by decide +kernel)⟩
theorem lw_p59 : lw_okq (⟨"IceHouseModel", "comesOf", "(II)I"⟩, 48) := ⟨⟨by decide +kernel, by decide +kernel⟩, List.mem_of_getElem? (i := 981) (by decide +kernel), List.mem_of_getElem? (i := 1359) (by decide +kernel), List.mem_of_getElem? (i := 1360) (by decide +kernel)⟩
theorem lw_p60 : lw_okq (⟨"IceHouseModel", "trySales", "(II)V"⟩, 48) := ⟨⟨by decide +kernel, by decide +kernel⟩, List.mem_of_getElem? (i := 981) (by decide +kernel), List.mem_of_getElem? (i := 1371) (by decide +kernel), List.mem_of_getElem? (i := 1372) (by decide +kernel)⟩
theorem lw_p61 : lw_okq (⟨"IceHouseModel", "tellStation", "(IIII)V"⟩, 48) := ⟨⟨by decide +kernel, by decide +kernel⟩, List.mem_of_getElem? (i := 981) (by decide +kernel), List.mem_of_getElem? (i := 1382) (by decide +kernel), List.mem_of_getElem? (i := 1383) (by decide +kernel)⟩
theorem lw_p62 : lw_okq (⟨"IceHouseModel", "costOf", "(IIII)I"⟩, 48) := ⟨⟨by decide +kernel, by decide +kernel⟩, List.mem_of_getElem? (i := 981) (by decide +kernel), List.mem_of_getElem? (i := 1394) (by decide +kernel), List.mem_of_getElem? (i := 1395) (by decide +kernel)⟩
theorem lw_p63 : lw_okq (⟨"IceHouseModel", "placed", "(I)I"⟩, 48) := ⟨⟨by decide +kernel, by decide +kernel⟩, List.mem_of_getElem? (i := 981) (by decide +kernel), List.mem_of_getElem? (i := 1414) (by decide +kernel), List.mem_of_getElem? (i := 1415) (by decide +kernel)⟩
def lw_privs_4 : List (MethodName × Nat) := [(⟨"IceHouseModel", "warmthOf", "(I)I"⟩, 48), (⟨"IceHouseModel", "meltOf", "(III)I"⟩, 48), (⟨"IceHouseModel", "allMelts", "()I"⟩, 48), (⟨"IceHouseModel", "weekGoes", "()V"⟩, 48), (⟨"IceHouseModel", "allWeight", "()I"⟩, 48), (⟨"IceHouseModel", "layAside", "(Z)V"⟩, 48), (⟨"IceHouseModel", "lays", "([IZ)V"⟩, 48), (⟨"IceHouseModel", "findDust", "(I)I"⟩, 48), (⟨"IceHouseModel", "isOrder", "(I)Z"⟩, 48), (⟨"IceHouseModel", "whyNot", "(II)I"⟩, 48), (⟨"IceHouseModel", "isOfGrade", "(II)Z"⟩, 48), (⟨"IceHouseModel", "comesOf", "(II)I"⟩, 48), (⟨"IceHouseModel", "trySales", "(II)V"⟩, 48), (⟨"IceHouseModel", "tellStation", "(IIII)V"⟩, 48), (⟨"IceHouseModel", "costOf", "(IIII)I"⟩, 48), (⟨"IceHouseModel", "placed", "(I)I"⟩, 48)]
theorem lw_r4 : ∀ q ∈ lw_privs_4, lw_okq q := List.forall_mem_cons.mpr ⟨lw_p48, List.forall_mem_cons.mpr ⟨lw_p49, List.forall_mem_cons.mpr ⟨lw_p50, List.forall_mem_cons.mpr ⟨lw_p51, List.forall_mem_cons.mpr ⟨lw_p52, List.forall_mem_cons.mpr ⟨lw_p53, List.forall_mem_cons.mpr ⟨lw_p54, List.forall_mem_cons.mpr ⟨lw_p55, List.forall_mem_cons.mpr ⟨lw_p56, List.forall_mem_cons.mpr ⟨lw_p57, List.forall_mem_cons.mpr ⟨lw_p58, List.forall_mem_cons.mpr ⟨lw_p59, List.forall_mem_cons.mpr ⟨lw_p60, List.forall_mem_cons.mpr ⟨lw_p61, List.forall_mem_cons.mpr ⟨lw_p62, List.forall_mem_cons.mpr ⟨lw_p63, fun _ h => absurd h List.not_mem_nil⟩⟩⟩⟩⟩⟩⟩⟩⟩⟩⟩⟩⟩⟩⟩⟩
def lw_privs : List (MethodName × Nat) := lw_privs_1 ++ (lw_privs_2 ++ (lw_privs_3 ++ (lw_privs_4)))
def lw_tbl : List Cond := k2_sels lw_privs ++ tables_1
theorem lw_privs_ok : ∀ q ∈ lw_privs, lw_okq q := by
  show ∀ q ∈ lw_privs_1 ++ (lw_privs_2 ++ (lw_privs_3 ++ (lw_privs_4))), lw_okq q
  exact List.forall_mem_append.mpr ⟨lw_r1, List.forall_mem_append.mpr ⟨lw_r2, List.forall_mem_append.mpr ⟨lw_r3, lw_r4⟩⟩⟩

def RX0 : String := "IceHouse$DustPlan"
def TX0 : u_T := fun k => match k with
  | 0 => ("IceHouse$DustPlan", "leastMelts", "I", false)
  | 1 => ("IceHouse$DustPlan", "layer", "[I", true)
  | 2 => ("IceHouse$DustPlan", "leastDust", "I", false)
  | 3 => ("IceHouse$DustPlan", "inner", "I", false)
  | 4 => ("IceHouse$DustPlan", "atWall", "[[I", true)
  | 5 => ("IceHouse$DustPlan", "atCorner", "[[I", true)
  | _ => ("IceHouse$DustPlan", "fewestOnWall3", "[I", true)
def tyX0 : Nat → FieldType := fun k => match k with
  | 0 => .int
  | 1 => .array .int
  | 2 => .int
  | 3 => .int
  | 4 => .array (.array .int)
  | 5 => .array (.array .int)
  | _ => .array .int
theorem nmX0 : ∀ a, a < 7 → ∀ b, b < 7 → a ≠ b → (TX0 a).2.1 ≠ (TX0 b).2.1 := by decide +kernel
theorem tyX0_ok : ∀ k, k < 7 → parseFieldDescriptor (TX0 k).2.2.1 = some (tyX0 k) := by decide +kernel
abbrev cX0_init : ByteArray := prog_2_method_1_code
def yX0_init : MethodName := ⟨RX0, "<init>", "()V"⟩
abbrev cX0_plan : ByteArray := prog_2_method_2_code
def yX0_plan : MethodName := ⟨RX0, "plan", "(LIceHouse$House;I)V"⟩
abbrev cX0_clearTables : ByteArray := prog_2_method_3_code
def yX0_clearTables : MethodName := ⟨RX0, "clearTables", "()V"⟩
abbrev cX0_addColumn : ByteArray := prog_2_method_4_code
def yX0_addColumn : MethodName := ⟨RX0, "addColumn", "(LIceHouse$House;III)V"⟩
abbrev cX0_trySides : ByteArray := prog_2_method_5_code
def yX0_trySides : MethodName := ⟨RX0, "trySides", "(III)V"⟩
abbrev cX0_fillFewest : ByteArray := prog_2_method_6_code
def yX0_fillFewest : MethodName := ⟨RX0, "fillFewest", "(II)V"⟩
abbrev cX0_sideMelts : ByteArray := prog_2_method_7_code
def yX0_sideMelts : MethodName := ⟨RX0, "sideMelts", "(IIII)I"⟩
abbrev cX0_keep : ByteArray := prog_2_method_8_code
def yX0_keep : MethodName := ⟨RX0, "keep", "(IIIII)V"⟩
def RX1 : String := "IceHouse$House"
def TX1 : u_T := fun k => match k with
  | 0 => ("IceHouse$House", "blocks", "I", false)
  | 1 => ("IceHouse$House", "kindOf", "[I", true)
  | 2 => ("IceHouse$House", "weight", "[I", true)
  | 3 => ("IceHouse$House", "where", "[I", true)
  | 4 => ("IceHouse$House", "height", "[I", true)
  | 5 => ("IceHouse$House", "week", "I", false)
  | 6 => ("IceHouse$House", "broughtIn", "I", false)
  | 7 => ("IceHouse$House", "melted", "I", false)
  | 8 => ("IceHouse$House", "broken", "I", false)
  | 9 => ("IceHouse$House", "sold", "I", false)
  | 10 => ("IceHouse$House", "thrown", "I", false)
  | 11 => ("IceHouse$House", "shelter", "LIceHouse$Shelter;", true)
  | _ => ("IceHouse$House", "pile", "[I", true)
def tyX1 : Nat → FieldType := fun k => match k with
  | 0 => .int
  | 1 => .array .int
  | 2 => .array .int
  | 3 => .array .int
  | 4 => .array .int
  | 5 => .int
  | 6 => .int
  | 7 => .int
  | 8 => .int
  | 9 => .int
  | 10 => .int
  | 11 => .object "IceHouse$Shelter"
  | _ => .array .int
theorem nmX1 : ∀ a, a < 13 → ∀ b, b < 13 → a ≠ b → (TX1 a).2.1 ≠ (TX1 b).2.1 := by decide +kernel
theorem tyX1_ok : ∀ k, k < 13 → parseFieldDescriptor (TX1 k).2.2.1 = some (tyX1 k) := by decide +kernel
abbrev cX1_init : ByteArray := prog_3_method_1_code
def yX1_init : MethodName := ⟨RX1, "<init>", "(LIceHouse$Shelter;)V"⟩
abbrev cX1_becomeLike : ByteArray := prog_3_method_2_code
def yX1_becomeLike : MethodName := ⟨RX1, "becomeLike", "(LIceHouse$House;)V"⟩
abbrev cX1_newBlock : ByteArray := prog_3_method_3_code
def yX1_newBlock : MethodName := ⟨RX1, "newBlock", "(II)I"⟩
abbrev cX1_hasBlock : ByteArray := prog_3_method_4_code
def yX1_hasBlock : MethodName := ⟨RX1, "hasBlock", "(I)Z"⟩
abbrev cX1_blocksWhere : ByteArray := prog_3_method_5_code
def yX1_blocksWhere : MethodName := ⟨RX1, "blocksWhere", "(I)I"⟩
abbrev cX1_isEmpty : ByteArray := prog_3_method_6_code
def yX1_isEmpty : MethodName := ⟨RX1, "isEmpty", "(I)Z"⟩
abbrev cX1_isFull : ByteArray := prog_3_method_7_code
def yX1_isFull : MethodName := ⟨RX1, "isFull", "(I)Z"⟩
abbrev cX1_blockAt : ByteArray := prog_3_method_8_code
def yX1_blockAt : MethodName := ⟨RX1, "blockAt", "(II)I"⟩
abbrev cX1_topOf : ByteArray := prog_3_method_9_code
def yX1_topOf : MethodName := ⟨RX1, "topOf", "(I)I"⟩
abbrev cX1_slotOf : ByteArray := prog_3_method_10_code
def yX1_slotOf : MethodName := ⟨RX1, "slotOf", "(I)I"⟩
abbrev cX1_bringIn : ByteArray := prog_3_method_11_code
def yX1_bringIn : MethodName := ⟨RX1, "bringIn", "(II)V"⟩
abbrev cX1_layOn : ByteArray := prog_3_method_12_code
def yX1_layOn : MethodName := ⟨RX1, "layOn", "(II)V"⟩
abbrev cX1_liftTop : ByteArray := prog_3_method_13_code
def yX1_liftTop : MethodName := ⟨RX1, "liftTop", "(I)I"⟩
abbrev cX1_throwOut : ByteArray := prog_3_method_14_code
def yX1_throwOut : MethodName := ⟨RX1, "throwOut", "(I)I"⟩
abbrev cX1_sellTop : ByteArray := prog_3_method_15_code
def yX1_sellTop : MethodName := ⟨RX1, "sellTop", "(II)V"⟩
abbrev cX1_letGo : ByteArray := prog_3_method_16_code
def yX1_letGo : MethodName := ⟨RX1, "letGo", "(I)V"⟩
abbrev cX1_removeAt : ByteArray := prog_3_method_17_code
def yX1_removeAt : MethodName := ⟨RX1, "removeAt", "(II)V"⟩
abbrev cX1_loadOver : ByteArray := prog_3_method_18_code
def yX1_loadOver : MethodName := ⟨RX1, "loadOver", "(II)I"⟩
abbrev cX1_columnWeight : ByteArray := prog_3_method_19_code
def yX1_columnWeight : MethodName := ⟨RX1, "columnWeight", "(I)I"⟩
abbrev cX1_allWeight : ByteArray := prog_3_method_20_code
def yX1_allWeight : MethodName := ⟨RX1, "allWeight", "()I"⟩
abbrev cX1_breakShelves : ByteArray := prog_3_method_21_code
def yX1_breakShelves : MethodName := ⟨RX1, "breakShelves", "(I)V"⟩
abbrev cX1_breaksAt : ByteArray := prog_3_method_22_code
def yX1_breaksAt : MethodName := ⟨RX1, "breaksAt", "(II)Z"⟩
abbrev cX1_meltAt : ByteArray := prog_3_method_23_code
def yX1_meltAt : MethodName := ⟨RX1, "meltAt", "(II)I"⟩
abbrev cX1_meltBehind : ByteArray := prog_3_method_24_code
def yX1_meltBehind : MethodName := ⟨RX1, "meltBehind", "(III)I"⟩
abbrev cX1_openTenths : ByteArray := prog_3_method_25_code
def yX1_openTenths : MethodName := ⟨RX1, "openTenths", "(II)I"⟩
abbrev cX1_sideTenths : ByteArray := prog_3_method_26_code
def yX1_sideTenths : MethodName := ⟨RX1, "sideTenths", "(II)I"⟩
abbrev cX1_columnMelts : ByteArray := prog_3_method_27_code
def yX1_columnMelts : MethodName := ⟨RX1, "columnMelts", "(II)I"⟩
abbrev cX1_allMelts : ByteArray := prog_3_method_28_code
def yX1_allMelts : MethodName := ⟨RX1, "allMelts", "()I"⟩
abbrev cX1_passWeeks : ByteArray := prog_3_method_29_code
def yX1_passWeeks : MethodName := ⟨RX1, "passWeeks", "(I)V"⟩
abbrev cX1_meltAll : ByteArray := prog_3_method_30_code
def yX1_meltAll : MethodName := ⟨RX1, "meltAll", "()V"⟩
abbrev cX1_dropMelted : ByteArray := prog_3_method_31_code
def yX1_dropMelted : MethodName := ⟨RX1, "dropMelted", "(I)V"⟩
def RX2 : String := "IceHouse$Lake"
def TX2 : u_T := fun k => match k with
  | 0 => ("IceHouse$Lake", "thick", "[I", true)
  | 1 => ("IceHouse$Lake", "snowOn", "[I", true)
  | _ => ("IceHouse$Lake", "milked", "[Z", true)
def tyX2 : Nat → FieldType := fun k => match k with
  | 0 => .array .int
  | 1 => .array .int
  | _ => .array .boolean
theorem nmX2 : ∀ a, a < 3 → ∀ b, b < 3 → a ≠ b → (TX2 a).2.1 ≠ (TX2 b).2.1 := by decide +kernel
theorem tyX2_ok : ∀ k, k < 3 → parseFieldDescriptor (TX2 k).2.2.1 = some (tyX2 k) := by decide +kernel
abbrev cX2_init : ByteArray := prog_4_method_1_code
def yX2_init : MethodName := ⟨RX2, "<init>", "()V"⟩
abbrev cX2_freeze : ByteArray := prog_4_method_2_code
def yX2_freeze : MethodName := ⟨RX2, "freeze", "(I)V"⟩
abbrev cX2_rootUpFrom : ByteArray := prog_4_method_3_code
def yX2_rootUpFrom : MethodName := ⟨RX2, "rootUpFrom", "(II)I"⟩
abbrev cX2_soften : ByteArray := prog_4_method_4_code
def yX2_soften : MethodName := ⟨RX2, "soften", "(I)V"⟩
abbrev cX2_snowOver : ByteArray := prog_4_method_5_code
def yX2_snowOver : MethodName := ⟨RX2, "snowOver", "(I)I"⟩
abbrev cX2_clearRow : ByteArray := prog_4_method_6_code
def yX2_clearRow : MethodName := ⟨RX2, "clearRow", "(I)I"⟩
abbrev cX2_frozenCells : ByteArray := prog_4_method_7_code
def yX2_frozenCells : MethodName := ⟨RX2, "frozenCells", "()I"⟩
abbrev cX2_bearing : ByteArray := prog_4_method_8_code
def yX2_bearing : MethodName := ⟨RX2, "bearing", "(I)J"⟩
abbrev cX2_cellsOf : ByteArray := prog_4_method_9_code
def yX2_cellsOf : MethodName := ⟨RX2, "cellsOf", "(I)J"⟩
abbrev cX2_reachedOver : ByteArray := prog_4_method_10_code
def yX2_reachedOver : MethodName := ⟨RX2, "reachedOver", "(J)J"⟩
abbrev cX2_beside : ByteArray := prog_4_method_11_code
def yX2_beside : MethodName := ⟨RX2, "beside", "(J)J"⟩
abbrev cX2_isSquare : ByteArray := prog_4_method_12_code
def yX2_isSquare : MethodName := ⟨RX2, "isSquare", "(I)Z"⟩
abbrev cX2_cellsOfSquare : ByteArray := prog_4_method_13_code
def yX2_cellsOfSquare : MethodName := ⟨RX2, "cellsOfSquare", "(I)J"⟩
abbrev cX2_barTo : ByteArray := prog_4_method_14_code
def yX2_barTo : MethodName := ⟨RX2, "barTo", "(I)I"⟩
abbrev cX2_barAmong : ByteArray := prog_4_method_15_code
def yX2_barAmong : MethodName := ⟨RX2, "barAmong", "(JJJ)I"⟩
abbrev cX2_thicksOf : ByteArray := prog_4_method_16_code
def yX2_thicksOf : MethodName := ⟨RX2, "thicksOf", "(I)I"⟩
abbrev cX2_kindOf : ByteArray := prog_4_method_17_code
def yX2_kindOf : MethodName := ⟨RX2, "kindOf", "(I)I"⟩
abbrev cX2_milk : ByteArray := prog_4_method_18_code
def yX2_milk : MethodName := ⟨RX2, "milk", "(I)I"⟩
abbrev cX2_open : ByteArray := prog_4_method_19_code
def yX2_open : MethodName := ⟨RX2, "open", "(I)V"⟩
abbrev cX2_openCell : ByteArray := prog_4_method_20_code
def yX2_openCell : MethodName := ⟨RX2, "openCell", "(I)V"⟩
def RX3 : String := "IceHouse$Orders"
def TX3 : u_T := fun k => match k with
  | 0 => ("IceHouse$Orders", "size", "I", false)
  | 1 => ("IceHouse$Orders", "servedSoFar", "I", false)
  | 2 => ("IceHouse$Orders", "takings", "I", false)
  | 3 => ("IceHouse$Orders", "price", "[I", true)
  | 4 => ("IceHouse$Orders", "house", "LIceHouse$House;", true)
  | 5 => ("IceHouse$Orders", "grade", "[I", true)
  | 6 => ("IceHouse$Orders", "leastWeight", "[I", true)
  | 7 => ("IceHouse$Orders", "lastWeek", "[I", true)
  | 8 => ("IceHouse$Orders", "hours", "[I", true)
  | _ => ("IceHouse$Orders", "served", "[Z", true)
def tyX3 : Nat → FieldType := fun k => match k with
  | 0 => .int
  | 1 => .int
  | 2 => .int
  | 3 => .array .int
  | 4 => .object "IceHouse$House"
  | 5 => .array .int
  | 6 => .array .int
  | 7 => .array .int
  | 8 => .array .int
  | _ => .array .boolean
theorem nmX3 : ∀ a, a < 10 → ∀ b, b < 10 → a ≠ b → (TX3 a).2.1 ≠ (TX3 b).2.1 := by decide +kernel
theorem tyX3_ok : ∀ k, k < 10 → parseFieldDescriptor (TX3 k).2.2.1 = some (tyX3 k) := by decide +kernel
abbrev cX3_init : ByteArray := prog_5_method_1_code
def yX3_init : MethodName := ⟨RX3, "<init>", "(LIceHouse$House;)V"⟩
abbrev cX3_has : ByteArray := prog_5_method_2_code
def yX3_has : MethodName := ⟨RX3, "has", "(I)Z"⟩
abbrev cX3_enter : ByteArray := prog_5_method_3_code
def yX3_enter : MethodName := ⟨RX3, "enter", "(IIIII)I"⟩
abbrev cX3_hindrance : ByteArray := prog_5_method_4_code
def yX3_hindrance : MethodName := ⟨RX3, "hindrance", "(II)I"⟩
abbrev cX3_isOfGrade : ByteArray := prog_5_method_5_code
def yX3_isOfGrade : MethodName := ⟨RX3, "isOfGrade", "(II)Z"⟩
abbrev cX3_whatComes : ByteArray := prog_5_method_6_code
def yX3_whatComes : MethodName := ⟨RX3, "whatComes", "(II)I"⟩
abbrev cX3_fulfil : ByteArray := prog_5_method_7_code
def yX3_fulfil : MethodName := ⟨RX3, "fulfil", "(II)I"⟩
def RX4 : String := "IceHouse$Railway"
def TX4 : u_T := fun k => match k with
  | 0 => ("IceHouse$Railway", "size", "I", false)
  | 1 => ("IceHouse$Railway", "cakesAt", "[I", true)
  | 2 => ("IceHouse$Railway", "priceAt", "[I", true)
  | 3 => ("IceHouse$Railway", "wayFrom", "[I", true)
  | 4 => ("IceHouse$Railway", "leastCost", "[[I", true)
  | _ => ("IceHouse$Railway", "fewestBought", "[[I", true)
def tyX4 : Nat → FieldType := fun k => match k with
  | 0 => .int
  | 1 => .array .int
  | 2 => .array .int
  | 3 => .array .int
  | 4 => .array (.array .int)
  | _ => .array (.array .int)
theorem nmX4 : ∀ a, a < 6 → ∀ b, b < 6 → a ≠ b → (TX4 a).2.1 ≠ (TX4 b).2.1 := by decide +kernel
theorem tyX4_ok : ∀ k, k < 6 → parseFieldDescriptor (TX4 k).2.2.1 = some (tyX4 k) := by decide +kernel
abbrev cX4_init : ByteArray := prog_6_method_1_code
def yX4_init : MethodName := ⟨RX4, "<init>", "()V"⟩
abbrev cX4_enter : ByteArray := prog_6_method_2_code
def yX4_enter : MethodName := ⟨RX4, "enter", "(III)I"⟩
abbrev cX4_describe : ByteArray := prog_6_method_3_code
def yX4_describe : MethodName := ⟨RX4, "describe", "(IIII)V"⟩
abbrev cX4_plan : ByteArray := prog_6_method_4_code
def yX4_plan : MethodName := ⟨RX4, "plan", "(I)V"⟩
abbrev cX4_planAt : ByteArray := prog_6_method_5_code
def yX4_planAt : MethodName := ⟨RX4, "planAt", "(III)V"⟩
abbrev cX4_costFrom : ByteArray := prog_6_method_6_code
def yX4_costFrom : MethodName := ⟨RX4, "costFrom", "(I)I"⟩
abbrev cX4_boughtAt : ByteArray := prog_6_method_7_code
def yX4_boughtAt : MethodName := ⟨RX4, "boughtAt", "(II)I"⟩
def RX5 : String := "IceHouse$SalesPlan"
def TX5 : u_T := fun k => match k with
  | 0 => ("IceHouse$SalesPlan", "columns", "[I", true)
  | 1 => ("IceHouse$SalesPlan", "bestPrices", "I", false)
  | 2 => ("IceHouse$SalesPlan", "bestLength", "I", false)
  | 3 => ("IceHouse$SalesPlan", "bestOrders", "[I", true)
  | 4 => ("IceHouse$SalesPlan", "bestPositions", "[I", true)
  | 5 => ("IceHouse$SalesPlan", "house", "LIceHouse$House;", true)
  | 6 => ("IceHouse$SalesPlan", "orders", "LIceHouse$Orders;", true)
  | 7 => ("IceHouse$SalesPlan", "told", "I", false)
  | 8 => ("IceHouse$SalesPlan", "fits", "[Z", true)
  | 9 => ("IceHouse$SalesPlan", "dearestFirst", "[I", true)
  | 10 => ("IceHouse$SalesPlan", "usable", "I", false)
  | 11 => ("IceHouse$SalesPlan", "used", "[Z", true)
  | 12 => ("IceHouse$SalesPlan", "taken", "[I", true)
  | 13 => ("IceHouse$SalesPlan", "rowOrders", "[I", true)
  | _ => ("IceHouse$SalesPlan", "rowPositions", "[I", true)
def tyX5 : Nat → FieldType := fun k => match k with
  | 0 => .array .int
  | 1 => .int
  | 2 => .int
  | 3 => .array .int
  | 4 => .array .int
  | 5 => .object "IceHouse$House"
  | 6 => .object "IceHouse$Orders"
  | 7 => .int
  | 8 => .array .boolean
  | 9 => .array .int
  | 10 => .int
  | 11 => .array .boolean
  | 12 => .array .int
  | 13 => .array .int
  | _ => .array .int
theorem nmX5 : ∀ a, a < 15 → ∀ b, b < 15 → a ≠ b → (TX5 a).2.1 ≠ (TX5 b).2.1 := by decide +kernel
theorem tyX5_ok : ∀ k, k < 15 → parseFieldDescriptor (TX5 k).2.2.1 = some (tyX5 k) := by decide +kernel
abbrev cX5_init : ByteArray := prog_7_method_1_code
def yX5_init : MethodName := ⟨RX5, "<init>", "(LIceHouse$House;LIceHouse$Orders;)V"⟩
abbrev cX5_takeOver : ByteArray := prog_7_method_2_code
def yX5_takeOver : MethodName := ⟨RX5, "takeOver", "(LIceHouse$Waiting;)Z"⟩
abbrev cX5_plan : ByteArray := prog_7_method_3_code
def yX5_plan : MethodName := ⟨RX5, "plan", "()V"⟩
abbrev cX5_slot : ByteArray := prog_7_method_4_code
def yX5_slot : MethodName := ⟨RX5, "slot", "(III)I"⟩
abbrev cX5_fillFits : ByteArray := prog_7_method_5_code
def yX5_fillFits : MethodName := ⟨RX5, "fillFits", "(I)Z"⟩
abbrev cX5_enlist : ByteArray := prog_7_method_6_code
def yX5_enlist : MethodName := ⟨RX5, "enlist", "(I)V"⟩
abbrev cX5_tryRows : ByteArray := prog_7_method_7_code
def yX5_tryRows : MethodName := ⟨RX5, "tryRows", "(LIceHouse$SalesPlan;II)V"⟩
abbrev cX5_keepIfBetter : ByteArray := prog_7_method_8_code
def yX5_keepIfBetter : MethodName := ⟨RX5, "keepIfBetter", "(II)V"⟩
abbrev cX5_mayImprove : ByteArray := prog_7_method_9_code
def yX5_mayImprove : MethodName := ⟨RX5, "mayImprove", "(II)Z"⟩
abbrev cX5_dearest : ByteArray := prog_7_method_10_code
def yX5_dearest : MethodName := ⟨RX5, "dearest", "(I)I"⟩
abbrev cX5_mayServe : ByteArray := prog_7_method_11_code
def yX5_mayServe : MethodName := ⟨RX5, "mayServe", "(II)Z"⟩
abbrev cX5_push : ByteArray := prog_7_method_12_code
def yX5_push : MethodName := ⟨RX5, "push", "(III)V"⟩
abbrev cX5_pop : ByteArray := prog_7_method_13_code
def yX5_pop : MethodName := ⟨RX5, "pop", "(II)V"⟩
def RX6 : String := "IceHouse$Season"
def TX6 : u_T := fun k => match k with
  | 0 => ("IceHouse$Season", "row", "[I", true)
  | 1 => ("IceHouse$Season", "length", "I", false)
  | 2 => ("IceHouse$Season", "squares", "[I", true)
  | 3 => ("IceHouse$Season", "told", "I", false)
  | 4 => ("IceHouse$Season", "longest", "[I", true)
  | 5 => ("IceHouse$Season", "next", "[I", true)
  | 6 => ("IceHouse$Season", "thickEnough", "J", false)
  | _ => ("IceHouse$Season", "horse", "J", false)
def tyX6 : Nat → FieldType := fun k => match k with
  | 0 => .array .int
  | 1 => .int
  | 2 => .array .int
  | 3 => .int
  | 4 => .array .int
  | 5 => .array .int
  | 6 => .long
  | _ => .long
theorem nmX6 : ∀ a, a < 8 → ∀ b, b < 8 → a ≠ b → (TX6 a).2.1 ≠ (TX6 b).2.1 := by decide +kernel
theorem tyX6_ok : ∀ k, k < 8 → parseFieldDescriptor (TX6 k).2.2.1 = some (tyX6 k) := by decide +kernel
abbrev cX6_init : ByteArray := prog_8_method_1_code
def yX6_init : MethodName := ⟨RX6, "<init>", "()V"⟩
abbrev cX6_takeOver : ByteArray := prog_8_method_2_code
def yX6_takeOver : MethodName := ⟨RX6, "takeOver", "(LIceHouse$Waiting;)Z"⟩
abbrev cX6_plan : ByteArray := prog_8_method_3_code
def yX6_plan : MethodName := ⟨RX6, "plan", "(LIceHouse$Lake;)V"⟩
abbrev cX6_askBehind : ByteArray := prog_8_method_4_code
def yX6_askBehind : MethodName := ⟨RX6, "askBehind", "(I)V"⟩
abbrev cX6_mayFollow : ByteArray := prog_8_method_5_code
def yX6_mayFollow : MethodName := ⟨RX6, "mayFollow", "(II)Z"⟩
abbrev cX6_openCells : ByteArray := prog_8_method_6_code
def yX6_openCells : MethodName := ⟨RX6, "openCells", "(I)J"⟩
abbrev cX6_walk : ByteArray := prog_8_method_7_code
def yX6_walk : MethodName := ⟨RX6, "walk", "()V"⟩
def RX7 : String := "IceHouse$Shelter"
def TX7 : u_T := fun k => match k with
  | 0 => ("IceHouse$Shelter", "dustOn", "[I", true)
  | 1 => ("IceHouse$Shelter", "coverOn", "[I", true)
  | _ => ("IceHouse$Shelter", "warmthIn", "[I", true)
def tyX7 : Nat → FieldType := fun k => match k with
  | 0 => .array .int
  | 1 => .array .int
  | _ => .array .int
theorem nmX7 : ∀ a, a < 3 → ∀ b, b < 3 → a ≠ b → (TX7 a).2.1 ≠ (TX7 b).2.1 := by decide +kernel
theorem tyX7_ok : ∀ k, k < 3 → parseFieldDescriptor (TX7 k).2.2.1 = some (tyX7 k) := by decide +kernel
abbrev cX7_init : ByteArray := prog_9_method_1_code
def yX7_init : MethodName := ⟨RX7, "<init>", "()V"⟩
abbrev cX7_warmthOf : ByteArray := prog_9_method_2_code
def yX7_warmthOf : MethodName := ⟨RX7, "warmthOf", "(I)I"⟩
abbrev cX7_wallTenths : ByteArray := prog_9_method_3_code
def yX7_wallTenths : MethodName := ⟨RX7, "wallTenths", "(I)I"⟩
abbrev cX7_tenthsAt : ByteArray := prog_9_method_4_code
def yX7_tenthsAt : MethodName := ⟨RX7, "tenthsAt", "(I)I"⟩
abbrev cX7_rowWall : ByteArray := prog_9_method_5_code
def yX7_rowWall : MethodName := ⟨RX7, "rowWall", "(I)I"⟩
abbrev cX7_sideWall : ByteArray := prog_9_method_6_code
def yX7_sideWall : MethodName := ⟨RX7, "sideWall", "(I)I"⟩
def RX8 : String := "IceHouse$Waiting"
def TX8 : u_T := fun k => match k with
  | 0 => ("IceHouse$Waiting", "size", "I", false)
  | _ => ("IceHouse$Waiting", "numbers", "[I", true)
def tyX8 : Nat → FieldType := fun k => match k with
  | 0 => .int
  | _ => .array .int
theorem nmX8 : ∀ a, a < 2 → ∀ b, b < 2 → a ≠ b → (TX8 a).2.1 ≠ (TX8 b).2.1 := by decide +kernel
theorem tyX8_ok : ∀ k, k < 2 → parseFieldDescriptor (TX8 k).2.2.1 = some (tyX8 k) := by decide +kernel
abbrev cX8_init : ByteArray := prog_10_method_1_code
def yX8_init : MethodName := ⟨RX8, "<init>", "()V"⟩
abbrev cX8_enter : ByteArray := prog_10_method_2_code
def yX8_enter : MethodName := ⟨RX8, "enter", "(I)I"⟩
abbrev cX8_clear : ByteArray := prog_10_method_3_code
def yX8_clear : MethodName := ⟨RX8, "clear", "()V"⟩
abbrev cX8_handOver : ByteArray := prog_10_method_4_code
def yX8_handOver : MethodName := ⟨RX8, "handOver", "([I)I"⟩
abbrev cX8_hasTwins : ByteArray := prog_10_method_5_code
def yX8_hasTwins : MethodName := ⟨RX8, "hasTwins", "()Z"⟩
abbrev cX8_firstWrong : ByteArray := prog_10_method_6_code
def yX8_firstWrong : MethodName := ⟨RX8, "firstWrong", "(LIceHouse$House;)I"⟩
def RX9 : String := "IceHouse"
def TX9 : u_T := fun k => match k with
  | 0 => ("IceHouse", "lake", "LIceHouse$Lake;", true)
  | 1 => ("IceHouse", "harvest", "LIceHouse$Season;", true)
  | 2 => ("IceHouse", "shelter", "LIceHouse$Shelter;", true)
  | 3 => ("IceHouse", "house", "LIceHouse$House;", true)
  | 4 => ("IceHouse", "trial", "LIceHouse$House;", true)
  | 5 => ("IceHouse", "dustPlan", "LIceHouse$DustPlan;", true)
  | 6 => ("IceHouse", "orders", "LIceHouse$Orders;", true)
  | 7 => ("IceHouse", "salesPlan", "LIceHouse$SalesPlan;", true)
  | 8 => ("IceHouse", "railway", "LIceHouse$Railway;", true)
  | 9 => ("IceHouse", "waiting", "LIceHouse$Waiting;", true)
  | _ => ("IceHouse", "findings", "[I", true)
def tyX9 : Nat → FieldType := fun k => match k with
  | 0 => .object "IceHouse$Lake"
  | 1 => .object "IceHouse$Season"
  | 2 => .object "IceHouse$Shelter"
  | 3 => .object "IceHouse$House"
  | 4 => .object "IceHouse$House"
  | 5 => .object "IceHouse$DustPlan"
  | 6 => .object "IceHouse$Orders"
  | 7 => .object "IceHouse$SalesPlan"
  | 8 => .object "IceHouse$Railway"
  | 9 => .object "IceHouse$Waiting"
  | _ => .array .int
theorem nmX9 : ∀ a, a < 11 → ∀ b, b < 11 → a ≠ b → (TX9 a).2.1 ≠ (TX9 b).2.1 := by decide +kernel
theorem tyX9_ok : ∀ k, k < 11 → parseFieldDescriptor (TX9 k).2.2.1 = some (tyX9 k) := by decide +kernel
abbrev cX9_init : ByteArray := prog_1_method_1_code
def yX9_init : MethodName := ⟨RX9, "<init>", "()V"⟩
abbrev cX9_frost : ByteArray := prog_1_method_2_code
def yX9_frost : MethodName := ⟨RX9, "frost", "(I)I"⟩
abbrev cX9_thaw : ByteArray := prog_1_method_3_code
def yX9_thaw : MethodName := ⟨RX9, "thaw", "(I)I"⟩
abbrev cX9_snow : ByteArray := prog_1_method_4_code
def yX9_snow : MethodName := ⟨RX9, "snow", "(I)I"⟩
abbrev cX9_scrape : ByteArray := prog_1_method_5_code
def yX9_scrape : MethodName := ⟨RX9, "scrape", "(I)I"⟩
abbrev cX9_cell : ByteArray := prog_1_method_6_code
def yX9_cell : MethodName := ⟨RX9, "cell", "(II)I"⟩
abbrev cX9_reached : ByteArray := prog_1_method_7_code
def yX9_reached : MethodName := ⟨RX9, "reached", "(I)I"⟩
abbrev cX9_reach : ByteArray := prog_1_method_8_code
def yX9_reach : MethodName := ⟨RX9, "reach", "(II)I"⟩
abbrev cX9_bars : ByteArray := prog_1_method_9_code
def yX9_bars : MethodName := ⟨RX9, "bars", "(I)I"⟩
abbrev cX9_cut : ByteArray := prog_1_method_10_code
def yX9_cut : MethodName := ⟨RX9, "cut", "(I)I"⟩
abbrev cX9_season : ByteArray := prog_1_method_11_code
def yX9_season : MethodName := ⟨RX9, "season", "(I)I"⟩
abbrev cX9_put : ByteArray := prog_1_method_12_code
def yX9_put : MethodName := ⟨RX9, "put", "(II)I"⟩
abbrev cX9_take : ByteArray := prog_1_method_13_code
def yX9_take : MethodName := ⟨RX9, "take", "(I)I"⟩
abbrev cX9_move : ByteArray := prog_1_method_14_code
def yX9_move : MethodName := ⟨RX9, "move", "(II)I"⟩
abbrev cX9_as : ByteArray := prog_1_method_15_code
def yX9_as : MethodName := ⟨RX9, "as", "(II)I"⟩
abbrev cX9_about : ByteArray := prog_1_method_16_code
def yX9_about : MethodName := ⟨RX9, "about", "(II)I"⟩
abbrev cX9_at : ByteArray := prog_1_method_17_code
def yX9_at : MethodName := ⟨RX9, "at", "(II)I"⟩
abbrev cX9_dust : ByteArray := prog_1_method_18_code
def yX9_dust : MethodName := ⟨RX9, "dust", "(II)I"⟩
abbrev cX9_cover : ByteArray := prog_1_method_19_code
def yX9_cover : MethodName := ⟨RX9, "cover", "(II)I"⟩
abbrev cX9_warmth : ByteArray := prog_1_method_20_code
def yX9_warmth : MethodName := ⟨RX9, "warmth", "(II)I"⟩
abbrev cX9_melts : ByteArray := prog_1_method_21_code
def yX9_melts : MethodName := ⟨RX9, "melts", "()I"⟩
abbrev cX9_weeks : ByteArray := prog_1_method_22_code
def yX9_weeks : MethodName := ⟨RX9, "weeks", "(I)I"⟩
abbrev cX9_after : ByteArray := prog_1_method_23_code
def yX9_after : MethodName := ⟨RX9, "after", "(I)I"⟩
abbrev cX9_lasts : ByteArray := prog_1_method_24_code
def yX9_lasts : MethodName := ⟨RX9, "lasts", "(I)I"⟩
abbrev cX9_best : ByteArray := prog_1_method_25_code
def yX9_best : MethodName := ⟨RX9, "best", "(II)I"⟩
abbrev cX9_order : ByteArray := prog_1_method_26_code
def yX9_order : MethodName := ⟨RX9, "order", "(IIIII)I"⟩
abbrev cX9_why : ByteArray := prog_1_method_27_code
def yX9_why : MethodName := ⟨RX9, "why", "(II)I"⟩
abbrev cX9_serve : ByteArray := prog_1_method_28_code
def yX9_serve : MethodName := ⟨RX9, "serve", "(II)I"⟩
abbrev cX9_sales : ByteArray := prog_1_method_29_code
def yX9_sales : MethodName := ⟨RX9, "sales", "(I)I"⟩
abbrev cX9_station : ByteArray := prog_1_method_30_code
def yX9_station : MethodName := ⟨RX9, "station", "(III)I"⟩
abbrev cX9_change : ByteArray := prog_1_method_31_code
def yX9_change : MethodName := ⟨RX9, "change", "(IIII)I"⟩
abbrev cX9_icing : ByteArray := prog_1_method_32_code
def yX9_icing : MethodName := ⟨RX9, "icing", "(III)I"⟩
abbrev cX9_ledger : ByteArray := prog_1_method_33_code
def yX9_ledger : MethodName := ⟨RX9, "ledger", "(I)I"⟩
abbrev cX9_tell : ByteArray := prog_1_method_34_code
def yX9_tell : MethodName := ⟨RX9, "tell", "(I)I"⟩
abbrev cX9_check : ByteArray := prog_1_method_35_code
def yX9_check : MethodName := ⟨RX9, "check", "(I)I"⟩
abbrev cX9_count : ByteArray := prog_1_method_36_code
def yX9_count : MethodName := ⟨RX9, "count", "(I)I"⟩
abbrev cX9_found : ByteArray := prog_1_method_37_code
def yX9_found : MethodName := ⟨RX9, "found", "(I)I"⟩
abbrev cX9_finding : ByteArray := prog_1_method_38_code
def yX9_finding : MethodName := ⟨RX9, "finding", "(I)I"⟩
abbrev cX9_within : ByteArray := prog_1_method_39_code
def yX9_within : MethodName := ⟨RX9, "within", "(III)Z"⟩
abbrev cX9_isColumn : ByteArray := prog_1_method_40_code
def yX9_isColumn : MethodName := ⟨RX9, "isColumn", "(I)Z"⟩
abbrev cX9_isStation : ByteArray := prog_1_method_41_code
def yX9_isStation : MethodName := ⟨RX9, "isStation", "(III)Z"⟩
abbrev cX9_isUnder : ByteArray := prog_1_method_42_code
def yX9_isUnder : MethodName := ⟨RX9, "isUnder", "(II)Z"⟩
abbrev cX9_exchange : ByteArray := prog_1_method_43_code
def yX9_exchange : MethodName := ⟨RX9, "exchange", "([III)I"⟩
def RX10 : String := "IceHouseModel"
def TX10 : u_T := fun k => match k with
  | 0 => ("IceHouseModel", "thick", "[I", true)
  | 1 => ("IceHouseModel", "snow", "[I", true)
  | 2 => ("IceHouseModel", "milked", "[Z", true)
  | 3 => ("IceHouseModel", "blocks", "I", false)
  | 4 => ("IceHouseModel", "kind", "[I", true)
  | 5 => ("IceHouseModel", "weight", "[I", true)
  | 6 => ("IceHouseModel", "place", "[I", true)
  | 7 => ("IceHouseModel", "columnOf", "[I", true)
  | 8 => ("IceHouseModel", "stack", "[I", true)
  | 9 => ("IceHouseModel", "high", "[I", true)
  | 10 => ("IceHouseModel", "dust", "[I", true)
  | 11 => ("IceHouseModel", "cover", "[I", true)
  | 12 => ("IceHouseModel", "warmth", "[I", true)
  | 13 => ("IceHouseModel", "week", "I", false)
  | 14 => ("IceHouseModel", "orders", "I", false)
  | 15 => ("IceHouseModel", "grade", "[I", true)
  | 16 => ("IceHouseModel", "least", "[I", true)
  | 17 => ("IceHouseModel", "upTo", "[I", true)
  | 18 => ("IceHouseModel", "hours", "[I", true)
  | 19 => ("IceHouseModel", "price", "[I", true)
  | 20 => ("IceHouseModel", "served", "[Z", true)
  | 21 => ("IceHouseModel", "stations", "I", false)
  | 22 => ("IceHouseModel", "cakePrice", "[I", true)
  | 23 => ("IceHouseModel", "stock", "[I", true)
  | 24 => ("IceHouseModel", "way", "[I", true)
  | 25 => ("IceHouseModel", "ledger", "[I", true)
  | 26 => ("IceHouseModel", "waits", "I", false)
  | 27 => ("IceHouseModel", "waiting", "[I", true)
  | 28 => ("IceHouseModel", "found", "[I", true)
  | 29 => ("IceHouseModel", "isReached", "[Z", true)
  | 30 => ("IceHouseModel", "queue", "[I", true)
  | 31 => ("IceHouseModel", "told", "[I", true)
  | 32 => ("IceHouseModel", "toldMany", "I", false)
  | 33 => ("IceHouseModel", "trial", "[I", true)
  | 34 => ("IceHouseModel", "bestRow", "[I", true)
  | 35 => ("IceHouseModel", "bestMany", "I", false)
  | 36 => ("IceHouseModel", "keptThick", "[I", true)
  | 37 => ("IceHouseModel", "melting", "[I", true)
  | 38 => ("IceHouseModel", "aside", "[I", true)
  | 39 => ("IceHouseModel", "asideAt", "I", false)
  | 40 => ("IceHouseModel", "weekAside", "I", false)
  | 41 => ("IceHouseModel", "dustAside", "[I", true)
  | 42 => ("IceHouseModel", "bestDust", "[I", true)
  | 43 => ("IceHouseModel", "saleTrial", "[I", true)
  | 44 => ("IceHouseModel", "bestSale", "[I", true)
  | 45 => ("IceHouseModel", "saleMany", "I", false)
  | 46 => ("IceHouseModel", "saleSum", "I", false)
  | _ => ("IceHouseModel", "rest", "[I", true)
def tyX10 : Nat → FieldType := fun k => match k with
  | 0 => .array .int
  | 1 => .array .int
  | 2 => .array .boolean
  | 3 => .int
  | 4 => .array .int
  | 5 => .array .int
  | 6 => .array .int
  | 7 => .array .int
  | 8 => .array .int
  | 9 => .array .int
  | 10 => .array .int
  | 11 => .array .int
  | 12 => .array .int
  | 13 => .int
  | 14 => .int
  | 15 => .array .int
  | 16 => .array .int
  | 17 => .array .int
  | 18 => .array .int
  | 19 => .array .int
  | 20 => .array .boolean
  | 21 => .int
  | 22 => .array .int
  | 23 => .array .int
  | 24 => .array .int
  | 25 => .array .int
  | 26 => .int
  | 27 => .array .int
  | 28 => .array .int
  | 29 => .array .boolean
  | 30 => .array .int
  | 31 => .array .int
  | 32 => .int
  | 33 => .array .int
  | 34 => .array .int
  | 35 => .int
  | 36 => .array .int
  | 37 => .array .int
  | 38 => .array .int
  | 39 => .int
  | 40 => .int
  | 41 => .array .int
  | 42 => .array .int
  | 43 => .array .int
  | 44 => .array .int
  | 45 => .int
  | 46 => .int
  | _ => .array .int
theorem nmX10 : ∀ a, a < 48 → ∀ b, b < 48 → a ≠ b → (TX10 a).2.1 ≠ (TX10 b).2.1 := by decide +kernel
theorem tyX10_ok : ∀ k, k < 48 → parseFieldDescriptor (TX10 k).2.2.1 = some (tyX10 k) := by decide +kernel
abbrev cX10_init : ByteArray := prog_12_method_1_code
def yX10_init : MethodName := ⟨RX10, "<init>", "()V"⟩
abbrev cX10_finding : ByteArray := prog_12_method_2_code
def yX10_finding : MethodName := ⟨RX10, "finding", "(I)I"⟩
abbrev cX10_isIn : ByteArray := prog_12_method_3_code
def yX10_isIn : MethodName := ⟨RX10, "isIn", "(III)Z"⟩
abbrev cX10_isCell : ByteArray := prog_12_method_4_code
def yX10_isCell : MethodName := ⟨RX10, "isCell", "(I)Z"⟩
abbrev cX10_clean : ByteArray := prog_12_method_5_code
def yX10_clean : MethodName := ⟨RX10, "clean", "(I)V"⟩
abbrev cX10_bearing : ByteArray := prog_12_method_6_code
def yX10_bearing : MethodName := ⟨RX10, "bearing", "(I)I"⟩
abbrev cX10_frost : ByteArray := prog_12_method_7_code
def yX10_frost : MethodName := ⟨RX10, "frost", "(I)I"⟩
abbrev cX10_thaw : ByteArray := prog_12_method_8_code
def yX10_thaw : MethodName := ⟨RX10, "thaw", "(I)I"⟩
abbrev cX10_snow : ByteArray := prog_12_method_9_code
def yX10_snow : MethodName := ⟨RX10, "snow", "(I)I"⟩
abbrev cX10_scrape : ByteArray := prog_12_method_10_code
def yX10_scrape : MethodName := ⟨RX10, "scrape", "(I)I"⟩
abbrev cX10_cell : ByteArray := prog_12_method_11_code
def yX10_cell : MethodName := ⟨RX10, "cell", "(II)I"⟩
abbrev cX10_beside : ByteArray := prog_12_method_12_code
def yX10_beside : MethodName := ⟨RX10, "beside", "(II)I"⟩
abbrev cX10_isOf : ByteArray := prog_12_method_13_code
def yX10_isOf : MethodName := ⟨RX10, "isOf", "(II)Z"⟩
abbrev cX10_flood : ByteArray := prog_12_method_14_code
def yX10_flood : MethodName := ⟨RX10, "flood", "(II)V"⟩
abbrev cX10_reached : ByteArray := prog_12_method_15_code
def yX10_reached : MethodName := ⟨RX10, "reached", "(I)I"⟩
abbrev cX10_reach : ByteArray := prog_12_method_16_code
def yX10_reach : MethodName := ⟨RX10, "reach", "(II)I"⟩
abbrev cX10_isSquare : ByteArray := prog_12_method_17_code
def yX10_isSquare : MethodName := ⟨RX10, "isSquare", "(I)Z"⟩
abbrev cX10_barOf : ByteArray := prog_12_method_18_code
def yX10_barOf : MethodName := ⟨RX10, "barOf", "(I)I"⟩
abbrev cX10_bars : ByteArray := prog_12_method_19_code
def yX10_bars : MethodName := ⟨RX10, "bars", "(I)I"⟩
abbrev cX10_cut : ByteArray := prog_12_method_20_code
def yX10_cut : MethodName := ⟨RX10, "cut", "(I)I"⟩
abbrev cX10_trySeason : ByteArray := prog_12_method_21_code
def yX10_trySeason : MethodName := ⟨RX10, "trySeason", "(II)V"⟩
abbrev cX10_season : ByteArray := prog_12_method_22_code
def yX10_season : MethodName := ⟨RX10, "season", "(I)I"⟩
abbrev cX10_isBlock : ByteArray := prog_12_method_23_code
def yX10_isBlock : MethodName := ⟨RX10, "isBlock", "(I)Z"⟩
abbrev cX10_isColumn : ByteArray := prog_12_method_24_code
def yX10_isColumn : MethodName := ⟨RX10, "isColumn", "(I)Z"⟩
abbrev cX10_blockAt : ByteArray := prog_12_method_25_code
def yX10_blockAt : MethodName := ⟨RX10, "blockAt", "(II)I"⟩
abbrev cX10_levelOf : ByteArray := prog_12_method_26_code
def yX10_levelOf : MethodName := ⟨RX10, "levelOf", "(I)I"⟩
abbrev cX10_loadOf : ByteArray := prog_12_method_27_code
def yX10_loadOf : MethodName := ⟨RX10, "loadOf", "(II)I"⟩
abbrev cX10_takeOut : ByteArray := prog_12_method_28_code
def yX10_takeOut : MethodName := ⟨RX10, "takeOut", "(II)V"⟩
abbrev cX10_goes : ByteArray := prog_12_method_29_code
def yX10_goes : MethodName := ⟨RX10, "goes", "(II)V"⟩
abbrev cX10_breakAll : ByteArray := prog_12_method_30_code
def yX10_breakAll : MethodName := ⟨RX10, "breakAll", "()V"⟩
abbrev cX10_lay : ByteArray := prog_12_method_31_code
def yX10_lay : MethodName := ⟨RX10, "lay", "(II)V"⟩
abbrev cX10_put : ByteArray := prog_12_method_32_code
def yX10_put : MethodName := ⟨RX10, "put", "(II)I"⟩
abbrev cX10_take : ByteArray := prog_12_method_33_code
def yX10_take : MethodName := ⟨RX10, "take", "(I)I"⟩
abbrev cX10_move : ByteArray := prog_12_method_34_code
def yX10_move : MethodName := ⟨RX10, "move", "(II)I"⟩
abbrev cX10_as : ByteArray := prog_12_method_35_code
def yX10_as : MethodName := ⟨RX10, "as", "(II)I"⟩
abbrev cX10_warmthOf : ByteArray := prog_12_method_36_code
def yX10_warmthOf : MethodName := ⟨RX10, "warmthOf", "(I)I"⟩
abbrev cX10_meltOf : ByteArray := prog_12_method_37_code
def yX10_meltOf : MethodName := ⟨RX10, "meltOf", "(III)I"⟩
abbrev cX10_allMelts : ByteArray := prog_12_method_38_code
def yX10_allMelts : MethodName := ⟨RX10, "allMelts", "()I"⟩
abbrev cX10_about : ByteArray := prog_12_method_39_code
def yX10_about : MethodName := ⟨RX10, "about", "(II)I"⟩
abbrev cX10_at : ByteArray := prog_12_method_40_code
def yX10_at : MethodName := ⟨RX10, "at", "(II)I"⟩
abbrev cX10_dust : ByteArray := prog_12_method_41_code
def yX10_dust : MethodName := ⟨RX10, "dust", "(II)I"⟩
abbrev cX10_cover : ByteArray := prog_12_method_42_code
def yX10_cover : MethodName := ⟨RX10, "cover", "(II)I"⟩
abbrev cX10_warmth : ByteArray := prog_12_method_43_code
def yX10_warmth : MethodName := ⟨RX10, "warmth", "(II)I"⟩
abbrev cX10_melts : ByteArray := prog_12_method_44_code
def yX10_melts : MethodName := ⟨RX10, "melts", "()I"⟩
abbrev cX10_weekGoes : ByteArray := prog_12_method_45_code
def yX10_weekGoes : MethodName := ⟨RX10, "weekGoes", "()V"⟩
abbrev cX10_allWeight : ByteArray := prog_12_method_46_code
def yX10_allWeight : MethodName := ⟨RX10, "allWeight", "()I"⟩
abbrev cX10_weeks : ByteArray := prog_12_method_47_code
def yX10_weeks : MethodName := ⟨RX10, "weeks", "(I)I"⟩
abbrev cX10_lays : ByteArray := prog_12_method_48_code
def yX10_lays : MethodName := ⟨RX10, "lays", "([IZ)V"⟩
abbrev cX10_layAside : ByteArray := prog_12_method_49_code
def yX10_layAside : MethodName := ⟨RX10, "layAside", "(Z)V"⟩
abbrev cX10_after : ByteArray := prog_12_method_50_code
def yX10_after : MethodName := ⟨RX10, "after", "(I)I"⟩
abbrev cX10_lasts : ByteArray := prog_12_method_51_code
def yX10_lasts : MethodName := ⟨RX10, "lasts", "(I)I"⟩
abbrev cX10_findDust : ByteArray := prog_12_method_52_code
def yX10_findDust : MethodName := ⟨RX10, "findDust", "(I)I"⟩
abbrev cX10_best : ByteArray := prog_12_method_53_code
def yX10_best : MethodName := ⟨RX10, "best", "(II)I"⟩
abbrev cX10_order : ByteArray := prog_12_method_54_code
def yX10_order : MethodName := ⟨RX10, "order", "(IIIII)I"⟩
abbrev cX10_comesOf : ByteArray := prog_12_method_55_code
def yX10_comesOf : MethodName := ⟨RX10, "comesOf", "(II)I"⟩
abbrev cX10_isOfGrade : ByteArray := prog_12_method_56_code
def yX10_isOfGrade : MethodName := ⟨RX10, "isOfGrade", "(II)Z"⟩
abbrev cX10_whyNot : ByteArray := prog_12_method_57_code
def yX10_whyNot : MethodName := ⟨RX10, "whyNot", "(II)I"⟩
abbrev cX10_isOrder : ByteArray := prog_12_method_58_code
def yX10_isOrder : MethodName := ⟨RX10, "isOrder", "(I)Z"⟩
abbrev cX10_why : ByteArray := prog_12_method_59_code
def yX10_why : MethodName := ⟨RX10, "why", "(II)I"⟩
abbrev cX10_serve : ByteArray := prog_12_method_60_code
def yX10_serve : MethodName := ⟨RX10, "serve", "(II)I"⟩
abbrev cX10_trySales : ByteArray := prog_12_method_61_code
def yX10_trySales : MethodName := ⟨RX10, "trySales", "(II)V"⟩
abbrev cX10_sales : ByteArray := prog_12_method_62_code
def yX10_sales : MethodName := ⟨RX10, "sales", "(I)I"⟩
abbrev cX10_isStation : ByteArray := prog_12_method_63_code
def yX10_isStation : MethodName := ⟨RX10, "isStation", "(III)Z"⟩
abbrev cX10_tellStation : ByteArray := prog_12_method_64_code
def yX10_tellStation : MethodName := ⟨RX10, "tellStation", "(IIII)V"⟩
abbrev cX10_station : ByteArray := prog_12_method_65_code
def yX10_station : MethodName := ⟨RX10, "station", "(III)I"⟩
abbrev cX10_change : ByteArray := prog_12_method_66_code
def yX10_change : MethodName := ⟨RX10, "change", "(IIII)I"⟩
abbrev cX10_costOf : ByteArray := prog_12_method_67_code
def yX10_costOf : MethodName := ⟨RX10, "costOf", "(IIII)I"⟩
abbrev cX10_icing : ByteArray := prog_12_method_68_code
def yX10_icing : MethodName := ⟨RX10, "icing", "(III)I"⟩
abbrev cX10_ledger : ByteArray := prog_12_method_69_code
def yX10_ledger : MethodName := ⟨RX10, "ledger", "(I)I"⟩
abbrev cX10_tell : ByteArray := prog_12_method_70_code
def yX10_tell : MethodName := ⟨RX10, "tell", "(I)I"⟩
abbrev cX10_check : ByteArray := prog_12_method_71_code
def yX10_check : MethodName := ⟨RX10, "check", "(I)I"⟩
abbrev cX10_placed : ByteArray := prog_12_method_72_code
def yX10_placed : MethodName := ⟨RX10, "placed", "(I)I"⟩
abbrev cX10_count : ByteArray := prog_12_method_73_code
def yX10_count : MethodName := ⟨RX10, "count", "(I)I"⟩
abbrev cX10_found : ByteArray := prog_12_method_74_code
def yX10_found : MethodName := ⟨RX10, "found", "(I)I"⟩
def RJ13 : String := "java/lang/Long"
def TJ13 : u_T := fun k => match k with
  | _ => ("", "", "", false)
def tyJ13 : Nat → FieldType := fun k => match k with
  | _ => .int
theorem nmJ13 : ∀ a, a < 0 → ∀ b, b < 0 → a ≠ b → (TJ13 a).2.1 ≠ (TJ13 b).2.1 := by decide +kernel
theorem tyJ13_ok : ∀ k, k < 0 → parseFieldDescriptor (TJ13 k).2.2.1 = some (tyJ13 k) := by decide +kernel
abbrev cJ13_bitCount_95d88 : ByteArray := prog_13_method_50_code
def yJ13_bitCount_95d88 : MethodName := ⟨RJ13, "bitCount", "(J)I"⟩
def RJ9 : String := "java/lang/Math"
def TJ9 : u_T := fun k => match k with
  | _ => ("", "", "", false)
def tyJ9 : Nat → FieldType := fun k => match k with
  | _ => .int
theorem nmJ9 : ∀ a, a < 0 → ∀ b, b < 0 → a ≠ b → (TJ9 a).2.1 ≠ (TJ9 b).2.1 := by decide +kernel
theorem tyJ9_ok : ∀ k, k < 0 → parseFieldDescriptor (TJ9 k).2.2.1 = some (tyJ9 k) := by decide +kernel
abbrev cJ9_max_7cf53 : ByteArray := prog_14_method_65_code
def yJ9_max_7cf53 : MethodName := ⟨RJ9, "max", "(II)I"⟩
abbrev cJ9_min_7cf53 : ByteArray := prog_14_method_69_code
def yJ9_min_7cf53 : MethodName := ⟨RJ9, "min", "(II)I"⟩
def RJ10 : String := "java/lang/System"
def TJ10 : u_T := fun k => match k with
  | _ => ("", "", "", false)
def tyJ10 : Nat → FieldType := fun k => match k with
  | _ => .int
theorem nmJ10 : ∀ a, a < 0 → ∀ b, b < 0 → a ≠ b → (TJ10 a).2.1 ≠ (TJ10 b).2.1 := by decide +kernel
theorem tyJ10_ok : ∀ k, k < 0 → parseFieldDescriptor (TJ10 k).2.2.1 = some (tyJ10 k) := by decide +kernel
def RJ7 : String := "java/util/Arrays"
def TJ7 : u_T := fun k => match k with
  | _ => ("", "", "", false)
def tyJ7 : Nat → FieldType := fun k => match k with
  | _ => .int
theorem nmJ7 : ∀ a, a < 0 → ∀ b, b < 0 → a ≠ b → (TJ7 a).2.1 ≠ (TJ7 b).2.1 := by decide +kernel
theorem tyJ7_ok : ∀ k, k < 0 → parseFieldDescriptor (TJ7 k).2.2.1 = some (tyJ7 k) := by decide +kernel
abbrev cJ7_fill_53178 : ByteArray := prog_16_method_103_code
def yJ7_fill_53178 : MethodName := ⟨RJ7, "fill", "([II)V"⟩
def RL : String := "IceHouseLaw"
abbrev cL_law : ByteArray := code
def yL_law : MethodName := ⟨RL, "law", "([I)Z"⟩
abbrev vwCl : List vw_C := [(RX0, TX0, 7), (RX1, TX1, 13), (RX2, TX2, 3), (RX3, TX3, 10), (RX4, TX4, 6), (RX5, TX5, 15), (RX6, TX6, 8), (RX7, TX7, 3), (RX8, TX8, 2), (RX9, TX9, 11), (RX10, TX10, 48)]
