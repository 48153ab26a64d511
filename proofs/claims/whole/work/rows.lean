section
-- ===== PART A: goes FIRST, ahead of the names: the tables' words, and 'selects' of the private methods out of them =====
/-- a private method of a class that the tables say can be made, by its rows of tables_1 -/
def lw_okq (q : MethodName × Nat) : Prop := (q.1.cls ≠ "java/lang/invoke/MethodHandle" ∧ q.1.cls ≠ "java/lang/invoke/VarHandle") ∧ Cond.instantiable q.1.cls q.2 ∈ tables_1 ∧ Cond.privateMethod q.1 ∈ tables_1 ∧ Cond.instanceMethod q.1 ∈ tables_1
theorem lw_p0 : lw_okq (⟨"IceHouse", "finding", "(I)I"⟩, 11) := ⟨⟨by decide +kernel, by decide +kernel⟩, List.mem_of_getElem? (i := 17) (by decide +kernel), List.mem_of_getElem? (i := 375) (by decide +kernel), List.mem_of_getElem? (i := 376) (by decide +kernel)⟩
theorem lw_p1 : lw_okq (⟨"IceHouse$Lake", "milk", "(I)I"⟩, 3) := ⟨⟨by decide +kernel, by decide +kernel⟩, List.mem_of_getElem? (i := 25) (by decide +kernel), List.mem_of_getElem? (i := 492) (by decide +kernel), List.mem_of_getElem? (i := 493) (by decide +kernel)⟩
theorem lw_p2 : lw_okq (⟨"IceHouse$Lake", "openCell", "(I)V"⟩, 3) := ⟨⟨by decide +kernel, by decide +kernel⟩, List.mem_of_getElem? (i := 25) (by decide +kernel), List.mem_of_getElem? (i := 509) (by decide +kernel), List.mem_of_getElem? (i := 510) (by decide +kernel)⟩
theorem lw_p3 : lw_okq (⟨"IceHouse$Waiting", "hasTwins", "()Z"⟩, 2) := ⟨⟨by decide +kernel, by decide +kernel⟩, List.mem_of_getElem? (i := 320) (by decide +kernel), List.mem_of_getElem? (i := 525) (by decide +kernel), List.mem_of_getElem? (i := 526) (by decide +kernel)⟩
theorem lw_p4 : lw_okq (⟨"IceHouse$Season", "longestBehind", "(I)I"⟩, 7) := ⟨⟨by decide +kernel, by decide +kernel⟩, List.mem_of_getElem? (i := 46) (by decide +kernel), List.mem_of_getElem? (i := 543) (by decide +kernel), List.mem_of_getElem? (i := 544) (by decide +kernel)⟩
theorem lw_p5 : lw_okq (⟨"IceHouse$Season", "mayFollow", "(II)Z"⟩, 7) := ⟨⟨by decide +kernel, by decide +kernel⟩, List.mem_of_getElem? (i := 46) (by decide +kernel), List.mem_of_getElem? (i := 547) (by decide +kernel), List.mem_of_getElem? (i := 548) (by decide +kernel)⟩
theorem lw_p6 : lw_okq (⟨"IceHouse$Season", "openCells", "(I)J"⟩, 7) := ⟨⟨by decide +kernel, by decide +kernel⟩, List.mem_of_getElem? (i := 46) (by decide +kernel), List.mem_of_getElem? (i := 551) (by decide +kernel), List.mem_of_getElem? (i := 552) (by decide +kernel)⟩
theorem lw_p7 : lw_okq (⟨"IceHouse$Season", "walk", "()V"⟩, 7) := ⟨⟨by decide +kernel, by decide +kernel⟩, List.mem_of_getElem? (i := 46) (by decide +kernel), List.mem_of_getElem? (i := 559) (by decide +kernel), List.mem_of_getElem? (i := 560) (by decide +kernel)⟩
theorem lw_p8 : lw_okq (⟨"IceHouse$Season", "firstOfLongest", "(I)I"⟩, 7) := ⟨⟨by decide +kernel, by decide +kernel⟩, List.mem_of_getElem? (i := 46) (by decide +kernel), List.mem_of_getElem? (i := 563) (by decide +kernel), List.mem_of_getElem? (i := 564) (by decide +kernel)⟩
theorem lw_p9 : lw_okq (⟨"IceHouse$House", "breakShelves", "(I)V"⟩, 13) := ⟨⟨by decide +kernel, by decide +kernel⟩, List.mem_of_getElem? (i := 99) (by decide +kernel), List.mem_of_getElem? (i := 591) (by decide +kernel), List.mem_of_getElem? (i := 592) (by decide +kernel)⟩
theorem lw_p10 : lw_okq (⟨"IceHouse$House", "breaksAt", "(II)Z"⟩, 13) := ⟨⟨by decide +kernel, by decide +kernel⟩, List.mem_of_getElem? (i := 99) (by decide +kernel), List.mem_of_getElem? (i := 599) (by decide +kernel), List.mem_of_getElem? (i := 600) (by decide +kernel)⟩
theorem lw_p11 : lw_okq (⟨"IceHouse$House", "removeAt", "(II)V"⟩, 13) := ⟨⟨by decide +kernel, by decide +kernel⟩, List.mem_of_getElem? (i := 99) (by decide +kernel), List.mem_of_getElem? (i := 607) (by decide +kernel), List.mem_of_getElem? (i := 608) (by decide +kernel)⟩
theorem lw_p12 : lw_okq (⟨"IceHouse$House", "letGo", "(I)V"⟩, 13) := ⟨⟨by decide +kernel, by decide +kernel⟩, List.mem_of_getElem? (i := 99) (by decide +kernel), List.mem_of_getElem? (i := 611) (by decide +kernel), List.mem_of_getElem? (i := 612) (by decide +kernel)⟩
theorem lw_p13 : lw_okq (⟨"IceHouse$Shelter", "tenthsAt", "(I)I"⟩, 3) := ⟨⟨by decide +kernel, by decide +kernel⟩, List.mem_of_getElem? (i := 76) (by decide +kernel), List.mem_of_getElem? (i := 670) (by decide +kernel), List.mem_of_getElem? (i := 671) (by decide +kernel)⟩
theorem lw_p14 : lw_okq (⟨"IceHouse$House", "meltBehind", "(III)I"⟩, 13) := ⟨⟨by decide +kernel, by decide +kernel⟩, List.mem_of_getElem? (i := 99) (by decide +kernel), List.mem_of_getElem? (i := 677) (by decide +kernel), List.mem_of_getElem? (i := 678) (by decide +kernel)⟩
theorem lw_p15 : lw_okq (⟨"IceHouse$House", "openTenths", "(II)I"⟩, 13) := ⟨⟨by decide +kernel, by decide +kernel⟩, List.mem_of_getElem? (i := 99) (by decide +kernel), List.mem_of_getElem? (i := 686) (by decide +kernel), List.mem_of_getElem? (i := 687) (by decide +kernel)⟩
def lw_privs_1 : List (MethodName × Nat) := [(⟨"IceHouse", "finding", "(I)I"⟩, 11), (⟨"IceHouse$Lake", "milk", "(I)I"⟩, 3), (⟨"IceHouse$Lake", "openCell", "(I)V"⟩, 3), (⟨"IceHouse$Waiting", "hasTwins", "()Z"⟩, 2), (⟨"IceHouse$Season", "longestBehind", "(I)I"⟩, 7), (⟨"IceHouse$Season", "mayFollow", "(II)Z"⟩, 7), (⟨"IceHouse$Season", "openCells", "(I)J"⟩, 7), (⟨"IceHouse$Season", "walk", "()V"⟩, 7), (⟨"IceHouse$Season", "firstOfLongest", "(I)I"⟩, 7), (⟨"IceHouse$House", "breakShelves", "(I)V"⟩, 13), (⟨"IceHouse$House", "breaksAt", "(II)Z"⟩, 13), (⟨"IceHouse$House", "removeAt", "(II)V"⟩, 13), (⟨"IceHouse$House", "letGo", "(I)V"⟩, 13), (⟨"IceHouse$Shelter", "tenthsAt", "(I)I"⟩, 3), (⟨"IceHouse$House", "meltBehind", "(III)I"⟩, 13), (⟨"IceHouse$House", "openTenths", "(II)I"⟩, 13)]
theorem lw_r1 : ∀ q ∈ lw_privs_1, lw_okq q := List.forall_mem_cons.mpr ⟨lw_p0, List.forall_mem_cons.mpr ⟨lw_p1, List.forall_mem_cons.mpr ⟨lw_p2, List.forall_mem_cons.mpr ⟨lw_p3, List.forall_mem_cons.mpr ⟨lw_p4, List.forall_mem_cons.mpr ⟨lw_p5, List.forall_mem_cons.mpr ⟨lw_p6, List.forall_mem_cons.mpr ⟨lw_p7, List.forall_mem_cons.mpr ⟨lw_p8, List.forall_mem_cons.mpr ⟨lw_p9, List.forall_mem_cons.mpr ⟨lw_p10, List.forall_mem_cons.mpr ⟨lw_p11, List.forall_mem_cons.mpr ⟨lw_p12, List.forall_mem_cons.mpr ⟨lw_p13, List.forall_mem_cons.mpr ⟨lw_p14, List.forall_mem_cons.mpr ⟨lw_p15, fun _ h => absurd h List.not_mem_nil⟩⟩⟩⟩⟩⟩⟩⟩⟩⟩⟩⟩⟩⟩⟩⟩
theorem lw_p16 : lw_okq (⟨"IceHouse$House", "sideTenths", "(II)I"⟩, 13) := ⟨⟨by decide +kernel, by decide +kernel⟩, List.mem_of_getElem? (i := 99) (by decide +kernel), List.mem_of_getElem? (i := 690) (by decide +kernel), List.mem_of_getElem? (i := 691) (by decide +kernel)⟩
theorem lw_p17 : lw_okq (⟨"IceHouse$House", "meltAll", "()V"⟩, 13) := ⟨⟨by decide +kernel, by decide +kernel⟩, List.mem_of_getElem? (i := 99) (by decide +kernel), List.mem_of_getElem? (i := 735) (by decide +kernel), List.mem_of_getElem? (i := 736) (by decide +kernel)⟩
theorem lw_p18 : lw_okq (⟨"IceHouse$House", "dropMelted", "(I)V"⟩, 13) := ⟨⟨by decide +kernel, by decide +kernel⟩, List.mem_of_getElem? (i := 99) (by decide +kernel), List.mem_of_getElem? (i := 740) (by decide +kernel), List.mem_of_getElem? (i := 741) (by decide +kernel)⟩
theorem lw_p19 : lw_okq (⟨"IceHouse$DustPlan", "clearTables", "()V"⟩, 7) := ⟨⟨by decide +kernel, by decide +kernel⟩, List.mem_of_getElem? (i := 161) (by decide +kernel), List.mem_of_getElem? (i := 774) (by decide +kernel), List.mem_of_getElem? (i := 775) (by decide +kernel)⟩
theorem lw_p20 : lw_okq (⟨"IceHouse$DustPlan", "addColumn", "(LIceHouse$House;III)V"⟩, 7) := ⟨⟨by decide +kernel, by decide +kernel⟩, List.mem_of_getElem? (i := 161) (by decide +kernel), List.mem_of_getElem? (i := 782) (by decide +kernel), List.mem_of_getElem? (i := 783) (by decide +kernel)⟩
theorem lw_p21 : lw_okq (⟨"IceHouse$DustPlan", "trySides", "(III)V"⟩, 7) := ⟨⟨by decide +kernel, by decide +kernel⟩, List.mem_of_getElem? (i := 161) (by decide +kernel), List.mem_of_getElem? (i := 788) (by decide +kernel), List.mem_of_getElem? (i := 789) (by decide +kernel)⟩
theorem lw_p22 : lw_okq (⟨"IceHouse$DustPlan", "fillFewest", "(II)V"⟩, 7) := ⟨⟨by decide +kernel, by decide +kernel⟩, List.mem_of_getElem? (i := 161) (by decide +kernel), List.mem_of_getElem? (i := 792) (by decide +kernel), List.mem_of_getElem? (i := 793) (by decide +kernel)⟩
theorem lw_p23 : lw_okq (⟨"IceHouse$DustPlan", "sideMelts", "(IIII)I"⟩, 7) := ⟨⟨by decide +kernel, by decide +kernel⟩, List.mem_of_getElem? (i := 161) (by decide +kernel), List.mem_of_getElem? (i := 796) (by decide +kernel), List.mem_of_getElem? (i := 797) (by decide +kernel)⟩
theorem lw_p24 : lw_okq (⟨"IceHouse$DustPlan", "keep", "(IIIII)V"⟩, 7) := ⟨⟨by decide +kernel, by decide +kernel⟩, List.mem_of_getElem? (i := 161) (by decide +kernel), List.mem_of_getElem? (i := 801) (by decide +kernel), List.mem_of_getElem? (i := 802) (by decide +kernel)⟩
theorem lw_p25 : lw_okq (⟨"IceHouse$Orders", "whatComes", "(II)I"⟩, 10) := ⟨⟨by decide +kernel, by decide +kernel⟩, List.mem_of_getElem? (i := 193) (by decide +kernel), List.mem_of_getElem? (i := 831) (by decide +kernel), List.mem_of_getElem? (i := 832) (by decide +kernel)⟩
theorem lw_p26 : lw_okq (⟨"IceHouse$SalesPlan", "fillFits", "(I)Z"⟩, 15) := ⟨⟨by decide +kernel, by decide +kernel⟩, List.mem_of_getElem? (i := 235) (by decide +kernel), List.mem_of_getElem? (i := 864) (by decide +kernel), List.mem_of_getElem? (i := 865) (by decide +kernel)⟩
theorem lw_p27 : lw_okq (⟨"IceHouse$SalesPlan", "enlist", "(I)V"⟩, 15) := ⟨⟨by decide +kernel, by decide +kernel⟩, List.mem_of_getElem? (i := 235) (by decide +kernel), List.mem_of_getElem? (i := 873) (by decide +kernel), List.mem_of_getElem? (i := 874) (by decide +kernel)⟩
theorem lw_p28 : lw_okq (⟨"IceHouse$SalesPlan", "keepIfBetter", "(II)V"⟩, 15) := ⟨⟨by decide +kernel, by decide +kernel⟩, List.mem_of_getElem? (i := 235) (by decide +kernel), List.mem_of_getElem? (i := 880) (by decide +kernel), List.mem_of_getElem? (i := 881) (by decide +kernel)⟩
theorem lw_p29 : lw_okq (⟨"IceHouse$SalesPlan", "mayImprove", "(II)Z"⟩, 15) := ⟨⟨by decide +kernel, by decide +kernel⟩, List.mem_of_getElem? (i := 235) (by decide +kernel), List.mem_of_getElem? (i := 885) (by decide +kernel), List.mem_of_getElem? (i := 886) (by decide +kernel)⟩
theorem lw_p30 : lw_okq (⟨"IceHouse$SalesPlan", "dearest", "(I)I"⟩, 15) := ⟨⟨by decide +kernel, by decide +kernel⟩, List.mem_of_getElem? (i := 235) (by decide +kernel), List.mem_of_getElem? (i := 889) (by decide +kernel), List.mem_of_getElem? (i := 890) (by decide +kernel)⟩
theorem lw_p31 : lw_okq (⟨"IceHouse$SalesPlan", "mayServe", "(II)Z"⟩, 15) := ⟨⟨by decide +kernel, by decide +kernel⟩, List.mem_of_getElem? (i := 235) (by decide +kernel), List.mem_of_getElem? (i := 893) (by decide +kernel), List.mem_of_getElem? (i := 894) (by decide +kernel)⟩
def lw_privs_2 : List (MethodName × Nat) := [(⟨"IceHouse$House", "sideTenths", "(II)I"⟩, 13), (⟨"IceHouse$House", "meltAll", "()V"⟩, 13), (⟨"IceHouse$House", "dropMelted", "(I)V"⟩, 13), (⟨"IceHouse$DustPlan", "clearTables", "()V"⟩, 7), (⟨"IceHouse$DustPlan", "addColumn", "(LIceHouse$House;III)V"⟩, 7), (⟨"IceHouse$DustPlan", "trySides", "(III)V"⟩, 7), (⟨"IceHouse$DustPlan", "fillFewest", "(II)V"⟩, 7), (⟨"IceHouse$DustPlan", "sideMelts", "(IIII)I"⟩, 7), (⟨"IceHouse$DustPlan", "keep", "(IIIII)V"⟩, 7), (⟨"IceHouse$Orders", "whatComes", "(II)I"⟩, 10), (⟨"IceHouse$SalesPlan", "fillFits", "(I)Z"⟩, 15), (⟨"IceHouse$SalesPlan", "enlist", "(I)V"⟩, 15), (⟨"IceHouse$SalesPlan", "keepIfBetter", "(II)V"⟩, 15), (⟨"IceHouse$SalesPlan", "mayImprove", "(II)Z"⟩, 15), (⟨"IceHouse$SalesPlan", "dearest", "(I)I"⟩, 15), (⟨"IceHouse$SalesPlan", "mayServe", "(II)Z"⟩, 15)]
theorem lw_r2 : ∀ q ∈ lw_privs_2, lw_okq q := List.forall_mem_cons.mpr ⟨lw_p16, List.forall_mem_cons.mpr ⟨lw_p17, List.forall_mem_cons.mpr ⟨lw_p18, List.forall_mem_cons.mpr ⟨lw_p19, List.forall_mem_cons.mpr ⟨lw_p20, List.forall_mem_cons.mpr ⟨lw_p21, List.forall_mem_cons.mpr ⟨lw_p22, List.forall_mem_cons.mpr ⟨lw_p23, List.forall_mem_cons.mpr ⟨lw_p24, List.forall_mem_cons.mpr ⟨lw_p25, List.forall_mem_cons.mpr ⟨lw_p26, List.forall_mem_cons.mpr ⟨lw_p27, List.forall_mem_cons.mpr ⟨lw_p28, List.forall_mem_cons.mpr ⟨lw_p29, List.forall_mem_cons.mpr ⟨lw_p30, List.forall_mem_cons.mpr ⟨lw_p31, fun _ h => absurd h List.not_mem_nil⟩⟩⟩⟩⟩⟩⟩⟩⟩⟩⟩⟩⟩⟩⟩⟩
theorem lw_p32 : lw_okq (⟨"IceHouse$SalesPlan", "push", "(III)V"⟩, 15) := ⟨⟨by decide +kernel, by decide +kernel⟩, List.mem_of_getElem? (i := 235) (by decide +kernel), List.mem_of_getElem? (i := 898) (by decide +kernel), List.mem_of_getElem? (i := 899) (by decide +kernel)⟩
theorem lw_p33 : lw_okq (⟨"IceHouse$SalesPlan", "pop", "(II)V"⟩, 15) := ⟨⟨by decide +kernel, by decide +kernel⟩, List.mem_of_getElem? (i := 235) (by decide +kernel), List.mem_of_getElem? (i := 902) (by decide +kernel), List.mem_of_getElem? (i := 903) (by decide +kernel)⟩
theorem lw_p34 : lw_okq (⟨"IceHouse$Railway", "planAt", "(III)V"⟩, 6) := ⟨⟨by decide +kernel, by decide +kernel⟩, List.mem_of_getElem? (i := 292) (by decide +kernel), List.mem_of_getElem? (i := 935) (by decide +kernel), List.mem_of_getElem? (i := 936) (by decide +kernel)⟩
theorem lw_p35 : lw_okq (⟨"IceHouseModel", "finding", "(I)I"⟩, 48) := ⟨⟨by decide +kernel, by decide +kernel⟩, List.mem_of_getElem? (i := 983) (by decide +kernel), List.mem_of_getElem? (i := 1141) (by decide +kernel), List.mem_of_getElem? (i := 1142) (by decide +kernel)⟩
theorem lw_p36 : lw_okq (⟨"IceHouseModel", "clean", "(I)V"⟩, 48) := ⟨⟨by decide +kernel, by decide +kernel⟩, List.mem_of_getElem? (i := 983) (by decide +kernel), List.mem_of_getElem? (i := 1146) (by decide +kernel), List.mem_of_getElem? (i := 1147) (by decide +kernel)⟩
theorem lw_p37 : lw_okq (⟨"IceHouseModel", "bearing", "(I)I"⟩, 48) := ⟨⟨by decide +kernel, by decide +kernel⟩, List.mem_of_getElem? (i := 983) (by decide +kernel), List.mem_of_getElem? (i := 1152) (by decide +kernel), List.mem_of_getElem? (i := 1153) (by decide +kernel)⟩
theorem lw_p38 : lw_okq (⟨"IceHouseModel", "flood", "(II)V"⟩, 48) := ⟨⟨by decide +kernel, by decide +kernel⟩, List.mem_of_getElem? (i := 983) (by decide +kernel), List.mem_of_getElem? (i := 1179) (by decide +kernel), List.mem_of_getElem? (i := 1180) (by decide +kernel)⟩
theorem lw_p39 : lw_okq (⟨"IceHouseModel", "barOf", "(I)I"⟩, 48) := ⟨⟨by decide +kernel, by decide +kernel⟩, List.mem_of_getElem? (i := 983) (by decide +kernel), List.mem_of_getElem? (i := 1200) (by decide +kernel), List.mem_of_getElem? (i := 1201) (by decide +kernel)⟩
theorem lw_p40 : lw_okq (⟨"IceHouseModel", "trySeason", "(II)V"⟩, 48) := ⟨⟨by decide +kernel, by decide +kernel⟩, List.mem_of_getElem? (i := 983) (by decide +kernel), List.mem_of_getElem? (i := 1212) (by decide +kernel), List.mem_of_getElem? (i := 1213) (by decide +kernel)⟩
theorem lw_p41 : lw_okq (⟨"IceHouseModel", "isBlock", "(I)Z"⟩, 48) := ⟨⟨by decide +kernel, by decide +kernel⟩, List.mem_of_getElem? (i := 983) (by decide +kernel), List.mem_of_getElem? (i := 1220) (by decide +kernel), List.mem_of_getElem? (i := 1221) (by decide +kernel)⟩
theorem lw_p42 : lw_okq (⟨"IceHouseModel", "lay", "(II)V"⟩, 48) := ⟨⟨by decide +kernel, by decide +kernel⟩, List.mem_of_getElem? (i := 983) (by decide +kernel), List.mem_of_getElem? (i := 1227) (by decide +kernel), List.mem_of_getElem? (i := 1228) (by decide +kernel)⟩
theorem lw_p43 : lw_okq (⟨"IceHouseModel", "breakAll", "()V"⟩, 48) := ⟨⟨by decide +kernel, by decide +kernel⟩, List.mem_of_getElem? (i := 983) (by decide +kernel), List.mem_of_getElem? (i := 1231) (by decide +kernel), List.mem_of_getElem? (i := 1232) (by decide +kernel)⟩
theorem lw_p44 : lw_okq (⟨"IceHouseModel", "blockAt", "(II)I"⟩, 48) := ⟨⟨by decide +kernel, by decide +kernel⟩, List.mem_of_getElem? (i := 983) (by decide +kernel), List.mem_of_getElem? (i := 1235) (by decide +kernel), List.mem_of_getElem? (i := 1236) (by decide +kernel)⟩
theorem lw_p45 : lw_okq (⟨"IceHouseModel", "loadOf", "(II)I"⟩, 48) := ⟨⟨by decide +kernel, by decide +kernel⟩, List.mem_of_getElem? (i := 983) (by decide +kernel), List.mem_of_getElem? (i := 1239) (by decide +kernel), List.mem_of_getElem? (i := 1240) (by decide +kernel)⟩
theorem lw_p46 : lw_okq (⟨"IceHouseModel", "goes", "(II)V"⟩, 48) := ⟨⟨by decide +kernel, by decide +kernel⟩, List.mem_of_getElem? (i := 983) (by decide +kernel), List.mem_of_getElem? (i := 1243) (by decide +kernel), List.mem_of_getElem? (i := 1244) (by decide +kernel)⟩
theorem lw_p47 : lw_okq (⟨"IceHouseModel", "takeOut", "(II)V"⟩, 48) := ⟨⟨by decide +kernel, by decide +kernel⟩, List.mem_of_getElem? (i := 983) (by decide +kernel), List.mem_of_getElem? (i := 1247) (by decide +kernel), List.mem_of_getElem? (i := 1248) (by decide +kernel)⟩
def lw_privs_3 : List (MethodName × Nat) := [(⟨"IceHouse$SalesPlan", "push", "(III)V"⟩, 15), (⟨"IceHouse$SalesPlan", "pop", "(II)V"⟩, 15), (⟨"IceHouse$Railway", "planAt", "(III)V"⟩, 6), (⟨"IceHouseModel", "finding", "(I)I"⟩, 48), (⟨"IceHouseModel", "clean", "(I)V"⟩, 48), (⟨"IceHouseModel", "bearing", "(I)I"⟩, 48), (⟨"IceHouseModel", "flood", "(II)V"⟩, 48), (⟨"IceHouseModel", "barOf", "(I)I"⟩, 48), (⟨"IceHouseModel", "trySeason", "(II)V"⟩, 48), (⟨"IceHouseModel", "isBlock", "(I)Z"⟩, 48), (⟨"IceHouseModel", "lay", "(II)V"⟩, 48), (⟨"IceHouseModel", "breakAll", "()V"⟩, 48), (⟨"IceHouseModel", "blockAt", "(II)I"⟩, 48), (⟨"IceHouseModel", "loadOf", "(II)I"⟩, 48), (⟨"IceHouseModel", "goes", "(II)V"⟩, 48), (⟨"IceHouseModel", "takeOut", "(II)V"⟩, 48)]
theorem lw_r3 : ∀ q ∈ lw_privs_3, lw_okq q := List.forall_mem_cons.mpr ⟨lw_p32, List.forall_mem_cons.mpr ⟨lw_p33, List.forall_mem_cons.mpr ⟨lw_p34, List.forall_mem_cons.mpr ⟨lw_p35, List.forall_mem_cons.mpr ⟨lw_p36, List.forall_mem_cons.mpr ⟨lw_p37, List.forall_mem_cons.mpr ⟨lw_p38, List.forall_mem_cons.mpr ⟨lw_p39, List.forall_mem_cons.mpr ⟨lw_p40, List.forall_mem_cons.mpr ⟨lw_p41, List.forall_mem_cons.mpr ⟨lw_p42, List.forall_mem_cons.mpr ⟨lw_p43, List.forall_mem_cons.mpr ⟨lw_p44, List.forall_mem_cons.mpr ⟨lw_p45, List.forall_mem_cons.mpr ⟨lw_p46, List.forall_mem_cons.mpr ⟨lw_p47, fun _ h => absurd h List.not_mem_nil⟩⟩⟩⟩⟩⟩⟩⟩⟩⟩⟩⟩⟩⟩⟩⟩
theorem lw_p48 : lw_okq (⟨"IceHouseModel", "levelOf", "(I)I"⟩, 48) := ⟨⟨by decide +kernel, by decide +kernel⟩, List.mem_of_getElem? (i := 983) (by decide +kernel), List.mem_of_getElem? (i := 1251) (by decide +kernel), List.mem_of_getElem? (i := 1252) (by decide +kernel)⟩
theorem lw_p49 : lw_okq (⟨"IceHouseModel", "warmthOf", "(I)I"⟩, 48) := ⟨⟨by decide +kernel, by decide +kernel⟩, List.mem_of_getElem? (i := 983) (by decide +kernel), List.mem_of_getElem? (i := 1271) (by decide +kernel), List.mem_of_getElem? (i := 1272) (by decide +kernel)⟩
theorem lw_p50 : lw_okq (⟨"IceHouseModel", "meltOf", "(III)I"⟩, 48) := ⟨⟨by decide +kernel, by decide +kernel⟩, List.mem_of_getElem? (i := 983) (by decide +kernel), List.mem_of_getElem? (i := 1275) (by decide +kernel), List.mem_of_getElem? (i := 1276) (by decide +kernel)⟩
theorem lw_p51 : lw_okq (⟨"IceHouseModel", "allMelts", "()I"⟩, 48) := ⟨⟨by decide +kernel, by decide +kernel⟩, List.mem_of_getElem? (i := 983) (by decide +kernel), List.mem_of_getElem? (i := 1299) (by decide +kernel), List.mem_of_getElem? (i := 1300) (by decide +kernel)⟩
theorem lw_p52 : lw_okq (⟨"IceHouseModel", "weekGoes", "()V"⟩, 48) := ⟨⟨by decide +kernel, by decide +kernel⟩, List.mem_of_getElem? (i := 983) (by decide +kernel), List.mem_of_getElem? (i := 1307) (by decide +kernel), List.mem_of_getElem? (i := 1308) (by decide +kernel)⟩
theorem lw_p53 : lw_okq (⟨"IceHouseModel", "allWeight", "()I"⟩, 48) := ⟨⟨by decide +kernel, by decide +kernel⟩, List.mem_of_getElem? (i := 983) (by decide +kernel), List.mem_of_getElem? (i := 1311) (by decide +kernel), List.mem_of_getElem? (i := 1312) (by decide +kernel)⟩
theorem lw_p54 : lw_okq (⟨"IceHouseModel", "layAside", "(Z)V"⟩, 48) := ⟨⟨by decide +kernel, by decide +kernel⟩, List.mem_of_getElem? (i := 983) (by decide +kernel), List.mem_of_getElem? (i := 1319) (by decide +kernel), List.mem_of_getElem? (i := 1320) (by decide +kernel)⟩
theorem lw_p55 : lw_okq (⟨"IceHouseModel", "lays", "([IZ)V"⟩, 48) := ⟨⟨by decide +kernel, by decide +kernel⟩, List.mem_of_getElem? (i := 983) (by decide +kernel), List.mem_of_getElem? (i := 1323) (by decide +kernel), List.mem_of_getElem? (i := 1324) (by decide +kernel)⟩
theorem lw_p56 : lw_okq (⟨"IceHouseModel", "findDust", "(I)I"⟩, 48) := ⟨⟨by decide +kernel, by decide +kernel⟩, List.mem_of_getElem? (i := 983) (by decide +kernel), List.mem_of_getElem? (i := 1336) (by decide +kernel), List.mem_of_getElem? (i := 1337) (by decide +kernel)⟩
theorem lw_p57 : lw_okq (⟨"IceHouseModel", "isOrder", "(I)Z"⟩, 48) := ⟨⟨by decide +kernel, by decide +kernel⟩, List.mem_of_getElem? (i := 983) (by decide +kernel), List.mem_of_getElem? (i := 1349) (by decide +kernel), List.mem_of_getElem? (i := 1350) (by decide +kernel)⟩
theorem lw_p58 : lw_okq (⟨"IceHouseModel", "whyNot", "(II)I"⟩, 48) := ⟨⟨by decide +kernel, by decide +kernel⟩, List.mem_of_getElem? (i := 983) (by decide +kernel), List.mem_of_getElem? (i := 1353) (by decide +kernel), List.mem_of_getElem? (i := 1354) (by decide +kernel)⟩
theorem lw_p59 : lw_okq (⟨"IceHouseModel", "isOfGrade", "(II)Z"⟩, 48) := ⟨⟨by decide +kernel, by decide +kernel⟩, List.mem_of_getElem? (i := 983) (by decide +kernel), List.mem_of_getElem? (i := 1357) (by decide +kernel), List.mem_of_getElem? (i := 1358) (by decide +kernel)⟩
theorem lw_p60 : lw_okq (⟨"IceHouseModel", "comesOf", "(II)I"⟩, 48) := ⟨⟨by decide +kernel, by decide +kernel⟩, List.mem_of_getElem? (i := 983) (by decide +kernel), List.mem_of_getElem? (i := 1361) (by decide +kernel), List.mem_of_getElem? (i := 1362) (by decide +kernel)⟩
theorem lw_p61 : lw_okq (⟨"IceHouseModel", "trySales", "(II)V"⟩, 48) := ⟨⟨by decide +kernel, by decide +kernel⟩, List.mem_of_getElem? (i := 983) (by decide +kernel), List.mem_of_getElem? (i := 1373) (by decide +kernel), List.mem_of_getElem? (i := 1374) (by decide +kernel)⟩
theorem lw_p62 : lw_okq (⟨"IceHouseModel", "tellStation", "(IIII)V"⟩, 48) := ⟨⟨by decide +kernel, by decide +kernel⟩, List.mem_of_getElem? (i := 983) (by decide +kernel), List.mem_of_getElem? (i := 1384) (by decide +kernel), List.mem_of_getElem? (i := 1385) (by decide +kernel)⟩
theorem lw_p63 : lw_okq (⟨"IceHouseModel", "costOf", "(IIII)I"⟩, 48) := ⟨⟨by decide +kernel, by decide +kernel⟩, List.mem_of_getElem? (i := 983) (by decide +kernel), List.mem_of_getElem? (i := 1396) (by decide +kernel), List.mem_of_getElem? (i := 1397) (by decide +kernel)⟩
def lw_privs_4 : List (MethodName × Nat) := [(⟨"IceHouseModel", "levelOf", "(I)I"⟩, 48), (⟨"IceHouseModel", "warmthOf", "(I)I"⟩, 48), (⟨"IceHouseModel", "meltOf", "(III)I"⟩, 48), (⟨"IceHouseModel", "allMelts", "()I"⟩, 48), (⟨"IceHouseModel", "weekGoes", "()V"⟩, 48), (⟨"IceHouseModel", "allWeight", "()I"⟩, 48), (⟨"IceHouseModel", "layAside", "(Z)V"⟩, 48), (⟨"IceHouseModel", "lays", "([IZ)V"⟩, 48), (⟨"IceHouseModel", "findDust", "(I)I"⟩, 48), (⟨"IceHouseModel", "isOrder", "(I)Z"⟩, 48), (⟨"IceHouseModel", "whyNot", "(II)I"⟩, 48), (⟨"IceHouseModel", "isOfGrade", "(II)Z"⟩, 48), (⟨"IceHouseModel", "comesOf", "(II)I"⟩, 48), (⟨"IceHouseModel", "trySales", "(II)V"⟩, 48), (⟨"IceHouseModel", "tellStation", "(IIII)V"⟩, 48), (⟨"IceHouseModel", "costOf", "(IIII)I"⟩, 48)]
theorem lw_r4 : ∀ q ∈ lw_privs_4, lw_okq q := List.forall_mem_cons.mpr ⟨lw_p48, List.forall_mem_cons.mpr ⟨lw_p49, List.forall_mem_cons.mpr ⟨lw_p50, List.forall_mem_cons.mpr ⟨lw_p51, List.forall_mem_cons.mpr ⟨lw_p52, List.forall_mem_cons.mpr ⟨lw_p53, List.forall_mem_cons.mpr ⟨lw_p54, List.forall_mem_cons.mpr ⟨lw_p55, List.forall_mem_cons.mpr ⟨lw_p56, List.forall_mem_cons.mpr ⟨lw_p57, List.forall_mem_cons.mpr ⟨lw_p58, List.forall_mem_cons.mpr ⟨lw_p59, List.forall_mem_cons.mpr ⟨lw_p60, List.forall_mem_cons.mpr ⟨lw_p61, List.forall_mem_cons.mpr ⟨lw_p62, List.forall_mem_cons.mpr ⟨lw_p63, fun _ h => absurd h List.not_mem_nil⟩⟩⟩⟩⟩⟩⟩⟩⟩⟩⟩⟩⟩⟩⟩⟩
theorem lw_p64 : lw_okq (⟨"IceHouseModel", "placed", "(I)I"⟩, 48) := ⟨⟨by decide +kernel, by decide +kernel⟩, List.mem_of_getElem? (i := 983) (by decide +kernel), List.mem_of_getElem? (i := 1416) (by decide +kernel), List.mem_of_getElem? (i := 1417) (by decide +kernel)⟩
def lw_privs_5 : List (MethodName × Nat) := [(⟨"IceHouseModel", "placed", "(I)I"⟩, 48)]
theorem lw_r5 : ∀ q ∈ lw_privs_5, lw_okq q := List.forall_mem_cons.mpr ⟨lw_p64, fun _ h => absurd h List.not_mem_nil⟩
def lw_privs : List (MethodName × Nat) := lw_privs_1 ++ (lw_privs_2 ++ (lw_privs_3 ++ (lw_privs_4 ++ (lw_privs_5))))
def lw_tbl : List Cond := k2_sels lw_privs ++ tables_1
theorem lw_privs_ok : ∀ q ∈ lw_privs, lw_okq q := by
  show ∀ q ∈ lw_privs_1 ++ (lw_privs_2 ++ (lw_privs_3 ++ (lw_privs_4 ++ (lw_privs_5)))), lw_okq q
  exact List.forall_mem_append.mpr ⟨lw_r1, List.forall_mem_append.mpr ⟨lw_r2, List.forall_mem_append.mpr ⟨lw_r3, List.forall_mem_append.mpr ⟨lw_r4, lw_r5⟩⟩⟩⟩

def RX0 : String := "IceHouse$DustPlan"
def TX0 : u_T := fun k => match k with
  | 0 => ("IceHouse$DustPlan", "leastMelts", "I", false)
  | 1 => ("IceHouse$DustPlan", "layer", "[I", true)
  | 2 => ("IceHouse$DustPlan", "leastDust", "I", false)
  | 3 => ("IceHouse$DustPlan", "inner", "I", false)
  | 4 => ("IceHouse$DustPlan", "atWall", "[[I", true)
  | 5 => ("IceHouse$DustPlan", "atCorner", "[[I", true)
  | _ => ("IceHouse$DustPlan", "fewestOnWall3", "[I", true)
def tyX0 : Nat → FieldType := fun k => match k with
  | 0 => .int
  | 1 => .array .int
  | 2 => .int
  | 3 => .int
  | 4 => .array (.array .int)
  | 5 => .array (.array .int)
  | _ => .array .int
theorem nmX0 : ∀ a, a < 7 → ∀ b, b < 7 → a ≠ b → (TX0 a).2.1 ≠ (TX0 b).2.1 := by decide +kernel
theorem tyX0_ok : ∀ k, k < 7 → parseFieldDescriptor (TX0 k).2.2.1 = some (tyX0 k) := by decide +kernel
abbrev cX0_init : ByteArray := prog_2_method_1_code
def yX0_init : MethodName := ⟨RX0, "<init>", "()V"⟩
abbrev cX0_plan : ByteArray := prog_2_method_2_code
def yX0_plan : MethodName := ⟨RX0, "plan", "(LIceHouse$House;I)V"⟩
abbrev cX0_clearTables : ByteArray := prog_2_method_3_code
def yX0_clearTables : MethodName := ⟨RX0, "clearTables", "()V"⟩
abbrev cX0_addColumn : ByteArray := prog_2_method_4_code
def yX0_addColumn : MethodName := ⟨RX0, "addColumn", "(LIceHouse$House;III)V"⟩
abbrev cX0_trySides : ByteArray := prog_2_method_5_code
def yX0_trySides : MethodName := ⟨RX0, "trySides", "(III)V"⟩
abbrev cX0_fillFewest : ByteArray := prog_2_method_6_code
def yX0_fillFewest : MethodName := ⟨RX0, "fillFewest", "(II)V"⟩
abbrev cX0_sideMelts : ByteArray := prog_2_method_7_code
def yX0_sideMelts : MethodName := ⟨RX0, "sideMelts", "(IIII)I"⟩
abbrev cX0_keep : ByteArray := prog_2_method_8_code
def yX0_keep : MethodName := ⟨RX0, "keep", "(IIIII)V"⟩
def RX1 : String := "IceHouse$House"
def TX1 : u_T := fun k => match k with
  | 0 => ("IceHouse$House", "blocks", "I", false)
  | 1 => ("IceHouse$House", "kindOf", "[I", true)
  | 2 => ("IceHouse$House", "weight", "[I", true)
  | 3 => ("IceHouse$House", "where", "[I", true)
  | 4 => ("IceHouse$House", "height", "[I", true)
  | 5 => ("IceHouse$House", "week", "I", false)
  | 6 => ("IceHouse$House", "broughtIn", "I", false)
  | 7 => ("IceHouse$House", "melted", "I", false)
  | 8 => ("IceHouse$House", "broken", "I", false)
  | 9 => ("IceHouse$House", "sold", "I", false)
  | 10 => ("IceHouse$House", "thrown", "I", false)
  | 11 => ("IceHouse$House", "shelter", "LIceHouse$Shelter;", true)
  | _ => ("IceHouse$House", "pile", "[I", true)
def tyX1 : Nat → FieldType := fun k => match k with
  | 0 => .int
  | 1 => .array .int
  | 2 => .array .int
  | 3 => .array .int
  | 4 => .array .int
  | 5 => .int
  | 6 => .int
  | 7 => .int
  | 8 => .int
  | 9 => .int
  | 10 => .int
  | 11 => .object "IceHouse$Shelter"
  | _ => .array .int
theorem nmX1 : ∀ a, a < 13 → ∀ b, b < 13 → a ≠ b → (TX1 a).2.1 ≠ (TX1 b).2.1 := by decide +kernel
theorem tyX1_ok : ∀ k, k < 13 → parseFieldDescriptor (TX1 k).2.2.1 = some (tyX1 k) := by decide +kernel
abbrev cX1_init : ByteArray := prog_3_method_1_code
def yX1_init : MethodName := ⟨RX1, "<init>", "(LIceHouse$Shelter;)V"⟩
abbrev cX1_becomeLike : ByteArray := prog_3_method_2_code
def yX1_becomeLike : MethodName := ⟨RX1, "becomeLike", "(LIceHouse$House;)V"⟩
abbrev cX1_newBlock : ByteArray := prog_3_method_3_code
def yX1_newBlock : MethodName := ⟨RX1, "newBlock", "(II)I"⟩
abbrev cX1_hasBlock : ByteArray := prog_3_method_4_code
def yX1_hasBlock : MethodName := ⟨RX1, "hasBlock", "(I)Z"⟩
abbrev cX1_blocksWhere : ByteArray := prog_3_method_5_code
def yX1_blocksWhere : MethodName := ⟨RX1, "blocksWhere", "(I)I"⟩
abbrev cX1_isEmpty : ByteArray := prog_3_method_6_code
def yX1_isEmpty : MethodName := ⟨RX1, "isEmpty", "(I)Z"⟩
abbrev cX1_isFull : ByteArray := prog_3_method_7_code
def yX1_isFull : MethodName := ⟨RX1, "isFull", "(I)Z"⟩
abbrev cX1_blockAt : ByteArray := prog_3_method_8_code
def yX1_blockAt : MethodName := ⟨RX1, "blockAt", "(II)I"⟩
abbrev cX1_topOf : ByteArray := prog_3_method_9_code
def yX1_topOf : MethodName := ⟨RX1, "topOf", "(I)I"⟩
abbrev cX1_slotOf : ByteArray := prog_3_method_10_code
def yX1_slotOf : MethodName := ⟨RX1, "slotOf", "(I)I"⟩
abbrev cX1_bringIn : ByteArray := prog_3_method_11_code
def yX1_bringIn : MethodName := ⟨RX1, "bringIn", "(II)V"⟩
abbrev cX1_layOn : ByteArray := prog_3_method_12_code
def yX1_layOn : MethodName := ⟨RX1, "layOn", "(II)V"⟩
abbrev cX1_liftTop : ByteArray := prog_3_method_13_code
def yX1_liftTop : MethodName := ⟨RX1, "liftTop", "(I)I"⟩
abbrev cX1_throwOut : ByteArray := prog_3_method_14_code
def yX1_throwOut : MethodName := ⟨RX1, "throwOut", "(I)I"⟩
abbrev cX1_sellTop : ByteArray := prog_3_method_15_code
def yX1_sellTop : MethodName := ⟨RX1, "sellTop", "(II)V"⟩
abbrev cX1_letGo : ByteArray := prog_3_method_16_code
def yX1_letGo : MethodName := ⟨RX1, "letGo", "(I)V"⟩
abbrev cX1_removeAt : ByteArray := prog_3_method_17_code
def yX1_removeAt : MethodName := ⟨RX1, "removeAt", "(II)V"⟩
abbrev cX1_loadOver : ByteArray := prog_3_method_18_code
def yX1_loadOver : MethodName := ⟨RX1, "loadOver", "(II)I"⟩
abbrev cX1_columnWeight : ByteArray := prog_3_method_19_code
def yX1_columnWeight : MethodName := ⟨RX1, "columnWeight", "(I)I"⟩
abbrev cX1_allWeight : ByteArray := prog_3_method_20_code
def yX1_allWeight : MethodName := ⟨RX1, "allWeight", "()I"⟩
abbrev cX1_breakShelves : ByteArray := prog_3_method_21_code
def yX1_breakShelves : MethodName := ⟨RX1, "breakShelves", "(I)V"⟩
abbrev cX1_breaksAt : ByteArray := prog_3_method_22_code
def yX1_breaksAt : MethodName := ⟨RX1, "breaksAt", "(II)Z"⟩
abbrev cX1_meltAt : ByteArray := prog_3_method_23_code
def yX1_meltAt : MethodName := ⟨RX1, "meltAt", "(II)I"⟩
abbrev cX1_meltBehind : ByteArray := prog_3_method_24_code
def yX1_meltBehind : MethodName := ⟨RX1, "meltBehind", "(III)I"⟩
abbrev cX1_openTenths : ByteArray := prog_3_method_25_code
def yX1_openTenths : MethodName := ⟨RX1, "openTenths", "(II)I"⟩
abbrev cX1_sideTenths : ByteArray := prog_3_method_26_code
def yX1_sideTenths : MethodName := ⟨RX1, "sideTenths", "(II)I"⟩
abbrev cX1_columnMelts : ByteArray := prog_3_method_27_code
def yX1_columnMelts : MethodName := ⟨RX1, "columnMelts", "(II)I"⟩
abbrev cX1_allMelts : ByteArray := prog_3_method_28_code
def yX1_allMelts : MethodName := ⟨RX1, "allMelts", "()I"⟩
abbrev cX1_passWeeks : ByteArray := prog_3_method_29_code
def yX1_passWeeks : MethodName := ⟨RX1, "passWeeks", "(I)V"⟩
abbrev cX1_meltAll : ByteArray := prog_3_method_30_code
def yX1_meltAll : MethodName := ⟨RX1, "meltAll", "()V"⟩
abbrev cX1_dropMelted : ByteArray := prog_3_method_31_code
def yX1_dropMelted : MethodName := ⟨RX1, "dropMelted", "(I)V"⟩
def RX2 : String := "IceHouse$Lake"
def TX2 : u_T := fun k => match k with
  | 0 => ("IceHouse$Lake", "thick", "[I", true)
  | 1 => ("IceHouse$Lake", "snowOn", "[I", true)
  | _ => ("IceHouse$Lake", "milked", "[Z", true)
def tyX2 : Nat → FieldType := fun k => match k with
  | 0 => .array .int
  | 1 => .array .int
  | _ => .array .boolean
theorem nmX2 : ∀ a, a < 3 → ∀ b, b < 3 → a ≠ b → (TX2 a).2.1 ≠ (TX2 b).2.1 := by decide +kernel
theorem tyX2_ok : ∀ k, k < 3 → parseFieldDescriptor (TX2 k).2.2.1 = some (tyX2 k) := by decide +kernel
abbrev cX2_init : ByteArray := prog_4_method_1_code
def yX2_init : MethodName := ⟨RX2, "<init>", "()V"⟩
abbrev cX2_freeze : ByteArray := prog_4_method_2_code
def yX2_freeze : MethodName := ⟨RX2, "freeze", "(I)V"⟩
abbrev cX2_rootUpFrom : ByteArray := prog_4_method_3_code
def yX2_rootUpFrom : MethodName := ⟨RX2, "rootUpFrom", "(II)I"⟩
abbrev cX2_soften : ByteArray := prog_4_method_4_code
def yX2_soften : MethodName := ⟨RX2, "soften", "(I)V"⟩
abbrev cX2_snowOver : ByteArray := prog_4_method_5_code
def yX2_snowOver : MethodName := ⟨RX2, "snowOver", "(I)I"⟩
abbrev cX2_clearRow : ByteArray := prog_4_method_6_code
def yX2_clearRow : MethodName := ⟨RX2, "clearRow", "(I)I"⟩
abbrev cX2_frozenCells : ByteArray := prog_4_method_7_code
def yX2_frozenCells : MethodName := ⟨RX2, "frozenCells", "()I"⟩
abbrev cX2_bearing : ByteArray := prog_4_method_8_code
def yX2_bearing : MethodName := ⟨RX2, "bearing", "(I)J"⟩
abbrev cX2_cellsOf : ByteArray := prog_4_method_9_code
def yX2_cellsOf : MethodName := ⟨RX2, "cellsOf", "(I)J"⟩
abbrev cX2_reachedOver : ByteArray := prog_4_method_10_code
def yX2_reachedOver : MethodName := ⟨RX2, "reachedOver", "(J)J"⟩
abbrev cX2_beside : ByteArray := prog_4_method_11_code
def yX2_beside : MethodName := ⟨RX2, "beside", "(J)J"⟩
abbrev cX2_isSquare : ByteArray := prog_4_method_12_code
def yX2_isSquare : MethodName := ⟨RX2, "isSquare", "(I)Z"⟩
abbrev cX2_cellsOfSquare : ByteArray := prog_4_method_13_code
def yX2_cellsOfSquare : MethodName := ⟨RX2, "cellsOfSquare", "(I)J"⟩
abbrev cX2_barTo : ByteArray := prog_4_method_14_code
def yX2_barTo : MethodName := ⟨RX2, "barTo", "(I)I"⟩
abbrev cX2_barAmong : ByteArray := prog_4_method_15_code
def yX2_barAmong : MethodName := ⟨RX2, "barAmong", "(JJJ)I"⟩
abbrev cX2_thicksOf : ByteArray := prog_4_method_16_code
def yX2_thicksOf : MethodName := ⟨RX2, "thicksOf", "(I)I"⟩
abbrev cX2_kindOf : ByteArray := prog_4_method_17_code
def yX2_kindOf : MethodName := ⟨RX2, "kindOf", "(I)I"⟩
abbrev cX2_milk : ByteArray := prog_4_method_18_code
def yX2_milk : MethodName := ⟨RX2, "milk", "(I)I"⟩
abbrev cX2_open : ByteArray := prog_4_method_19_code
def yX2_open : MethodName := ⟨RX2, "open", "(I)V"⟩
abbrev cX2_openCell : ByteArray := prog_4_method_20_code
def yX2_openCell : MethodName := ⟨RX2, "openCell", "(I)V"⟩
def RX3 : String := "IceHouse$Orders"
def TX3 : u_T := fun k => match k with
  | 0 => ("IceHouse$Orders", "size", "I", false)
  | 1 => ("IceHouse$Orders", "servedSoFar", "I", false)
  | 2 => ("IceHouse$Orders", "takings", "I", false)
  | 3 => ("IceHouse$Orders", "price", "[I", true)
  | 4 => ("IceHouse$Orders", "house", "LIceHouse$House;", true)
  | 5 => ("IceHouse$Orders", "grade", "[I", true)
  | 6 => ("IceHouse$Orders", "leastWeight", "[I", true)
  | 7 => ("IceHouse$Orders", "lastWeek", "[I", true)
  | 8 => ("IceHouse$Orders", "hours", "[I", true)
  | _ => ("IceHouse$Orders", "served", "[Z", true)
def tyX3 : Nat → FieldType := fun k => match k with
  | 0 => .int
  | 1 => .int
  | 2 => .int
  | 3 => .array .int
  | 4 => .object "IceHouse$House"
  | 5 => .array .int
  | 6 => .array .int
  | 7 => .array .int
  | 8 => .array .int
  | _ => .array .boolean
theorem nmX3 : ∀ a, a < 10 → ∀ b, b < 10 → a ≠ b → (TX3 a).2.1 ≠ (TX3 b).2.1 := by decide +kernel
theorem tyX3_ok : ∀ k, k < 10 → parseFieldDescriptor (TX3 k).2.2.1 = some (tyX3 k) := by decide +kernel
abbrev cX3_init : ByteArray := prog_5_method_1_code
def yX3_init : MethodName := ⟨RX3, "<init>", "(LIceHouse$House;)V"⟩
abbrev cX3_has : ByteArray := prog_5_method_2_code
def yX3_has : MethodName := ⟨RX3, "has", "(I)Z"⟩
abbrev cX3_enter : ByteArray := prog_5_method_3_code
def yX3_enter : MethodName := ⟨RX3, "enter", "(IIIII)I"⟩
abbrev cX3_hindrance : ByteArray := prog_5_method_4_code
def yX3_hindrance : MethodName := ⟨RX3, "hindrance", "(II)I"⟩
abbrev cX3_isOfGrade : ByteArray := prog_5_method_5_code
def yX3_isOfGrade : MethodName := ⟨RX3, "isOfGrade", "(II)Z"⟩
abbrev cX3_whatComes : ByteArray := prog_5_method_6_code
def yX3_whatComes : MethodName := ⟨RX3, "whatComes", "(II)I"⟩
abbrev cX3_fulfil : ByteArray := prog_5_method_7_code
def yX3_fulfil : MethodName := ⟨RX3, "fulfil", "(II)I"⟩
def RX4 : String := "IceHouse$Railway"
def TX4 : u_T := fun k => match k with
  | 0 => ("IceHouse$Railway", "size", "I", false)
  | 1 => ("IceHouse$Railway", "cakesAt", "[I", true)
  | 2 => ("IceHouse$Railway", "priceAt", "[I", true)
  | 3 => ("IceHouse$Railway", "wayFrom", "[I", true)
  | 4 => ("IceHouse$Railway", "leastCost", "[[I", true)
  | _ => ("IceHouse$Railway", "fewestBought", "[[I", true)
def tyX4 : Nat → FieldType := fun k => match k with
  | 0 => .int
  | 1 => .array .int
  | 2 => .array .int
  | 3 => .array .int
  | 4 => .array (.array .int)
  | _ => .array (.array .int)
theorem nmX4 : ∀ a, a < 6 → ∀ b, b < 6 → a ≠ b → (TX4 a).2.1 ≠ (TX4 b).2.1 := by decide +kernel
theorem tyX4_ok : ∀ k, k < 6 → parseFieldDescriptor (TX4 k).2.2.1 = some (tyX4 k) := by decide +kernel
abbrev cX4_init : ByteArray := prog_6_method_1_code
def yX4_init : MethodName := ⟨RX4, "<init>", "()V"⟩
abbrev cX4_enter : ByteArray := prog_6_method_2_code
def yX4_enter : MethodName := ⟨RX4, "enter", "(III)I"⟩
abbrev cX4_describe : ByteArray := prog_6_method_3_code
def yX4_describe : MethodName := ⟨RX4, "describe", "(IIII)V"⟩
abbrev cX4_plan : ByteArray := prog_6_method_4_code
def yX4_plan : MethodName := ⟨RX4, "plan", "(I)V"⟩
abbrev cX4_planAt : ByteArray := prog_6_method_5_code
def yX4_planAt : MethodName := ⟨RX4, "planAt", "(III)V"⟩
abbrev cX4_costFrom : ByteArray := prog_6_method_6_code
def yX4_costFrom : MethodName := ⟨RX4, "costFrom", "(I)I"⟩
abbrev cX4_boughtAt : ByteArray := prog_6_method_7_code
def yX4_boughtAt : MethodName := ⟨RX4, "boughtAt", "(II)I"⟩
def RX5 : String := "IceHouse$SalesPlan"
def TX5 : u_T := fun k => match k with
  | 0 => ("IceHouse$SalesPlan", "columns", "[I", true)
  | 1 => ("IceHouse$SalesPlan", "bestPrices", "I", false)
  | 2 => ("IceHouse$SalesPlan", "bestLength", "I", false)
  | 3 => ("IceHouse$SalesPlan", "bestOrders", "[I", true)
  | 4 => ("IceHouse$SalesPlan", "bestPositions", "[I", true)
  | 5 => ("IceHouse$SalesPlan", "house", "LIceHouse$House;", true)
  | 6 => ("IceHouse$SalesPlan", "orders", "LIceHouse$Orders;", true)
  | 7 => ("IceHouse$SalesPlan", "told", "I", false)
  | 8 => ("IceHouse$SalesPlan", "fits", "[Z", true)
  | 9 => ("IceHouse$SalesPlan", "dearestFirst", "[I", true)
  | 10 => ("IceHouse$SalesPlan", "usable", "I", false)
  | 11 => ("IceHouse$SalesPlan", "used", "[Z", true)
  | 12 => ("IceHouse$SalesPlan", "taken", "[I", true)
  | 13 => ("IceHouse$SalesPlan", "rowOrders", "[I", true)
  | _ => ("IceHouse$SalesPlan", "rowPositions", "[I", true)
def tyX5 : Nat → FieldType := fun k => match k with
  | 0 => .array .int
  | 1 => .int
  | 2 => .int
  | 3 => .array .int
  | 4 => .array .int
  | 5 => .object "IceHouse$House"
  | 6 => .object "IceHouse$Orders"
  | 7 => .int
  | 8 => .array .boolean
  | 9 => .array .int
  | 10 => .int
  | 11 => .array .boolean
  | 12 => .array .int
  | 13 => .array .int
  | _ => .array .int
theorem nmX5 : ∀ a, a < 15 → ∀ b, b < 15 → a ≠ b → (TX5 a).2.1 ≠ (TX5 b).2.1 := by decide +kernel
theorem tyX5_ok : ∀ k, k < 15 → parseFieldDescriptor (TX5 k).2.2.1 = some (tyX5 k) := by decide +kernel
abbrev cX5_init : ByteArray := prog_7_method_1_code
def yX5_init : MethodName := ⟨RX5, "<init>", "(LIceHouse$House;LIceHouse$Orders;)V"⟩
abbrev cX5_takeOver : ByteArray := prog_7_method_2_code
def yX5_takeOver : MethodName := ⟨RX5, "takeOver", "(LIceHouse$Waiting;)Z"⟩
abbrev cX5_plan : ByteArray := prog_7_method_3_code
def yX5_plan : MethodName := ⟨RX5, "plan", "()V"⟩
abbrev cX5_slot : ByteArray := prog_7_method_4_code
def yX5_slot : MethodName := ⟨RX5, "slot", "(III)I"⟩
abbrev cX5_fillFits : ByteArray := prog_7_method_5_code
def yX5_fillFits : MethodName := ⟨RX5, "fillFits", "(I)Z"⟩
abbrev cX5_enlist : ByteArray := prog_7_method_6_code
def yX5_enlist : MethodName := ⟨RX5, "enlist", "(I)V"⟩
abbrev cX5_tryRows : ByteArray := prog_7_method_7_code
def yX5_tryRows : MethodName := ⟨RX5, "tryRows", "(LIceHouse$SalesPlan;II)V"⟩
abbrev cX5_keepIfBetter : ByteArray := prog_7_method_8_code
def yX5_keepIfBetter : MethodName := ⟨RX5, "keepIfBetter", "(II)V"⟩
abbrev cX5_mayImprove : ByteArray := prog_7_method_9_code
def yX5_mayImprove : MethodName := ⟨RX5, "mayImprove", "(II)Z"⟩
abbrev cX5_dearest : ByteArray := prog_7_method_10_code
def yX5_dearest : MethodName := ⟨RX5, "dearest", "(I)I"⟩
abbrev cX5_mayServe : ByteArray := prog_7_method_11_code
def yX5_mayServe : MethodName := ⟨RX5, "mayServe", "(II)Z"⟩
abbrev cX5_push : ByteArray := prog_7_method_12_code
def yX5_push : MethodName := ⟨RX5, "push", "(III)V"⟩
abbrev cX5_pop : ByteArray := prog_7_method_13_code
def yX5_pop : MethodName := ⟨RX5, "pop", "(II)V"⟩
def RX6 : String := "IceHouse$Season"
def TX6 : u_T := fun k => match k with
  | 0 => ("IceHouse$Season", "row", "[I", true)
  | 1 => ("IceHouse$Season", "length", "I", false)
  | 2 => ("IceHouse$Season", "squares", "[I", true)
  | 3 => ("IceHouse$Season", "told", "I", false)
  | 4 => ("IceHouse$Season", "longest", "[I", true)
  | 5 => ("IceHouse$Season", "thickEnough", "J", false)
  | _ => ("IceHouse$Season", "horse", "J", false)
def tyX6 : Nat → FieldType := fun k => match k with
  | 0 => .array .int
  | 1 => .int
  | 2 => .array .int
  | 3 => .int
  | 4 => .array .int
  | 5 => .long
  | _ => .long
theorem nmX6 : ∀ a, a < 7 → ∀ b, b < 7 → a ≠ b → (TX6 a).2.1 ≠ (TX6 b).2.1 := by decide +kernel
theorem tyX6_ok : ∀ k, k < 7 → parseFieldDescriptor (TX6 k).2.2.1 = some (tyX6 k) := by decide +kernel
abbrev cX6_init : ByteArray := prog_8_method_1_code
def yX6_init : MethodName := ⟨RX6, "<init>", "()V"⟩
abbrev cX6_takeOver : ByteArray := prog_8_method_2_code
def yX6_takeOver : MethodName := ⟨RX6, "takeOver", "(LIceHouse$Waiting;)Z"⟩
abbrev cX6_plan : ByteArray := prog_8_method_3_code
def yX6_plan : MethodName := ⟨RX6, "plan", "(LIceHouse$Lake;)V"⟩
abbrev cX6_longestBehind : ByteArray := prog_8_method_4_code
def yX6_longestBehind : MethodName := ⟨RX6, "longestBehind", "(I)I"⟩
abbrev cX6_mayFollow : ByteArray := prog_8_method_5_code
def yX6_mayFollow : MethodName := ⟨RX6, "mayFollow", "(II)Z"⟩
abbrev cX6_openCells : ByteArray := prog_8_method_6_code
def yX6_openCells : MethodName := ⟨RX6, "openCells", "(I)J"⟩
abbrev cX6_walk : ByteArray := prog_8_method_7_code
def yX6_walk : MethodName := ⟨RX6, "walk", "()V"⟩
abbrev cX6_firstOfLongest : ByteArray := prog_8_method_8_code
def yX6_firstOfLongest : MethodName := ⟨RX6, "firstOfLongest", "(I)I"⟩
def RX7 : String := "IceHouse$Shelter"
def TX7 : u_T := fun k => match k with
  | 0 => ("IceHouse$Shelter", "dustOn", "[I", true)
  | 1 => ("IceHouse$Shelter", "coverOn", "[I", true)
  | _ => ("IceHouse$Shelter", "warmthIn", "[I", true)
def tyX7 : Nat → FieldType := fun k => match k with
  | 0 => .array .int
  | 1 => .array .int
  | _ => .array .int
theorem nmX7 : ∀ a, a < 3 → ∀ b, b < 3 → a ≠ b → (TX7 a).2.1 ≠ (TX7 b).2.1 := by decide +kernel
theorem tyX7_ok : ∀ k, k < 3 → parseFieldDescriptor (TX7 k).2.2.1 = some (tyX7 k) := by decide +kernel
abbrev cX7_init : ByteArray := prog_9_method_1_code
def yX7_init : MethodName := ⟨RX7, "<init>", "()V"⟩
abbrev cX7_warmthOf : ByteArray := prog_9_method_2_code
def yX7_warmthOf : MethodName := ⟨RX7, "warmthOf", "(I)I"⟩
abbrev cX7_wallTenths : ByteArray := prog_9_method_3_code
def yX7_wallTenths : MethodName := ⟨RX7, "wallTenths", "(I)I"⟩
abbrev cX7_tenthsAt : ByteArray := prog_9_method_4_code
def yX7_tenthsAt : MethodName := ⟨RX7, "tenthsAt", "(I)I"⟩
abbrev cX7_rowWall : ByteArray := prog_9_method_5_code
def yX7_rowWall : MethodName := ⟨RX7, "rowWall", "(I)I"⟩
abbrev cX7_sideWall : ByteArray := prog_9_method_6_code
def yX7_sideWall : MethodName := ⟨RX7, "sideWall", "(I)I"⟩
def RX8 : String := "IceHouse$Waiting"
def TX8 : u_T := fun k => match k with
  | 0 => ("IceHouse$Waiting", "size", "I", false)
  | _ => ("IceHouse$Waiting", "numbers", "[I", true)
def tyX8 : Nat → FieldType := fun k => match k with
  | 0 => .int
  | _ => .array .int
theorem nmX8 : ∀ a, a < 2 → ∀ b, b < 2 → a ≠ b → (TX8 a).2.1 ≠ (TX8 b).2.1 := by decide +kernel
theorem tyX8_ok : ∀ k, k < 2 → parseFieldDescriptor (TX8 k).2.2.1 = some (tyX8 k) := by decide +kernel
abbrev cX8_init : ByteArray := prog_10_method_1_code
def yX8_init : MethodName := ⟨RX8, "<init>", "()V"⟩
abbrev cX8_enter : ByteArray := prog_10_method_2_code
def yX8_enter : MethodName := ⟨RX8, "enter", "(I)I"⟩
abbrev cX8_clear : ByteArray := prog_10_method_3_code
def yX8_clear : MethodName := ⟨RX8, "clear", "()V"⟩
abbrev cX8_handOver : ByteArray := prog_10_method_4_code
def yX8_handOver : MethodName := ⟨RX8, "handOver", "([I)I"⟩
abbrev cX8_hasTwins : ByteArray := prog_10_method_5_code
def yX8_hasTwins : MethodName := ⟨RX8, "hasTwins", "()Z"⟩
abbrev cX8_firstWrong : ByteArray := prog_10_method_6_code
def yX8_firstWrong : MethodName := ⟨RX8, "firstWrong", "(LIceHouse$House;)I"⟩
def RX9 : String := "IceHouse"
def TX9 : u_T := fun k => match k with
  | 0 => ("IceHouse", "lake", "LIceHouse$Lake;", true)
  | 1 => ("IceHouse", "harvest", "LIceHouse$Season;", true)
  | 2 => ("IceHouse", "shelter", "LIceHouse$Shelter;", true)
  | 3 => ("IceHouse", "house", "LIceHouse$House;", true)
  | 4 => ("IceHouse", "trial", "LIceHouse$House;", true)
  | 5 => ("IceHouse", "dustPlan", "LIceHouse$DustPlan;", true)
  | 6 => ("IceHouse", "orders", "LIceHouse$Orders;", true)
  | 7 => ("IceHouse", "salesPlan", "LIceHouse$SalesPlan;", true)
  | 8 => ("IceHouse", "railway", "LIceHouse$Railway;", true)
  | 9 => ("IceHouse", "waiting", "LIceHouse$Waiting;", true)
  | _ => ("IceHouse", "findings", "[I", true)
def tyX9 : Nat → FieldType := fun k => match k with
  | 0 => .object "IceHouse$Lake"
  | 1 => .object "IceHouse$Season"
  | 2 => .object "IceHouse$Shelter"
  | 3 => .object "IceHouse$House"
  | 4 => .object "IceHouse$House"
  | 5 => .object "IceHouse$DustPlan"
  | 6 => .object "IceHouse$Orders"
  | 7 => .object "IceHouse$SalesPlan"
  | 8 => .object "IceHouse$Railway"
  | 9 => .object "IceHouse$Waiting"
  | _ => .array .int
theorem nmX9 : ∀ a, a < 11 → ∀ b, b < 11 → a ≠ b → (TX9 a).2.1 ≠ (TX9 b).2.1 := by decide +kernel
theorem tyX9_ok : ∀ k, k < 11 → parseFieldDescriptor (TX9 k).2.2.1 = some (tyX9 k) := by decide +kernel
abbrev cX9_init : ByteArray := prog_1_method_1_code
def yX9_init : MethodName := ⟨RX9, "<init>", "()V"⟩
abbrev cX9_frost : ByteArray := prog_1_method_2_code
def yX9_frost : MethodName := ⟨RX9, "frost", "(I)I"⟩
abbrev cX9_thaw : ByteArray := prog_1_method_3_code
def yX9_thaw : MethodName := ⟨RX9, "thaw", "(I)I"⟩
abbrev cX9_snow : ByteArray := prog_1_method_4_code
def yX9_snow : MethodName := ⟨RX9, "snow", "(I)I"⟩
abbrev cX9_scrape : ByteArray := prog_1_method_5_code
def yX9_scrape : MethodName := ⟨RX9, "scrape", "(I)I"⟩
abbrev cX9_cell : ByteArray := prog_1_method_6_code
def yX9_cell : MethodName := ⟨RX9, "cell", "(II)I"⟩
abbrev cX9_reached : ByteArray := prog_1_method_7_code
def yX9_reached : MethodName := ⟨RX9, "reached", "(I)I"⟩
abbrev cX9_reach : ByteArray := prog_1_method_8_code
def yX9_reach : MethodName := ⟨RX9, "reach", "(II)I"⟩
abbrev cX9_bars : ByteArray := prog_1_method_9_code
def yX9_bars : MethodName := ⟨RX9, "bars", "(I)I"⟩
abbrev cX9_cut : ByteArray := prog_1_method_10_code
def yX9_cut : MethodName := ⟨RX9, "cut", "(I)I"⟩
abbrev cX9_season : ByteArray := prog_1_method_11_code
def yX9_season : MethodName := ⟨RX9, "season", "(I)I"⟩
abbrev cX9_put : ByteArray := prog_1_method_12_code
def yX9_put : MethodName := ⟨RX9, "put", "(II)I"⟩
abbrev cX9_take : ByteArray := prog_1_method_13_code
def yX9_take : MethodName := ⟨RX9, "take", "(I)I"⟩
abbrev cX9_move : ByteArray := prog_1_method_14_code
def yX9_move : MethodName := ⟨RX9, "move", "(II)I"⟩
abbrev cX9_as : ByteArray := prog_1_method_15_code
def yX9_as : MethodName := ⟨RX9, "as", "(II)I"⟩
abbrev cX9_about : ByteArray := prog_1_method_16_code
def yX9_about : MethodName := ⟨RX9, "about", "(II)I"⟩
abbrev cX9_at : ByteArray := prog_1_method_17_code
def yX9_at : MethodName := ⟨RX9, "at", "(II)I"⟩
abbrev cX9_dust : ByteArray := prog_1_method_18_code
def yX9_dust : MethodName := ⟨RX9, "dust", "(II)I"⟩
abbrev cX9_cover : ByteArray := prog_1_method_19_code
def yX9_cover : MethodName := ⟨RX9, "cover", "(II)I"⟩
abbrev cX9_warmth : ByteArray := prog_1_method_20_code
def yX9_warmth : MethodName := ⟨RX9, "warmth", "(II)I"⟩
abbrev cX9_melts : ByteArray := prog_1_method_21_code
def yX9_melts : MethodName := ⟨RX9, "melts", "()I"⟩
abbrev cX9_weeks : ByteArray := prog_1_method_22_code
def yX9_weeks : MethodName := ⟨RX9, "weeks", "(I)I"⟩
abbrev cX9_after : ByteArray := prog_1_method_23_code
def yX9_after : MethodName := ⟨RX9, "after", "(I)I"⟩
abbrev cX9_lasts : ByteArray := prog_1_method_24_code
def yX9_lasts : MethodName := ⟨RX9, "lasts", "(I)I"⟩
abbrev cX9_best : ByteArray := prog_1_method_25_code
def yX9_best : MethodName := ⟨RX9, "best", "(II)I"⟩
abbrev cX9_order : ByteArray := prog_1_method_26_code
def yX9_order : MethodName := ⟨RX9, "order", "(IIIII)I"⟩
abbrev cX9_why : ByteArray := prog_1_method_27_code
def yX9_why : MethodName := ⟨RX9, "why", "(II)I"⟩
abbrev cX9_serve : ByteArray := prog_1_method_28_code
def yX9_serve : MethodName := ⟨RX9, "serve", "(II)I"⟩
abbrev cX9_sales : ByteArray := prog_1_method_29_code
def yX9_sales : MethodName := ⟨RX9, "sales", "(I)I"⟩
abbrev cX9_station : ByteArray := prog_1_method_30_code
def yX9_station : MethodName := ⟨RX9, "station", "(III)I"⟩
abbrev cX9_change : ByteArray := prog_1_method_31_code
def yX9_change : MethodName := ⟨RX9, "change", "(IIII)I"⟩
abbrev cX9_icing : ByteArray := prog_1_method_32_code
def yX9_icing : MethodName := ⟨RX9, "icing", "(III)I"⟩
abbrev cX9_ledger : ByteArray := prog_1_method_33_code
def yX9_ledger : MethodName := ⟨RX9, "ledger", "(I)I"⟩
abbrev cX9_tell : ByteArray := prog_1_method_34_code
def yX9_tell : MethodName := ⟨RX9, "tell", "(I)I"⟩
abbrev cX9_check : ByteArray := prog_1_method_35_code
def yX9_check : MethodName := ⟨RX9, "check", "(I)I"⟩
abbrev cX9_count : ByteArray := prog_1_method_36_code
def yX9_count : MethodName := ⟨RX9, "count", "(I)I"⟩
abbrev cX9_found : ByteArray := prog_1_method_37_code
def yX9_found : MethodName := ⟨RX9, "found", "(I)I"⟩
abbrev cX9_finding : ByteArray := prog_1_method_38_code
def yX9_finding : MethodName := ⟨RX9, "finding", "(I)I"⟩
abbrev cX9_within : ByteArray := prog_1_method_39_code
def yX9_within : MethodName := ⟨RX9, "within", "(III)Z"⟩
abbrev cX9_isColumn : ByteArray := prog_1_method_40_code
def yX9_isColumn : MethodName := ⟨RX9, "isColumn", "(I)Z"⟩
abbrev cX9_isStation : ByteArray := prog_1_method_41_code
def yX9_isStation : MethodName := ⟨RX9, "isStation", "(III)Z"⟩
abbrev cX9_isUnder : ByteArray := prog_1_method_42_code
def yX9_isUnder : MethodName := ⟨RX9, "isUnder", "(II)Z"⟩
abbrev cX9_exchange : ByteArray := prog_1_method_43_code
def yX9_exchange : MethodName := ⟨RX9, "exchange", "([III)I"⟩
def RX10 : String := "IceHouseModel"
def TX10 : u_T := fun k => match k with
  | 0 => ("IceHouseModel", "thick", "[I", true)
  | 1 => ("IceHouseModel", "snow", "[I", true)
  | 2 => ("IceHouseModel", "milked", "[Z", true)
  | 3 => ("IceHouseModel", "blocks", "I", false)
  | 4 => ("IceHouseModel", "kind", "[I", true)
  | 5 => ("IceHouseModel", "weight", "[I", true)
  | 6 => ("IceHouseModel", "place", "[I", true)
  | 7 => ("IceHouseModel", "columnOf", "[I", true)
  | 8 => ("IceHouseModel", "stack", "[I", true)
  | 9 => ("IceHouseModel", "high", "[I", true)
  | 10 => ("IceHouseModel", "dust", "[I", true)
  | 11 => ("IceHouseModel", "cover", "[I", true)
  | 12 => ("IceHouseModel", "warmth", "[I", true)
  | 13 => ("IceHouseModel", "week", "I", false)
  | 14 => ("IceHouseModel", "orders", "I", false)
  | 15 => ("IceHouseModel", "grade", "[I", true)
  | 16 => ("IceHouseModel", "least", "[I", true)
  | 17 => ("IceHouseModel", "upTo", "[I", true)
  | 18 => ("IceHouseModel", "hours", "[I", true)
  | 19 => ("IceHouseModel", "price", "[I", true)
  | 20 => ("IceHouseModel", "served", "[Z", true)
  | 21 => ("IceHouseModel", "stations", "I", false)
  | 22 => ("IceHouseModel", "cakePrice", "[I", true)
  | 23 => ("IceHouseModel", "stock", "[I", true)
  | 24 => ("IceHouseModel", "way", "[I", true)
  | 25 => ("IceHouseModel", "ledger", "[I", true)
  | 26 => ("IceHouseModel", "waits", "I", false)
  | 27 => ("IceHouseModel", "waiting", "[I", true)
  | 28 => ("IceHouseModel", "found", "[I", true)
  | 29 => ("IceHouseModel", "isReached", "[Z", true)
  | 30 => ("IceHouseModel", "queue", "[I", true)
  | 31 => ("IceHouseModel", "told", "[I", true)
  | 32 => ("IceHouseModel", "toldMany", "I", false)
  | 33 => ("IceHouseModel", "trial", "[I", true)
  | 34 => ("IceHouseModel", "bestRow", "[I", true)
  | 35 => ("IceHouseModel", "bestMany", "I", false)
  | 36 => ("IceHouseModel", "keptThick", "[I", true)
  | 37 => ("IceHouseModel", "melting", "[I", true)
  | 38 => ("IceHouseModel", "aside", "[I", true)
  | 39 => ("IceHouseModel", "asideAt", "I", false)
  | 40 => ("IceHouseModel", "weekAside", "I", false)
  | 41 => ("IceHouseModel", "dustAside", "[I", true)
  | 42 => ("IceHouseModel", "bestDust", "[I", true)
  | 43 => ("IceHouseModel", "saleTrial", "[I", true)
  | 44 => ("IceHouseModel", "bestSale", "[I", true)
  | 45 => ("IceHouseModel", "saleMany", "I", false)
  | 46 => ("IceHouseModel", "saleSum", "I", false)
  | _ => ("IceHouseModel", "rest", "[I", true)
def tyX10 : Nat → FieldType := fun k => match k with
  | 0 => .array .int
  | 1 => .array .int
  | 2 => .array .boolean
  | 3 => .int
  | 4 => .array .int
  | 5 => .array .int
  | 6 => .array .int
  | 7 => .array .int
  | 8 => .array .int
  | 9 => .array .int
  | 10 => .array .int
  | 11 => .array .int
  | 12 => .array .int
  | 13 => .int
  | 14 => .int
  | 15 => .array .int
  | 16 => .array .int
  | 17 => .array .int
  | 18 => .array .int
  | 19 => .array .int
  | 20 => .array .boolean
  | 21 => .int
  | 22 => .array .int
  | 23 => .array .int
  | 24 => .array .int
  | 25 => .array .int
  | 26 => .int
  | 27 => .array .int
  | 28 => .array .int
  | 29 => .array .boolean
  | 30 => .array .int
  | 31 => .array .int
  | 32 => .int
  | 33 => .array .int
  | 34 => .array .int
  | 35 => .int
  | 36 => .array .int
  | 37 => .array .int
  | 38 => .array .int
  | 39 => .int
  | 40 => .int
  | 41 => .array .int
  | 42 => .array .int
  | 43 => .array .int
  | 44 => .array .int
  | 45 => .int
  | 46 => .int
  | _ => .array .int
theorem nmX10 : ∀ a, a < 48 → ∀ b, b < 48 → a ≠ b → (TX10 a).2.1 ≠ (TX10 b).2.1 := by decide +kernel
theorem tyX10_ok : ∀ k, k < 48 → parseFieldDescriptor (TX10 k).2.2.1 = some (tyX10 k) := by decide +kernel
abbrev cX10_init : ByteArray := prog_12_method_1_code
def yX10_init : MethodName := ⟨RX10, "<init>", "()V"⟩
abbrev cX10_finding : ByteArray := prog_12_method_2_code
def yX10_finding : MethodName := ⟨RX10, "finding", "(I)I"⟩
abbrev cX10_isIn : ByteArray := prog_12_method_3_code
def yX10_isIn : MethodName := ⟨RX10, "isIn", "(III)Z"⟩
abbrev cX10_isCell : ByteArray := prog_12_method_4_code
def yX10_isCell : MethodName := ⟨RX10, "isCell", "(I)Z"⟩
abbrev cX10_clean : ByteArray := prog_12_method_5_code
def yX10_clean : MethodName := ⟨RX10, "clean", "(I)V"⟩
abbrev cX10_bearing : ByteArray := prog_12_method_6_code
def yX10_bearing : MethodName := ⟨RX10, "bearing", "(I)I"⟩
abbrev cX10_frost : ByteArray := prog_12_method_7_code
def yX10_frost : MethodName := ⟨RX10, "frost", "(I)I"⟩
abbrev cX10_thaw : ByteArray := prog_12_method_8_code
def yX10_thaw : MethodName := ⟨RX10, "thaw", "(I)I"⟩
abbrev cX10_snow : ByteArray := prog_12_method_9_code
def yX10_snow : MethodName := ⟨RX10, "snow", "(I)I"⟩
abbrev cX10_scrape : ByteArray := prog_12_method_10_code
def yX10_scrape : MethodName := ⟨RX10, "scrape", "(I)I"⟩
abbrev cX10_cell : ByteArray := prog_12_method_11_code
def yX10_cell : MethodName := ⟨RX10, "cell", "(II)I"⟩
abbrev cX10_beside : ByteArray := prog_12_method_12_code
def yX10_beside : MethodName := ⟨RX10, "beside", "(II)I"⟩
abbrev cX10_isOf : ByteArray := prog_12_method_13_code
def yX10_isOf : MethodName := ⟨RX10, "isOf", "(II)Z"⟩
abbrev cX10_flood : ByteArray := prog_12_method_14_code
def yX10_flood : MethodName := ⟨RX10, "flood", "(II)V"⟩
abbrev cX10_reached : ByteArray := prog_12_method_15_code
def yX10_reached : MethodName := ⟨RX10, "reached", "(I)I"⟩
abbrev cX10_reach : ByteArray := prog_12_method_16_code
def yX10_reach : MethodName := ⟨RX10, "reach", "(II)I"⟩
abbrev cX10_isSquare : ByteArray := prog_12_method_17_code
def yX10_isSquare : MethodName := ⟨RX10, "isSquare", "(I)Z"⟩
abbrev cX10_barOf : ByteArray := prog_12_method_18_code
def yX10_barOf : MethodName := ⟨RX10, "barOf", "(I)I"⟩
abbrev cX10_bars : ByteArray := prog_12_method_19_code
def yX10_bars : MethodName := ⟨RX10, "bars", "(I)I"⟩
abbrev cX10_cut : ByteArray := prog_12_method_20_code
def yX10_cut : MethodName := ⟨RX10, "cut", "(I)I"⟩
abbrev cX10_trySeason : ByteArray := prog_12_method_21_code
def yX10_trySeason : MethodName := ⟨RX10, "trySeason", "(II)V"⟩
abbrev cX10_season : ByteArray := prog_12_method_22_code
def yX10_season : MethodName := ⟨RX10, "season", "(I)I"⟩
abbrev cX10_isBlock : ByteArray := prog_12_method_23_code
def yX10_isBlock : MethodName := ⟨RX10, "isBlock", "(I)Z"⟩
abbrev cX10_isColumn : ByteArray := prog_12_method_24_code
def yX10_isColumn : MethodName := ⟨RX10, "isColumn", "(I)Z"⟩
abbrev cX10_blockAt : ByteArray := prog_12_method_25_code
def yX10_blockAt : MethodName := ⟨RX10, "blockAt", "(II)I"⟩
abbrev cX10_levelOf : ByteArray := prog_12_method_26_code
def yX10_levelOf : MethodName := ⟨RX10, "levelOf", "(I)I"⟩
abbrev cX10_loadOf : ByteArray := prog_12_method_27_code
def yX10_loadOf : MethodName := ⟨RX10, "loadOf", "(II)I"⟩
abbrev cX10_takeOut : ByteArray := prog_12_method_28_code
def yX10_takeOut : MethodName := ⟨RX10, "takeOut", "(II)V"⟩
abbrev cX10_goes : ByteArray := prog_12_method_29_code
def yX10_goes : MethodName := ⟨RX10, "goes", "(II)V"⟩
abbrev cX10_breakAll : ByteArray := prog_12_method_30_code
def yX10_breakAll : MethodName := ⟨RX10, "breakAll", "()V"⟩
abbrev cX10_lay : ByteArray := prog_12_method_31_code
def yX10_lay : MethodName := ⟨RX10, "lay", "(II)V"⟩
abbrev cX10_put : ByteArray := prog_12_method_32_code
def yX10_put : MethodName := ⟨RX10, "put", "(II)I"⟩
abbrev cX10_take : ByteArray := prog_12_method_33_code
def yX10_take : MethodName := ⟨RX10, "take", "(I)I"⟩
abbrev cX10_move : ByteArray := prog_12_method_34_code
def yX10_move : MethodName := ⟨RX10, "move", "(II)I"⟩
abbrev cX10_as : ByteArray := prog_12_method_35_code
def yX10_as : MethodName := ⟨RX10, "as", "(II)I"⟩
abbrev cX10_warmthOf : ByteArray := prog_12_method_36_code
def yX10_warmthOf : MethodName := ⟨RX10, "warmthOf", "(I)I"⟩
abbrev cX10_meltOf : ByteArray := prog_12_method_37_code
def yX10_meltOf : MethodName := ⟨RX10, "meltOf", "(III)I"⟩
abbrev cX10_allMelts : ByteArray := prog_12_method_38_code
def yX10_allMelts : MethodName := ⟨RX10, "allMelts", "()I"⟩
abbrev cX10_about : ByteArray := prog_12_method_39_code
def yX10_about : MethodName := ⟨RX10, "about", "(II)I"⟩
abbrev cX10_at : ByteArray := prog_12_method_40_code
def yX10_at : MethodName := ⟨RX10, "at", "(II)I"⟩
abbrev cX10_dust : ByteArray := prog_12_method_41_code
def yX10_dust : MethodName := ⟨RX10, "dust", "(II)I"⟩
abbrev cX10_cover : ByteArray := prog_12_method_42_code
def yX10_cover : MethodName := ⟨RX10, "cover", "(II)I"⟩
abbrev cX10_warmth : ByteArray := prog_12_method_43_code
def yX10_warmth : MethodName := ⟨RX10, "warmth", "(II)I"⟩
abbrev cX10_melts : ByteArray := prog_12_method_44_code
def yX10_melts : MethodName := ⟨RX10, "melts", "()I"⟩
abbrev cX10_weekGoes : ByteArray := prog_12_method_45_code
def yX10_weekGoes : MethodName := ⟨RX10, "weekGoes", "()V"⟩
abbrev cX10_allWeight : ByteArray := prog_12_method_46_code
def yX10_allWeight : MethodName := ⟨RX10, "allWeight", "()I"⟩
abbrev cX10_weeks : ByteArray := prog_12_method_47_code
def yX10_weeks : MethodName := ⟨RX10, "weeks", "(I)I"⟩
abbrev cX10_lays : ByteArray := prog_12_method_48_code
def yX10_lays : MethodName := ⟨RX10, "lays", "([IZ)V"⟩
abbrev cX10_layAside : ByteArray := prog_12_method_49_code
def yX10_layAside : MethodName := ⟨RX10, "layAside", "(Z)V"⟩
abbrev cX10_after : ByteArray := prog_12_method_50_code
def yX10_after : MethodName := ⟨RX10, "after", "(I)I"⟩
abbrev cX10_lasts : ByteArray := prog_12_method_51_code
def yX10_lasts : MethodName := ⟨RX10, "lasts", "(I)I"⟩
abbrev cX10_findDust : ByteArray := prog_12_method_52_code
def yX10_findDust : MethodName := ⟨RX10, "findDust", "(I)I"⟩
abbrev cX10_best : ByteArray := prog_12_method_53_code
def yX10_best : MethodName := ⟨RX10, "best", "(II)I"⟩
abbrev cX10_order : ByteArray := prog_12_method_54_code
def yX10_order : MethodName := ⟨RX10, "order", "(IIIII)I"⟩
abbrev cX10_comesOf : ByteArray := prog_12_method_55_code
def yX10_comesOf : MethodName := ⟨RX10, "comesOf", "(II)I"⟩
abbrev cX10_isOfGrade : ByteArray := prog_12_method_56_code
def yX10_isOfGrade : MethodName := ⟨RX10, "isOfGrade", "(II)Z"⟩
abbrev cX10_whyNot : ByteArray := prog_12_method_57_code
def yX10_whyNot : MethodName := ⟨RX10, "whyNot", "(II)I"⟩
abbrev cX10_isOrder : ByteArray := prog_12_method_58_code
def yX10_isOrder : MethodName := ⟨RX10, "isOrder", "(I)Z"⟩
abbrev cX10_why : ByteArray := prog_12_method_59_code
def yX10_why : MethodName := ⟨RX10, "why", "(II)I"⟩
abbrev cX10_serve : ByteArray := prog_12_method_60_code
def yX10_serve : MethodName := ⟨RX10, "serve", "(II)I"⟩
abbrev cX10_trySales : ByteArray := prog_12_method_61_code
def yX10_trySales : MethodName := ⟨RX10, "trySales", "(II)V"⟩
abbrev cX10_sales : ByteArray := prog_12_method_62_code
def yX10_sales : MethodName := ⟨RX10, "sales", "(I)I"⟩
abbrev cX10_isStation : ByteArray := prog_12_method_63_code
def yX10_isStation : MethodName := ⟨RX10, "isStation", "(III)Z"⟩
abbrev cX10_tellStation : ByteArray := prog_12_method_64_code
def yX10_tellStation : MethodName := ⟨RX10, "tellStation", "(IIII)V"⟩
abbrev cX10_station : ByteArray := prog_12_method_65_code
def yX10_station : MethodName := ⟨RX10, "station", "(III)I"⟩
abbrev cX10_change : ByteArray := prog_12_method_66_code
def yX10_change : MethodName := ⟨RX10, "change", "(IIII)I"⟩
abbrev cX10_costOf : ByteArray := prog_12_method_67_code
def yX10_costOf : MethodName := ⟨RX10, "costOf", "(IIII)I"⟩
abbrev cX10_icing : ByteArray := prog_12_method_68_code
def yX10_icing : MethodName := ⟨RX10, "icing", "(III)I"⟩
abbrev cX10_ledger : ByteArray := prog_12_method_69_code
def yX10_ledger : MethodName := ⟨RX10, "ledger", "(I)I"⟩
abbrev cX10_tell : ByteArray := prog_12_method_70_code
def yX10_tell : MethodName := ⟨RX10, "tell", "(I)I"⟩
abbrev cX10_check : ByteArray := prog_12_method_71_code
def yX10_check : MethodName := ⟨RX10, "check", "(I)I"⟩
abbrev cX10_placed : ByteArray := prog_12_method_72_code
def yX10_placed : MethodName := ⟨RX10, "placed", "(I)I"⟩
abbrev cX10_count : ByteArray := prog_12_method_73_code
def yX10_count : MethodName := ⟨RX10, "count", "(I)I"⟩
abbrev cX10_found : ByteArray := prog_12_method_74_code
def yX10_found : MethodName := ⟨RX10, "found", "(I)I"⟩
def RJ13 : String := "java/lang/Long"
def TJ13 : u_T := fun k => match k with
  | _ => ("", "", "", false)
def tyJ13 : Nat → FieldType := fun k => match k with
  | _ => .int
theorem nmJ13 : ∀ a, a < 0 → ∀ b, b < 0 → a ≠ b → (TJ13 a).2.1 ≠ (TJ13 b).2.1 := by decide +kernel
theorem tyJ13_ok : ∀ k, k < 0 → parseFieldDescriptor (TJ13 k).2.2.1 = some (tyJ13 k) := by decide +kernel
abbrev cJ13_bitCount_95d88 : ByteArray := prog_13_method_50_code
def yJ13_bitCount_95d88 : MethodName := ⟨RJ13, "bitCount", "(J)I"⟩
def RJ9 : String := "java/lang/Math"
def TJ9 : u_T := fun k => match k with
  | _ => ("", "", "", false)
def tyJ9 : Nat → FieldType := fun k => match k with
  | _ => .int
theorem nmJ9 : ∀ a, a < 0 → ∀ b, b < 0 → a ≠ b → (TJ9 a).2.1 ≠ (TJ9 b).2.1 := by decide +kernel
theorem tyJ9_ok : ∀ k, k < 0 → parseFieldDescriptor (TJ9 k).2.2.1 = some (tyJ9 k) := by decide +kernel
abbrev cJ9_max_7cf53 : ByteArray := prog_14_method_65_code
def yJ9_max_7cf53 : MethodName := ⟨RJ9, "max", "(II)I"⟩
abbrev cJ9_min_7cf53 : ByteArray := prog_14_method_69_code
def yJ9_min_7cf53 : MethodName := ⟨RJ9, "min", "(II)I"⟩
def RJ10 : String := "java/lang/System"
def TJ10 : u_T := fun k => match k with
  | _ => ("", "", "", false)
def tyJ10 : Nat → FieldType := fun k => match k with
  | _ => .int
theorem nmJ10 : ∀ a, a < 0 → ∀ b, b < 0 → a ≠ b → (TJ10 a).2.1 ≠ (TJ10 b).2.1 := by decide +kernel
theorem tyJ10_ok : ∀ k, k < 0 → parseFieldDescriptor (TJ10 k).2.2.1 = some (tyJ10 k) := by decide +kernel
def RJ7 : String := "java/util/Arrays"
def TJ7 : u_T := fun k => match k with
  | _ => ("", "", "", false)
def tyJ7 : Nat → FieldType := fun k => match k with
  | _ => .int
theorem nmJ7 : ∀ a, a < 0 → ∀ b, b < 0 → a ≠ b → (TJ7 a).2.1 ≠ (TJ7 b).2.1 := by decide +kernel
theorem tyJ7_ok : ∀ k, k < 0 → parseFieldDescriptor (TJ7 k).2.2.1 = some (tyJ7 k) := by decide +kernel
abbrev cJ7_fill_53178 : ByteArray := prog_16_method_103_code
def yJ7_fill_53178 : MethodName := ⟨RJ7, "fill", "([II)V"⟩
def RL : String := "IceHouseLaw"
abbrev cL_law : ByteArray := code
def yL_law : MethodName := ⟨RL, "law", "([I)Z"⟩
abbrev vwCl : List vw_C := [(RX0, TX0, 7), (RX1, TX1, 13), (RX2, TX2, 3), (RX3, TX3, 10), (RX4, TX4, 6), (RX5, TX5, 15), (RX6, TX6, 7), (RX7, TX7, 3), (RX8, TX8, 2), (RX9, TX9, 11), (RX10, TX10, 48)]
end
section
def tX0_init : List (Nat × Instr × Nat) := [(0, .aload_n 0, 1), (1, .invokespecial 3, 3), (4, .aload_n 0, 1), (5, .iconst 4, 1), (6, .newarray .int, 2), (8, .putfield 9, 3), (11, .aload_n 0, 1), (12, .iconst 4, 1), (13, .bipush 11, 2), (15, .multianewarray 15 2, 4), (19, .putfield 17, 3), (22, .aload_n 0, 1), (23, .iconst 4, 1), (24, .bipush 21, 2), (26, .multianewarray 15 2, 4), (30, .putfield 20, 3), (33, .aload_n 0, 1), (34, .bipush 11, 2), (36, .newarray .int, 2), (38, .putfield 23, 3), (41, .return_, 1)]
theorem dX0_init : ∀ q ∈ tX0_init, decode cX0_init q.1 = .ok q.2 := by decide +kernel
def tX0_plan : List (Nat × Instr × Nat) := [(0, .aload_n 0, 1), (1, .invokevirtual 26, 3), (4, .iconst 0, 1), (5, .istore_n 3, 1), (6, .iload_n 3, 1), (7, .bipush 16, 2), (9, .if_icmp .ge 23, 3), (12, .aload_n 0, 1), (13, .aload_n 1, 1), (14, .iload_n 3, 1), (15, .iload_n 3, 1), (16, .invokestatic 29, 3), (19, .iload_n 3, 1), (20, .invokestatic 35, 3), (23, .invokevirtual 38, 3), (26, .iinc 3 1, 3), (29, .goto (-23), 3), (32, .iconst 0, 1), (33, .istore_n 3, 1), (34, .iload_n 3, 1), (35, .bipush 10, 2), (37, .if_icmp .gt 46, 3), (40, .iconst 0, 1), (41, .istore 4, 2), (43, .iload 4, 2), (45, .bipush 10, 2), (47, .if_icmp .gt 30, 3), (50, .iload_n 3, 1), (51, .iload 4, 2), (53, .iadd, 1), (54, .iload_n 2, 1), (55, .if_icmp .gt 22, 3), (58, .aload_n 0, 1), (59, .iload_n 3, 1), (60, .iload 4, 2), (62, .iload_n 2, 1), (63, .iload_n 3, 1), (64, .isub, 1), (65, .iload 4, 2), (67, .isub, 1), (68, .invokevirtual 42, 3), (71, .iinc 4 1, 3), (74, .goto (-31), 3), (77, .iinc 3 1, 3), (80, .goto (-46), 3), (83, .return_, 1)]
theorem dX0_plan : ∀ q ∈ tX0_plan, decode cX0_plan q.1 = .ok q.2 := by decide +kernel
def tX0_clearTables : List (Nat × Instr × Nat) := [(0, .aload_n 0, 1), (1, .ldc 48, 2), (3, .putfield 49, 3), (6, .aload_n 0, 1), (7, .ldc 48, 2), (9, .putfield 53, 3), (12, .aload_n 0, 1), (13, .iconst 0, 1), (14, .putfield 56, 3), (17, .iconst 0, 1), (18, .istore_n 1, 1), (19, .iload_n 1, 1), (20, .iconst 4, 1), (21, .if_icmp .ge 19, 3), (24, .aload_n 0, 1), (25, .getfield 17, 3), (28, .iload_n 1, 1), (29, .aaload, 1), (30, .iconst 0, 1), (31, .invokestatic 59, 3), (34, .iinc 1 1, 3), (37, .goto (-18), 3), (40, .return_, 1)]
theorem dX0_clearTables : ∀ q ∈ tX0_clearTables, decode cX0_clearTables q.1 = .ok q.2 := by decide +kernel
def tX0_addColumn : List (Nat × Instr × Nat) := [(0, .iload_n 3, 1), (1, .ifCond .lt 57, 3), (4, .iload 4, 2), (6, .ifCond .lt 52, 3), (9, .iconst 2, 1), (10, .iload_n 3, 1), (11, .imul, 1), (12, .iload 4, 2), (14, .iadd, 1), (15, .iconst 2, 1), (16, .isub, 1), (17, .istore 5, 2), (19, .iconst 0, 1), (20, .istore 6, 2), (22, .iload 6, 2), (24, .bipush 20, 2), (26, .if_icmp .gt 29, 3), (29, .aload_n 0, 1), (30, .getfield 20, 3), (33, .iload 5, 2), (35, .aaload, 1), (36, .iload 6, 2), (38, .aload_n 1, 1), (39, .iload_n 2, 1), (40, .bipush 20, 2), (42, .iload 6, 2), (44, .isub, 1), (45, .invokevirtual 65, 3), (48, .iastore, 1), (49, .iinc 6 1, 3), (52, .goto (-30), 3), (55, .goto 77, 3), (58, .iload_n 3, 1), (59, .ifCond .ge 8, 3), (62, .iload 4, 2), (64, .ifCond .lt 53, 3), (67, .iload_n 3, 1), (68, .iload 4, 2), (70, .invokestatic 71, 3), (73, .istore 5, 2), (75, .iconst 0, 1), (76, .istore 6, 2), (78, .iload 6, 2), (80, .bipush 10, 2), (82, .if_icmp .gt 32, 3), (85, .aload_n 0, 1), (86, .getfield 17, 3), (89, .iload 5, 2), (91, .aaload, 1), (92, .iload 6, 2), (94, .dup2, 1), (95, .iaload, 1), (96, .aload_n 1, 1), (97, .iload_n 2, 1), (98, .bipush 10, 2), (100, .iload 6, 2), (102, .isub, 1), (103, .invokevirtual 65, 3), (106, .iadd, 1), (107, .iastore, 1), (108, .iinc 6 1, 3), (111, .goto (-33), 3), (114, .goto 18, 3), (117, .aload_n 0, 1), (118, .dup, 1), (119, .getfield 56, 3), (122, .aload_n 1, 1), (123, .iload_n 2, 1), (124, .iconst 0, 1), (125, .invokevirtual 65, 3), (128, .iadd, 1), (129, .putfield 56, 3), (132, .return_, 1)]
theorem dX0_addColumn : ∀ q ∈ tX0_addColumn, decode cX0_addColumn q.1 = .ok q.2 := by decide +kernel
def tX0_trySides : List (Nat × Instr × Nat) := [(0, .aload_n 0, 1), (1, .getfield 56, 3), (4, .aload_n 0, 1), (5, .getfield 17, 3), (8, .iconst 0, 1), (9, .aaload, 1), (10, .iload_n 1, 1), (11, .iaload, 1), (12, .iadd, 1), (13, .aload_n 0, 1), (14, .getfield 17, 3), (17, .iconst 1, 1), (18, .aaload, 1), (19, .iload_n 2, 1), (20, .iaload, 1), (21, .iadd, 1), (22, .istore 4, 2), (24, .aload_n 0, 1), (25, .iload_n 1, 1), (26, .iload_n 2, 1), (27, .invokevirtual 76, 3), (30, .iconst 0, 1), (31, .istore 5, 2), (33, .iload 5, 2), (35, .bipush 10, 2), (37, .if_icmp .gt 105, 3), (40, .iload 5, 2), (42, .iload_n 3, 1), (43, .if_icmp .gt 99, 3), (46, .aload_n 0, 1), (47, .getfield 23, 3), (50, .bipush 10, 2), (52, .iload_n 3, 1), (53, .iload 5, 2), (55, .isub, 1), (56, .invokestatic 80, 3), (59, .iaload, 1), (60, .istore 6, 2), (62, .iload 4, 2), (64, .aload_n 0, 1), (65, .iconst 2, 1), (66, .iload_n 1, 1), (67, .iload_n 2, 1), (68, .iload 5, 2), (70, .invokevirtual 83, 3), (73, .iadd, 1), (74, .aload_n 0, 1), (75, .iconst 3, 1), (76, .iload_n 1, 1), (77, .iload_n 2, 1), (78, .iload 6, 2), (80, .invokevirtual 83, 3), (83, .iadd, 1), (84, .istore 7, 2), (86, .iload_n 1, 1), (87, .iload_n 2, 1), (88, .iadd, 1), (89, .iload 5, 2), (91, .iadd, 1), (92, .iload 6, 2), (94, .iadd, 1), (95, .istore 8, 2), (97, .iload 7, 2), (99, .aload_n 0, 1), (100, .getfield 49, 3), (103, .if_icmp .lt 21, 3), (106, .iload 7, 2), (108, .aload_n 0, 1), (109, .getfield 49, 3), (112, .if_icmp .ne 24, 3), (115, .iload 8, 2), (117, .aload_n 0, 1), (118, .getfield 53, 3), (121, .if_icmp .ge 15, 3), (124, .aload_n 0, 1), (125, .iload 7, 2), (127, .iload_n 1, 1), (128, .iload_n 2, 1), (129, .iload 5, 2), (131, .iload 6, 2), (133, .invokevirtual 87, 3), (136, .iinc 5 1, 3), (139, .goto (-106), 3), (142, .return_, 1)]
theorem dX0_trySides : ∀ q ∈ tX0_trySides, decode cX0_trySides q.1 = .ok q.2 := by decide +kernel
def tX0_fillFewest : List (Nat × Instr × Nat) := [(0, .iconst 0, 1), (1, .istore_n 3, 1), (2, .iconst 0, 1), (3, .istore 4, 2), (5, .iload 4, 2), (7, .bipush 10, 2), (9, .if_icmp .gt 40, 3), (12, .aload_n 0, 1), (13, .iconst 3, 1), (14, .iload_n 1, 1), (15, .iload_n 2, 1), (16, .iload 4, 2), (18, .invokevirtual 83, 3), (21, .aload_n 0, 1), (22, .iconst 3, 1), (23, .iload_n 1, 1), (24, .iload_n 2, 1), (25, .iload_n 3, 1), (26, .invokevirtual 83, 3), (29, .if_icmp .ge 6, 3), (32, .iload 4, 2), (34, .istore_n 3, 1), (35, .aload_n 0, 1), (36, .getfield 23, 3), (39, .iload 4, 2), (41, .iload_n 3, 1), (42, .iastore, 1), (43, .iinc 4 1, 3), (46, .goto (-41), 3), (49, .return_, 1)]
theorem dX0_fillFewest : ∀ q ∈ tX0_fillFewest, decode cX0_fillFewest q.1 = .ok q.2 := by decide +kernel
def tX0_sideMelts : List (Nat × Instr × Nat) := [(0, .aload_n 0, 1), (1, .getfield 17, 3), (4, .iload_n 1, 1), (5, .aaload, 1), (6, .iload 4, 2), (8, .iaload, 1), (9, .aload_n 0, 1), (10, .getfield 20, 3), (13, .iload_n 1, 1), (14, .iconst 2, 1), (15, .isub, 1), (16, .aaload, 1), (17, .iload_n 2, 1), (18, .iload 4, 2), (20, .iadd, 1), (21, .iaload, 1), (22, .iadd, 1), (23, .aload_n 0, 1), (24, .getfield 20, 3), (27, .iload_n 1, 1), (28, .aaload, 1), (29, .iload_n 3, 1), (30, .iload 4, 2), (32, .iadd, 1), (33, .iaload, 1), (34, .iadd, 1), (35, .ireturn, 1)]
theorem dX0_sideMelts : ∀ q ∈ tX0_sideMelts, decode cX0_sideMelts q.1 = .ok q.2 := by decide +kernel
def tX0_keep : List (Nat × Instr × Nat) := [(0, .aload_n 0, 1), (1, .iload_n 1, 1), (2, .putfield 49, 3), (5, .aload_n 0, 1), (6, .iload_n 2, 1), (7, .iload_n 3, 1), (8, .iadd, 1), (9, .iload 4, 2), (11, .iadd, 1), (12, .iload 5, 2), (14, .iadd, 1), (15, .putfield 53, 3), (18, .aload_n 0, 1), (19, .getfield 9, 3), (22, .iconst 0, 1), (23, .iload_n 2, 1), (24, .iastore, 1), (25, .aload_n 0, 1), (26, .getfield 9, 3), (29, .iconst 1, 1), (30, .iload_n 3, 1), (31, .iastore, 1), (32, .aload_n 0, 1), (33, .getfield 9, 3), (36, .iconst 2, 1), (37, .iload 4, 2), (39, .iastore, 1), (40, .aload_n 0, 1), (41, .getfield 9, 3), (44, .iconst 3, 1), (45, .iload 5, 2), (47, .iastore, 1), (48, .return_, 1)]
theorem dX0_keep : ∀ q ∈ tX0_keep, decode cX0_keep q.1 = .ok q.2 := by decide +kernel
def tX1_init : List (Nat × Instr × Nat) := [(0, .aload_n 0, 1), (1, .invokespecial 3, 3), (4, .aload_n 0, 1), (5, .bipush 60, 2), (7, .newarray .int, 2), (9, .putfield 9, 3), (12, .aload_n 0, 1), (13, .bipush 60, 2), (15, .newarray .int, 2), (17, .putfield 15, 3), (20, .aload_n 0, 1), (21, .bipush 60, 2), (23, .newarray .int, 2), (25, .putfield 18, 3), (28, .aload_n 0, 1), (29, .bipush 16, 2), (31, .newarray .int, 2), (33, .putfield 21, 3), (36, .aload_n 0, 1), (37, .bipush 96, 2), (39, .newarray .int, 2), (41, .putfield 24, 3), (44, .aload_n 0, 1), (45, .aload_n 1, 1), (46, .putfield 27, 3), (49, .return_, 1)]
theorem dX1_init : ∀ q ∈ tX1_init, decode cX1_init q.1 = .ok q.2 := by decide +kernel
def tX1_becomeLike : List (Nat × Instr × Nat) := [(0, .aload_n 0, 1), (1, .aload_n 1, 1), (2, .getfield 31, 3), (5, .putfield 31, 3), (8, .aload_n 0, 1), (9, .aload_n 1, 1), (10, .getfield 35, 3), (13, .putfield 35, 3), (16, .aload_n 1, 1), (17, .getfield 9, 3), (20, .iconst 0, 1), (21, .aload_n 0, 1), (22, .getfield 9, 3), (25, .iconst 0, 1), (26, .bipush 60, 2), (28, .invokestatic 38, 3), (31, .aload_n 1, 1), (32, .getfield 15, 3), (35, .iconst 0, 1), (36, .aload_n 0, 1), (37, .getfield 15, 3), (40, .iconst 0, 1), (41, .bipush 60, 2), (43, .invokestatic 38, 3), (46, .aload_n 1, 1), (47, .getfield 18, 3), (50, .iconst 0, 1), (51, .aload_n 0, 1), (52, .getfield 18, 3), (55, .iconst 0, 1), (56, .bipush 60, 2), (58, .invokestatic 38, 3), (61, .aload_n 1, 1), (62, .getfield 21, 3), (65, .iconst 0, 1), (66, .aload_n 0, 1), (67, .getfield 21, 3), (70, .iconst 0, 1), (71, .bipush 16, 2), (73, .invokestatic 38, 3), (76, .aload_n 1, 1), (77, .getfield 24, 3), (80, .iconst 0, 1), (81, .aload_n 0, 1), (82, .getfield 24, 3), (85, .iconst 0, 1), (86, .bipush 96, 2), (88, .invokestatic 38, 3), (91, .return_, 1)]
theorem dX1_becomeLike : ∀ q ∈ tX1_becomeLike, decode cX1_becomeLike q.1 = .ok q.2 := by decide +kernel
def tX1_newBlock : List (Nat × Instr × Nat) := [(0, .aload_n 0, 1), (1, .getfield 9, 3), (4, .aload_n 0, 1), (5, .getfield 31, 3), (8, .iload_n 1, 1), (9, .iastore, 1), (10, .aload_n 0, 1), (11, .getfield 15, 3), (14, .aload_n 0, 1), (15, .getfield 31, 3), (18, .iload_n 2, 1), (19, .iastore, 1), (20, .aload_n 0, 1), (21, .getfield 18, 3), (24, .aload_n 0, 1), (25, .getfield 31, 3), (28, .iconst 0, 1), (29, .iastore, 1), (30, .aload_n 0, 1), (31, .dup, 1), (32, .getfield 31, 3), (35, .iconst 1, 1), (36, .iadd, 1), (37, .putfield 31, 3), (40, .aload_n 0, 1), (41, .getfield 31, 3), (44, .iconst 1, 1), (45, .isub, 1), (46, .ireturn, 1)]
theorem dX1_newBlock : ∀ q ∈ tX1_newBlock, decode cX1_newBlock q.1 = .ok q.2 := by decide +kernel
def tX1_hasBlock : List (Nat × Instr × Nat) := [(0, .iload_n 1, 1), (1, .iconst 0, 1), (2, .aload_n 0, 1), (3, .getfield 31, 3), (6, .iconst 1, 1), (7, .isub, 1), (8, .invokestatic 44, 3), (11, .ireturn, 1)]
theorem dX1_hasBlock : ∀ q ∈ tX1_hasBlock, decode cX1_hasBlock q.1 = .ok q.2 := by decide +kernel
def tX1_blocksWhere : List (Nat × Instr × Nat) := [(0, .iconst 0, 1), (1, .istore_n 2, 1), (2, .iconst 0, 1), (3, .istore_n 3, 1), (4, .iload_n 3, 1), (5, .aload_n 0, 1), (6, .getfield 31, 3), (9, .if_icmp .ge 22, 3), (12, .aload_n 0, 1), (13, .getfield 18, 3), (16, .iload_n 3, 1), (17, .iaload, 1), (18, .iload_n 1, 1), (19, .if_icmp .ne 6, 3), (22, .iinc 2 1, 3), (25, .iinc 3 1, 3), (28, .goto (-24), 3), (31, .iload_n 2, 1), (32, .ireturn, 1)]
theorem dX1_blocksWhere : ∀ q ∈ tX1_blocksWhere, decode cX1_blocksWhere q.1 = .ok q.2 := by decide +kernel
def tX1_isEmpty : List (Nat × Instr × Nat) := [(0, .aload_n 0, 1), (1, .getfield 21, 3), (4, .iload_n 1, 1), (5, .iaload, 1), (6, .ifCond .ne 7, 3), (9, .iconst 1, 1), (10, .goto 4, 3), (13, .iconst 0, 1), (14, .ireturn, 1)]
theorem dX1_isEmpty : ∀ q ∈ tX1_isEmpty, decode cX1_isEmpty q.1 = .ok q.2 := by decide +kernel
def tX1_isFull : List (Nat × Instr × Nat) := [(0, .aload_n 0, 1), (1, .getfield 21, 3), (4, .iload_n 1, 1), (5, .iaload, 1), (6, .bipush 6, 2), (8, .if_icmp .lt 7, 3), (11, .iconst 1, 1), (12, .goto 4, 3), (15, .iconst 0, 1), (16, .ireturn, 1)]
theorem dX1_isFull : ∀ q ∈ tX1_isFull, decode cX1_isFull q.1 = .ok q.2 := by decide +kernel
def tX1_blockAt : List (Nat × Instr × Nat) := [(0, .iload_n 2, 1), (1, .iconst 0, 1), (2, .aload_n 0, 1), (3, .getfield 21, 3), (6, .iload_n 1, 1), (7, .iaload, 1), (8, .iconst 1, 1), (9, .isub, 1), (10, .invokestatic 44, 3), (13, .ifCond .eq 17, 3), (16, .aload_n 0, 1), (17, .getfield 24, 3), (20, .iload_n 1, 1), (21, .bipush 6, 2), (23, .imul, 1), (24, .iload_n 2, 1), (25, .iadd, 1), (26, .iaload, 1), (27, .goto 4, 3), (30, .iconst (-1), 1), (31, .ireturn, 1)]
theorem dX1_blockAt : ∀ q ∈ tX1_blockAt, decode cX1_blockAt q.1 = .ok q.2 := by decide +kernel
def tX1_topOf : List (Nat × Instr × Nat) := [(0, .aload_n 0, 1), (1, .iload_n 1, 1), (2, .aload_n 0, 1), (3, .getfield 21, 3), (6, .iload_n 1, 1), (7, .iaload, 1), (8, .iconst 1, 1), (9, .isub, 1), (10, .invokevirtual 48, 3), (13, .ireturn, 1)]
theorem dX1_topOf : ∀ q ∈ tX1_topOf, decode cX1_topOf q.1 = .ok q.2 := by decide +kernel
def tX1_slotOf : List (Nat × Instr × Nat) := [(0, .aload_n 0, 1), (1, .getfield 18, 3), (4, .iload_n 1, 1), (5, .iaload, 1), (6, .iconst 1, 1), (7, .if_icmp .eq 5, 3), (10, .iconst (-1), 1), (11, .ireturn, 1), (12, .iconst 0, 1), (13, .istore_n 2, 1), (14, .iload_n 2, 1), (15, .bipush 96, 2), (17, .if_icmp .ge 27, 3), (20, .aload_n 0, 1), (21, .iload_n 2, 1), (22, .bipush 6, 2), (24, .idiv, 1), (25, .iload_n 2, 1), (26, .bipush 6, 2), (28, .irem, 1), (29, .invokevirtual 48, 3), (32, .iload_n 1, 1), (33, .if_icmp .ne 5, 3), (36, .iload_n 2, 1), (37, .ireturn, 1), (38, .iinc 2 1, 3), (41, .goto (-27), 3), (44, .iconst (-1), 1), (45, .ireturn, 1)]
theorem dX1_slotOf : ∀ q ∈ tX1_slotOf, decode cX1_slotOf q.1 = .ok q.2 := by decide +kernel
def tX1_bringIn : List (Nat × Instr × Nat) := [(0, .aload_n 0, 1), (1, .getfield 18, 3), (4, .iload_n 1, 1), (5, .iconst 1, 1), (6, .iastore, 1), (7, .aload_n 0, 1), (8, .dup, 1), (9, .getfield 52, 3), (12, .aload_n 0, 1), (13, .getfield 15, 3), (16, .iload_n 1, 1), (17, .iaload, 1), (18, .iadd, 1), (19, .putfield 52, 3), (22, .aload_n 0, 1), (23, .iload_n 1, 1), (24, .iload_n 2, 1), (25, .invokevirtual 55, 3), (28, .return_, 1)]
theorem dX1_bringIn : ∀ q ∈ tX1_bringIn, decode cX1_bringIn q.1 = .ok q.2 := by decide +kernel
def tX1_layOn : List (Nat × Instr × Nat) := [(0, .aload_n 0, 1), (1, .getfield 24, 3), (4, .iload_n 2, 1), (5, .bipush 6, 2), (7, .imul, 1), (8, .aload_n 0, 1), (9, .getfield 21, 3), (12, .iload_n 2, 1), (13, .iaload, 1), (14, .iadd, 1), (15, .iload_n 1, 1), (16, .iastore, 1), (17, .aload_n 0, 1), (18, .getfield 21, 3), (21, .iload_n 2, 1), (22, .dup2, 1), (23, .iaload, 1), (24, .iconst 1, 1), (25, .iadd, 1), (26, .iastore, 1), (27, .aload_n 0, 1), (28, .iload_n 2, 1), (29, .invokevirtual 59, 3), (32, .return_, 1)]
theorem dX1_layOn : ∀ q ∈ tX1_layOn, decode cX1_layOn q.1 = .ok q.2 := by decide +kernel
def tX1_liftTop : List (Nat × Instr × Nat) := [(0, .aload_n 0, 1), (1, .iload_n 1, 1), (2, .invokevirtual 63, 3), (5, .istore_n 2, 1), (6, .aload_n 0, 1), (7, .iload_n 1, 1), (8, .aload_n 0, 1), (9, .getfield 21, 3), (12, .iload_n 1, 1), (13, .iaload, 1), (14, .iconst 1, 1), (15, .isub, 1), (16, .invokevirtual 67, 3), (19, .iload_n 2, 1), (20, .ireturn, 1)]
theorem dX1_liftTop : ∀ q ∈ tX1_liftTop, decode cX1_liftTop q.1 = .ok q.2 := by decide +kernel
def tX1_throwOut : List (Nat × Instr × Nat) := [(0, .aload_n 0, 1), (1, .iload_n 1, 1), (2, .invokevirtual 70, 3), (5, .istore_n 2, 1), (6, .aload_n 0, 1), (7, .dup, 1), (8, .getfield 73, 3), (11, .aload_n 0, 1), (12, .getfield 15, 3), (15, .iload_n 2, 1), (16, .iaload, 1), (17, .iadd, 1), (18, .putfield 73, 3), (21, .aload_n 0, 1), (22, .iload_n 2, 1), (23, .invokevirtual 76, 3), (26, .iload_n 2, 1), (27, .ireturn, 1)]
theorem dX1_throwOut : ∀ q ∈ tX1_throwOut, decode cX1_throwOut q.1 = .ok q.2 := by decide +kernel
def tX1_sellTop : List (Nat × Instr × Nat) := [(0, .aload_n 0, 1), (1, .iload_n 1, 1), (2, .invokevirtual 70, 3), (5, .istore_n 3, 1), (6, .aload_n 0, 1), (7, .dup, 1), (8, .getfield 79, 3), (11, .iload_n 2, 1), (12, .iadd, 1), (13, .putfield 79, 3), (16, .aload_n 0, 1), (17, .dup, 1), (18, .getfield 82, 3), (21, .aload_n 0, 1), (22, .getfield 15, 3), (25, .iload_n 3, 1), (26, .iaload, 1), (27, .iload_n 2, 1), (28, .isub, 1), (29, .iadd, 1), (30, .putfield 82, 3), (33, .aload_n 0, 1), (34, .iload_n 3, 1), (35, .invokevirtual 76, 3), (38, .return_, 1)]
theorem dX1_sellTop : ∀ q ∈ tX1_sellTop, decode cX1_sellTop q.1 = .ok q.2 := by decide +kernel
def tX1_letGo : List (Nat × Instr × Nat) := [(0, .aload_n 0, 1), (1, .getfield 15, 3), (4, .iload_n 1, 1), (5, .iconst 0, 1), (6, .iastore, 1), (7, .aload_n 0, 1), (8, .getfield 18, 3), (11, .iload_n 1, 1), (12, .iconst 2, 1), (13, .iastore, 1), (14, .return_, 1)]
theorem dX1_letGo : ∀ q ∈ tX1_letGo, decode cX1_letGo q.1 = .ok q.2 := by decide +kernel
def tX1_removeAt : List (Nat × Instr × Nat) := [(0, .iload_n 1, 1), (1, .bipush 6, 2), (3, .imul, 1), (4, .istore_n 3, 1), (5, .iload_n 3, 1), (6, .iload_n 2, 1), (7, .iadd, 1), (8, .istore 4, 2), (10, .iload 4, 2), (12, .iload_n 3, 1), (13, .aload_n 0, 1), (14, .getfield 21, 3), (17, .iload_n 1, 1), (18, .iaload, 1), (19, .iadd, 1), (20, .iconst 1, 1), (21, .isub, 1), (22, .if_icmp .ge 25, 3), (25, .aload_n 0, 1), (26, .getfield 24, 3), (29, .iload 4, 2), (31, .aload_n 0, 1), (32, .getfield 24, 3), (35, .iload 4, 2), (37, .iconst 1, 1), (38, .iadd, 1), (39, .iaload, 1), (40, .iastore, 1), (41, .iinc 4 1, 3), (44, .goto (-34), 3), (47, .aload_n 0, 1), (48, .getfield 21, 3), (51, .iload_n 1, 1), (52, .dup2, 1), (53, .iaload, 1), (54, .iconst 1, 1), (55, .isub, 1), (56, .iastore, 1), (57, .return_, 1)]
theorem dX1_removeAt : ∀ q ∈ tX1_removeAt, decode cX1_removeAt q.1 = .ok q.2 := by decide +kernel
def tX1_loadOver : List (Nat × Instr × Nat) := [(0, .iconst 0, 1), (1, .istore_n 3, 1), (2, .iload_n 2, 1), (3, .iconst 1, 1), (4, .iadd, 1), (5, .istore 4, 2), (7, .iload 4, 2), (9, .aload_n 0, 1), (10, .getfield 21, 3), (13, .iload_n 1, 1), (14, .iaload, 1), (15, .if_icmp .ge 24, 3), (18, .iload_n 3, 1), (19, .aload_n 0, 1), (20, .getfield 15, 3), (23, .aload_n 0, 1), (24, .iload_n 1, 1), (25, .iload 4, 2), (27, .invokevirtual 48, 3), (30, .iaload, 1), (31, .iadd, 1), (32, .istore_n 3, 1), (33, .iinc 4 1, 3), (36, .goto (-29), 3), (39, .iload_n 3, 1), (40, .ireturn, 1)]
theorem dX1_loadOver : ∀ q ∈ tX1_loadOver, decode cX1_loadOver q.1 = .ok q.2 := by decide +kernel
def tX1_columnWeight : List (Nat × Instr × Nat) := [(0, .aload_n 0, 1), (1, .iload_n 1, 1), (2, .iconst (-1), 1), (3, .invokevirtual 85, 3), (6, .ireturn, 1)]
theorem dX1_columnWeight : ∀ q ∈ tX1_columnWeight, decode cX1_columnWeight q.1 = .ok q.2 := by decide +kernel
def tX1_allWeight : List (Nat × Instr × Nat) := [(0, .iconst 0, 1), (1, .istore_n 1, 1), (2, .iconst 0, 1), (3, .istore_n 2, 1), (4, .iload_n 2, 1), (5, .bipush 16, 2), (7, .if_icmp .ge 17, 3), (10, .iload_n 1, 1), (11, .aload_n 0, 1), (12, .iload_n 2, 1), (13, .invokevirtual 88, 3), (16, .iadd, 1), (17, .istore_n 1, 1), (18, .iinc 2 1, 3), (21, .goto (-17), 3), (24, .iload_n 1, 1), (25, .ireturn, 1)]
theorem dX1_allWeight : ∀ q ∈ tX1_allWeight, decode cX1_allWeight q.1 = .ok q.2 := by decide +kernel
def tX1_breakShelves : List (Nat × Instr × Nat) := [(0, .iconst 0, 1), (1, .istore_n 2, 1), (2, .iconst 0, 1), (3, .istore_n 3, 1), (4, .iload_n 3, 1), (5, .bipush 6, 2), (7, .if_icmp .ge 65, 3), (10, .aload_n 0, 1), (11, .iload_n 1, 1), (12, .iload_n 2, 1), (13, .invokevirtual 48, 3), (16, .istore 4, 2), (18, .iload 4, 2), (20, .ifCond .lt 43, 3), (23, .aload_n 0, 1), (24, .iload_n 1, 1), (25, .iload_n 2, 1), (26, .invokevirtual 91, 3), (29, .ifCond .eq 34, 3), (32, .aload_n 0, 1), (33, .dup, 1), (34, .getfield 95, 3), (37, .aload_n 0, 1), (38, .getfield 15, 3), (41, .iload 4, 2), (43, .iaload, 1), (44, .iadd, 1), (45, .putfield 95, 3), (48, .aload_n 0, 1), (49, .iload_n 1, 1), (50, .iload_n 2, 1), (51, .invokevirtual 67, 3), (54, .aload_n 0, 1), (55, .iload 4, 2), (57, .invokevirtual 76, 3), (60, .goto 6, 3), (63, .iinc 2 1, 3), (66, .iinc 3 1, 3), (69, .goto (-65), 3), (72, .return_, 1)]
theorem dX1_breakShelves : ∀ q ∈ tX1_breakShelves, decode cX1_breakShelves q.1 = .ok q.2 := by decide +kernel
def tX1_breaksAt : List (Nat × Instr × Nat) := [(0, .aload_n 0, 1), (1, .iload_n 1, 1), (2, .iload_n 2, 1), (3, .invokevirtual 48, 3), (6, .istore_n 3, 1), (7, .aload_n 0, 1), (8, .getfield 9, 3), (11, .iload_n 3, 1), (12, .iaload, 1), (13, .iconst 3, 1), (14, .if_icmp .ne 24, 3), (17, .aload_n 0, 1), (18, .iload_n 1, 1), (19, .iload_n 2, 1), (20, .invokevirtual 85, 3), (23, .iconst 2, 1), (24, .aload_n 0, 1), (25, .getfield 15, 3), (28, .iload_n 3, 1), (29, .iaload, 1), (30, .imul, 1), (31, .if_icmp .le 7, 3), (34, .iconst 1, 1), (35, .goto 4, 3), (38, .iconst 0, 1), (39, .ireturn, 1)]
theorem dX1_breaksAt : ∀ q ∈ tX1_breaksAt, decode cX1_breaksAt q.1 = .ok q.2 := by decide +kernel
def tX1_meltAt : List (Nat × Instr × Nat) := [(0, .aload_n 0, 1), (1, .iload_n 1, 1), (2, .iload_n 2, 1), (3, .aload_n 0, 1), (4, .getfield 27, 3), (7, .iload_n 1, 1), (8, .invokevirtual 98, 3), (11, .invokevirtual 103, 3), (14, .ireturn, 1)]
theorem dX1_meltAt : ∀ q ∈ tX1_meltAt, decode cX1_meltAt q.1 = .ok q.2 := by decide +kernel
def tX1_meltBehind : List (Nat × Instr × Nat) := [(0, .aload_n 0, 1), (1, .iload_n 1, 1), (2, .iload_n 2, 1), (3, .invokevirtual 48, 3), (6, .istore 4, 2), (8, .aload_n 0, 1), (9, .getfield 27, 3), (12, .aload_n 0, 1), (13, .getfield 35, 3), (16, .invokevirtual 107, 3), (19, .aload_n 0, 1), (20, .iload_n 1, 1), (21, .iload_n 2, 1), (22, .invokevirtual 110, 3), (25, .iload_n 3, 1), (26, .iadd, 1), (27, .imul, 1), (28, .istore 5, 2), (30, .aload_n 0, 1), (31, .getfield 15, 3), (34, .iload 4, 2), (36, .iaload, 1), (37, .iload 5, 2), (39, .getstatic 113, 3), (42, .aload_n 0, 1), (43, .getfield 9, 3), (46, .iload 4, 2), (48, .iaload, 1), (49, .iaload, 1), (50, .imul, 1), (51, .sipush 400, 3), (54, .idiv, 1), (55, .invokestatic 116, 3), (58, .ireturn, 1)]
theorem dX1_meltBehind : ∀ q ∈ tX1_meltBehind, decode cX1_meltBehind q.1 = .ok q.2 := by decide +kernel
def tX1_openTenths : List (Nat × Instr × Nat) := [(0, .iload_n 1, 1), (1, .iconst 4, 1), (2, .idiv, 1), (3, .istore_n 3, 1), (4, .iload_n 1, 1), (5, .iconst 4, 1), (6, .irem, 1), (7, .istore 4, 2), (9, .iload_n 2, 1), (10, .aload_n 0, 1), (11, .getfield 21, 3), (14, .iload_n 1, 1), (15, .iaload, 1), (16, .iconst 1, 1), (17, .isub, 1), (18, .if_icmp .ne 18, 3), (21, .bipush 10, 2), (23, .aload_n 0, 1), (24, .getfield 27, 3), (27, .getfield 121, 3), (30, .iload_n 1, 1), (31, .iaload, 1), (32, .isub, 1), (33, .goto 4, 3), (36, .iconst 0, 1), (37, .istore 5, 2), (39, .iload_n 3, 1), (40, .ifCond .le 16, 3), (43, .iload 5, 2), (45, .aload_n 0, 1), (46, .iload_n 1, 1), (47, .iconst 4, 1), (48, .isub, 1), (49, .iload_n 2, 1), (50, .invokevirtual 124, 3), (53, .iadd, 1), (54, .istore 5, 2), (56, .iload_n 3, 1), (57, .iconst 3, 1), (58, .if_icmp .ge 16, 3), (61, .iload 5, 2), (63, .aload_n 0, 1), (64, .iload_n 1, 1), (65, .iconst 4, 1), (66, .iadd, 1), (67, .iload_n 2, 1), (68, .invokevirtual 124, 3), (71, .iadd, 1), (72, .istore 5, 2), (74, .iload 4, 2), (76, .ifCond .le 16, 3), (79, .iload 5, 2), (81, .aload_n 0, 1), (82, .iload_n 1, 1), (83, .iconst 1, 1), (84, .isub, 1), (85, .iload_n 2, 1), (86, .invokevirtual 124, 3), (89, .iadd, 1), (90, .istore 5, 2), (92, .iload 4, 2), (94, .iconst 3, 1), (95, .if_icmp .ge 16, 3), (98, .iload 5, 2), (100, .aload_n 0, 1), (101, .iload_n 1, 1), (102, .iconst 1, 1), (103, .iadd, 1), (104, .iload_n 2, 1), (105, .invokevirtual 124, 3), (108, .iadd, 1), (109, .istore 5, 2), (111, .iload 5, 2), (113, .ireturn, 1)]
theorem dX1_openTenths : ∀ q ∈ tX1_openTenths, decode cX1_openTenths q.1 = .ok q.2 := by decide +kernel
def tX1_sideTenths : List (Nat × Instr × Nat) := [(0, .aload_n 0, 1), (1, .getfield 21, 3), (4, .iload_n 1, 1), (5, .iaload, 1), (6, .iload_n 2, 1), (7, .if_icmp .le 7, 3), (10, .iconst 0, 1), (11, .goto 5, 3), (14, .bipush 10, 2), (16, .ireturn, 1)]
theorem dX1_sideTenths : ∀ q ∈ tX1_sideTenths, decode cX1_sideTenths q.1 = .ok q.2 := by decide +kernel
def tX1_columnMelts : List (Nat × Instr × Nat) := [(0, .iconst 0, 1), (1, .istore_n 3, 1), (2, .iconst 0, 1), (3, .istore 4, 2), (5, .iload 4, 2), (7, .aload_n 0, 1), (8, .getfield 21, 3), (11, .iload_n 1, 1), (12, .iaload, 1), (13, .if_icmp .ge 20, 3), (16, .iload_n 3, 1), (17, .aload_n 0, 1), (18, .iload_n 1, 1), (19, .iload 4, 2), (21, .iload_n 2, 1), (22, .invokevirtual 103, 3), (25, .iadd, 1), (26, .istore_n 3, 1), (27, .iinc 4 1, 3), (30, .goto (-25), 3), (33, .iload_n 3, 1), (34, .ireturn, 1)]
theorem dX1_columnMelts : ∀ q ∈ tX1_columnMelts, decode cX1_columnMelts q.1 = .ok q.2 := by decide +kernel
def tX1_allMelts : List (Nat × Instr × Nat) := [(0, .iconst 0, 1), (1, .istore_n 1, 1), (2, .iconst 0, 1), (3, .istore_n 2, 1), (4, .iload_n 2, 1), (5, .bipush 16, 2), (7, .if_icmp .ge 25, 3), (10, .iload_n 1, 1), (11, .aload_n 0, 1), (12, .iload_n 2, 1), (13, .aload_n 0, 1), (14, .getfield 27, 3), (17, .iload_n 2, 1), (18, .invokevirtual 98, 3), (21, .invokevirtual 127, 3), (24, .iadd, 1), (25, .istore_n 1, 1), (26, .iinc 2 1, 3), (29, .goto (-25), 3), (32, .iload_n 1, 1), (33, .ireturn, 1)]
theorem dX1_allMelts : ∀ q ∈ tX1_allMelts, decode cX1_allMelts q.1 = .ok q.2 := by decide +kernel
def tX1_passWeeks : List (Nat × Instr × Nat) := [(0, .iconst 0, 1), (1, .istore_n 2, 1), (2, .iload_n 2, 1), (3, .iload_n 1, 1), (4, .if_icmp .ge 47, 3), (7, .aload_n 0, 1), (8, .invokevirtual 130, 3), (11, .iconst 0, 1), (12, .istore_n 3, 1), (13, .iload_n 3, 1), (14, .bipush 16, 2), (16, .if_icmp .ge 19, 3), (19, .aload_n 0, 1), (20, .iload_n 3, 1), (21, .invokevirtual 133, 3), (24, .aload_n 0, 1), (25, .iload_n 3, 1), (26, .invokevirtual 59, 3), (29, .iinc 3 1, 3), (32, .goto (-19), 3), (35, .aload_n 0, 1), (36, .dup, 1), (37, .getfield 35, 3), (40, .iconst 1, 1), (41, .iadd, 1), (42, .putfield 35, 3), (45, .iinc 2 1, 3), (48, .goto (-46), 3), (51, .return_, 1)]
theorem dX1_passWeeks : ∀ q ∈ tX1_passWeeks, decode cX1_passWeeks q.1 = .ok q.2 := by decide +kernel
def tX1_meltAll : List (Nat × Instr × Nat) := [(0, .iconst 0, 1), (1, .istore_n 1, 1), (2, .iload_n 1, 1), (3, .bipush 16, 2), (5, .if_icmp .ge 59, 3), (8, .iconst 0, 1), (9, .istore_n 2, 1), (10, .iload_n 2, 1), (11, .aload_n 0, 1), (12, .getfield 21, 3), (15, .iload_n 1, 1), (16, .iaload, 1), (17, .if_icmp .ge 41, 3), (20, .aload_n 0, 1), (21, .iload_n 1, 1), (22, .iload_n 2, 1), (23, .invokevirtual 136, 3), (26, .istore_n 3, 1), (27, .aload_n 0, 1), (28, .getfield 15, 3), (31, .aload_n 0, 1), (32, .iload_n 1, 1), (33, .iload_n 2, 1), (34, .invokevirtual 48, 3), (37, .dup2, 1), (38, .iaload, 1), (39, .iload_n 3, 1), (40, .isub, 1), (41, .iastore, 1), (42, .aload_n 0, 1), (43, .dup, 1), (44, .getfield 82, 3), (47, .iload_n 3, 1), (48, .iadd, 1), (49, .putfield 82, 3), (52, .iinc 2 1, 3), (55, .goto (-45), 3), (58, .iinc 1 1, 3), (61, .goto (-59), 3), (64, .return_, 1)]
theorem dX1_meltAll : ∀ q ∈ tX1_meltAll, decode cX1_meltAll q.1 = .ok q.2 := by decide +kernel
def tX1_dropMelted : List (Nat × Instr × Nat) := [(0, .aload_n 0, 1), (1, .getfield 21, 3), (4, .iload_n 1, 1), (5, .iaload, 1), (6, .iconst 1, 1), (7, .isub, 1), (8, .istore_n 2, 1), (9, .iload_n 2, 1), (10, .ifCond .lt 36, 3), (13, .aload_n 0, 1), (14, .iload_n 1, 1), (15, .iload_n 2, 1), (16, .invokevirtual 48, 3), (19, .istore_n 3, 1), (20, .aload_n 0, 1), (21, .getfield 15, 3), (24, .iload_n 3, 1), (25, .iaload, 1), (26, .ifCond .ne 14, 3), (29, .aload_n 0, 1), (30, .iload_n 1, 1), (31, .iload_n 2, 1), (32, .invokevirtual 67, 3), (35, .aload_n 0, 1), (36, .iload_n 3, 1), (37, .invokevirtual 76, 3), (40, .iinc 2 (-1), 3), (43, .goto (-34), 3), (46, .return_, 1)]
theorem dX1_dropMelted : ∀ q ∈ tX1_dropMelted, decode cX1_dropMelted q.1 = .ok q.2 := by decide +kernel
def tX2_init : List (Nat × Instr × Nat) := [(0, .aload_n 0, 1), (1, .invokespecial 3, 3), (4, .aload_n 0, 1), (5, .bipush 64, 2), (7, .newarray .int, 2), (9, .putfield 9, 3), (12, .aload_n 0, 1), (13, .bipush 64, 2), (15, .newarray .int, 2), (17, .putfield 15, 3), (20, .aload_n 0, 1), (21, .bipush 64, 2), (23, .newarray .boolean, 2), (25, .putfield 18, 3), (28, .return_, 1)]
theorem dX2_init : ∀ q ∈ tX2_init, decode cX2_init q.1 = .ok q.2 := by decide +kernel
def tX2_freeze : List (Nat × Instr × Nat) := [(0, .iconst 0, 1), (1, .istore_n 2, 1), (2, .iload_n 2, 1), (3, .bipush 64, 2), (5, .if_icmp .ge 69, 3), (8, .aload_n 0, 1), (9, .getfield 9, 3), (12, .iload_n 2, 1), (13, .iaload, 1), (14, .aload_n 0, 1), (15, .getfield 9, 3), (18, .iload_n 2, 1), (19, .iaload, 1), (20, .imul, 1), (21, .iload_n 1, 1), (22, .bipush 40, 2), (24, .imul, 1), (25, .iconst 2, 1), (26, .aload_n 0, 1), (27, .getfield 15, 3), (30, .iload_n 2, 1), (31, .iaload, 1), (32, .iadd, 1), (33, .idiv, 1), (34, .iadd, 1), (35, .istore_n 3, 1), (36, .aload_n 0, 1), (37, .getfield 9, 3), (40, .iload_n 2, 1), (41, .aload_n 0, 1), (42, .getfield 9, 3), (45, .iload_n 2, 1), (46, .iaload, 1), (47, .iload_n 3, 1), (48, .invokestatic 22, 3), (51, .iastore, 1), (52, .aload_n 0, 1), (53, .getfield 15, 3), (56, .iload_n 2, 1), (57, .iaload, 1), (58, .ifCond .le 10, 3), (61, .aload_n 0, 1), (62, .getfield 18, 3), (65, .iload_n 2, 1), (66, .iconst 1, 1), (67, .bastore, 1), (68, .iinc 2 1, 3), (71, .goto (-69), 3), (74, .return_, 1)]
theorem dX2_freeze : ∀ q ∈ tX2_freeze, decode cX2_freeze q.1 = .ok q.2 := by decide +kernel
def tX2_rootUpFrom : List (Nat × Instr × Nat) := [(0, .iload_n 0, 1), (1, .istore_n 2, 1), (2, .iload_n 2, 1), (3, .bipush 60, 2), (5, .if_icmp .ge 20, 3), (8, .iload_n 2, 1), (9, .iconst 1, 1), (10, .iadd, 1), (11, .iload_n 2, 1), (12, .iconst 1, 1), (13, .iadd, 1), (14, .imul, 1), (15, .iload_n 1, 1), (16, .if_icmp .gt 9, 3), (19, .iinc 2 1, 3), (22, .goto (-20), 3), (25, .iload_n 2, 1), (26, .ireturn, 1)]
theorem dX2_rootUpFrom : ∀ q ∈ tX2_rootUpFrom, decode cX2_rootUpFrom q.1 = .ok q.2 := by decide +kernel
def tX2_soften : List (Nat × Instr × Nat) := [(0, .iconst 0, 1), (1, .istore_n 2, 1), (2, .iload_n 2, 1), (3, .bipush 64, 2), (5, .if_icmp .ge 63, 3), (8, .aload_n 0, 1), (9, .getfield 9, 3), (12, .iload_n 2, 1), (13, .iconst 0, 1), (14, .aload_n 0, 1), (15, .getfield 9, 3), (18, .iload_n 2, 1), (19, .iaload, 1), (20, .iload_n 1, 1), (21, .isub, 1), (22, .invokestatic 26, 3), (25, .iastore, 1), (26, .aload_n 0, 1), (27, .getfield 15, 3), (30, .iload_n 2, 1), (31, .iconst 0, 1), (32, .iastore, 1), (33, .aload_n 0, 1), (34, .getfield 18, 3), (37, .iload_n 2, 1), (38, .aload_n 0, 1), (39, .getfield 18, 3), (42, .iload_n 2, 1), (43, .baload, 1), (44, .ifCond .eq 16, 3), (47, .aload_n 0, 1), (48, .getfield 9, 3), (51, .iload_n 2, 1), (52, .iaload, 1), (53, .ifCond .le 7, 3), (56, .iconst 1, 1), (57, .goto 4, 3), (60, .iconst 0, 1), (61, .bastore, 1), (62, .iinc 2 1, 3), (65, .goto (-63), 3), (68, .return_, 1)]
theorem dX2_soften : ∀ q ∈ tX2_soften, decode cX2_soften q.1 = .ok q.2 := by decide +kernel
def tX2_snowOver : List (Nat × Instr × Nat) := [(0, .iconst 0, 1), (1, .istore_n 2, 1), (2, .iconst 0, 1), (3, .istore_n 3, 1), (4, .iload_n 3, 1), (5, .bipush 64, 2), (7, .if_icmp .ge 46, 3), (10, .aload_n 0, 1), (11, .getfield 9, 3), (14, .iload_n 3, 1), (15, .iaload, 1), (16, .ifCond .le 22, 3), (19, .aload_n 0, 1), (20, .getfield 15, 3), (23, .iload_n 3, 1), (24, .bipush 30, 2), (26, .aload_n 0, 1), (27, .getfield 15, 3), (30, .iload_n 3, 1), (31, .iaload, 1), (32, .iload_n 1, 1), (33, .iadd, 1), (34, .invokestatic 31, 3), (37, .iastore, 1), (38, .iload_n 2, 1), (39, .aload_n 0, 1), (40, .getfield 15, 3), (43, .iload_n 3, 1), (44, .iaload, 1), (45, .iadd, 1), (46, .istore_n 2, 1), (47, .iinc 3 1, 3), (50, .goto (-46), 3), (53, .iload_n 2, 1), (54, .ireturn, 1)]
theorem dX2_snowOver : ∀ q ∈ tX2_snowOver, decode cX2_snowOver q.1 = .ok q.2 := by decide +kernel
def tX2_clearRow : List (Nat × Instr × Nat) := [(0, .iconst 0, 1), (1, .istore_n 2, 1), (2, .iload_n 1, 1), (3, .bipush 8, 2), (5, .imul, 1), (6, .istore_n 3, 1), (7, .iload_n 3, 1), (8, .iload_n 1, 1), (9, .bipush 8, 2), (11, .imul, 1), (12, .bipush 8, 2), (14, .iadd, 1), (15, .if_icmp .ge 21, 3), (18, .iload_n 2, 1), (19, .aload_n 0, 1), (20, .getfield 15, 3), (23, .iload_n 3, 1), (24, .iconst 0, 1), (25, .invokestatic 34, 3), (28, .iadd, 1), (29, .istore_n 2, 1), (30, .iinc 3 1, 3), (33, .goto (-26), 3), (36, .iload_n 2, 1), (37, .ireturn, 1)]
theorem dX2_clearRow : ∀ q ∈ tX2_clearRow, decode cX2_clearRow q.1 = .ok q.2 := by decide +kernel
def tX2_frozenCells : List (Nat × Instr × Nat) := [(0, .aload_n 0, 1), (1, .iconst 1, 1), (2, .invokevirtual 38, 3), (5, .invokestatic 42, 3), (8, .ireturn, 1)]
theorem dX2_frozenCells : ∀ q ∈ tX2_frozenCells, decode cX2_frozenCells q.1 = .ok q.2 := by decide +kernel
def tX2_bearing : List (Nat × Instr × Nat) := [(0, .aload_n 0, 1), (1, .getstatic 48, 3), (4, .iload_n 1, 1), (5, .iaload, 1), (6, .invokevirtual 38, 3), (9, .lreturn, 1)]
theorem dX2_bearing : ∀ q ∈ tX2_bearing, decode cX2_bearing q.1 = .ok q.2 := by decide +kernel
def tX2_cellsOf : List (Nat × Instr × Nat) := [(0, .lconst 0, 1), (1, .lstore_n 2, 1), (2, .iconst 0, 1), (3, .istore 4, 2), (5, .iload 4, 2), (7, .bipush 64, 2), (9, .if_icmp .ge 27, 3), (12, .aload_n 0, 1), (13, .getfield 9, 3), (16, .iload 4, 2), (18, .iaload, 1), (19, .iload_n 1, 1), (20, .if_icmp .lt 10, 3), (23, .lload_n 2, 1), (24, .lconst 1, 1), (25, .iload 4, 2), (27, .lshl, 1), (28, .lor, 1), (29, .lstore_n 2, 1), (30, .iinc 4 1, 3), (33, .goto (-28), 3), (36, .lload_n 2, 1), (37, .lreturn, 1)]
theorem dX2_cellsOf : ∀ q ∈ tX2_cellsOf, decode cX2_cellsOf q.1 = .ok q.2 := by decide +kernel
def tX2_reachedOver : List (Nat × Instr × Nat) := [(0, .lload_n 0, 1), (1, .ldc2_w 51, 3), (4, .land, 1), (5, .lstore_n 2, 1), (6, .iconst 0, 1), (7, .istore 4, 2), (9, .iload 4, 2), (11, .bipush 64, 2), (13, .if_icmp .ge 32, 3), (16, .lload_n 2, 1), (17, .lload_n 2, 1), (18, .invokestatic 53, 3), (21, .lor, 1), (22, .lload_n 0, 1), (23, .land, 1), (24, .lstore 5, 2), (26, .lload 5, 2), (28, .lload_n 2, 1), (29, .lcmp, 1), (30, .ifCond .ne 6, 3), (33, .goto 12, 3), (36, .lload 5, 2), (38, .lstore_n 2, 1), (39, .iinc 4 1, 3), (42, .goto (-33), 3), (45, .lload_n 2, 1), (46, .lreturn, 1)]
theorem dX2_reachedOver : ∀ q ∈ tX2_reachedOver, decode cX2_reachedOver q.1 = .ok q.2 := by decide +kernel
def tX2_beside : List (Nat × Instr × Nat) := [(0, .lload_n 0, 1), (1, .bipush 8, 2), (3, .lshl, 1), (4, .lload_n 0, 1), (5, .bipush 8, 2), (7, .lushr, 1), (8, .lor, 1), (9, .lload_n 0, 1), (10, .iconst 1, 1), (11, .lshl, 1), (12, .ldc2_w 57, 3), (15, .land, 1), (16, .lor, 1), (17, .lload_n 0, 1), (18, .iconst 1, 1), (19, .lushr, 1), (20, .ldc2_w 59, 3), (23, .land, 1), (24, .lor, 1), (25, .lreturn, 1)]
theorem dX2_beside : ∀ q ∈ tX2_beside, decode cX2_beside q.1 = .ok q.2 := by decide +kernel
def tX2_isSquare : List (Nat × Instr × Nat) := [(0, .iload_n 0, 1), (1, .iconst 0, 1), (2, .bipush 54, 2), (4, .invokestatic 61, 3), (7, .ifCond .eq 16, 3), (10, .iload_n 0, 1), (11, .bipush 8, 2), (13, .irem, 1), (14, .bipush 7, 2), (16, .if_icmp .ge 7, 3), (19, .iconst 1, 1), (20, .goto 4, 3), (23, .iconst 0, 1), (24, .ireturn, 1)]
theorem dX2_isSquare : ∀ q ∈ tX2_isSquare, decode cX2_isSquare q.1 = .ok q.2 := by decide +kernel
def tX2_cellsOfSquare : List (Nat × Instr × Nat) := [(0, .ldc2_w 65, 3), (3, .iload_n 0, 1), (4, .lshl, 1), (5, .lreturn, 1)]
theorem dX2_cellsOfSquare : ∀ q ∈ tX2_cellsOfSquare, decode cX2_cellsOfSquare q.1 = .ok q.2 := by decide +kernel
def tX2_barTo : List (Nat × Instr × Nat) := [(0, .iload_n 1, 1), (1, .invokestatic 67, 3), (4, .aload_n 0, 1), (5, .bipush 8, 2), (7, .invokevirtual 38, 3), (10, .aload_n 0, 1), (11, .iconst 1, 1), (12, .invokevirtual 70, 3), (15, .invokestatic 73, 3), (18, .ireturn, 1)]
theorem dX2_barTo : ∀ q ∈ tX2_barTo, decode cX2_barTo q.1 = .ok q.2 := by decide +kernel
def tX2_barAmong : List (Nat × Instr × Nat) := [(0, .lload_n 0, 1), (1, .lload_n 2, 1), (2, .ldc2_w 77, 3), (5, .lxor, 1), (6, .land, 1), (7, .lconst 0, 1), (8, .lcmp, 1), (9, .ifCond .eq 5, 3), (12, .iconst 1, 1), (13, .ireturn, 1), (14, .lload_n 0, 1), (15, .invokestatic 53, 3), (18, .lload_n 0, 1), (19, .ldc2_w 77, 3), (22, .lxor, 1), (23, .land, 1), (24, .lstore 6, 2), (26, .lload 6, 2), (28, .lload 4, 2), (30, .lload_n 0, 1), (31, .ldc2_w 77, 3), (34, .lxor, 1), (35, .land, 1), (36, .invokestatic 79, 3), (39, .land, 1), (40, .lconst 0, 1), (41, .lcmp, 1), (42, .ifCond .eq 7, 3), (45, .iconst 0, 1), (46, .goto 4, 3), (49, .iconst 2, 1), (50, .ireturn, 1)]
theorem dX2_barAmong : ∀ q ∈ tX2_barAmong, decode cX2_barAmong q.1 = .ok q.2 := by decide +kernel
def tX2_thicksOf : List (Nat × Instr × Nat) := [(0, .aload_n 0, 1), (1, .getfield 9, 3), (4, .iload_n 1, 1), (5, .iaload, 1), (6, .aload_n 0, 1), (7, .getfield 9, 3), (10, .iload_n 1, 1), (11, .iconst 1, 1), (12, .iadd, 1), (13, .iaload, 1), (14, .iadd, 1), (15, .aload_n 0, 1), (16, .getfield 9, 3), (19, .iload_n 1, 1), (20, .bipush 8, 2), (22, .iadd, 1), (23, .iaload, 1), (24, .iadd, 1), (25, .aload_n 0, 1), (26, .getfield 9, 3), (29, .iload_n 1, 1), (30, .bipush 8, 2), (32, .iadd, 1), (33, .iconst 1, 1), (34, .iadd, 1), (35, .iaload, 1), (36, .iadd, 1), (37, .ireturn, 1)]
theorem dX2_thicksOf : ∀ q ∈ tX2_thicksOf, decode cX2_thicksOf q.1 = .ok q.2 := by decide +kernel
def tX2_kindOf : List (Nat × Instr × Nat) := [(0, .aload_n 0, 1), (1, .iload_n 1, 1), (2, .invokevirtual 82, 3), (5, .aload_n 0, 1), (6, .iload_n 1, 1), (7, .iconst 1, 1), (8, .iadd, 1), (9, .invokevirtual 82, 3), (12, .iadd, 1), (13, .aload_n 0, 1), (14, .iload_n 1, 1), (15, .bipush 8, 2), (17, .iadd, 1), (18, .invokevirtual 82, 3), (21, .iadd, 1), (22, .aload_n 0, 1), (23, .iload_n 1, 1), (24, .bipush 8, 2), (26, .iadd, 1), (27, .iconst 1, 1), (28, .iadd, 1), (29, .invokevirtual 82, 3), (32, .iadd, 1), (33, .istore_n 2, 1), (34, .iload_n 2, 1), (35, .iconst 2, 1), (36, .if_icmp .lt 5, 3), (39, .iconst 2, 1), (40, .ireturn, 1), (41, .iload_n 2, 1), (42, .iconst 1, 1), (43, .if_icmp .ne 5, 3), (46, .iconst 0, 1), (47, .ireturn, 1), (48, .aload_n 0, 1), (49, .iload_n 1, 1), (50, .invokevirtual 86, 3), (53, .bipush 48, 2), (55, .if_icmp .ge 7, 3), (58, .iconst 3, 1), (59, .goto 4, 3), (62, .iconst 1, 1), (63, .ireturn, 1)]
theorem dX2_kindOf : ∀ q ∈ tX2_kindOf, decode cX2_kindOf q.1 = .ok q.2 := by decide +kernel
def tX2_milk : List (Nat × Instr × Nat) := [(0, .aload_n 0, 1), (1, .getfield 18, 3), (4, .iload_n 1, 1), (5, .baload, 1), (6, .ifCond .eq 7, 3), (9, .iconst 1, 1), (10, .goto 4, 3), (13, .iconst 0, 1), (14, .ireturn, 1)]
theorem dX2_milk : ∀ q ∈ tX2_milk, decode cX2_milk q.1 = .ok q.2 := by decide +kernel
def tX2_open : List (Nat × Instr × Nat) := [(0, .aload_n 0, 1), (1, .iload_n 1, 1), (2, .invokevirtual 89, 3), (5, .aload_n 0, 1), (6, .iload_n 1, 1), (7, .iconst 1, 1), (8, .iadd, 1), (9, .invokevirtual 89, 3), (12, .aload_n 0, 1), (13, .iload_n 1, 1), (14, .bipush 8, 2), (16, .iadd, 1), (17, .invokevirtual 89, 3), (20, .aload_n 0, 1), (21, .iload_n 1, 1), (22, .bipush 8, 2), (24, .iadd, 1), (25, .iconst 1, 1), (26, .iadd, 1), (27, .invokevirtual 89, 3), (30, .return_, 1)]
theorem dX2_open : ∀ q ∈ tX2_open, decode cX2_open q.1 = .ok q.2 := by decide +kernel
def tX2_openCell : List (Nat × Instr × Nat) := [(0, .aload_n 0, 1), (1, .getfield 9, 3), (4, .iload_n 1, 1), (5, .iconst 0, 1), (6, .iastore, 1), (7, .aload_n 0, 1), (8, .getfield 15, 3), (11, .iload_n 1, 1), (12, .iconst 0, 1), (13, .iastore, 1), (14, .aload_n 0, 1), (15, .getfield 18, 3), (18, .iload_n 1, 1), (19, .iconst 0, 1), (20, .bastore, 1), (21, .return_, 1)]
theorem dX2_openCell : ∀ q ∈ tX2_openCell, decode cX2_openCell q.1 = .ok q.2 := by decide +kernel
def tX3_init : List (Nat × Instr × Nat) := [(0, .aload_n 0, 1), (1, .invokespecial 3, 3), (4, .aload_n 0, 1), (5, .bipush 10, 2), (7, .newarray .int, 2), (9, .putfield 9, 3), (12, .aload_n 0, 1), (13, .bipush 10, 2), (15, .newarray .int, 2), (17, .putfield 15, 3), (20, .aload_n 0, 1), (21, .bipush 10, 2), (23, .newarray .int, 2), (25, .putfield 18, 3), (28, .aload_n 0, 1), (29, .bipush 10, 2), (31, .newarray .int, 2), (33, .putfield 21, 3), (36, .aload_n 0, 1), (37, .bipush 10, 2), (39, .newarray .int, 2), (41, .putfield 24, 3), (44, .aload_n 0, 1), (45, .bipush 10, 2), (47, .newarray .boolean, 2), (49, .putfield 27, 3), (52, .aload_n 0, 1), (53, .aload_n 1, 1), (54, .putfield 31, 3), (57, .return_, 1)]
theorem dX3_init : ∀ q ∈ tX3_init, decode cX3_init q.1 = .ok q.2 := by decide +kernel
def tX3_has : List (Nat × Instr × Nat) := [(0, .iload_n 1, 1), (1, .iconst 0, 1), (2, .aload_n 0, 1), (3, .getfield 35, 3), (6, .iconst 1, 1), (7, .isub, 1), (8, .invokestatic 39, 3), (11, .ireturn, 1)]
theorem dX3_has : ∀ q ∈ tX3_has, decode cX3_has q.1 = .ok q.2 := by decide +kernel
def tX3_enter : List (Nat × Instr × Nat) := [(0, .aload_n 0, 1), (1, .getfield 15, 3), (4, .aload_n 0, 1), (5, .getfield 35, 3), (8, .iload_n 1, 1), (9, .iastore, 1), (10, .aload_n 0, 1), (11, .getfield 18, 3), (14, .aload_n 0, 1), (15, .getfield 35, 3), (18, .iload_n 2, 1), (19, .iastore, 1), (20, .aload_n 0, 1), (21, .getfield 21, 3), (24, .aload_n 0, 1), (25, .getfield 35, 3), (28, .iload_n 3, 1), (29, .iastore, 1), (30, .aload_n 0, 1), (31, .getfield 24, 3), (34, .aload_n 0, 1), (35, .getfield 35, 3), (38, .iload 4, 2), (40, .iastore, 1), (41, .aload_n 0, 1), (42, .getfield 9, 3), (45, .aload_n 0, 1), (46, .getfield 35, 3), (49, .iload 5, 2), (51, .iastore, 1), (52, .aload_n 0, 1), (53, .dup, 1), (54, .getfield 35, 3), (57, .iconst 1, 1), (58, .iadd, 1), (59, .putfield 35, 3), (62, .aload_n 0, 1), (63, .getfield 35, 3), (66, .iconst 1, 1), (67, .isub, 1), (68, .ireturn, 1)]
theorem dX3_enter : ∀ q ∈ tX3_enter, decode cX3_enter q.1 = .ok q.2 := by decide +kernel
def tX3_hindrance : List (Nat × Instr × Nat) := [(0, .aload_n 0, 1), (1, .getfield 27, 3), (4, .iload_n 1, 1), (5, .baload, 1), (6, .ifCond .eq 5, 3), (9, .iconst 1, 1), (10, .ireturn, 1), (11, .aload_n 0, 1), (12, .getfield 31, 3), (15, .getfield 43, 3), (18, .aload_n 0, 1), (19, .getfield 21, 3), (22, .iload_n 1, 1), (23, .iaload, 1), (24, .if_icmp .le 5, 3), (27, .iconst 2, 1), (28, .ireturn, 1), (29, .iload_n 2, 1), (30, .ifCond .ge 5, 3), (33, .iconst 3, 1), (34, .ireturn, 1), (35, .aload_n 0, 1), (36, .getfield 31, 3), (39, .getfield 48, 3), (42, .iload_n 2, 1), (43, .iaload, 1), (44, .aload_n 0, 1), (45, .getfield 15, 3), (48, .iload_n 1, 1), (49, .iaload, 1), (50, .invokestatic 51, 3), (53, .ifCond .ne 5, 3), (56, .iconst 4, 1), (57, .ireturn, 1), (58, .aload_n 0, 1), (59, .iload_n 1, 1), (60, .iload_n 2, 1), (61, .invokevirtual 55, 3), (64, .aload_n 0, 1), (65, .getfield 18, 3), (68, .iload_n 1, 1), (69, .iaload, 1), (70, .if_icmp .ge 7, 3), (73, .iconst 5, 1), (74, .goto 4, 3), (77, .iconst 0, 1), (78, .ireturn, 1)]
theorem dX3_hindrance : ∀ q ∈ tX3_hindrance, decode cX3_hindrance q.1 = .ok q.2 := by decide +kernel
def tX3_isOfGrade : List (Nat × Instr × Nat) := [(0, .iload_n 1, 1), (1, .ifCond .eq 24, 3), (4, .iload_n 1, 1), (5, .iconst 1, 1), (6, .if_icmp .ne 11, 3), (9, .iload_n 0, 1), (10, .iconst 2, 1), (11, .invokestatic 59, 3), (14, .ifCond .eq 11, 3), (17, .iload_n 0, 1), (18, .iconst 1, 1), (19, .invokestatic 59, 3), (22, .ifCond .eq 7, 3), (25, .iconst 1, 1), (26, .goto 4, 3), (29, .iconst 0, 1), (30, .ireturn, 1)]
theorem dX3_isOfGrade : ∀ q ∈ tX3_isOfGrade, decode cX3_isOfGrade q.1 = .ok q.2 := by decide +kernel
def tX3_whatComes : List (Nat × Instr × Nat) := [(0, .aload_n 0, 1), (1, .getfield 24, 3), (4, .iload_n 1, 1), (5, .iaload, 1), (6, .aload_n 0, 1), (7, .getfield 31, 3), (10, .getfield 62, 3), (13, .aload_n 0, 1), (14, .getfield 31, 3), (17, .getfield 43, 3), (20, .invokevirtual 66, 3), (23, .imul, 1), (24, .bipush 10, 2), (26, .idiv, 1), (27, .istore_n 3, 1), (28, .iconst 0, 1), (29, .aload_n 0, 1), (30, .getfield 31, 3), (33, .getfield 72, 3), (36, .iload_n 2, 1), (37, .iaload, 1), (38, .iload_n 3, 1), (39, .isub, 1), (40, .invokestatic 75, 3), (43, .ireturn, 1)]
theorem dX3_whatComes : ∀ q ∈ tX3_whatComes, decode cX3_whatComes q.1 = .ok q.2 := by decide +kernel
def tX3_fulfil : List (Nat × Instr × Nat) := [(0, .aload_n 0, 1), (1, .iload_n 1, 1), (2, .aload_n 0, 1), (3, .getfield 31, 3), (6, .iload_n 2, 1), (7, .invokevirtual 80, 3), (10, .invokevirtual 55, 3), (13, .istore_n 3, 1), (14, .aload_n 0, 1), (15, .getfield 31, 3), (18, .iload_n 2, 1), (19, .iload_n 3, 1), (20, .invokevirtual 83, 3), (23, .aload_n 0, 1), (24, .getfield 27, 3), (27, .iload_n 1, 1), (28, .iconst 1, 1), (29, .bastore, 1), (30, .aload_n 0, 1), (31, .dup, 1), (32, .getfield 87, 3), (35, .iconst 1, 1), (36, .iadd, 1), (37, .putfield 87, 3), (40, .aload_n 0, 1), (41, .dup, 1), (42, .getfield 90, 3), (45, .aload_n 0, 1), (46, .getfield 9, 3), (49, .iload_n 1, 1), (50, .iaload, 1), (51, .iadd, 1), (52, .putfield 90, 3), (55, .iload_n 3, 1), (56, .ireturn, 1)]
theorem dX3_fulfil : ∀ q ∈ tX3_fulfil, decode cX3_fulfil q.1 = .ok q.2 := by decide +kernel
def tX4_init : List (Nat × Instr × Nat) := [(0, .aload_n 0, 1), (1, .invokespecial 3, 3), (4, .aload_n 0, 1), (5, .bipush 9, 2), (7, .newarray .int, 2), (9, .putfield 9, 3), (12, .aload_n 0, 1), (13, .bipush 9, 2), (15, .newarray .int, 2), (17, .putfield 15, 3), (20, .aload_n 0, 1), (21, .bipush 9, 2), (23, .newarray .int, 2), (25, .putfield 18, 3), (28, .aload_n 0, 1), (29, .bipush 9, 2), (31, .bipush 61, 2), (33, .multianewarray 21 2, 4), (37, .putfield 23, 3), (40, .aload_n 0, 1), (41, .bipush 9, 2), (43, .bipush 61, 2), (45, .multianewarray 21 2, 4), (49, .putfield 26, 3), (52, .return_, 1)]
theorem dX4_init : ∀ q ∈ tX4_init, decode cX4_init q.1 = .ok q.2 := by decide +kernel
def tX4_enter : List (Nat × Instr × Nat) := [(0, .aload_n 0, 1), (1, .aload_n 0, 1), (2, .getfield 29, 3), (5, .iload_n 1, 1), (6, .iload_n 2, 1), (7, .iload_n 3, 1), (8, .invokevirtual 33, 3), (11, .aload_n 0, 1), (12, .dup, 1), (13, .getfield 29, 3), (16, .iconst 1, 1), (17, .iadd, 1), (18, .putfield 29, 3), (21, .aload_n 0, 1), (22, .getfield 29, 3), (25, .ireturn, 1)]
theorem dX4_enter : ∀ q ∈ tX4_enter, decode cX4_enter q.1 = .ok q.2 := by decide +kernel
def tX4_describe : List (Nat × Instr × Nat) := [(0, .aload_n 0, 1), (1, .getfield 15, 3), (4, .iload_n 1, 1), (5, .iload_n 2, 1), (6, .iastore, 1), (7, .aload_n 0, 1), (8, .getfield 9, 3), (11, .iload_n 1, 1), (12, .iload_n 3, 1), (13, .iastore, 1), (14, .aload_n 0, 1), (15, .getfield 18, 3), (18, .iload_n 1, 1), (19, .iload 4, 2), (21, .iastore, 1), (22, .return_, 1)]
theorem dX4_describe : ∀ q ∈ tX4_describe, decode cX4_describe q.1 = .ok q.2 := by decide +kernel
def tX4_plan : List (Nat × Instr × Nat) := [(0, .aload_n 0, 1), (1, .getfield 23, 3), (4, .aload_n 0, 1), (5, .getfield 29, 3), (8, .iconst 1, 1), (9, .isub, 1), (10, .aaload, 1), (11, .iconst 0, 1), (12, .invokestatic 37, 3), (15, .aload_n 0, 1), (16, .getfield 29, 3), (19, .iconst 2, 1), (20, .isub, 1), (21, .istore_n 2, 1), (22, .iload_n 2, 1), (23, .ifCond .lt 29, 3), (26, .iconst 0, 1), (27, .istore_n 3, 1), (28, .iload_n 3, 1), (29, .iload_n 1, 1), (30, .if_icmp .gt 16, 3), (33, .aload_n 0, 1), (34, .iload_n 2, 1), (35, .iload_n 3, 1), (36, .iload_n 1, 1), (37, .invokevirtual 43, 3), (40, .iinc 3 1, 3), (43, .goto (-15), 3), (46, .iinc 2 (-1), 3), (49, .goto (-27), 3), (52, .return_, 1)]
theorem dX4_plan : ∀ q ∈ tX4_plan, decode cX4_plan q.1 = .ok q.2 := by decide +kernel
def tX4_planAt : List (Nat × Instr × Nat) := [(0, .iconst (-1), 1), (1, .istore 4, 2), (3, .iconst 0, 1), (4, .istore 5, 2), (6, .aload_n 0, 1), (7, .getfield 9, 3), (10, .iload_n 1, 1), (11, .iaload, 1), (12, .iload_n 3, 1), (13, .iload_n 2, 1), (14, .isub, 1), (15, .invokestatic 47, 3), (18, .istore 6, 2), (20, .iconst 0, 1), (21, .aload_n 0, 1), (22, .getfield 18, 3), (25, .iload_n 1, 1), (26, .iaload, 1), (27, .iload_n 2, 1), (28, .isub, 1), (29, .invokestatic 53, 3), (32, .istore 7, 2), (34, .iload 7, 2), (36, .iload 6, 2), (38, .if_icmp .gt 70, 3), (41, .aload_n 0, 1), (42, .getfield 23, 3), (45, .iload_n 1, 1), (46, .iconst 1, 1), (47, .iadd, 1), (48, .aaload, 1), (49, .iload_n 2, 1), (50, .iload 7, 2), (52, .iadd, 1), (53, .aload_n 0, 1), (54, .getfield 18, 3), (57, .iload_n 1, 1), (58, .iaload, 1), (59, .isub, 1), (60, .iaload, 1), (61, .istore 8, 2), (63, .iload 8, 2), (65, .iload 7, 2), (67, .aload_n 0, 1), (68, .getfield 15, 3), (71, .iload_n 1, 1), (72, .iaload, 1), (73, .imul, 1), (74, .iadd, 1), (75, .istore 9, 2), (77, .iload 8, 2), (79, .ifCond .lt 23, 3), (82, .iload 4, 2), (84, .ifCond .lt 10, 3), (87, .iload 9, 2), (89, .iload 4, 2), (91, .if_icmp .ge 11, 3), (94, .iload 9, 2), (96, .istore 4, 2), (98, .iload 7, 2), (100, .istore 5, 2), (102, .iinc 7 1, 3), (105, .goto (-71), 3), (108, .aload_n 0, 1), (109, .getfield 23, 3), (112, .iload_n 1, 1), (113, .aaload, 1), (114, .iload_n 2, 1), (115, .iload 4, 2), (117, .iastore, 1), (118, .aload_n 0, 1), (119, .getfield 26, 3), (122, .iload_n 1, 1), (123, .aaload, 1), (124, .iload_n 2, 1), (125, .iload 5, 2), (127, .iastore, 1), (128, .return_, 1)]
theorem dX4_planAt : ∀ q ∈ tX4_planAt, decode cX4_planAt q.1 = .ok q.2 := by decide +kernel
def tX4_costFrom : List (Nat × Instr × Nat) := [(0, .aload_n 0, 1), (1, .getfield 23, 3), (4, .iconst 0, 1), (5, .aaload, 1), (6, .iload_n 1, 1), (7, .iaload, 1), (8, .ireturn, 1)]
theorem dX4_costFrom : ∀ q ∈ tX4_costFrom, decode cX4_costFrom q.1 = .ok q.2 := by decide +kernel
def tX4_boughtAt : List (Nat × Instr × Nat) := [(0, .iload_n 2, 1), (1, .istore_n 3, 1), (2, .iconst 0, 1), (3, .istore 4, 2), (5, .iload 4, 2), (7, .iload_n 1, 1), (8, .if_icmp .ge 29, 3), (11, .iload_n 3, 1), (12, .aload_n 0, 1), (13, .getfield 26, 3), (16, .iload 4, 2), (18, .aaload, 1), (19, .iload_n 3, 1), (20, .iaload, 1), (21, .aload_n 0, 1), (22, .getfield 18, 3), (25, .iload 4, 2), (27, .iaload, 1), (28, .isub, 1), (29, .iadd, 1), (30, .istore_n 3, 1), (31, .iinc 4 1, 3), (34, .goto (-29), 3), (37, .aload_n 0, 1), (38, .getfield 26, 3), (41, .iload_n 1, 1), (42, .aaload, 1), (43, .iload_n 3, 1), (44, .iaload, 1), (45, .ireturn, 1)]
theorem dX4_boughtAt : ∀ q ∈ tX4_boughtAt, decode cX4_boughtAt q.1 = .ok q.2 := by decide +kernel
def tX5_init : List (Nat × Instr × Nat) := [(0, .aload_n 0, 1), (1, .invokespecial 3, 3), (4, .aload_n 0, 1), (5, .iconst 3, 1), (6, .newarray .int, 2), (8, .putfield 9, 3), (11, .aload_n 0, 1), (12, .iconst 4, 1), (13, .newarray .int, 2), (15, .putfield 15, 3), (18, .aload_n 0, 1), (19, .iconst 4, 1), (20, .newarray .int, 2), (22, .putfield 18, 3), (25, .aload_n 0, 1), (26, .bipush 120, 2), (28, .newarray .boolean, 2), (30, .putfield 21, 3), (33, .aload_n 0, 1), (34, .bipush 10, 2), (36, .newarray .int, 2), (38, .putfield 25, 3), (41, .aload_n 0, 1), (42, .bipush 10, 2), (44, .newarray .boolean, 2), (46, .putfield 28, 3), (49, .aload_n 0, 1), (50, .iconst 3, 1), (51, .newarray .int, 2), (53, .putfield 31, 3), (56, .aload_n 0, 1), (57, .iconst 4, 1), (58, .newarray .int, 2), (60, .putfield 34, 3), (63, .aload_n 0, 1), (64, .iconst 4, 1), (65, .newarray .int, 2), (67, .putfield 37, 3), (70, .aload_n 0, 1), (71, .aload_n 1, 1), (72, .putfield 40, 3), (75, .aload_n 0, 1), (76, .aload_n 2, 1), (77, .putfield 44, 3), (80, .return_, 1)]
theorem dX5_init : ∀ q ∈ tX5_init, decode cX5_init q.1 = .ok q.2 := by decide +kernel
def tX5_takeOver : List (Nat × Instr × Nat) := [(0, .aload_n 0, 1), (1, .aload_n 1, 1), (2, .aload_n 0, 1), (3, .getfield 9, 3), (6, .invokevirtual 48, 3), (9, .putfield 54, 3), (12, .iconst 0, 1), (13, .istore_n 2, 1), (14, .iload_n 2, 1), (15, .aload_n 0, 1), (16, .getfield 54, 3), (19, .if_icmp .ge 23, 3), (22, .aload_n 0, 1), (23, .getfield 9, 3), (26, .iload_n 2, 1), (27, .iaload, 1), (28, .invokestatic 58, 3), (31, .ifCond .ne 5, 3), (34, .iconst 0, 1), (35, .ireturn, 1), (36, .iinc 2 1, 3), (39, .goto (-25), 3), (42, .aload_n 0, 1), (43, .getfield 54, 3), (46, .ifCond .le 7, 3), (49, .iconst 1, 1), (50, .goto 4, 3), (53, .iconst 0, 1), (54, .ireturn, 1)]
theorem dX5_takeOver : ∀ q ∈ tX5_takeOver, decode cX5_takeOver q.1 = .ok q.2 := by decide +kernel
def tX5_plan : List (Nat × Instr × Nat) := [(0, .aload_n 0, 1), (1, .iconst 0, 1), (2, .putfield 62, 3), (5, .aload_n 0, 1), (6, .iconst 0, 1), (7, .putfield 65, 3), (10, .aload_n 0, 1), (11, .iconst 0, 1), (12, .putfield 68, 3), (15, .iconst 0, 1), (16, .istore_n 1, 1), (17, .iload_n 1, 1), (18, .aload_n 0, 1), (19, .getfield 44, 3), (22, .getfield 71, 3), (25, .if_icmp .ge 22, 3), (28, .aload_n 0, 1), (29, .iload_n 1, 1), (30, .invokevirtual 76, 3), (33, .ifCond .eq 8, 3), (36, .aload_n 0, 1), (37, .iload_n 1, 1), (38, .invokevirtual 79, 3), (41, .iinc 1 1, 3), (44, .goto (-27), 3), (47, .aload_n 0, 1), (48, .iconst 0, 1), (49, .iconst 0, 1), (50, .invokestatic 83, 3), (53, .return_, 1)]
theorem dX5_plan : ∀ q ∈ tX5_plan, decode cX5_plan q.1 = .ok q.2 := by decide +kernel
def tX5_slot : List (Nat × Instr × Nat) := [(0, .iload_n 0, 1), (1, .iconst 3, 1), (2, .imul, 1), (3, .iload_n 1, 1), (4, .iadd, 1), (5, .iconst 4, 1), (6, .imul, 1), (7, .iload_n 2, 1), (8, .iadd, 1), (9, .ireturn, 1)]
theorem dX5_slot : ∀ q ∈ tX5_slot, decode cX5_slot q.1 = .ok q.2 := by decide +kernel
def tX5_fillFits : List (Nat × Instr × Nat) := [(0, .iconst 0, 1), (1, .istore_n 2, 1), (2, .iconst 0, 1), (3, .istore_n 3, 1), (4, .iload_n 3, 1), (5, .aload_n 0, 1), (6, .getfield 54, 3), (9, .if_icmp .ge 111, 3), (12, .aload_n 0, 1), (13, .getfield 40, 3), (16, .getfield 87, 3), (19, .aload_n 0, 1), (20, .getfield 9, 3), (23, .iload_n 3, 1), (24, .iaload, 1), (25, .iaload, 1), (26, .iconst 1, 1), (27, .isub, 1), (28, .istore 4, 2), (30, .iconst 0, 1), (31, .istore 5, 2), (33, .iload 5, 2), (35, .iconst 4, 1), (36, .if_icmp .ge 78, 3), (39, .aload_n 0, 1), (40, .getfield 40, 3), (43, .aload_n 0, 1), (44, .getfield 9, 3), (47, .iload_n 3, 1), (48, .iaload, 1), (49, .iload 4, 2), (51, .iload 5, 2), (53, .isub, 1), (54, .invokevirtual 92, 3), (57, .istore 6, 2), (59, .aload_n 0, 1), (60, .getfield 44, 3), (63, .iload_n 1, 1), (64, .iload 6, 2), (66, .invokevirtual 96, 3), (69, .ifCond .ne 7, 3), (72, .iconst 1, 1), (73, .goto 4, 3), (76, .iconst 0, 1), (77, .istore 7, 2), (79, .aload_n 0, 1), (80, .getfield 21, 3), (83, .iload_n 1, 1), (84, .iload_n 3, 1), (85, .iload 5, 2), (87, .invokestatic 99, 3), (90, .iload 7, 2), (92, .bastore, 1), (93, .iload_n 2, 1), (94, .ifCond .ne 8, 3), (97, .iload 7, 2), (99, .ifCond .eq 7, 3), (102, .iconst 1, 1), (103, .goto 4, 3), (106, .iconst 0, 1), (107, .istore_n 2, 1), (108, .iinc 5 1, 3), (111, .goto (-78), 3), (114, .iinc 3 1, 3), (117, .goto (-113), 3), (120, .iload_n 2, 1), (121, .ireturn, 1)]
theorem dX5_fillFits : ∀ q ∈ tX5_fillFits, decode cX5_fillFits q.1 = .ok q.2 := by decide +kernel
def tX5_enlist : List (Nat × Instr × Nat) := [(0, .aload_n 0, 1), (1, .getfield 68, 3), (4, .istore_n 2, 1), (5, .iload_n 2, 1), (6, .ifCond .le 51, 3), (9, .aload_n 0, 1), (10, .getfield 44, 3), (13, .getfield 103, 3), (16, .aload_n 0, 1), (17, .getfield 25, 3), (20, .iload_n 2, 1), (21, .iconst 1, 1), (22, .isub, 1), (23, .iaload, 1), (24, .iaload, 1), (25, .aload_n 0, 1), (26, .getfield 44, 3), (29, .getfield 103, 3), (32, .iload_n 1, 1), (33, .iaload, 1), (34, .if_icmp .ge 23, 3), (37, .aload_n 0, 1), (38, .getfield 25, 3), (41, .iload_n 2, 1), (42, .aload_n 0, 1), (43, .getfield 25, 3), (46, .iload_n 2, 1), (47, .iconst 1, 1), (48, .isub, 1), (49, .iaload, 1), (50, .iastore, 1), (51, .iinc 2 (-1), 3), (54, .goto (-49), 3), (57, .aload_n 0, 1), (58, .getfield 25, 3), (61, .iload_n 2, 1), (62, .iload_n 1, 1), (63, .iastore, 1), (64, .aload_n 0, 1), (65, .dup, 1), (66, .getfield 68, 3), (69, .iconst 1, 1), (70, .iadd, 1), (71, .putfield 68, 3), (74, .return_, 1)]
theorem dX5_enlist : ∀ q ∈ tX5_enlist, decode cX5_enlist q.1 = .ok q.2 := by decide +kernel
def tX5_tryRows : List (Nat × Instr × Nat) := [(0, .aload_n 0, 1), (1, .iload_n 1, 1), (2, .iload_n 2, 1), (3, .invokevirtual 106, 3), (6, .iload_n 1, 1), (7, .iconst 4, 1), (8, .if_icmp .ge 12, 3), (11, .aload_n 0, 1), (12, .iload_n 1, 1), (13, .iload_n 2, 1), (14, .invokevirtual 110, 3), (17, .ifCond .ne 4, 3), (20, .return_, 1), (21, .iconst 0, 1), (22, .istore_n 3, 1), (23, .iload_n 3, 1), (24, .aload_n 0, 1), (25, .getfield 44, 3), (28, .getfield 71, 3), (31, .if_icmp .ge 70, 3), (34, .iconst 0, 1), (35, .istore 4, 2), (37, .iload 4, 2), (39, .aload_n 0, 1), (40, .getfield 54, 3), (43, .if_icmp .ge 52, 3), (46, .aload_n 0, 1), (47, .iload_n 3, 1), (48, .iload 4, 2), (50, .invokevirtual 114, 3), (53, .ifCond .eq 36, 3), (56, .aload_n 0, 1), (57, .iload_n 1, 1), (58, .iload_n 3, 1), (59, .iload 4, 2), (61, .invokevirtual 117, 3), (64, .aload_n 0, 1), (65, .iload_n 1, 1), (66, .iconst 1, 1), (67, .iadd, 1), (68, .iload_n 2, 1), (69, .aload_n 0, 1), (70, .getfield 44, 3), (73, .getfield 103, 3), (76, .iload_n 3, 1), (77, .iaload, 1), (78, .iadd, 1), (79, .invokestatic 83, 3), (82, .aload_n 0, 1), (83, .iload_n 3, 1), (84, .iload 4, 2), (86, .invokevirtual 121, 3), (89, .iinc 4 1, 3), (92, .goto (-55), 3), (95, .iinc 3 1, 3), (98, .goto (-75), 3), (101, .return_, 1)]
theorem dX5_tryRows : ∀ q ∈ tX5_tryRows, decode cX5_tryRows q.1 = .ok q.2 := by decide +kernel
def tX5_keepIfBetter : List (Nat × Instr × Nat) := [(0, .iload_n 2, 1), (1, .aload_n 0, 1), (2, .getfield 62, 3), (5, .if_icmp .gt 19, 3), (8, .iload_n 2, 1), (9, .aload_n 0, 1), (10, .getfield 62, 3), (13, .if_icmp .ne 49, 3), (16, .iload_n 1, 1), (17, .aload_n 0, 1), (18, .getfield 65, 3), (21, .if_icmp .ge 41, 3), (24, .aload_n 0, 1), (25, .iload_n 2, 1), (26, .putfield 62, 3), (29, .aload_n 0, 1), (30, .iload_n 1, 1), (31, .putfield 65, 3), (34, .aload_n 0, 1), (35, .getfield 34, 3), (38, .iconst 0, 1), (39, .aload_n 0, 1), (40, .getfield 15, 3), (43, .iconst 0, 1), (44, .iload_n 1, 1), (45, .invokestatic 124, 3), (48, .aload_n 0, 1), (49, .getfield 37, 3), (52, .iconst 0, 1), (53, .aload_n 0, 1), (54, .getfield 18, 3), (57, .iconst 0, 1), (58, .iload_n 1, 1), (59, .invokestatic 124, 3), (62, .return_, 1)]
theorem dX5_keepIfBetter : ∀ q ∈ tX5_keepIfBetter, decode cX5_keepIfBetter q.1 = .ok q.2 := by decide +kernel
def tX5_mayImprove : List (Nat × Instr × Nat) := [(0, .iload_n 2, 1), (1, .aload_n 0, 1), (2, .iconst 4, 1), (3, .iload_n 1, 1), (4, .isub, 1), (5, .invokevirtual 130, 3), (8, .iadd, 1), (9, .aload_n 0, 1), (10, .getfield 62, 3), (13, .if_icmp .le 7, 3), (16, .iconst 1, 1), (17, .goto 4, 3), (20, .iconst 0, 1), (21, .ireturn, 1)]
theorem dX5_mayImprove : ∀ q ∈ tX5_mayImprove, decode cX5_mayImprove q.1 = .ok q.2 := by decide +kernel
def tX5_dearest : List (Nat × Instr × Nat) := [(0, .iconst 0, 1), (1, .istore_n 2, 1), (2, .iload_n 1, 1), (3, .istore_n 3, 1), (4, .iconst 0, 1), (5, .istore 4, 2), (7, .iload 4, 2), (9, .aload_n 0, 1), (10, .getfield 68, 3), (13, .if_icmp .ge 49, 3), (16, .iload_n 3, 1), (17, .ifCond .le 45, 3), (20, .aload_n 0, 1), (21, .getfield 28, 3), (24, .aload_n 0, 1), (25, .getfield 25, 3), (28, .iload 4, 2), (30, .iaload, 1), (31, .baload, 1), (32, .ifCond .ne 24, 3), (35, .iload_n 2, 1), (36, .aload_n 0, 1), (37, .getfield 44, 3), (40, .getfield 103, 3), (43, .aload_n 0, 1), (44, .getfield 25, 3), (47, .iload 4, 2), (49, .iaload, 1), (50, .iaload, 1), (51, .iadd, 1), (52, .istore_n 2, 1), (53, .iinc 3 (-1), 3), (56, .iinc 4 1, 3), (59, .goto (-52), 3), (62, .iload_n 2, 1), (63, .ireturn, 1)]
theorem dX5_dearest : ∀ q ∈ tX5_dearest, decode cX5_dearest q.1 = .ok q.2 := by decide +kernel
def tX5_mayServe : List (Nat × Instr × Nat) := [(0, .aload_n 0, 1), (1, .getfield 28, 3), (4, .iload_n 1, 1), (5, .baload, 1), (6, .ifCond .ne 40, 3), (9, .aload_n 0, 1), (10, .getfield 31, 3), (13, .iload_n 2, 1), (14, .iaload, 1), (15, .iconst 0, 1), (16, .iconst 3, 1), (17, .invokestatic 134, 3), (20, .ifCond .eq 26, 3), (23, .aload_n 0, 1), (24, .getfield 21, 3), (27, .iload_n 1, 1), (28, .iload_n 2, 1), (29, .aload_n 0, 1), (30, .getfield 31, 3), (33, .iload_n 2, 1), (34, .iaload, 1), (35, .invokestatic 99, 3), (38, .baload, 1), (39, .ifCond .eq 7, 3), (42, .iconst 1, 1), (43, .goto 4, 3), (46, .iconst 0, 1), (47, .ireturn, 1)]
theorem dX5_mayServe : ∀ q ∈ tX5_mayServe, decode cX5_mayServe q.1 = .ok q.2 := by decide +kernel
def tX5_push : List (Nat × Instr × Nat) := [(0, .aload_n 0, 1), (1, .getfield 34, 3), (4, .iload_n 1, 1), (5, .iload_n 2, 1), (6, .iastore, 1), (7, .aload_n 0, 1), (8, .getfield 37, 3), (11, .iload_n 1, 1), (12, .iload_n 3, 1), (13, .iastore, 1), (14, .aload_n 0, 1), (15, .getfield 28, 3), (18, .iload_n 2, 1), (19, .iconst 1, 1), (20, .bastore, 1), (21, .aload_n 0, 1), (22, .getfield 31, 3), (25, .iload_n 3, 1), (26, .dup2, 1), (27, .iaload, 1), (28, .iconst 1, 1), (29, .iadd, 1), (30, .iastore, 1), (31, .return_, 1)]
theorem dX5_push : ∀ q ∈ tX5_push, decode cX5_push q.1 = .ok q.2 := by decide +kernel
def tX5_pop : List (Nat × Instr × Nat) := [(0, .aload_n 0, 1), (1, .getfield 28, 3), (4, .iload_n 1, 1), (5, .iconst 0, 1), (6, .bastore, 1), (7, .aload_n 0, 1), (8, .getfield 31, 3), (11, .iload_n 2, 1), (12, .dup2, 1), (13, .iaload, 1), (14, .iconst 1, 1), (15, .isub, 1), (16, .iastore, 1), (17, .return_, 1)]
theorem dX5_pop : ∀ q ∈ tX5_pop, decode cX5_pop q.1 = .ok q.2 := by decide +kernel
def tX6_init : List (Nat × Instr × Nat) := [(0, .aload_n 0, 1), (1, .invokespecial 3, 3), (4, .aload_n 0, 1), (5, .bipush 6, 2), (7, .newarray .int, 2), (9, .putfield 9, 3), (12, .aload_n 0, 1), (13, .bipush 6, 2), (15, .newarray .int, 2), (17, .putfield 15, 3), (20, .aload_n 0, 1), (21, .bipush 64, 2), (23, .newarray .int, 2), (25, .putfield 18, 3), (28, .return_, 1)]
theorem dX6_init : ∀ q ∈ tX6_init, decode cX6_init q.1 = .ok q.2 := by decide +kernel
def tX6_takeOver : List (Nat × Instr × Nat) := [(0, .aload_n 0, 1), (1, .aload_n 1, 1), (2, .aload_n 0, 1), (3, .getfield 15, 3), (6, .invokevirtual 21, 3), (9, .putfield 27, 3), (12, .iconst 0, 1), (13, .istore_n 2, 1), (14, .iload_n 2, 1), (15, .aload_n 0, 1), (16, .getfield 27, 3), (19, .if_icmp .ge 23, 3), (22, .aload_n 0, 1), (23, .getfield 15, 3), (26, .iload_n 2, 1), (27, .iaload, 1), (28, .invokestatic 31, 3), (31, .ifCond .ne 5, 3), (34, .iconst 0, 1), (35, .ireturn, 1), (36, .iinc 2 1, 3), (39, .goto (-25), 3), (42, .aload_n 0, 1), (43, .getfield 27, 3), (46, .ifCond .le 7, 3), (49, .iconst 1, 1), (50, .goto 4, 3), (53, .iconst 0, 1), (54, .ireturn, 1)]
theorem dX6_takeOver : ∀ q ∈ tX6_takeOver, decode cX6_takeOver q.1 = .ok q.2 := by decide +kernel
def tX6_plan : List (Nat × Instr × Nat) := [(0, .aload_n 0, 1), (1, .aload_n 1, 1), (2, .bipush 8, 2), (4, .invokevirtual 37, 3), (7, .putfield 41, 3), (10, .aload_n 0, 1), (11, .aload_n 1, 1), (12, .iconst 1, 1), (13, .invokevirtual 45, 3), (16, .putfield 48, 3), (19, .iconst 1, 1), (20, .aload_n 0, 1), (21, .getfield 27, 3), (24, .ishl, 1), (25, .iconst 1, 1), (26, .isub, 1), (27, .istore_n 2, 1), (28, .iload_n 2, 1), (29, .ifCond .lt 20, 3), (32, .aload_n 0, 1), (33, .getfield 18, 3), (36, .iload_n 2, 1), (37, .aload_n 0, 1), (38, .iload_n 2, 1), (39, .invokevirtual 51, 3), (42, .iastore, 1), (43, .iinc 2 (-1), 3), (46, .goto (-18), 3), (49, .aload_n 0, 1), (50, .invokevirtual 55, 3), (53, .return_, 1)]
theorem dX6_plan : ∀ q ∈ tX6_plan, decode cX6_plan q.1 = .ok q.2 := by decide +kernel
def tX6_longestBehind : List (Nat × Instr × Nat) := [(0, .iconst 0, 1), (1, .istore_n 2, 1), (2, .iconst 0, 1), (3, .istore_n 3, 1), (4, .iload_n 3, 1), (5, .aload_n 0, 1), (6, .getfield 27, 3), (9, .if_icmp .ge 35, 3), (12, .aload_n 0, 1), (13, .iload_n 3, 1), (14, .iload_n 1, 1), (15, .invokevirtual 58, 3), (18, .ifCond .eq 20, 3), (21, .iload_n 2, 1), (22, .iconst 1, 1), (23, .aload_n 0, 1), (24, .getfield 18, 3), (27, .iload_n 1, 1), (28, .iconst 1, 1), (29, .iload_n 3, 1), (30, .ishl, 1), (31, .ior, 1), (32, .iaload, 1), (33, .iadd, 1), (34, .invokestatic 62, 3), (37, .istore_n 2, 1), (38, .iinc 3 1, 3), (41, .goto (-37), 3), (44, .iload_n 2, 1), (45, .ireturn, 1)]
theorem dX6_longestBehind : ∀ q ∈ tX6_longestBehind, decode cX6_longestBehind q.1 = .ok q.2 := by decide +kernel
def tX6_mayFollow : List (Nat × Instr × Nat) := [(0, .iload_n 2, 1), (1, .iload_n 1, 1), (2, .ishr, 1), (3, .iconst 1, 1), (4, .iand, 1), (5, .ifCond .eq 5, 3), (8, .iconst 0, 1), (9, .ireturn, 1), (10, .aload_n 0, 1), (11, .iload_n 2, 1), (12, .invokevirtual 68, 3), (15, .lstore_n 3, 1), (16, .aload_n 0, 1), (17, .getfield 15, 3), (20, .iload_n 1, 1), (21, .iaload, 1), (22, .invokestatic 71, 3), (25, .aload_n 0, 1), (26, .getfield 41, 3), (29, .lload_n 3, 1), (30, .ldc2_w 74, 3), (33, .lxor, 1), (34, .land, 1), (35, .aload_n 0, 1), (36, .getfield 48, 3), (39, .lload_n 3, 1), (40, .ldc2_w 74, 3), (43, .lxor, 1), (44, .land, 1), (45, .invokestatic 76, 3), (48, .ifCond .ne 7, 3), (51, .iconst 1, 1), (52, .goto 4, 3), (55, .iconst 0, 1), (56, .ireturn, 1)]
theorem dX6_mayFollow : ∀ q ∈ tX6_mayFollow, decode cX6_mayFollow q.1 = .ok q.2 := by decide +kernel
def tX6_openCells : List (Nat × Instr × Nat) := [(0, .lconst 0, 1), (1, .lstore_n 2, 1), (2, .iconst 0, 1), (3, .istore 4, 2), (5, .iload 4, 2), (7, .aload_n 0, 1), (8, .getfield 27, 3), (11, .if_icmp .ge 31, 3), (14, .iload_n 1, 1), (15, .iload 4, 2), (17, .ishr, 1), (18, .iconst 1, 1), (19, .iand, 1), (20, .ifCond .eq 16, 3), (23, .lload_n 2, 1), (24, .aload_n 0, 1), (25, .getfield 15, 3), (28, .iload 4, 2), (30, .iaload, 1), (31, .invokestatic 71, 3), (34, .lor, 1), (35, .lstore_n 2, 1), (36, .iinc 4 1, 3), (39, .goto (-34), 3), (42, .lload_n 2, 1), (43, .lreturn, 1)]
theorem dX6_openCells : ∀ q ∈ tX6_openCells, decode cX6_openCells q.1 = .ok q.2 := by decide +kernel
def tX6_walk : List (Nat × Instr × Nat) := [(0, .aload_n 0, 1), (1, .aload_n 0, 1), (2, .getfield 18, 3), (5, .iconst 0, 1), (6, .iaload, 1), (7, .putfield 80, 3), (10, .iconst 0, 1), (11, .istore_n 1, 1), (12, .iconst 0, 1), (13, .istore_n 2, 1), (14, .iload_n 2, 1), (15, .aload_n 0, 1), (16, .getfield 80, 3), (19, .if_icmp .ge 33, 3), (22, .aload_n 0, 1), (23, .iload_n 1, 1), (24, .invokevirtual 83, 3), (27, .istore_n 3, 1), (28, .aload_n 0, 1), (29, .getfield 9, 3), (32, .iload_n 2, 1), (33, .aload_n 0, 1), (34, .getfield 15, 3), (37, .iload_n 3, 1), (38, .iaload, 1), (39, .iastore, 1), (40, .iload_n 1, 1), (41, .iconst 1, 1), (42, .iload_n 3, 1), (43, .ishl, 1), (44, .ior, 1), (45, .istore_n 1, 1), (46, .iinc 2 1, 3), (49, .goto (-35), 3), (52, .return_, 1)]
theorem dX6_walk : ∀ q ∈ tX6_walk, decode cX6_walk q.1 = .ok q.2 := by decide +kernel
def tX6_firstOfLongest : List (Nat × Instr × Nat) := [(0, .iconst 0, 1), (1, .istore_n 2, 1), (2, .iload_n 2, 1), (3, .aload_n 0, 1), (4, .getfield 27, 3), (7, .if_icmp .ge 41, 3), (10, .aload_n 0, 1), (11, .iload_n 2, 1), (12, .iload_n 1, 1), (13, .invokevirtual 58, 3), (16, .ifCond .eq 26, 3), (19, .iconst 1, 1), (20, .aload_n 0, 1), (21, .getfield 18, 3), (24, .iload_n 1, 1), (25, .iconst 1, 1), (26, .iload_n 2, 1), (27, .ishl, 1), (28, .ior, 1), (29, .iaload, 1), (30, .iadd, 1), (31, .aload_n 0, 1), (32, .getfield 18, 3), (35, .iload_n 1, 1), (36, .iaload, 1), (37, .if_icmp .ne 5, 3), (40, .iload_n 2, 1), (41, .ireturn, 1), (42, .iinc 2 1, 3), (45, .goto (-43), 3), (48, .iconst 0, 1), (49, .ireturn, 1)]
theorem dX6_firstOfLongest : ∀ q ∈ tX6_firstOfLongest, decode cX6_firstOfLongest q.1 = .ok q.2 := by decide +kernel
def tX7_init : List (Nat × Instr × Nat) := [(0, .aload_n 0, 1), (1, .invokespecial 3, 3), (4, .aload_n 0, 1), (5, .iconst 4, 1), (6, .newarray .int, 2), (8, .putfield 9, 3), (11, .aload_n 0, 1), (12, .bipush 16, 2), (14, .newarray .int, 2), (16, .putfield 15, 3), (19, .aload_n 0, 1), (20, .bipush 100, 2), (22, .newarray .int, 2), (24, .putfield 18, 3), (27, .aload_n 0, 1), (28, .getfield 18, 3), (31, .bipush 10, 2), (33, .invokestatic 21, 3), (36, .return_, 1)]
theorem dX7_init : ∀ q ∈ tX7_init, decode cX7_init q.1 = .ok q.2 := by decide +kernel
def tX7_warmthOf : List (Nat × Instr × Nat) := [(0, .iload_n 1, 1), (1, .iconst 0, 1), (2, .bipush 99, 2), (4, .invokestatic 27, 3), (7, .ifCond .eq 12, 3), (10, .aload_n 0, 1), (11, .getfield 18, 3), (14, .iload_n 1, 1), (15, .iaload, 1), (16, .goto 5, 3), (19, .bipush 10, 2), (21, .ireturn, 1)]
theorem dX7_warmthOf : ∀ q ∈ tX7_warmthOf, decode cX7_warmthOf q.1 = .ok q.2 := by decide +kernel
def tX7_wallTenths : List (Nat × Instr × Nat) := [(0, .aload_n 0, 1), (1, .iload_n 1, 1), (2, .invokestatic 31, 3), (5, .invokevirtual 35, 3), (8, .aload_n 0, 1), (9, .iload_n 1, 1), (10, .invokestatic 38, 3), (13, .invokevirtual 35, 3), (16, .iadd, 1), (17, .ireturn, 1)]
theorem dX7_wallTenths : ∀ q ∈ tX7_wallTenths, decode cX7_wallTenths q.1 = .ok q.2 := by decide +kernel
def tX7_tenthsAt : List (Nat × Instr × Nat) := [(0, .iload_n 1, 1), (1, .ifCond .ge 7, 3), (4, .iconst 0, 1), (5, .goto 12, 3), (8, .bipush 10, 2), (10, .aload_n 0, 1), (11, .getfield 9, 3), (14, .iload_n 1, 1), (15, .iaload, 1), (16, .isub, 1), (17, .ireturn, 1)]
theorem dX7_tenthsAt : ∀ q ∈ tX7_tenthsAt, decode cX7_tenthsAt q.1 = .ok q.2 := by decide +kernel
def tX7_rowWall : List (Nat × Instr × Nat) := [(0, .iload_n 0, 1), (1, .iconst 4, 1), (2, .idiv, 1), (3, .istore_n 1, 1), (4, .iload_n 1, 1), (5, .ifCond .ne 7, 3), (8, .iconst 0, 1), (9, .goto 13, 3), (12, .iload_n 1, 1), (13, .iconst 3, 1), (14, .if_icmp .ne 7, 3), (17, .iconst 1, 1), (18, .goto 4, 3), (21, .iconst (-1), 1), (22, .ireturn, 1)]
theorem dX7_rowWall : ∀ q ∈ tX7_rowWall, decode cX7_rowWall q.1 = .ok q.2 := by decide +kernel
def tX7_sideWall : List (Nat × Instr × Nat) := [(0, .iload_n 0, 1), (1, .iconst 4, 1), (2, .irem, 1), (3, .istore_n 1, 1), (4, .iload_n 1, 1), (5, .ifCond .ne 7, 3), (8, .iconst 2, 1), (9, .goto 13, 3), (12, .iload_n 1, 1), (13, .iconst 3, 1), (14, .if_icmp .ne 7, 3), (17, .iconst 3, 1), (18, .goto 4, 3), (21, .iconst (-1), 1), (22, .ireturn, 1)]
theorem dX7_sideWall : ∀ q ∈ tX7_sideWall, decode cX7_sideWall q.1 = .ok q.2 := by decide +kernel
def tX8_init : List (Nat × Instr × Nat) := [(0, .aload_n 0, 1), (1, .invokespecial 3, 3), (4, .aload_n 0, 1), (5, .bipush 16, 2), (7, .newarray .int, 2), (9, .putfield 9, 3), (12, .return_, 1)]
theorem dX8_init : ∀ q ∈ tX8_init, decode cX8_init q.1 = .ok q.2 := by decide +kernel
def tX8_enter : List (Nat × Instr × Nat) := [(0, .aload_n 0, 1), (1, .getfield 9, 3), (4, .aload_n 0, 1), (5, .getfield 15, 3), (8, .iload_n 1, 1), (9, .iastore, 1), (10, .aload_n 0, 1), (11, .dup, 1), (12, .getfield 15, 3), (15, .iconst 1, 1), (16, .iadd, 1), (17, .putfield 15, 3), (20, .aload_n 0, 1), (21, .getfield 15, 3), (24, .ireturn, 1)]
theorem dX8_enter : ∀ q ∈ tX8_enter, decode cX8_enter q.1 = .ok q.2 := by decide +kernel
def tX8_clear : List (Nat × Instr × Nat) := [(0, .aload_n 0, 1), (1, .iconst 0, 1), (2, .putfield 15, 3), (5, .return_, 1)]
theorem dX8_clear : ∀ q ∈ tX8_clear, decode cX8_clear q.1 = .ok q.2 := by decide +kernel
def tX8_handOver : List (Nat × Instr × Nat) := [(0, .aload_n 0, 1), (1, .getfield 15, 3), (4, .aload_n 1, 1), (5, .arraylength, 1), (6, .if_icmp .gt 17, 3), (9, .aload_n 0, 1), (10, .invokevirtual 19, 3), (13, .ifCond .ne 10, 3), (16, .aload_n 0, 1), (17, .getfield 15, 3), (20, .goto 4, 3), (23, .iconst 0, 1), (24, .istore_n 2, 1), (25, .aload_n 0, 1), (26, .getfield 9, 3), (29, .iconst 0, 1), (30, .aload_n 1, 1), (31, .iconst 0, 1), (32, .iload_n 2, 1), (33, .invokestatic 23, 3), (36, .aload_n 0, 1), (37, .invokevirtual 29, 3), (40, .iload_n 2, 1), (41, .ireturn, 1)]
theorem dX8_handOver : ∀ q ∈ tX8_handOver, decode cX8_handOver q.1 = .ok q.2 := by decide +kernel
def tX8_hasTwins : List (Nat × Instr × Nat) := [(0, .iconst 0, 1), (1, .istore_n 1, 1), (2, .iload_n 1, 1), (3, .aload_n 0, 1), (4, .getfield 15, 3), (7, .if_icmp .ge 44, 3), (10, .iload_n 1, 1), (11, .iconst 1, 1), (12, .iadd, 1), (13, .istore_n 2, 1), (14, .iload_n 2, 1), (15, .aload_n 0, 1), (16, .getfield 15, 3), (19, .if_icmp .ge 26, 3), (22, .aload_n 0, 1), (23, .getfield 9, 3), (26, .iload_n 1, 1), (27, .iaload, 1), (28, .aload_n 0, 1), (29, .getfield 9, 3), (32, .iload_n 2, 1), (33, .iaload, 1), (34, .if_icmp .ne 5, 3), (37, .iconst 1, 1), (38, .ireturn, 1), (39, .iinc 2 1, 3), (42, .goto (-28), 3), (45, .iinc 1 1, 3), (48, .goto (-46), 3), (51, .iconst 0, 1), (52, .ireturn, 1)]
theorem dX8_hasTwins : ∀ q ∈ tX8_hasTwins, decode cX8_hasTwins q.1 = .ok q.2 := by decide +kernel
def tX8_firstWrong : List (Nat × Instr × Nat) := [(0, .iconst 0, 1), (1, .istore_n 2, 1), (2, .iload_n 2, 1), (3, .aload_n 0, 1), (4, .getfield 15, 3), (7, .if_icmp .ge 27, 3), (10, .aload_n 0, 1), (11, .getfield 9, 3), (14, .iload_n 2, 1), (15, .iaload, 1), (16, .aload_n 1, 1), (17, .iload_n 2, 1), (18, .invokevirtual 32, 3), (21, .if_icmp .eq 7, 3), (24, .iload_n 2, 1), (25, .iconst 1, 1), (26, .iadd, 1), (27, .ireturn, 1), (28, .iinc 2 1, 3), (31, .goto (-29), 3), (34, .iconst 0, 1), (35, .ireturn, 1)]
theorem dX8_firstWrong : ∀ q ∈ tX8_firstWrong, decode cX8_firstWrong q.1 = .ok q.2 := by decide +kernel
def tX9_init : List (Nat × Instr × Nat) := [(0, .aload_n 0, 1), (1, .invokespecial 1, 3), (4, .aload_n 0, 1), (5, .new 7, 3), (8, .dup, 1), (9, .invokespecial 9, 3), (12, .putfield 10, 3), (15, .aload_n 0, 1), (16, .new 16, 3), (19, .dup, 1), (20, .invokespecial 18, 3), (23, .putfield 19, 3), (26, .aload_n 0, 1), (27, .new 23, 3), (30, .dup, 1), (31, .invokespecial 25, 3), (34, .putfield 26, 3), (37, .aload_n 0, 1), (38, .new 30, 3), (41, .dup, 1), (42, .aload_n 0, 1), (43, .getfield 26, 3), (46, .invokespecial 32, 3), (49, .putfield 35, 3), (52, .aload_n 0, 1), (53, .new 30, 3), (56, .dup, 1), (57, .aload_n 0, 1), (58, .getfield 26, 3), (61, .invokespecial 32, 3), (64, .putfield 39, 3), (67, .aload_n 0, 1), (68, .new 42, 3), (71, .dup, 1), (72, .invokespecial 44, 3), (75, .putfield 45, 3), (78, .aload_n 0, 1), (79, .new 49, 3), (82, .dup, 1), (83, .aload_n 0, 1), (84, .getfield 35, 3), (87, .invokespecial 51, 3), (90, .putfield 54, 3), (93, .aload_n 0, 1), (94, .new 58, 3), (97, .dup, 1), (98, .aload_n 0, 1), (99, .getfield 35, 3), (102, .aload_n 0, 1), (103, .getfield 54, 3), (106, .invokespecial 60, 3), (109, .putfield 63, 3), (112, .aload_n 0, 1), (113, .new 67, 3), (116, .dup, 1), (117, .invokespecial 69, 3), (120, .putfield 70, 3), (123, .aload_n 0, 1), (124, .new 74, 3), (127, .dup, 1), (128, .invokespecial 76, 3), (131, .putfield 77, 3), (134, .aload_n 0, 1), (135, .bipush 6, 2), (137, .newarray .int, 2), (139, .putfield 81, 3), (142, .return_, 1)]
theorem dX9_init : ∀ q ∈ tX9_init, decode cX9_init q.1 = .ok q.2 := by decide +kernel
def tX9_frost : List (Nat × Instr × Nat) := [(0, .iload_n 1, 1), (1, .iconst 1, 1), (2, .bipush 40, 2), (4, .invokestatic 85, 3), (7, .ifCond .ne 9, 3), (10, .aload_n 0, 1), (11, .iconst 1, 1), (12, .invokevirtual 89, 3), (15, .ireturn, 1), (16, .aload_n 0, 1), (17, .getfield 10, 3), (20, .iload_n 1, 1), (21, .invokevirtual 93, 3), (24, .aload_n 0, 1), (25, .getfield 10, 3), (28, .iconst 1, 1), (29, .invokevirtual 97, 3), (32, .invokestatic 101, 3), (35, .ireturn, 1)]
theorem dX9_frost : ∀ q ∈ tX9_frost, decode cX9_frost q.1 = .ok q.2 := by decide +kernel
def tX9_thaw : List (Nat × Instr × Nat) := [(0, .iload_n 1, 1), (1, .iconst 1, 1), (2, .bipush 20, 2), (4, .invokestatic 85, 3), (7, .ifCond .ne 9, 3), (10, .aload_n 0, 1), (11, .iconst 1, 1), (12, .invokevirtual 89, 3), (15, .ireturn, 1), (16, .aload_n 0, 1), (17, .getfield 10, 3), (20, .iload_n 1, 1), (21, .invokevirtual 107, 3), (24, .aload_n 0, 1), (25, .getfield 10, 3), (28, .invokevirtual 110, 3), (31, .ireturn, 1)]
theorem dX9_thaw : ∀ q ∈ tX9_thaw, decode cX9_thaw q.1 = .ok q.2 := by decide +kernel
def tX9_snow : List (Nat × Instr × Nat) := [(0, .iload_n 1, 1), (1, .iconst 1, 1), (2, .bipush 10, 2), (4, .invokestatic 85, 3), (7, .ifCond .ne 9, 3), (10, .aload_n 0, 1), (11, .iconst 1, 1), (12, .invokevirtual 89, 3), (15, .ireturn, 1), (16, .aload_n 0, 1), (17, .getfield 10, 3), (20, .iload_n 1, 1), (21, .invokevirtual 114, 3), (24, .ireturn, 1)]
theorem dX9_snow : ∀ q ∈ tX9_snow, decode cX9_snow q.1 = .ok q.2 := by decide +kernel
def tX9_scrape : List (Nat × Instr × Nat) := [(0, .iload_n 1, 1), (1, .iconst 0, 1), (2, .bipush 7, 2), (4, .invokestatic 85, 3), (7, .ifCond .ne 9, 3), (10, .aload_n 0, 1), (11, .iconst 1, 1), (12, .invokevirtual 89, 3), (15, .ireturn, 1), (16, .aload_n 0, 1), (17, .getfield 10, 3), (20, .iload_n 1, 1), (21, .invokevirtual 117, 3), (24, .ireturn, 1)]
theorem dX9_scrape : ∀ q ∈ tX9_scrape, decode cX9_scrape q.1 = .ok q.2 := by decide +kernel
def tX9_cell : List (Nat × Instr × Nat) := [(0, .iload_n 1, 1), (1, .iconst 0, 1), (2, .bipush 63, 2), (4, .invokestatic 85, 3), (7, .ifCond .ne 9, 3), (10, .aload_n 0, 1), (11, .iconst 1, 1), (12, .invokevirtual 89, 3), (15, .ireturn, 1), (16, .iload_n 2, 1), (17, .tableswitch 65 0 2 #[27, 37, 47], 27), (44, .aload_n 0, 1), (45, .getfield 10, 3), (48, .getfield 120, 3), (51, .iload_n 1, 1), (52, .iaload, 1), (53, .ireturn, 1), (54, .aload_n 0, 1), (55, .getfield 10, 3), (58, .getfield 123, 3), (61, .iload_n 1, 1), (62, .iaload, 1), (63, .ireturn, 1), (64, .aload_n 0, 1), (65, .getfield 10, 3), (68, .getfield 126, 3), (71, .iload_n 1, 1), (72, .baload, 1), (73, .ifCond .eq 7, 3), (76, .iconst 1, 1), (77, .goto 4, 3), (80, .iconst 0, 1), (81, .ireturn, 1), (82, .aload_n 0, 1), (83, .iconst 1, 1), (84, .invokevirtual 89, 3), (87, .ireturn, 1)]
theorem dX9_cell : ∀ q ∈ tX9_cell, decode cX9_cell q.1 = .ok q.2 := by decide +kernel
def tX9_reached : List (Nat × Instr × Nat) := [(0, .iload_n 1, 1), (1, .iconst 0, 1), (2, .iconst 2, 1), (3, .invokestatic 85, 3), (6, .ifCond .ne 9, 3), (9, .aload_n 0, 1), (10, .iconst 1, 1), (11, .invokevirtual 89, 3), (14, .ireturn, 1), (15, .aload_n 0, 1), (16, .getfield 10, 3), (19, .iload_n 1, 1), (20, .invokevirtual 97, 3), (23, .invokestatic 130, 3), (26, .invokestatic 101, 3), (29, .ireturn, 1)]
theorem dX9_reached : ∀ q ∈ tX9_reached, decode cX9_reached q.1 = .ok q.2 := by decide +kernel
def tX9_reach : List (Nat × Instr × Nat) := [(0, .iload_n 1, 1), (1, .iconst 0, 1), (2, .bipush 63, 2), (4, .invokestatic 85, 3), (7, .ifCond .eq 12, 3), (10, .iload_n 2, 1), (11, .iconst 0, 1), (12, .iconst 2, 1), (13, .invokestatic 85, 3), (16, .ifCond .ne 9, 3), (19, .aload_n 0, 1), (20, .iconst 1, 1), (21, .invokevirtual 89, 3), (24, .ireturn, 1), (25, .aload_n 0, 1), (26, .getfield 10, 3), (29, .iload_n 2, 1), (30, .invokevirtual 97, 3), (33, .invokestatic 130, 3), (36, .iload_n 1, 1), (37, .lushr, 1), (38, .lconst 1, 1), (39, .land, 1), (40, .lconst 0, 1), (41, .lcmp, 1), (42, .ifCond .eq 7, 3), (45, .iconst 1, 1), (46, .goto 4, 3), (49, .iconst 0, 1), (50, .ireturn, 1)]
theorem dX9_reach : ∀ q ∈ tX9_reach, decode cX9_reach q.1 = .ok q.2 := by decide +kernel
def tX9_bars : List (Nat × Instr × Nat) := [(0, .iload_n 1, 1), (1, .invokestatic 134, 3), (4, .ifCond .ne 9, 3), (7, .aload_n 0, 1), (8, .iconst 1, 1), (9, .invokevirtual 89, 3), (12, .ireturn, 1), (13, .aload_n 0, 1), (14, .getfield 10, 3), (17, .iload_n 1, 1), (18, .invokevirtual 138, 3), (21, .ireturn, 1)]
theorem dX9_bars : ∀ q ∈ tX9_bars, decode cX9_bars q.1 = .ok q.2 := by decide +kernel
def tX9_cut : List (Nat × Instr × Nat) := [(0, .iload_n 1, 1), (1, .invokestatic 134, 3), (4, .ifCond .ne 9, 3), (7, .aload_n 0, 1), (8, .iconst 1, 1), (9, .invokevirtual 89, 3), (12, .ireturn, 1), (13, .aload_n 0, 1), (14, .getfield 10, 3), (17, .iload_n 1, 1), (18, .invokevirtual 138, 3), (21, .ifCond .eq 9, 3), (24, .aload_n 0, 1), (25, .iconst 3, 1), (26, .invokevirtual 89, 3), (29, .ireturn, 1), (30, .aload_n 0, 1), (31, .getfield 35, 3), (34, .getfield 141, 3), (37, .bipush 60, 2), (39, .if_icmp .lt 9, 3), (42, .aload_n 0, 1), (43, .iconst 4, 1), (44, .invokevirtual 89, 3), (47, .ireturn, 1), (48, .aload_n 0, 1), (49, .getfield 35, 3), (52, .aload_n 0, 1), (53, .getfield 10, 3), (56, .iload_n 1, 1), (57, .invokevirtual 145, 3), (60, .iconst 5, 1), (61, .aload_n 0, 1), (62, .getfield 10, 3), (65, .iload_n 1, 1), (66, .invokevirtual 148, 3), (69, .imul, 1), (70, .invokevirtual 151, 3), (73, .istore_n 2, 1), (74, .aload_n 0, 1), (75, .getfield 10, 3), (78, .iload_n 1, 1), (79, .invokevirtual 155, 3), (82, .iload_n 2, 1), (83, .ireturn, 1)]
theorem dX9_cut : ∀ q ∈ tX9_cut, decode cX9_cut q.1 = .ok q.2 := by decide +kernel
def tX9_season : List (Nat × Instr × Nat) := [(0, .iload_n 1, 1), (1, .ifCond .ge 9, 3), (4, .aload_n 0, 1), (5, .iconst 1, 1), (6, .invokevirtual 89, 3), (9, .ireturn, 1), (10, .aload_n 0, 1), (11, .getfield 19, 3), (14, .aload_n 0, 1), (15, .getfield 77, 3), (18, .invokevirtual 158, 3), (21, .ifCond .ne 9, 3), (24, .aload_n 0, 1), (25, .iconst 3, 1), (26, .invokevirtual 89, 3), (29, .ireturn, 1), (30, .aload_n 0, 1), (31, .getfield 19, 3), (34, .aload_n 0, 1), (35, .getfield 10, 3), (38, .invokevirtual 162, 3), (41, .iload_n 1, 1), (42, .ifCond .ne 11, 3), (45, .aload_n 0, 1), (46, .getfield 19, 3), (49, .getfield 166, 3), (52, .ireturn, 1), (53, .iload_n 1, 1), (54, .aload_n 0, 1), (55, .getfield 19, 3), (58, .getfield 166, 3), (61, .if_icmp .gt 17, 3), (64, .aload_n 0, 1), (65, .getfield 19, 3), (68, .getfield 169, 3), (71, .iload_n 1, 1), (72, .iconst 1, 1), (73, .isub, 1), (74, .iaload, 1), (75, .goto 8, 3), (78, .aload_n 0, 1), (79, .iconst 2, 1), (80, .invokevirtual 89, 3), (83, .ireturn, 1)]
theorem dX9_season : ∀ q ∈ tX9_season, decode cX9_season q.1 = .ok q.2 := by decide +kernel
def tX9_put : List (Nat × Instr × Nat) := [(0, .aload_n 0, 1), (1, .getfield 35, 3), (4, .iload_n 1, 1), (5, .invokevirtual 172, 3), (8, .ifCond .eq 10, 3), (11, .iload_n 2, 1), (12, .invokestatic 175, 3), (15, .ifCond .ne 9, 3), (18, .aload_n 0, 1), (19, .iconst 1, 1), (20, .invokevirtual 89, 3), (23, .ireturn, 1), (24, .aload_n 0, 1), (25, .getfield 35, 3), (28, .getfield 178, 3), (31, .iload_n 1, 1), (32, .iaload, 1), (33, .ifCond .ne 14, 3), (36, .aload_n 0, 1), (37, .getfield 35, 3), (40, .iload_n 2, 1), (41, .invokevirtual 181, 3), (44, .ifCond .eq 9, 3), (47, .aload_n 0, 1), (48, .iconst 3, 1), (49, .invokevirtual 89, 3), (52, .ireturn, 1), (53, .aload_n 0, 1), (54, .getfield 35, 3), (57, .iload_n 1, 1), (58, .iload_n 2, 1), (59, .invokevirtual 184, 3), (62, .aload_n 0, 1), (63, .getfield 35, 3), (66, .getfield 188, 3), (69, .iload_n 2, 1), (70, .iaload, 1), (71, .iconst 1, 1), (72, .isub, 1), (73, .ireturn, 1)]
theorem dX9_put : ∀ q ∈ tX9_put, decode cX9_put q.1 = .ok q.2 := by decide +kernel
def tX9_take : List (Nat × Instr × Nat) := [(0, .iload_n 1, 1), (1, .invokestatic 175, 3), (4, .ifCond .ne 9, 3), (7, .aload_n 0, 1), (8, .iconst 1, 1), (9, .invokevirtual 89, 3), (12, .ireturn, 1), (13, .aload_n 0, 1), (14, .getfield 35, 3), (17, .iload_n 1, 1), (18, .invokevirtual 191, 3), (21, .ifCond .eq 9, 3), (24, .aload_n 0, 1), (25, .iconst 2, 1), (26, .invokevirtual 89, 3), (29, .ireturn, 1), (30, .aload_n 0, 1), (31, .getfield 35, 3), (34, .iload_n 1, 1), (35, .invokevirtual 194, 3), (38, .ireturn, 1)]
theorem dX9_take : ∀ q ∈ tX9_take, decode cX9_take q.1 = .ok q.2 := by decide +kernel
def tX9_move : List (Nat × Instr × Nat) := [(0, .iload_n 1, 1), (1, .invokestatic 175, 3), (4, .ifCond .eq 15, 3), (7, .iload_n 2, 1), (8, .invokestatic 175, 3), (11, .ifCond .eq 8, 3), (14, .iload_n 1, 1), (15, .iload_n 2, 1), (16, .if_icmp .ne 9, 3), (19, .aload_n 0, 1), (20, .iconst 1, 1), (21, .invokevirtual 89, 3), (24, .ireturn, 1), (25, .aload_n 0, 1), (26, .getfield 35, 3), (29, .iload_n 1, 1), (30, .invokevirtual 191, 3), (33, .ifCond .eq 9, 3), (36, .aload_n 0, 1), (37, .iconst 2, 1), (38, .invokevirtual 89, 3), (41, .ireturn, 1), (42, .aload_n 0, 1), (43, .getfield 35, 3), (46, .iload_n 2, 1), (47, .invokevirtual 181, 3), (50, .ifCond .eq 9, 3), (53, .aload_n 0, 1), (54, .iconst 3, 1), (55, .invokevirtual 89, 3), (58, .ireturn, 1), (59, .aload_n 0, 1), (60, .getfield 35, 3), (63, .iload_n 1, 1), (64, .invokevirtual 197, 3), (67, .istore_n 3, 1), (68, .aload_n 0, 1), (69, .getfield 35, 3), (72, .iload_n 3, 1), (73, .iload_n 2, 1), (74, .invokevirtual 200, 3), (77, .iload_n 3, 1), (78, .ireturn, 1)]
theorem dX9_move : ∀ q ∈ tX9_move, decode cX9_move q.1 = .ok q.2 := by decide +kernel
def tX9_as : List (Nat × Instr × Nat) := [(0, .aload_n 0, 1), (1, .getfield 35, 3), (4, .iload_n 1, 1), (5, .invokevirtual 172, 3), (8, .ifCond .eq 12, 3), (11, .iload_n 2, 1), (12, .iconst 0, 1), (13, .iconst 3, 1), (14, .invokestatic 85, 3), (17, .ifCond .ne 9, 3), (20, .aload_n 0, 1), (21, .iconst 1, 1), (22, .invokevirtual 89, 3), (25, .ireturn, 1), (26, .aload_n 0, 1), (27, .getfield 35, 3), (30, .getfield 203, 3), (33, .iload_n 1, 1), (34, .iaload, 1), (35, .iload_n 2, 1), (36, .invokestatic 205, 3), (39, .ifCond .eq 15, 3), (42, .aload_n 0, 1), (43, .getfield 35, 3), (46, .getfield 209, 3), (49, .iload_n 1, 1), (50, .iaload, 1), (51, .goto 8, 3), (54, .aload_n 0, 1), (55, .iconst 5, 1), (56, .invokevirtual 89, 3), (59, .ireturn, 1)]
theorem dX9_as : ∀ q ∈ tX9_as, decode cX9_as q.1 = .ok q.2 := by decide +kernel
def tX9_about : List (Nat × Instr × Nat) := [(0, .aload_n 0, 1), (1, .getfield 35, 3), (4, .iload_n 1, 1), (5, .invokevirtual 172, 3), (8, .ifCond .ne 9, 3), (11, .aload_n 0, 1), (12, .iconst 1, 1), (13, .invokevirtual 89, 3), (16, .ireturn, 1), (17, .aload_n 0, 1), (18, .getfield 35, 3), (21, .iload_n 1, 1), (22, .invokevirtual 212, 3), (25, .istore_n 3, 1), (26, .iload_n 2, 1), (27, .tableswitch 145 0 6 #[41, 51, 61, 71, 84, 97, 121], 41), (68, .aload_n 0, 1), (69, .getfield 35, 3), (72, .getfield 203, 3), (75, .iload_n 1, 1), (76, .iaload, 1), (77, .ireturn, 1), (78, .aload_n 0, 1), (79, .getfield 35, 3), (82, .getfield 209, 3), (85, .iload_n 1, 1), (86, .iaload, 1), (87, .ireturn, 1), (88, .aload_n 0, 1), (89, .getfield 35, 3), (92, .getfield 178, 3), (95, .iload_n 1, 1), (96, .iaload, 1), (97, .ireturn, 1), (98, .iload_n 3, 1), (99, .ifCond .ge 7, 3), (102, .iconst (-1), 1), (103, .goto 7, 3), (106, .iload_n 3, 1), (107, .bipush 6, 2), (109, .idiv, 1), (110, .ireturn, 1), (111, .iload_n 3, 1), (112, .ifCond .ge 7, 3), (115, .iconst (-1), 1), (116, .goto 7, 3), (119, .iload_n 3, 1), (120, .bipush 6, 2), (122, .irem, 1), (123, .ireturn, 1), (124, .iload_n 3, 1), (125, .ifCond .ge 7, 3), (128, .iconst 0, 1), (129, .goto 18, 3), (132, .aload_n 0, 1), (133, .getfield 35, 3), (136, .iload_n 3, 1), (137, .bipush 6, 2), (139, .idiv, 1), (140, .iload_n 3, 1), (141, .bipush 6, 2), (143, .irem, 1), (144, .invokevirtual 215, 3), (147, .ireturn, 1), (148, .iload_n 3, 1), (149, .ifCond .ge 7, 3), (152, .iconst 0, 1), (153, .goto 18, 3), (156, .aload_n 0, 1), (157, .getfield 35, 3), (160, .iload_n 3, 1), (161, .bipush 6, 2), (163, .idiv, 1), (164, .iload_n 3, 1), (165, .bipush 6, 2), (167, .irem, 1), (168, .invokevirtual 218, 3), (171, .ireturn, 1), (172, .aload_n 0, 1), (173, .iconst 1, 1), (174, .invokevirtual 89, 3), (177, .ireturn, 1)]
theorem dX9_about : ∀ q ∈ tX9_about, decode cX9_about q.1 = .ok q.2 := by decide +kernel
def tX9_at : List (Nat × Instr × Nat) := [(0, .iload_n 1, 1), (1, .invokestatic 175, 3), (4, .ifCond .eq 12, 3), (7, .iload_n 2, 1), (8, .iconst 0, 1), (9, .iconst 5, 1), (10, .invokestatic 85, 3), (13, .ifCond .ne 9, 3), (16, .aload_n 0, 1), (17, .iconst 1, 1), (18, .invokevirtual 89, 3), (21, .ireturn, 1), (22, .aload_n 0, 1), (23, .getfield 35, 3), (26, .iload_n 1, 1), (27, .iload_n 2, 1), (28, .invokevirtual 221, 3), (31, .istore_n 3, 1), (32, .iload_n 3, 1), (33, .ifCond .ge 11, 3), (36, .aload_n 0, 1), (37, .iconst 2, 1), (38, .invokevirtual 89, 3), (41, .goto 4, 3), (44, .iload_n 3, 1), (45, .ireturn, 1)]
theorem dX9_at : ∀ q ∈ tX9_at, decode cX9_at q.1 = .ok q.2 := by decide +kernel
def tX9_dust : List (Nat × Instr × Nat) := [(0, .iload_n 1, 1), (1, .iconst 0, 1), (2, .iconst 3, 1), (3, .invokestatic 85, 3), (6, .ifCond .eq 13, 3), (9, .iload_n 2, 1), (10, .iconst 0, 1), (11, .bipush 10, 2), (13, .invokestatic 85, 3), (16, .ifCond .ne 9, 3), (19, .aload_n 0, 1), (20, .iconst 1, 1), (21, .invokevirtual 89, 3), (24, .ireturn, 1), (25, .aload_n 0, 1), (26, .getfield 26, 3), (29, .getfield 224, 3), (32, .iload_n 1, 1), (33, .iload_n 2, 1), (34, .invokestatic 227, 3), (37, .ireturn, 1)]
theorem dX9_dust : ∀ q ∈ tX9_dust, decode cX9_dust q.1 = .ok q.2 := by decide +kernel
def tX9_cover : List (Nat × Instr × Nat) := [(0, .iload_n 1, 1), (1, .invokestatic 175, 3), (4, .ifCond .eq 13, 3), (7, .iload_n 2, 1), (8, .iconst 0, 1), (9, .bipush 10, 2), (11, .invokestatic 85, 3), (14, .ifCond .ne 9, 3), (17, .aload_n 0, 1), (18, .iconst 1, 1), (19, .invokevirtual 89, 3), (22, .ireturn, 1), (23, .aload_n 0, 1), (24, .getfield 26, 3), (27, .getfield 231, 3), (30, .iload_n 1, 1), (31, .iload_n 2, 1), (32, .invokestatic 227, 3), (35, .ireturn, 1)]
theorem dX9_cover : ∀ q ∈ tX9_cover, decode cX9_cover q.1 = .ok q.2 := by decide +kernel
def tX9_warmth : List (Nat × Instr × Nat) := [(0, .iload_n 1, 1), (1, .iconst 0, 1), (2, .bipush 99, 2), (4, .invokestatic 85, 3), (7, .ifCond .eq 13, 3), (10, .iload_n 2, 1), (11, .iconst 0, 1), (12, .bipush 40, 2), (14, .invokestatic 85, 3), (17, .ifCond .ne 9, 3), (20, .aload_n 0, 1), (21, .iconst 1, 1), (22, .invokevirtual 89, 3), (25, .ireturn, 1), (26, .aload_n 0, 1), (27, .getfield 26, 3), (30, .getfield 234, 3), (33, .iload_n 1, 1), (34, .iload_n 2, 1), (35, .invokestatic 227, 3), (38, .ireturn, 1)]
theorem dX9_warmth : ∀ q ∈ tX9_warmth, decode cX9_warmth q.1 = .ok q.2 := by decide +kernel
def tX9_melts : List (Nat × Instr × Nat) := [(0, .aload_n 0, 1), (1, .getfield 35, 3), (4, .invokevirtual 237, 3), (7, .ireturn, 1)]
theorem dX9_melts : ∀ q ∈ tX9_melts, decode cX9_melts q.1 = .ok q.2 := by decide +kernel
def tX9_weeks : List (Nat × Instr × Nat) := [(0, .iload_n 1, 1), (1, .iconst 1, 1), (2, .bipush 20, 2), (4, .invokestatic 85, 3), (7, .ifCond .ne 9, 3), (10, .aload_n 0, 1), (11, .iconst 1, 1), (12, .invokevirtual 89, 3), (15, .ireturn, 1), (16, .aload_n 0, 1), (17, .getfield 35, 3), (20, .getfield 240, 3), (23, .iload_n 1, 1), (24, .iadd, 1), (25, .bipush 100, 2), (27, .if_icmp .le 9, 3), (30, .aload_n 0, 1), (31, .iconst 4, 1), (32, .invokevirtual 89, 3), (35, .ireturn, 1), (36, .aload_n 0, 1), (37, .getfield 35, 3), (40, .iload_n 1, 1), (41, .invokevirtual 243, 3), (44, .aload_n 0, 1), (45, .getfield 35, 3), (48, .invokevirtual 246, 3), (51, .ireturn, 1)]
theorem dX9_weeks : ∀ q ∈ tX9_weeks, decode cX9_weeks q.1 = .ok q.2 := by decide +kernel
def tX9_after : List (Nat × Instr × Nat) := [(0, .iload_n 1, 1), (1, .iconst 0, 1), (2, .bipush 20, 2), (4, .invokestatic 85, 3), (7, .ifCond .ne 9, 3), (10, .aload_n 0, 1), (11, .iconst 1, 1), (12, .invokevirtual 89, 3), (15, .ireturn, 1), (16, .aload_n 0, 1), (17, .getfield 39, 3), (20, .aload_n 0, 1), (21, .getfield 35, 3), (24, .invokevirtual 249, 3), (27, .aload_n 0, 1), (28, .getfield 39, 3), (31, .iload_n 1, 1), (32, .invokevirtual 243, 3), (35, .aload_n 0, 1), (36, .getfield 39, 3), (39, .invokevirtual 246, 3), (42, .ireturn, 1)]
theorem dX9_after : ∀ q ∈ tX9_after, decode cX9_after q.1 = .ok q.2 := by decide +kernel
def tX9_lasts : List (Nat × Instr × Nat) := [(0, .iload_n 1, 1), (1, .iconst 1, 1), (2, .ldc 252, 2), (4, .invokestatic 85, 3), (7, .ifCond .ne 9, 3), (10, .aload_n 0, 1), (11, .iconst 1, 1), (12, .invokevirtual 89, 3), (15, .ireturn, 1), (16, .aload_n 0, 1), (17, .getfield 39, 3), (20, .aload_n 0, 1), (21, .getfield 35, 3), (24, .invokevirtual 249, 3), (27, .iconst 0, 1), (28, .istore_n 2, 1), (29, .iload_n 2, 1), (30, .bipush 20, 2), (32, .if_icmp .gt 30, 3), (35, .aload_n 0, 1), (36, .getfield 39, 3), (39, .invokevirtual 246, 3), (42, .iload_n 1, 1), (43, .if_icmp .ge 5, 3), (46, .iload_n 2, 1), (47, .ireturn, 1), (48, .aload_n 0, 1), (49, .getfield 39, 3), (52, .iconst 1, 1), (53, .invokevirtual 243, 3), (56, .iinc 2 1, 3), (59, .goto (-30), 3), (62, .aload_n 0, 1), (63, .iconst 2, 1), (64, .invokevirtual 89, 3), (67, .ireturn, 1)]
theorem dX9_lasts : ∀ q ∈ tX9_lasts, decode cX9_lasts q.1 = .ok q.2 := by decide +kernel
def tX9_best : List (Nat × Instr × Nat) := [(0, .iload_n 1, 1), (1, .iconst 0, 1), (2, .bipush 40, 2), (4, .invokestatic 85, 3), (7, .ifCond .eq 12, 3), (10, .iload_n 2, 1), (11, .iconst 0, 1), (12, .iconst 4, 1), (13, .invokestatic 85, 3), (16, .ifCond .ne 9, 3), (19, .aload_n 0, 1), (20, .iconst 1, 1), (21, .invokevirtual 89, 3), (24, .ireturn, 1), (25, .aload_n 0, 1), (26, .getfield 45, 3), (29, .aload_n 0, 1), (30, .getfield 35, 3), (33, .iload_n 1, 1), (34, .invokevirtual 253, 3), (37, .iload_n 2, 1), (38, .ifCond .ne 13, 3), (41, .aload_n 0, 1), (42, .getfield 45, 3), (45, .getfield 256, 3), (48, .goto 14, 3), (51, .aload_n 0, 1), (52, .getfield 45, 3), (55, .getfield 259, 3), (58, .iload_n 2, 1), (59, .iconst 1, 1), (60, .isub, 1), (61, .iaload, 1), (62, .ireturn, 1)]
theorem dX9_best : ∀ q ∈ tX9_best, decode cX9_best q.1 = .ok q.2 := by decide +kernel
def tX9_order : List (Nat × Instr × Nat) := [(0, .iload_n 1, 1), (1, .iconst 0, 1), (2, .iconst 2, 1), (3, .invokestatic 85, 3), (6, .ifCond .eq 51, 3), (9, .iload_n 2, 1), (10, .iconst 1, 1), (11, .sipush 2000, 3), (14, .invokestatic 85, 3), (17, .ifCond .eq 40, 3), (20, .iload_n 3, 1), (21, .iconst 0, 1), (22, .bipush 100, 2), (24, .invokestatic 85, 3), (27, .ifCond .eq 30, 3), (30, .iload 4, 2), (32, .iconst 0, 1), (33, .bipush 20, 2), (35, .invokestatic 85, 3), (38, .ifCond .eq 19, 3), (41, .iload 5, 2), (43, .iconst 1, 1), (44, .sipush 1000, 3), (47, .invokestatic 85, 3), (50, .ifCond .eq 7, 3), (53, .iconst 1, 1), (54, .goto 4, 3), (57, .iconst 0, 1), (58, .istore 6, 2), (60, .iload 6, 2), (62, .ifCond .ne 9, 3), (65, .aload_n 0, 1), (66, .iconst 1, 1), (67, .invokevirtual 89, 3), (70, .ireturn, 1), (71, .aload_n 0, 1), (72, .getfield 54, 3), (75, .getfield 262, 3), (78, .bipush 10, 2), (80, .if_icmp .lt 9, 3), (83, .aload_n 0, 1), (84, .iconst 4, 1), (85, .invokevirtual 89, 3), (88, .ireturn, 1), (89, .aload_n 0, 1), (90, .getfield 54, 3), (93, .iload_n 1, 1), (94, .iload_n 2, 1), (95, .iload_n 3, 1), (96, .iload 4, 2), (98, .iload 5, 2), (100, .invokevirtual 265, 3), (103, .ireturn, 1)]
theorem dX9_order : ∀ q ∈ tX9_order, decode cX9_order q.1 = .ok q.2 := by decide +kernel
def tX9_why : List (Nat × Instr × Nat) := [(0, .aload_n 0, 1), (1, .getfield 54, 3), (4, .iload_n 1, 1), (5, .invokevirtual 269, 3), (8, .ifCond .eq 10, 3), (11, .iload_n 2, 1), (12, .invokestatic 175, 3), (15, .ifCond .ne 9, 3), (18, .aload_n 0, 1), (19, .iconst 1, 1), (20, .invokevirtual 89, 3), (23, .ireturn, 1), (24, .aload_n 0, 1), (25, .getfield 54, 3), (28, .iload_n 1, 1), (29, .aload_n 0, 1), (30, .getfield 35, 3), (33, .iload_n 2, 1), (34, .invokevirtual 272, 3), (37, .invokevirtual 275, 3), (40, .ireturn, 1)]
theorem dX9_why : ∀ q ∈ tX9_why, decode cX9_why q.1 = .ok q.2 := by decide +kernel
def tX9_serve : List (Nat × Instr × Nat) := [(0, .aload_n 0, 1), (1, .getfield 54, 3), (4, .iload_n 1, 1), (5, .invokevirtual 269, 3), (8, .ifCond .eq 10, 3), (11, .iload_n 2, 1), (12, .invokestatic 175, 3), (15, .ifCond .ne 9, 3), (18, .aload_n 0, 1), (19, .iconst 1, 1), (20, .invokevirtual 89, 3), (23, .ireturn, 1), (24, .aload_n 0, 1), (25, .getfield 54, 3), (28, .iload_n 1, 1), (29, .aload_n 0, 1), (30, .getfield 35, 3), (33, .iload_n 2, 1), (34, .invokevirtual 272, 3), (37, .invokevirtual 275, 3), (40, .ifCond .eq 9, 3), (43, .aload_n 0, 1), (44, .iconst 3, 1), (45, .invokevirtual 89, 3), (48, .ireturn, 1), (49, .aload_n 0, 1), (50, .getfield 54, 3), (53, .iload_n 1, 1), (54, .iload_n 2, 1), (55, .invokevirtual 278, 3), (58, .ireturn, 1)]
theorem dX9_serve : ∀ q ∈ tX9_serve, decode cX9_serve q.1 = .ok q.2 := by decide +kernel
def tX9_sales : List (Nat × Instr × Nat) := [(0, .iload_n 1, 1), (1, .ifCond .ge 9, 3), (4, .aload_n 0, 1), (5, .iconst 1, 1), (6, .invokevirtual 89, 3), (9, .ireturn, 1), (10, .aload_n 0, 1), (11, .getfield 63, 3), (14, .aload_n 0, 1), (15, .getfield 77, 3), (18, .invokevirtual 281, 3), (21, .ifCond .ne 9, 3), (24, .aload_n 0, 1), (25, .iconst 3, 1), (26, .invokevirtual 89, 3), (29, .ireturn, 1), (30, .aload_n 0, 1), (31, .getfield 63, 3), (34, .invokevirtual 282, 3), (37, .iload_n 1, 1), (38, .ifCond .ne 11, 3), (41, .aload_n 0, 1), (42, .getfield 63, 3), (45, .getfield 284, 3), (48, .ireturn, 1), (49, .iload_n 1, 1), (50, .iconst 1, 1), (51, .if_icmp .ne 11, 3), (54, .aload_n 0, 1), (55, .getfield 63, 3), (58, .getfield 287, 3), (61, .ireturn, 1), (62, .iload_n 1, 1), (63, .iconst 2, 1), (64, .isub, 1), (65, .iconst 2, 1), (66, .idiv, 1), (67, .istore_n 2, 1), (68, .iload_n 2, 1), (69, .aload_n 0, 1), (70, .getfield 63, 3), (73, .getfield 287, 3), (76, .if_icmp .lt 9, 3), (79, .aload_n 0, 1), (80, .iconst 2, 1), (81, .invokevirtual 89, 3), (84, .ireturn, 1), (85, .iload_n 1, 1), (86, .iconst 2, 1), (87, .irem, 1), (88, .ifCond .ne 15, 3), (91, .aload_n 0, 1), (92, .getfield 63, 3), (95, .getfield 290, 3), (98, .iload_n 2, 1), (99, .iaload, 1), (100, .goto 20, 3), (103, .aload_n 0, 1), (104, .getfield 63, 3), (107, .getfield 293, 3), (110, .aload_n 0, 1), (111, .getfield 63, 3), (114, .getfield 296, 3), (117, .iload_n 2, 1), (118, .iaload, 1), (119, .iaload, 1), (120, .ireturn, 1)]
theorem dX9_sales : ∀ q ∈ tX9_sales, decode cX9_sales q.1 = .ok q.2 := by decide +kernel
def tX9_station : List (Nat × Instr × Nat) := [(0, .iload_n 1, 1), (1, .iload_n 2, 1), (2, .iload_n 3, 1), (3, .invokestatic 299, 3), (6, .ifCond .ne 9, 3), (9, .aload_n 0, 1), (10, .iconst 1, 1), (11, .invokevirtual 89, 3), (14, .ireturn, 1), (15, .aload_n 0, 1), (16, .getfield 70, 3), (19, .getfield 302, 3), (22, .bipush 9, 2), (24, .if_icmp .lt 9, 3), (27, .aload_n 0, 1), (28, .iconst 4, 1), (29, .invokevirtual 89, 3), (32, .ireturn, 1), (33, .aload_n 0, 1), (34, .getfield 70, 3), (37, .iload_n 1, 1), (38, .iload_n 2, 1), (39, .iload_n 3, 1), (40, .invokevirtual 303, 3), (43, .ireturn, 1)]
theorem dX9_station : ∀ q ∈ tX9_station, decode cX9_station q.1 = .ok q.2 := by decide +kernel
def tX9_change : List (Nat × Instr × Nat) := [(0, .iload_n 1, 1), (1, .iconst 0, 1), (2, .aload_n 0, 1), (3, .getfield 70, 3), (6, .getfield 302, 3), (9, .iconst 1, 1), (10, .isub, 1), (11, .invokestatic 85, 3), (14, .ifCond .eq 13, 3), (17, .iload_n 2, 1), (18, .iload_n 3, 1), (19, .iload 4, 2), (21, .invokestatic 299, 3), (24, .ifCond .ne 9, 3), (27, .aload_n 0, 1), (28, .iconst 1, 1), (29, .invokevirtual 89, 3), (32, .ireturn, 1), (33, .aload_n 0, 1), (34, .getfield 70, 3), (37, .getfield 306, 3), (40, .iload_n 1, 1), (41, .iaload, 1), (42, .istore 5, 2), (44, .aload_n 0, 1), (45, .getfield 70, 3), (48, .iload_n 1, 1), (49, .iload_n 2, 1), (50, .iload_n 3, 1), (51, .iload 4, 2), (53, .invokevirtual 309, 3), (56, .iload 5, 2), (58, .ireturn, 1)]
theorem dX9_change : ∀ q ∈ tX9_change, decode cX9_change q.1 = .ok q.2 := by decide +kernel
def tX9_icing : List (Nat × Instr × Nat) := [(0, .iload_n 1, 1), (1, .iconst 1, 1), (2, .bipush 60, 2), (4, .invokestatic 85, 3), (7, .ifCond .eq 12, 3), (10, .iload_n 2, 1), (11, .iconst 0, 1), (12, .iload_n 1, 1), (13, .invokestatic 85, 3), (16, .ifCond .ne 9, 3), (19, .aload_n 0, 1), (20, .iconst 1, 1), (21, .invokevirtual 89, 3), (24, .ireturn, 1), (25, .aload_n 0, 1), (26, .getfield 70, 3), (29, .getfield 302, 3), (32, .iconst 2, 1), (33, .if_icmp .ge 9, 3), (36, .aload_n 0, 1), (37, .iconst 3, 1), (38, .invokevirtual 89, 3), (41, .ireturn, 1), (42, .iload_n 3, 1), (43, .iconst (-1), 1), (44, .aload_n 0, 1), (45, .getfield 70, 3), (48, .getfield 302, 3), (51, .iconst 2, 1), (52, .isub, 1), (53, .invokestatic 85, 3), (56, .ifCond .ne 9, 3), (59, .aload_n 0, 1), (60, .iconst 1, 1), (61, .invokevirtual 89, 3), (64, .ireturn, 1), (65, .aload_n 0, 1), (66, .getfield 70, 3), (69, .iload_n 1, 1), (70, .invokevirtual 313, 3), (73, .aload_n 0, 1), (74, .getfield 70, 3), (77, .iload_n 2, 1), (78, .invokevirtual 315, 3), (81, .istore 4, 2), (83, .iload 4, 2), (85, .ifCond .ge 9, 3), (88, .aload_n 0, 1), (89, .iconst 2, 1), (90, .invokevirtual 89, 3), (93, .ireturn, 1), (94, .iload_n 3, 1), (95, .ifCond .ge 8, 3), (98, .iload 4, 2), (100, .goto 12, 3), (103, .aload_n 0, 1), (104, .getfield 70, 3), (107, .iload_n 3, 1), (108, .iload_n 2, 1), (109, .invokevirtual 318, 3), (112, .ireturn, 1)]
theorem dX9_icing : ∀ q ∈ tX9_icing, decode cX9_icing q.1 = .ok q.2 := by decide +kernel
def tX9_ledger : List (Nat × Instr × Nat) := [(0, .iload_n 1, 1), (1, .tableswitch 99 0 6 #[43, 51, 59, 67, 75, 83, 91], 43), (44, .aload_n 0, 1), (45, .getfield 35, 3), (48, .getfield 321, 3), (51, .ireturn, 1), (52, .aload_n 0, 1), (53, .getfield 35, 3), (56, .getfield 324, 3), (59, .ireturn, 1), (60, .aload_n 0, 1), (61, .getfield 35, 3), (64, .getfield 327, 3), (67, .ireturn, 1), (68, .aload_n 0, 1), (69, .getfield 35, 3), (72, .getfield 330, 3), (75, .ireturn, 1), (76, .aload_n 0, 1), (77, .getfield 35, 3), (80, .getfield 333, 3), (83, .ireturn, 1), (84, .aload_n 0, 1), (85, .getfield 35, 3), (88, .invokevirtual 246, 3), (91, .ireturn, 1), (92, .aload_n 0, 1), (93, .getfield 54, 3), (96, .getfield 336, 3), (99, .ireturn, 1), (100, .aload_n 0, 1), (101, .iconst 1, 1), (102, .invokevirtual 89, 3), (105, .ireturn, 1)]
theorem dX9_ledger : ∀ q ∈ tX9_ledger, decode cX9_ledger q.1 = .ok q.2 := by decide +kernel
def tX9_tell : List (Nat × Instr × Nat) := [(0, .aload_n 0, 1), (1, .getfield 77, 3), (4, .getfield 339, 3), (7, .bipush 16, 2), (9, .if_icmp .lt 9, 3), (12, .aload_n 0, 1), (13, .iconst 4, 1), (14, .invokevirtual 89, 3), (17, .ireturn, 1), (18, .aload_n 0, 1), (19, .getfield 77, 3), (22, .iload_n 1, 1), (23, .invokevirtual 340, 3), (26, .ireturn, 1)]
theorem dX9_tell : ∀ q ∈ tX9_tell, decode cX9_tell q.1 = .ok q.2 := by decide +kernel
def tX9_check : List (Nat × Instr × Nat) := [(0, .iload_n 1, 1), (1, .iconst 0, 1), (2, .bipush 20, 2), (4, .invokestatic 85, 3), (7, .ifCond .ne 16, 3), (10, .aload_n 0, 1), (11, .getfield 77, 3), (14, .invokevirtual 342, 3), (17, .aload_n 0, 1), (18, .iconst 1, 1), (19, .invokevirtual 89, 3), (22, .ireturn, 1), (23, .aload_n 0, 1), (24, .getfield 39, 3), (27, .aload_n 0, 1), (28, .getfield 35, 3), (31, .invokevirtual 249, 3), (34, .aload_n 0, 1), (35, .getfield 39, 3), (38, .iload_n 1, 1), (39, .invokevirtual 243, 3), (42, .aload_n 0, 1), (43, .getfield 77, 3), (46, .aload_n 0, 1), (47, .getfield 39, 3), (50, .invokevirtual 345, 3), (53, .istore_n 2, 1), (54, .aload_n 0, 1), (55, .getfield 77, 3), (58, .invokevirtual 342, 3), (61, .iload_n 2, 1), (62, .ireturn, 1)]
theorem dX9_check : ∀ q ∈ tX9_check, decode cX9_check q.1 = .ok q.2 := by decide +kernel
def tX9_count : List (Nat × Instr × Nat) := [(0, .iload_n 1, 1), (1, .tableswitch 125 0 8 #[51, 59, 68, 77, 85, 93, 101, 109, 117], 51), (52, .aload_n 0, 1), (53, .getfield 35, 3), (56, .getfield 141, 3), (59, .ireturn, 1), (60, .aload_n 0, 1), (61, .getfield 35, 3), (64, .iconst 0, 1), (65, .invokevirtual 349, 3), (68, .ireturn, 1), (69, .aload_n 0, 1), (70, .getfield 35, 3), (73, .iconst 1, 1), (74, .invokevirtual 349, 3), (77, .ireturn, 1), (78, .aload_n 0, 1), (79, .getfield 54, 3), (82, .getfield 262, 3), (85, .ireturn, 1), (86, .aload_n 0, 1), (87, .getfield 54, 3), (90, .getfield 352, 3), (93, .ireturn, 1), (94, .aload_n 0, 1), (95, .getfield 35, 3), (98, .getfield 240, 3), (101, .ireturn, 1), (102, .aload_n 0, 1), (103, .getfield 70, 3), (106, .getfield 302, 3), (109, .ireturn, 1), (110, .aload_n 0, 1), (111, .getfield 77, 3), (114, .getfield 339, 3), (117, .ireturn, 1), (118, .aload_n 0, 1), (119, .getfield 10, 3), (122, .invokevirtual 110, 3), (125, .ireturn, 1), (126, .aload_n 0, 1), (127, .iconst 1, 1), (128, .invokevirtual 89, 3), (131, .ireturn, 1)]
theorem dX9_count : ∀ q ∈ tX9_count, decode cX9_count q.1 = .ok q.2 := by decide +kernel
def tX9_found : List (Nat × Instr × Nat) := [(0, .iload_n 1, 1), (1, .iconst 1, 1), (2, .iconst 5, 1), (3, .invokestatic 85, 3), (6, .ifCond .eq 12, 3), (9, .aload_n 0, 1), (10, .getfield 81, 3), (13, .iload_n 1, 1), (14, .iaload, 1), (15, .goto 8, 3), (18, .aload_n 0, 1), (19, .iconst 1, 1), (20, .invokevirtual 89, 3), (23, .ireturn, 1)]
theorem dX9_found : ∀ q ∈ tX9_found, decode cX9_found q.1 = .ok q.2 := by decide +kernel
def tX9_finding : List (Nat × Instr × Nat) := [(0, .aload_n 0, 1), (1, .getfield 81, 3), (4, .iload_n 1, 1), (5, .dup2, 1), (6, .iaload, 1), (7, .iconst 1, 1), (8, .iadd, 1), (9, .iastore, 1), (10, .ldc_w 355, 3), (13, .iload_n 1, 1), (14, .isub, 1), (15, .ireturn, 1)]
theorem dX9_finding : ∀ q ∈ tX9_finding, decode cX9_finding q.1 = .ok q.2 := by decide +kernel
def tX9_within : List (Nat × Instr × Nat) := [(0, .iload_n 0, 1), (1, .iload_n 1, 1), (2, .if_icmp .lt 12, 3), (5, .iload_n 0, 1), (6, .iload_n 2, 1), (7, .if_icmp .gt 7, 3), (10, .iconst 1, 1), (11, .goto 4, 3), (14, .iconst 0, 1), (15, .ireturn, 1)]
theorem dX9_within : ∀ q ∈ tX9_within, decode cX9_within q.1 = .ok q.2 := by decide +kernel
def tX9_isColumn : List (Nat × Instr × Nat) := [(0, .iload_n 0, 1), (1, .iconst 0, 1), (2, .bipush 15, 2), (4, .invokestatic 85, 3), (7, .ireturn, 1)]
theorem dX9_isColumn : ∀ q ∈ tX9_isColumn, decode cX9_isColumn q.1 = .ok q.2 := by decide +kernel
def tX9_isStation : List (Nat × Instr × Nat) := [(0, .iload_n 0, 1), (1, .iconst 1, 1), (2, .bipush 100, 2), (4, .invokestatic 85, 3), (7, .ifCond .eq 27, 3), (10, .iload_n 1, 1), (11, .iconst 0, 1), (12, .bipush 60, 2), (14, .invokestatic 85, 3), (17, .ifCond .eq 17, 3), (20, .iload_n 2, 1), (21, .iconst 0, 1), (22, .bipush 30, 2), (24, .invokestatic 85, 3), (27, .ifCond .eq 7, 3), (30, .iconst 1, 1), (31, .goto 4, 3), (34, .iconst 0, 1), (35, .ireturn, 1)]
theorem dX9_isStation : ∀ q ∈ tX9_isStation, decode cX9_isStation q.1 = .ok q.2 := by decide +kernel
def tX9_isUnder : List (Nat × Instr × Nat) := [(0, .iload_n 0, 1), (1, .istore_n 2, 1), (2, .iconst 0, 1), (3, .istore_n 3, 1), (4, .iload_n 3, 1), (5, .iconst 4, 1), (6, .if_icmp .ge 31, 3), (9, .iload_n 2, 1), (10, .iconst 0, 1), (11, .iconst 3, 1), (12, .invokestatic 85, 3), (15, .ifCond .eq 22, 3), (18, .iload_n 2, 1), (19, .iload_n 1, 1), (20, .if_icmp .ne 5, 3), (23, .iconst 1, 1), (24, .ireturn, 1), (25, .getstatic 356, 3), (28, .iload_n 2, 1), (29, .iaload, 1), (30, .istore_n 2, 1), (31, .iinc 3 1, 3), (34, .goto (-30), 3), (37, .iconst 0, 1), (38, .ireturn, 1)]
theorem dX9_isUnder : ∀ q ∈ tX9_isUnder, decode cX9_isUnder q.1 = .ok q.2 := by decide +kernel
def tX9_exchange : List (Nat × Instr × Nat) := [(0, .aload_n 0, 1), (1, .iload_n 1, 1), (2, .iaload, 1), (3, .istore_n 3, 1), (4, .aload_n 0, 1), (5, .iload_n 1, 1), (6, .iload_n 2, 1), (7, .iastore, 1), (8, .iload_n 3, 1), (9, .ireturn, 1)]
theorem dX9_exchange : ∀ q ∈ tX9_exchange, decode cX9_exchange q.1 = .ok q.2 := by decide +kernel
def tX10_init_0 : List (Nat × Instr × Nat) := [(0, .aload_n 0, 1), (1, .invokespecial 1, 3), (4, .aload_n 0, 1), (5, .bipush 64, 2), (7, .newarray .int, 2), (9, .putfield 7, 3), (12, .aload_n 0, 1), (13, .bipush 64, 2), (15, .newarray .int, 2), (17, .putfield 13, 3), (20, .aload_n 0, 1), (21, .bipush 64, 2), (23, .newarray .boolean, 2), (25, .putfield 16, 3), (28, .aload_n 0, 1), (29, .bipush 60, 2), (31, .newarray .int, 2), (33, .putfield 20, 3), (36, .aload_n 0, 1), (37, .bipush 60, 2), (39, .newarray .int, 2), (41, .putfield 23, 3), (44, .aload_n 0, 1), (45, .bipush 60, 2), (47, .newarray .int, 2), (49, .putfield 26, 3), (52, .aload_n 0, 1), (53, .bipush 60, 2), (55, .newarray .int, 2), (57, .putfield 29, 3), (60, .aload_n 0, 1), (61, .bipush 96, 2), (63, .newarray .int, 2), (65, .putfield 32, 3), (68, .aload_n 0, 1), (69, .bipush 16, 2), (71, .newarray .int, 2), (73, .putfield 35, 3), (76, .aload_n 0, 1), (77, .iconst 4, 1), (78, .newarray .int, 2), (80, .putfield 38, 3), (83, .aload_n 0, 1), (84, .bipush 16, 2), (86, .newarray .int, 2), (88, .putfield 41, 3), (91, .aload_n 0, 1), (92, .bipush 100, 2), (94, .newarray .int, 2), (96, .putfield 44, 3), (99, .aload_n 0, 1), (100, .bipush 10, 2), (102, .newarray .int, 2), (104, .putfield 47, 3), (107, .aload_n 0, 1), (108, .bipush 10, 2), (110, .newarray .int, 2), (112, .putfield 50, 3), (115, .aload_n 0, 1), (116, .bipush 10, 2), (118, .newarray .int, 2), (120, .putfield 53, 3), (123, .aload_n 0, 1), (124, .bipush 10, 2), (126, .newarray .int, 2), (128, .putfield 56, 3), (131, .aload_n 0, 1), (132, .bipush 10, 2), (134, .newarray .int, 2), (136, .putfield 59, 3), (139, .aload_n 0, 1), (140, .bipush 10, 2), (142, .newarray .boolean, 2), (144, .putfield 62, 3), (147, .aload_n 0, 1), (148, .bipush 9, 2), (150, .newarray .int, 2), (152, .putfield 65, 3), (155, .aload_n 0, 1), (156, .bipush 9, 2), (158, .newarray .int, 2), (160, .putfield 68, 3), (163, .aload_n 0, 1), (164, .bipush 9, 2), (166, .newarray .int, 2), (168, .putfield 71, 3), (171, .aload_n 0, 1), (172, .bipush 6, 2), (174, .newarray .int, 2), (176, .putfield 74, 3)]
theorem dX10_init_0 : ∀ q ∈ tX10_init_0, decode cX10_init q.1 = .ok q.2 := by decide +kernel
def tX10_init_1 : List (Nat × Instr × Nat) := [(179, .aload_n 0, 1), (180, .bipush 16, 2), (182, .newarray .int, 2), (184, .putfield 77, 3), (187, .aload_n 0, 1), (188, .bipush 6, 2), (190, .newarray .int, 2), (192, .putfield 80, 3), (195, .aload_n 0, 1), (196, .bipush 64, 2), (198, .newarray .boolean, 2), (200, .putfield 83, 3), (203, .aload_n 0, 1), (204, .bipush 64, 2), (206, .newarray .int, 2), (208, .putfield 86, 3), (211, .aload_n 0, 1), (212, .bipush 6, 2), (214, .newarray .int, 2), (216, .putfield 89, 3), (219, .aload_n 0, 1), (220, .bipush 6, 2), (222, .newarray .int, 2), (224, .putfield 92, 3), (227, .aload_n 0, 1), (228, .bipush 6, 2), (230, .newarray .int, 2), (232, .putfield 95, 3), (235, .aload_n 0, 1), (236, .sipush 256, 3), (239, .newarray .int, 2), (241, .putfield 98, 3), (244, .aload_n 0, 1), (245, .bipush 96, 2), (247, .newarray .int, 2), (249, .putfield 101, 3), (252, .aload_n 0, 1), (253, .sipush 320, 3), (256, .newarray .int, 2), (258, .putfield 104, 3), (261, .aload_n 0, 1), (262, .iconst 4, 1), (263, .newarray .int, 2), (265, .putfield 107, 3), (268, .aload_n 0, 1), (269, .iconst 4, 1), (270, .newarray .int, 2), (272, .putfield 110, 3), (275, .aload_n 0, 1), (276, .bipush 8, 2), (278, .newarray .int, 2), (280, .putfield 113, 3), (283, .aload_n 0, 1), (284, .bipush 8, 2), (286, .newarray .int, 2), (288, .putfield 116, 3), (291, .aload_n 0, 1), (292, .sipush 549, 3), (295, .newarray .int, 2), (297, .putfield 119, 3), (300, .iconst 0, 1), (301, .istore_n 1, 1), (302, .iload_n 1, 1), (303, .bipush 100, 2), (305, .if_icmp .ge 17, 3), (308, .aload_n 0, 1), (309, .getfield 44, 3), (312, .iload_n 1, 1), (313, .bipush 10, 2), (315, .iastore, 1), (316, .iinc 1 1, 3), (319, .goto (-17), 3), (322, .return_, 1)]
theorem dX10_init_1 : ∀ q ∈ tX10_init_1, decode cX10_init q.1 = .ok q.2 := by decide +kernel
def tX10_init : List (Nat × Instr × Nat) := tX10_init_0 ++ (tX10_init_1)
theorem dX10_init : ∀ q ∈ tX10_init, decode cX10_init q.1 = .ok q.2 := List.forall_mem_append.mpr ⟨dX10_init_0, dX10_init_1⟩
def tX10_finding : List (Nat × Instr × Nat) := [(0, .aload_n 0, 1), (1, .getfield 80, 3), (4, .iload_n 1, 1), (5, .dup2, 1), (6, .iaload, 1), (7, .iconst 1, 1), (8, .iadd, 1), (9, .iastore, 1), (10, .ldc 122, 2), (12, .iload_n 1, 1), (13, .isub, 1), (14, .ireturn, 1)]
theorem dX10_finding : ∀ q ∈ tX10_finding, decode cX10_finding q.1 = .ok q.2 := by decide +kernel
def tX10_isIn : List (Nat × Instr × Nat) := [(0, .iload_n 0, 1), (1, .iload_n 1, 1), (2, .if_icmp .lt 12, 3), (5, .iload_n 0, 1), (6, .iload_n 2, 1), (7, .if_icmp .gt 7, 3), (10, .iconst 1, 1), (11, .goto 4, 3), (14, .iconst 0, 1), (15, .ireturn, 1)]
theorem dX10_isIn : ∀ q ∈ tX10_isIn, decode cX10_isIn q.1 = .ok q.2 := by decide +kernel
def tX10_isCell : List (Nat × Instr × Nat) := [(0, .iload_n 0, 1), (1, .iconst 0, 1), (2, .bipush 63, 2), (4, .invokestatic 123, 3), (7, .ireturn, 1)]
theorem dX10_isCell : ∀ q ∈ tX10_isCell, decode cX10_isCell q.1 = .ok q.2 := by decide +kernel
def tX10_clean : List (Nat × Instr × Nat) := [(0, .aload_n 0, 1), (1, .getfield 7, 3), (4, .iload_n 1, 1), (5, .iaload, 1), (6, .ifCond .ne 17, 3), (9, .aload_n 0, 1), (10, .getfield 13, 3), (13, .iload_n 1, 1), (14, .iconst 0, 1), (15, .iastore, 1), (16, .aload_n 0, 1), (17, .getfield 16, 3), (20, .iload_n 1, 1), (21, .iconst 0, 1), (22, .bastore, 1), (23, .return_, 1)]
theorem dX10_clean : ∀ q ∈ tX10_clean, decode cX10_clean q.1 = .ok q.2 := by decide +kernel
def tX10_bearing : List (Nat × Instr × Nat) := [(0, .iconst 0, 1), (1, .istore_n 2, 1), (2, .iconst 0, 1), (3, .istore_n 3, 1), (4, .iload_n 3, 1), (5, .bipush 64, 2), (7, .if_icmp .ge 27, 3), (10, .iload_n 2, 1), (11, .aload_n 0, 1), (12, .getfield 7, 3), (15, .iload_n 3, 1), (16, .iaload, 1), (17, .iload_n 1, 1), (18, .if_icmp .lt 7, 3), (21, .iconst 1, 1), (22, .goto 4, 3), (25, .iconst 0, 1), (26, .iadd, 1), (27, .istore_n 2, 1), (28, .iinc 3 1, 3), (31, .goto (-27), 3), (34, .iload_n 2, 1), (35, .ireturn, 1)]
theorem dX10_bearing : ∀ q ∈ tX10_bearing, decode cX10_bearing q.1 = .ok q.2 := by decide +kernel
def tX10_frost : List (Nat × Instr × Nat) := [(0, .iload_n 1, 1), (1, .iconst 1, 1), (2, .bipush 40, 2), (4, .invokestatic 123, 3), (7, .ifCond .ne 9, 3), (10, .aload_n 0, 1), (11, .iconst 1, 1), (12, .invokevirtual 127, 3), (15, .ireturn, 1), (16, .iconst 0, 1), (17, .istore_n 2, 1), (18, .iload_n 2, 1), (19, .bipush 64, 2), (21, .if_icmp .ge 102, 3), (24, .aload_n 0, 1), (25, .getfield 7, 3), (28, .iload_n 2, 1), (29, .iaload, 1), (30, .aload_n 0, 1), (31, .getfield 7, 3), (34, .iload_n 2, 1), (35, .iaload, 1), (36, .imul, 1), (37, .iload_n 1, 1), (38, .bipush 40, 2), (40, .imul, 1), (41, .iconst 2, 1), (42, .aload_n 0, 1), (43, .getfield 13, 3), (46, .iload_n 2, 1), (47, .iaload, 1), (48, .iadd, 1), (49, .idiv, 1), (50, .iadd, 1), (51, .istore_n 3, 1), (52, .iconst 0, 1), (53, .istore 4, 2), (55, .iload 4, 2), (57, .bipush 60, 2), (59, .if_icmp .ge 22, 3), (62, .iload 4, 2), (64, .iconst 1, 1), (65, .iadd, 1), (66, .iload 4, 2), (68, .iconst 1, 1), (69, .iadd, 1), (70, .imul, 1), (71, .iload_n 3, 1), (72, .if_icmp .gt 9, 3), (75, .iinc 4 1, 3), (78, .goto (-23), 3), (81, .aload_n 0, 1), (82, .getfield 7, 3), (85, .iload_n 2, 1), (86, .iload 4, 2), (88, .iastore, 1), (89, .aload_n 0, 1), (90, .getfield 16, 3), (93, .iload_n 2, 1), (94, .dup2, 1), (95, .baload, 1), (96, .aload_n 0, 1), (97, .getfield 13, 3), (100, .iload_n 2, 1), (101, .iaload, 1), (102, .ifCond .le 7, 3), (105, .iconst 1, 1), (106, .goto 4, 3), (109, .iconst 0, 1), (110, .ior, 1), (111, .bastore, 1), (112, .aload_n 0, 1), (113, .iload_n 2, 1), (114, .invokevirtual 131, 3), (117, .iinc 2 1, 3), (120, .goto (-102), 3), (123, .aload_n 0, 1), (124, .getstatic 135, 3), (127, .iconst 1, 1), (128, .iaload, 1), (129, .invokevirtual 138, 3), (132, .ireturn, 1)]
theorem dX10_frost : ∀ q ∈ tX10_frost, decode cX10_frost q.1 = .ok q.2 := by decide +kernel
def tX10_thaw : List (Nat × Instr × Nat) := [(0, .iload_n 1, 1), (1, .iconst 1, 1), (2, .bipush 20, 2), (4, .invokestatic 123, 3), (7, .ifCond .ne 9, 3), (10, .aload_n 0, 1), (11, .iconst 1, 1), (12, .invokevirtual 127, 3), (15, .ireturn, 1), (16, .iconst 0, 1), (17, .istore_n 2, 1), (18, .iload_n 2, 1), (19, .bipush 64, 2), (21, .if_icmp .ge 49, 3), (24, .aload_n 0, 1), (25, .getfield 7, 3), (28, .iload_n 2, 1), (29, .aload_n 0, 1), (30, .getfield 7, 3), (33, .iload_n 2, 1), (34, .iaload, 1), (35, .iload_n 1, 1), (36, .if_icmp .le 14, 3), (39, .aload_n 0, 1), (40, .getfield 7, 3), (43, .iload_n 2, 1), (44, .iaload, 1), (45, .iload_n 1, 1), (46, .isub, 1), (47, .goto 4, 3), (50, .iconst 0, 1), (51, .iastore, 1), (52, .aload_n 0, 1), (53, .getfield 13, 3), (56, .iload_n 2, 1), (57, .iconst 0, 1), (58, .iastore, 1), (59, .aload_n 0, 1), (60, .iload_n 2, 1), (61, .invokevirtual 131, 3), (64, .iinc 2 1, 3), (67, .goto (-49), 3), (70, .aload_n 0, 1), (71, .iconst 1, 1), (72, .invokevirtual 138, 3), (75, .ireturn, 1)]
theorem dX10_thaw : ∀ q ∈ tX10_thaw, decode cX10_thaw q.1 = .ok q.2 := by decide +kernel
def tX10_snow : List (Nat × Instr × Nat) := [(0, .iload_n 1, 1), (1, .iconst 1, 1), (2, .bipush 10, 2), (4, .invokestatic 123, 3), (7, .ifCond .ne 9, 3), (10, .aload_n 0, 1), (11, .iconst 1, 1), (12, .invokevirtual 127, 3), (15, .ireturn, 1), (16, .iconst 0, 1), (17, .istore_n 2, 1), (18, .iconst 0, 1), (19, .istore_n 3, 1), (20, .iload_n 3, 1), (21, .bipush 64, 2), (23, .if_icmp .ge 59, 3), (26, .aload_n 0, 1), (27, .getfield 7, 3), (30, .iload_n 3, 1), (31, .iaload, 1), (32, .ifCond .le 35, 3), (35, .aload_n 0, 1), (36, .getfield 13, 3), (39, .iload_n 3, 1), (40, .aload_n 0, 1), (41, .getfield 13, 3), (44, .iload_n 3, 1), (45, .iaload, 1), (46, .iload_n 1, 1), (47, .iadd, 1), (48, .bipush 30, 2), (50, .if_icmp .le 8, 3), (53, .bipush 30, 2), (55, .goto 11, 3), (58, .aload_n 0, 1), (59, .getfield 13, 3), (62, .iload_n 3, 1), (63, .iaload, 1), (64, .iload_n 1, 1), (65, .iadd, 1), (66, .iastore, 1), (67, .iload_n 2, 1), (68, .aload_n 0, 1), (69, .getfield 13, 3), (72, .iload_n 3, 1), (73, .iaload, 1), (74, .iadd, 1), (75, .istore_n 2, 1), (76, .iinc 3 1, 3), (79, .goto (-59), 3), (82, .iload_n 2, 1), (83, .ireturn, 1)]
theorem dX10_snow : ∀ q ∈ tX10_snow, decode cX10_snow q.1 = .ok q.2 := by decide +kernel
def tX10_scrape : List (Nat × Instr × Nat) := [(0, .iload_n 1, 1), (1, .iconst 0, 1), (2, .bipush 7, 2), (4, .invokestatic 123, 3), (7, .ifCond .ne 9, 3), (10, .aload_n 0, 1), (11, .iconst 1, 1), (12, .invokevirtual 127, 3), (15, .ireturn, 1), (16, .iconst 0, 1), (17, .istore_n 2, 1), (18, .bipush 8, 2), (20, .iload_n 1, 1), (21, .imul, 1), (22, .istore_n 3, 1), (23, .iload_n 3, 1), (24, .bipush 8, 2), (26, .iload_n 1, 1), (27, .imul, 1), (28, .bipush 8, 2), (30, .iadd, 1), (31, .if_icmp .ge 25, 3), (34, .iload_n 2, 1), (35, .aload_n 0, 1), (36, .getfield 13, 3), (39, .iload_n 3, 1), (40, .iaload, 1), (41, .iadd, 1), (42, .istore_n 2, 1), (43, .aload_n 0, 1), (44, .getfield 13, 3), (47, .iload_n 3, 1), (48, .iconst 0, 1), (49, .iastore, 1), (50, .iinc 3 1, 3), (53, .goto (-30), 3), (56, .iload_n 2, 1), (57, .ireturn, 1)]
theorem dX10_scrape : ∀ q ∈ tX10_scrape, decode cX10_scrape q.1 = .ok q.2 := by decide +kernel
def tX10_cell : List (Nat × Instr × Nat) := [(0, .iload_n 1, 1), (1, .invokestatic 141, 3), (4, .ifCond .eq 12, 3), (7, .iload_n 2, 1), (8, .iconst 0, 1), (9, .iconst 2, 1), (10, .invokestatic 123, 3), (13, .ifCond .ne 9, 3), (16, .aload_n 0, 1), (17, .iconst 1, 1), (18, .invokevirtual 127, 3), (21, .ireturn, 1), (22, .iload_n 2, 1), (23, .ifCond .ne 12, 3), (26, .aload_n 0, 1), (27, .getfield 7, 3), (30, .iload_n 1, 1), (31, .iaload, 1), (32, .goto 31, 3), (35, .iload_n 2, 1), (36, .iconst 1, 1), (37, .if_icmp .ne 12, 3), (40, .aload_n 0, 1), (41, .getfield 13, 3), (44, .iload_n 1, 1), (45, .iaload, 1), (46, .goto 17, 3), (49, .aload_n 0, 1), (50, .getfield 16, 3), (53, .iload_n 1, 1), (54, .baload, 1), (55, .ifCond .eq 7, 3), (58, .iconst 1, 1), (59, .goto 4, 3), (62, .iconst 0, 1), (63, .ireturn, 1)]
theorem dX10_cell : ∀ q ∈ tX10_cell, decode cX10_cell q.1 = .ok q.2 := by decide +kernel
def tX10_beside : List (Nat × Instr × Nat) := [(0, .iload_n 0, 1), (1, .bipush 8, 2), (3, .idiv, 1), (4, .iload_n 1, 1), (5, .ifCond .ne 7, 3), (8, .iconst (-1), 1), (9, .goto 13, 3), (12, .iload_n 1, 1), (13, .iconst 1, 1), (14, .if_icmp .ne 7, 3), (17, .iconst 1, 1), (18, .goto 4, 3), (21, .iconst 0, 1), (22, .iadd, 1), (23, .istore_n 2, 1), (24, .iload_n 0, 1), (25, .bipush 8, 2), (27, .irem, 1), (28, .iload_n 1, 1), (29, .iconst 2, 1), (30, .if_icmp .ne 7, 3), (33, .iconst (-1), 1), (34, .goto 13, 3), (37, .iload_n 1, 1), (38, .iconst 3, 1), (39, .if_icmp .ne 7, 3), (42, .iconst 1, 1), (43, .goto 4, 3), (46, .iconst 0, 1), (47, .iadd, 1), (48, .istore_n 3, 1), (49, .iload_n 2, 1), (50, .iconst 0, 1), (51, .bipush 7, 2), (53, .invokestatic 123, 3), (56, .ifCond .eq 22, 3), (59, .iload_n 3, 1), (60, .iconst 0, 1), (61, .bipush 7, 2), (63, .invokestatic 123, 3), (66, .ifCond .eq 12, 3), (69, .bipush 8, 2), (71, .iload_n 2, 1), (72, .imul, 1), (73, .iload_n 3, 1), (74, .iadd, 1), (75, .goto 4, 3), (78, .iconst (-1), 1), (79, .ireturn, 1)]
theorem dX10_beside : ∀ q ∈ tX10_beside, decode cX10_beside q.1 = .ok q.2 := by decide +kernel
def tX10_isOf : List (Nat × Instr × Nat) := [(0, .iload_n 0, 1), (1, .bipush 8, 2), (3, .idiv, 1), (4, .iload_n 1, 1), (5, .bipush 8, 2), (7, .idiv, 1), (8, .isub, 1), (9, .iconst 0, 1), (10, .iconst 1, 1), (11, .invokestatic 123, 3), (14, .ifCond .eq 24, 3), (17, .iload_n 0, 1), (18, .bipush 8, 2), (20, .irem, 1), (21, .iload_n 1, 1), (22, .bipush 8, 2), (24, .irem, 1), (25, .isub, 1), (26, .iconst 0, 1), (27, .iconst 1, 1), (28, .invokestatic 123, 3), (31, .ifCond .eq 7, 3), (34, .iconst 1, 1), (35, .goto 4, 3), (38, .iconst 0, 1), (39, .ireturn, 1)]
theorem dX10_isOf : ∀ q ∈ tX10_isOf, decode cX10_isOf q.1 = .ok q.2 := by decide +kernel
def tX10_flood_0 : List (Nat × Instr × Nat) := [(0, .iconst 0, 1), (1, .istore_n 3, 1), (2, .iconst 0, 1), (3, .istore 4, 2), (5, .iload 4, 2), (7, .bipush 64, 2), (9, .if_icmp .ge 77, 3), (12, .aload_n 0, 1), (13, .getfield 83, 3), (16, .iload 4, 2), (18, .iload 4, 2), (20, .bipush 8, 2), (22, .if_icmp .ge 35, 3), (25, .aload_n 0, 1), (26, .getfield 7, 3), (29, .iload 4, 2), (31, .iaload, 1), (32, .getstatic 135, 3), (35, .iload_n 1, 1), (36, .iaload, 1), (37, .if_icmp .lt 20, 3), (40, .iload_n 2, 1), (41, .ifCond .lt 12, 3), (44, .iload 4, 2), (46, .iload_n 2, 1), (47, .invokestatic 145, 3), (50, .ifCond .ne 7, 3), (53, .iconst 1, 1), (54, .goto 4, 3), (57, .iconst 0, 1), (58, .bastore, 1), (59, .aload_n 0, 1), (60, .getfield 83, 3), (63, .iload 4, 2), (65, .baload, 1), (66, .ifCond .eq 14, 3), (69, .aload_n 0, 1), (70, .getfield 86, 3), (73, .iload_n 3, 1), (74, .iload 4, 2), (76, .iastore, 1), (77, .iinc 3 1, 3), (80, .iinc 4 1, 3), (83, .goto (-78), 3), (86, .iconst 0, 1), (87, .istore 4, 2), (89, .iload 4, 2), (91, .iload_n 3, 1), (92, .if_icmp .ge 100, 3), (95, .iconst 0, 1), (96, .istore 5, 2), (98, .iload 5, 2), (100, .iconst 4, 1), (101, .if_icmp .ge 85, 3), (104, .aload_n 0, 1), (105, .getfield 86, 3), (108, .iload 4, 2), (110, .iaload, 1), (111, .iload 5, 2), (113, .invokestatic 149, 3), (116, .istore 6, 2), (118, .iload 6, 2), (120, .ifCond .lt 60, 3), (123, .aload_n 0, 1), (124, .getfield 83, 3), (127, .iload 6, 2), (129, .baload, 1), (130, .ifCond .ne 50, 3), (133, .aload_n 0, 1), (134, .getfield 7, 3), (137, .iload 6, 2), (139, .iaload, 1), (140, .getstatic 135, 3), (143, .iload_n 1, 1), (144, .iaload, 1), (145, .if_icmp .lt 35, 3), (148, .iload_n 2, 1), (149, .ifCond .lt 12, 3), (152, .iload 6, 2), (154, .iload_n 2, 1), (155, .invokestatic 145, 3), (158, .ifCond .ne 22, 3), (161, .aload_n 0, 1), (162, .getfield 83, 3), (165, .iload 6, 2), (167, .iconst 1, 1), (168, .bastore, 1), (169, .aload_n 0, 1), (170, .getfield 86, 3), (173, .iload_n 3, 1)]
theorem dX10_flood_0 : ∀ q ∈ tX10_flood_0, decode cX10_flood q.1 = .ok q.2 := by decide +kernel
def tX10_flood_1 : List (Nat × Instr × Nat) := [(174, .iload 6, 2), (176, .iastore, 1), (177, .iinc 3 1, 3), (180, .iinc 5 1, 3), (183, .goto (-85), 3), (186, .iinc 4 1, 3), (189, .goto (-100), 3), (192, .return_, 1)]
theorem dX10_flood_1 : ∀ q ∈ tX10_flood_1, decode cX10_flood q.1 = .ok q.2 := by decide +kernel
def tX10_flood : List (Nat × Instr × Nat) := tX10_flood_0 ++ (tX10_flood_1)
theorem dX10_flood : ∀ q ∈ tX10_flood, decode cX10_flood q.1 = .ok q.2 := List.forall_mem_append.mpr ⟨dX10_flood_0, dX10_flood_1⟩
def tX10_reached : List (Nat × Instr × Nat) := [(0, .iload_n 1, 1), (1, .iconst 0, 1), (2, .iconst 2, 1), (3, .invokestatic 123, 3), (6, .ifCond .ne 9, 3), (9, .aload_n 0, 1), (10, .iconst 1, 1), (11, .invokevirtual 127, 3), (14, .ireturn, 1), (15, .aload_n 0, 1), (16, .iload_n 1, 1), (17, .iconst (-1), 1), (18, .invokevirtual 153, 3), (21, .iconst 0, 1), (22, .istore_n 2, 1), (23, .iconst 0, 1), (24, .istore_n 3, 1), (25, .iload_n 3, 1), (26, .bipush 64, 2), (28, .if_icmp .ge 26, 3), (31, .iload_n 2, 1), (32, .aload_n 0, 1), (33, .getfield 83, 3), (36, .iload_n 3, 1), (37, .baload, 1), (38, .ifCond .eq 7, 3), (41, .iconst 1, 1), (42, .goto 4, 3), (45, .iconst 0, 1), (46, .iadd, 1), (47, .istore_n 2, 1), (48, .iinc 3 1, 3), (51, .goto (-26), 3), (54, .iload_n 2, 1), (55, .ireturn, 1)]
theorem dX10_reached : ∀ q ∈ tX10_reached, decode cX10_reached q.1 = .ok q.2 := by decide +kernel
def tX10_reach : List (Nat × Instr × Nat) := [(0, .iload_n 1, 1), (1, .invokestatic 141, 3), (4, .ifCond .eq 12, 3), (7, .iload_n 2, 1), (8, .iconst 0, 1), (9, .iconst 2, 1), (10, .invokestatic 123, 3), (13, .ifCond .ne 9, 3), (16, .aload_n 0, 1), (17, .iconst 1, 1), (18, .invokevirtual 127, 3), (21, .ireturn, 1), (22, .aload_n 0, 1), (23, .iload_n 2, 1), (24, .iconst (-1), 1), (25, .invokevirtual 153, 3), (28, .aload_n 0, 1), (29, .getfield 83, 3), (32, .iload_n 1, 1), (33, .baload, 1), (34, .ifCond .eq 7, 3), (37, .iconst 1, 1), (38, .goto 4, 3), (41, .iconst 0, 1), (42, .ireturn, 1)]
theorem dX10_reach : ∀ q ∈ tX10_reach, decode cX10_reach q.1 = .ok q.2 := by decide +kernel
def tX10_isSquare : List (Nat × Instr × Nat) := [(0, .iload_n 0, 1), (1, .invokestatic 141, 3), (4, .ifCond .eq 25, 3), (7, .iload_n 0, 1), (8, .bipush 8, 2), (10, .idiv, 1), (11, .bipush 7, 2), (13, .if_icmp .ge 16, 3), (16, .iload_n 0, 1), (17, .bipush 8, 2), (19, .irem, 1), (20, .bipush 7, 2), (22, .if_icmp .ge 7, 3), (25, .iconst 1, 1), (26, .goto 4, 3), (29, .iconst 0, 1), (30, .ireturn, 1)]
theorem dX10_isSquare : ∀ q ∈ tX10_isSquare, decode cX10_isSquare q.1 = .ok q.2 := by decide +kernel
def tX10_barOf : List (Nat × Instr × Nat) := [(0, .iconst 0, 1), (1, .istore_n 2, 1), (2, .iload_n 2, 1), (3, .bipush 64, 2), (5, .if_icmp .ge 30, 3), (8, .iload_n 2, 1), (9, .iload_n 1, 1), (10, .invokestatic 145, 3), (13, .ifCond .eq 16, 3), (16, .aload_n 0, 1), (17, .getfield 7, 3), (20, .iload_n 2, 1), (21, .iaload, 1), (22, .bipush 8, 2), (24, .if_icmp .ge 5, 3), (27, .iconst 1, 1), (28, .ireturn, 1), (29, .iinc 2 1, 3), (32, .goto (-30), 3), (35, .aload_n 0, 1), (36, .iconst 1, 1), (37, .iload_n 1, 1), (38, .invokevirtual 153, 3), (41, .iconst 0, 1), (42, .istore_n 2, 1), (43, .iload_n 2, 1), (44, .bipush 64, 2), (46, .if_icmp .ge 54, 3), (49, .iconst 0, 1), (50, .istore_n 3, 1), (51, .iload_n 3, 1), (52, .iconst 4, 1), (53, .if_icmp .ge 41, 3), (56, .iload_n 2, 1), (57, .iload_n 1, 1), (58, .invokestatic 145, 3), (61, .ifCond .eq 33, 3), (64, .iload_n 2, 1), (65, .iload_n 3, 1), (66, .invokestatic 149, 3), (69, .istore 4, 2), (71, .iload 4, 2), (73, .ifCond .lt 15, 3), (76, .aload_n 0, 1), (77, .getfield 83, 3), (80, .iload 4, 2), (82, .baload, 1), (83, .ifCond .eq 5, 3), (86, .iconst 0, 1), (87, .ireturn, 1), (88, .iinc 3 1, 3), (91, .goto (-40), 3), (94, .iinc 2 1, 3), (97, .goto (-54), 3), (100, .iconst 2, 1), (101, .ireturn, 1)]
theorem dX10_barOf : ∀ q ∈ tX10_barOf, decode cX10_barOf q.1 = .ok q.2 := by decide +kernel
def tX10_bars : List (Nat × Instr × Nat) := [(0, .iload_n 1, 1), (1, .invokestatic 157, 3), (4, .ifCond .eq 11, 3), (7, .aload_n 0, 1), (8, .iload_n 1, 1), (9, .invokevirtual 160, 3), (12, .goto 8, 3), (15, .aload_n 0, 1), (16, .iconst 1, 1), (17, .invokevirtual 127, 3), (20, .ireturn, 1)]
theorem dX10_bars : ∀ q ∈ tX10_bars, decode cX10_bars q.1 = .ok q.2 := by decide +kernel
def tX10_cut_0 : List (Nat × Instr × Nat) := [(0, .iload_n 1, 1), (1, .invokestatic 157, 3), (4, .ifCond .ne 9, 3), (7, .aload_n 0, 1), (8, .iconst 1, 1), (9, .invokevirtual 127, 3), (12, .ireturn, 1), (13, .aload_n 0, 1), (14, .iload_n 1, 1), (15, .invokevirtual 160, 3), (18, .ifCond .eq 9, 3), (21, .aload_n 0, 1), (22, .iconst 3, 1), (23, .invokevirtual 127, 3), (26, .ireturn, 1), (27, .aload_n 0, 1), (28, .getfield 163, 3), (31, .bipush 60, 2), (33, .if_icmp .ne 9, 3), (36, .aload_n 0, 1), (37, .iconst 4, 1), (38, .invokevirtual 127, 3), (41, .ireturn, 1), (42, .iconst 0, 1), (43, .istore_n 2, 1), (44, .iconst 0, 1), (45, .istore_n 3, 1), (46, .iconst 0, 1), (47, .istore 4, 2), (49, .iload 4, 2), (51, .bipush 64, 2), (53, .if_icmp .ge 60, 3), (56, .iload 4, 2), (58, .iload_n 1, 1), (59, .invokestatic 145, 3), (62, .ifCond .eq 45, 3), (65, .iload_n 2, 1), (66, .aload_n 0, 1), (67, .getfield 7, 3), (70, .iload 4, 2), (72, .iaload, 1), (73, .iadd, 1), (74, .istore_n 2, 1), (75, .iload_n 3, 1), (76, .aload_n 0, 1), (77, .getfield 16, 3), (80, .iload 4, 2), (82, .baload, 1), (83, .ifCond .eq 7, 3), (86, .iconst 1, 1), (87, .goto 4, 3), (90, .iconst 0, 1), (91, .iadd, 1), (92, .istore_n 3, 1), (93, .aload_n 0, 1), (94, .getfield 7, 3), (97, .iload 4, 2), (99, .iconst 0, 1), (100, .iastore, 1), (101, .aload_n 0, 1), (102, .iload 4, 2), (104, .invokevirtual 131, 3), (107, .iinc 4 1, 3), (110, .goto (-61), 3), (113, .aload_n 0, 1), (114, .getfield 20, 3), (117, .aload_n 0, 1), (118, .getfield 163, 3), (121, .iload_n 3, 1), (122, .iconst 1, 1), (123, .if_icmp .le 7, 3), (126, .iconst 2, 1), (127, .goto 23, 3), (130, .iload_n 3, 1), (131, .iconst 1, 1), (132, .if_icmp .ne 7, 3), (135, .iconst 0, 1), (136, .goto 14, 3), (139, .iload_n 2, 1), (140, .bipush 48, 2), (142, .if_icmp .ge 7, 3), (145, .iconst 3, 1), (146, .goto 4, 3), (149, .iconst 1, 1), (150, .iastore, 1), (151, .aload_n 0, 1), (152, .getfield 23, 3), (155, .aload_n 0, 1), (156, .getfield 163, 3), (159, .iconst 5, 1)]
theorem dX10_cut_0 : ∀ q ∈ tX10_cut_0, decode cX10_cut q.1 = .ok q.2 := by decide +kernel
def tX10_cut_1 : List (Nat × Instr × Nat) := [(160, .iload_n 2, 1), (161, .imul, 1), (162, .iastore, 1), (163, .aload_n 0, 1), (164, .getfield 26, 3), (167, .aload_n 0, 1), (168, .getfield 163, 3), (171, .iconst 0, 1), (172, .iastore, 1), (173, .aload_n 0, 1), (174, .getfield 29, 3), (177, .aload_n 0, 1), (178, .getfield 163, 3), (181, .iconst (-1), 1), (182, .iastore, 1), (183, .aload_n 0, 1), (184, .dup, 1), (185, .getfield 163, 3), (188, .iconst 1, 1), (189, .iadd, 1), (190, .putfield 163, 3), (193, .aload_n 0, 1), (194, .getfield 163, 3), (197, .iconst 1, 1), (198, .isub, 1), (199, .ireturn, 1)]
theorem dX10_cut_1 : ∀ q ∈ tX10_cut_1, decode cX10_cut q.1 = .ok q.2 := by decide +kernel
def tX10_cut : List (Nat × Instr × Nat) := tX10_cut_0 ++ (tX10_cut_1)
theorem dX10_cut : ∀ q ∈ tX10_cut, decode cX10_cut q.1 = .ok q.2 := List.forall_mem_append.mpr ⟨dX10_cut_0, dX10_cut_1⟩
def tX10_trySeason_0 : List (Nat × Instr × Nat) := [(0, .iload_n 2, 1), (1, .aload_n 0, 1), (2, .getfield 167, 3), (5, .if_icmp .le 33, 3), (8, .aload_n 0, 1), (9, .iload_n 2, 1), (10, .putfield 167, 3), (13, .iconst 0, 1), (14, .istore_n 3, 1), (15, .iload_n 3, 1), (16, .iload_n 2, 1), (17, .if_icmp .ge 21, 3), (20, .aload_n 0, 1), (21, .getfield 95, 3), (24, .iload_n 3, 1), (25, .aload_n 0, 1), (26, .getfield 92, 3), (29, .iload_n 3, 1), (30, .iaload, 1), (31, .iastore, 1), (32, .iinc 3 1, 3), (35, .goto (-20), 3), (38, .iconst 0, 1), (39, .istore_n 3, 1), (40, .iload_n 3, 1), (41, .aload_n 0, 1), (42, .getfield 170, 3), (45, .if_icmp .ge 165, 3), (48, .iload_n 1, 1), (49, .iload_n 3, 1), (50, .ishr, 1), (51, .iconst 1, 1), (52, .iand, 1), (53, .ifCond .ne 151, 3), (56, .aload_n 0, 1), (57, .aload_n 0, 1), (58, .getfield 89, 3), (61, .iload_n 3, 1), (62, .iaload, 1), (63, .invokevirtual 160, 3), (66, .ifCond .ne 138, 3), (69, .aload_n 0, 1), (70, .getfield 89, 3), (73, .iload_n 3, 1), (74, .iaload, 1), (75, .istore 4, 2), (77, .iconst 4, 1), (78, .iload_n 2, 1), (79, .imul, 1), (80, .istore 5, 2), (82, .iconst 0, 1), (83, .istore 6, 2), (85, .iload 6, 2), (87, .iconst 4, 1), (88, .if_icmp .ge 51, 3), (91, .iload 4, 2), (93, .bipush 8, 2), (95, .iload 6, 2), (97, .iconst 2, 1), (98, .idiv, 1), (99, .imul, 1), (100, .iadd, 1), (101, .iload 6, 2), (103, .iconst 2, 1), (104, .irem, 1), (105, .iadd, 1), (106, .istore 7, 2), (108, .aload_n 0, 1), (109, .getfield 98, 3), (112, .iload 5, 2), (114, .iload 6, 2), (116, .iadd, 1), (117, .aload_n 0, 1), (118, .getfield 7, 3), (121, .iload 7, 2), (123, .iaload, 1), (124, .iastore, 1), (125, .aload_n 0, 1), (126, .getfield 7, 3), (129, .iload 7, 2), (131, .iconst 0, 1), (132, .iastore, 1), (133, .iinc 6 1, 3), (136, .goto (-51), 3), (139, .aload_n 0, 1), (140, .getfield 92, 3), (143, .iload_n 2, 1), (144, .iload 4, 2), (146, .iastore, 1), (147, .aload_n 0, 1)]
theorem dX10_trySeason_0 : ∀ q ∈ tX10_trySeason_0, decode cX10_trySeason q.1 = .ok q.2 := by decide +kernel
def tX10_trySeason_1 : List (Nat × Instr × Nat) := [(148, .iload_n 1, 1), (149, .iconst 1, 1), (150, .iload_n 3, 1), (151, .ishl, 1), (152, .ior, 1), (153, .iload_n 2, 1), (154, .iconst 1, 1), (155, .iadd, 1), (156, .invokevirtual 173, 3), (159, .iconst 0, 1), (160, .istore 6, 2), (162, .iload 6, 2), (164, .iconst 4, 1), (165, .if_icmp .ge 39, 3), (168, .aload_n 0, 1), (169, .getfield 7, 3), (172, .iload 4, 2), (174, .bipush 8, 2), (176, .iload 6, 2), (178, .iconst 2, 1), (179, .idiv, 1), (180, .imul, 1), (181, .iadd, 1), (182, .iload 6, 2), (184, .iconst 2, 1), (185, .irem, 1), (186, .iadd, 1), (187, .aload_n 0, 1), (188, .getfield 98, 3), (191, .iload 5, 2), (193, .iload 6, 2), (195, .iadd, 1), (196, .iaload, 1), (197, .iastore, 1), (198, .iinc 6 1, 3), (201, .goto (-39), 3), (204, .iinc 3 1, 3), (207, .goto (-167), 3), (210, .return_, 1)]
theorem dX10_trySeason_1 : ∀ q ∈ tX10_trySeason_1, decode cX10_trySeason q.1 = .ok q.2 := by decide +kernel
def tX10_trySeason : List (Nat × Instr × Nat) := tX10_trySeason_0 ++ (tX10_trySeason_1)
theorem dX10_trySeason : ∀ q ∈ tX10_trySeason, decode cX10_trySeason q.1 = .ok q.2 := List.forall_mem_append.mpr ⟨dX10_trySeason_0, dX10_trySeason_1⟩
def tX10_season_0 : List (Nat × Instr × Nat) := [(0, .iload_n 1, 1), (1, .ifCond .ge 9, 3), (4, .aload_n 0, 1), (5, .iconst 1, 1), (6, .invokevirtual 127, 3), (9, .ireturn, 1), (10, .aload_n 0, 1), (11, .getfield 176, 3), (14, .istore_n 2, 1), (15, .aload_n 0, 1), (16, .iconst 0, 1), (17, .putfield 176, 3), (20, .iload_n 2, 1), (21, .iconst 1, 1), (22, .bipush 6, 2), (24, .invokestatic 123, 3), (27, .istore_n 3, 1), (28, .iconst 0, 1), (29, .istore 4, 2), (31, .iload 4, 2), (33, .iload_n 2, 1), (34, .if_icmp .ge 79, 3), (37, .iload_n 3, 1), (38, .ifCond .eq 75, 3), (41, .aload_n 0, 1), (42, .getfield 77, 3), (45, .iload 4, 2), (47, .iaload, 1), (48, .invokestatic 157, 3), (51, .istore_n 3, 1), (52, .iconst 0, 1), (53, .istore 5, 2), (55, .iload 5, 2), (57, .iload 4, 2), (59, .if_icmp .ge 34, 3), (62, .iload_n 3, 1), (63, .aload_n 0, 1), (64, .getfield 77, 3), (67, .iload 5, 2), (69, .iaload, 1), (70, .aload_n 0, 1), (71, .getfield 77, 3), (74, .iload 4, 2), (76, .iaload, 1), (77, .if_icmp .eq 7, 3), (80, .iconst 1, 1), (81, .goto 4, 3), (84, .iconst 0, 1), (85, .iand, 1), (86, .istore_n 3, 1), (87, .iinc 5 1, 3), (90, .goto (-35), 3), (93, .aload_n 0, 1), (94, .getfield 89, 3), (97, .iload 4, 2), (99, .aload_n 0, 1), (100, .getfield 77, 3), (103, .iload 4, 2), (105, .iaload, 1), (106, .iastore, 1), (107, .iinc 4 1, 3), (110, .goto (-79), 3), (113, .iload_n 3, 1), (114, .ifCond .ne 9, 3), (117, .aload_n 0, 1), (118, .iconst 3, 1), (119, .invokevirtual 127, 3), (122, .ireturn, 1), (123, .aload_n 0, 1), (124, .iload_n 2, 1), (125, .putfield 170, 3), (128, .aload_n 0, 1), (129, .iconst 0, 1), (130, .putfield 167, 3), (133, .aload_n 0, 1), (134, .iconst 0, 1), (135, .iconst 0, 1), (136, .invokevirtual 173, 3), (139, .iload_n 1, 1), (140, .ifCond .ne 10, 3), (143, .aload_n 0, 1), (144, .getfield 167, 3), (147, .goto 27, 3), (150, .iload_n 1, 1), (151, .aload_n 0, 1), (152, .getfield 167, 3), (155, .if_icmp .gt 14, 3), (158, .aload_n 0, 1), (159, .getfield 95, 3), (162, .iload_n 1, 1)]
theorem dX10_season_0 : ∀ q ∈ tX10_season_0, decode cX10_season q.1 = .ok q.2 := by decide +kernel
def tX10_season_1 : List (Nat × Instr × Nat) := [(163, .iconst 1, 1), (164, .isub, 1), (165, .iaload, 1), (166, .goto 8, 3), (169, .aload_n 0, 1), (170, .iconst 2, 1), (171, .invokevirtual 127, 3), (174, .ireturn, 1)]
theorem dX10_season_1 : ∀ q ∈ tX10_season_1, decode cX10_season q.1 = .ok q.2 := by decide +kernel
def tX10_season : List (Nat × Instr × Nat) := tX10_season_0 ++ (tX10_season_1)
theorem dX10_season : ∀ q ∈ tX10_season, decode cX10_season q.1 = .ok q.2 := List.forall_mem_append.mpr ⟨dX10_season_0, dX10_season_1⟩
def tX10_isBlock : List (Nat × Instr × Nat) := [(0, .iload_n 1, 1), (1, .ifCond .lt 15, 3), (4, .iload_n 1, 1), (5, .aload_n 0, 1), (6, .getfield 163, 3), (9, .if_icmp .ge 7, 3), (12, .iconst 1, 1), (13, .goto 4, 3), (16, .iconst 0, 1), (17, .ireturn, 1)]
theorem dX10_isBlock : ∀ q ∈ tX10_isBlock, decode cX10_isBlock q.1 = .ok q.2 := by decide +kernel
def tX10_isColumn : List (Nat × Instr × Nat) := [(0, .iload_n 0, 1), (1, .iconst 0, 1), (2, .bipush 15, 2), (4, .invokestatic 123, 3), (7, .ireturn, 1)]
theorem dX10_isColumn : ∀ q ∈ tX10_isColumn, decode cX10_isColumn q.1 = .ok q.2 := by decide +kernel
def tX10_blockAt : List (Nat × Instr × Nat) := [(0, .aload_n 0, 1), (1, .getfield 32, 3), (4, .bipush 6, 2), (6, .iload_n 1, 1), (7, .imul, 1), (8, .iload_n 2, 1), (9, .iadd, 1), (10, .iaload, 1), (11, .ireturn, 1)]
theorem dX10_blockAt : ∀ q ∈ tX10_blockAt, decode cX10_blockAt q.1 = .ok q.2 := by decide +kernel
def tX10_levelOf : List (Nat × Instr × Nat) := [(0, .iconst 0, 1), (1, .istore_n 2, 1), (2, .aload_n 0, 1), (3, .aload_n 0, 1), (4, .getfield 29, 3), (7, .iload_n 1, 1), (8, .iaload, 1), (9, .iload_n 2, 1), (10, .invokevirtual 179, 3), (13, .iload_n 1, 1), (14, .if_icmp .eq 9, 3), (17, .iinc 2 1, 3), (20, .goto (-18), 3), (23, .iload_n 2, 1), (24, .ireturn, 1)]
theorem dX10_levelOf : ∀ q ∈ tX10_levelOf, decode cX10_levelOf q.1 = .ok q.2 := by decide +kernel
def tX10_loadOf : List (Nat × Instr × Nat) := [(0, .iconst 0, 1), (1, .istore_n 3, 1), (2, .iload_n 2, 1), (3, .iconst 1, 1), (4, .iadd, 1), (5, .istore 4, 2), (7, .iload 4, 2), (9, .aload_n 0, 1), (10, .getfield 35, 3), (13, .iload_n 1, 1), (14, .iaload, 1), (15, .if_icmp .ge 24, 3), (18, .iload_n 3, 1), (19, .aload_n 0, 1), (20, .getfield 23, 3), (23, .aload_n 0, 1), (24, .iload_n 1, 1), (25, .iload 4, 2), (27, .invokevirtual 179, 3), (30, .iaload, 1), (31, .iadd, 1), (32, .istore_n 3, 1), (33, .iinc 4 1, 3), (36, .goto (-29), 3), (39, .iload_n 3, 1), (40, .ireturn, 1)]
theorem dX10_loadOf : ∀ q ∈ tX10_loadOf, decode cX10_loadOf q.1 = .ok q.2 := by decide +kernel
def tX10_takeOut : List (Nat × Instr × Nat) := [(0, .aload_n 0, 1), (1, .iload_n 1, 1), (2, .iload_n 2, 1), (3, .invokevirtual 179, 3), (6, .istore_n 3, 1), (7, .aload_n 0, 1), (8, .getfield 35, 3), (11, .iload_n 1, 1), (12, .dup2, 1), (13, .iaload, 1), (14, .iconst 1, 1), (15, .isub, 1), (16, .iastore, 1), (17, .iload_n 2, 1), (18, .istore 4, 2), (20, .iload 4, 2), (22, .aload_n 0, 1), (23, .getfield 35, 3), (26, .iload_n 1, 1), (27, .iaload, 1), (28, .if_icmp .ge 35, 3), (31, .aload_n 0, 1), (32, .getfield 32, 3), (35, .bipush 6, 2), (37, .iload_n 1, 1), (38, .imul, 1), (39, .iload 4, 2), (41, .iadd, 1), (42, .aload_n 0, 1), (43, .getfield 32, 3), (46, .bipush 6, 2), (48, .iload_n 1, 1), (49, .imul, 1), (50, .iload 4, 2), (52, .iadd, 1), (53, .iconst 1, 1), (54, .iadd, 1), (55, .iaload, 1), (56, .iastore, 1), (57, .iinc 4 1, 3), (60, .goto (-40), 3), (63, .aload_n 0, 1), (64, .getfield 29, 3), (67, .iload_n 3, 1), (68, .iconst (-1), 1), (69, .iastore, 1), (70, .return_, 1)]
theorem dX10_takeOut : ∀ q ∈ tX10_takeOut, decode cX10_takeOut q.1 = .ok q.2 := by decide +kernel
def tX10_goes : List (Nat × Instr × Nat) := [(0, .aload_n 0, 1), (1, .iload_n 1, 1), (2, .iload_n 2, 1), (3, .invokevirtual 179, 3), (6, .istore_n 3, 1), (7, .aload_n 0, 1), (8, .iload_n 1, 1), (9, .iload_n 2, 1), (10, .invokevirtual 182, 3), (13, .aload_n 0, 1), (14, .getfield 26, 3), (17, .iload_n 3, 1), (18, .iconst 2, 1), (19, .iastore, 1), (20, .aload_n 0, 1), (21, .getfield 23, 3), (24, .iload_n 3, 1), (25, .iconst 0, 1), (26, .iastore, 1), (27, .return_, 1)]
theorem dX10_goes : ∀ q ∈ tX10_goes, decode cX10_goes q.1 = .ok q.2 := by decide +kernel
def tX10_breakAll : List (Nat × Instr × Nat) := [(0, .iconst 0, 1), (1, .istore_n 1, 1), (2, .iload_n 1, 1), (3, .bipush 16, 2), (5, .if_icmp .ge 85, 3), (8, .iconst 0, 1), (9, .istore_n 2, 1), (10, .iload_n 2, 1), (11, .aload_n 0, 1), (12, .getfield 35, 3), (15, .iload_n 1, 1), (16, .iaload, 1), (17, .if_icmp .ge 67, 3), (20, .aload_n 0, 1), (21, .iload_n 1, 1), (22, .iload_n 2, 1), (23, .invokevirtual 179, 3), (26, .istore_n 3, 1), (27, .aload_n 0, 1), (28, .getfield 20, 3), (31, .iload_n 3, 1), (32, .iaload, 1), (33, .iconst 3, 1), (34, .if_icmp .ne 44, 3), (37, .aload_n 0, 1), (38, .iload_n 1, 1), (39, .iload_n 2, 1), (40, .invokevirtual 185, 3), (43, .iconst 2, 1), (44, .aload_n 0, 1), (45, .getfield 23, 3), (48, .iload_n 3, 1), (49, .iaload, 1), (50, .imul, 1), (51, .if_icmp .le 27, 3), (54, .aload_n 0, 1), (55, .getfield 74, 3), (58, .iconst 2, 1), (59, .dup2, 1), (60, .iaload, 1), (61, .aload_n 0, 1), (62, .getfield 23, 3), (65, .iload_n 3, 1), (66, .iaload, 1), (67, .iadd, 1), (68, .iastore, 1), (69, .aload_n 0, 1), (70, .iload_n 1, 1), (71, .iload_n 2, 1), (72, .invokevirtual 188, 3), (75, .goto 6, 3), (78, .iinc 2 1, 3), (81, .goto (-71), 3), (84, .iinc 1 1, 3), (87, .goto (-85), 3), (90, .return_, 1)]
theorem dX10_breakAll : ∀ q ∈ tX10_breakAll, decode cX10_breakAll q.1 = .ok q.2 := by decide +kernel
def tX10_lay : List (Nat × Instr × Nat) := [(0, .aload_n 0, 1), (1, .getfield 32, 3), (4, .bipush 6, 2), (6, .iload_n 2, 1), (7, .imul, 1), (8, .aload_n 0, 1), (9, .getfield 35, 3), (12, .iload_n 2, 1), (13, .iaload, 1), (14, .iadd, 1), (15, .iload_n 1, 1), (16, .iastore, 1), (17, .aload_n 0, 1), (18, .getfield 35, 3), (21, .iload_n 2, 1), (22, .dup2, 1), (23, .iaload, 1), (24, .iconst 1, 1), (25, .iadd, 1), (26, .iastore, 1), (27, .aload_n 0, 1), (28, .getfield 29, 3), (31, .iload_n 1, 1), (32, .iload_n 2, 1), (33, .iastore, 1), (34, .return_, 1)]
theorem dX10_lay : ∀ q ∈ tX10_lay, decode cX10_lay q.1 = .ok q.2 := by decide +kernel
def tX10_put : List (Nat × Instr × Nat) := [(0, .aload_n 0, 1), (1, .iload_n 1, 1), (2, .invokevirtual 191, 3), (5, .ifCond .eq 10, 3), (8, .iload_n 2, 1), (9, .invokestatic 194, 3), (12, .ifCond .ne 9, 3), (15, .aload_n 0, 1), (16, .iconst 1, 1), (17, .invokevirtual 127, 3), (20, .ireturn, 1), (21, .aload_n 0, 1), (22, .getfield 26, 3), (25, .iload_n 1, 1), (26, .iaload, 1), (27, .ifCond .ne 14, 3), (30, .aload_n 0, 1), (31, .getfield 35, 3), (34, .iload_n 2, 1), (35, .iaload, 1), (36, .bipush 6, 2), (38, .if_icmp .ne 9, 3), (41, .aload_n 0, 1), (42, .iconst 3, 1), (43, .invokevirtual 127, 3), (46, .ireturn, 1), (47, .aload_n 0, 1), (48, .iload_n 1, 1), (49, .iload_n 2, 1), (50, .invokevirtual 197, 3), (53, .aload_n 0, 1), (54, .getfield 26, 3), (57, .iload_n 1, 1), (58, .iconst 1, 1), (59, .iastore, 1), (60, .aload_n 0, 1), (61, .getfield 74, 3), (64, .iconst 0, 1), (65, .dup2, 1), (66, .iaload, 1), (67, .aload_n 0, 1), (68, .getfield 23, 3), (71, .iload_n 1, 1), (72, .iaload, 1), (73, .iadd, 1), (74, .iastore, 1), (75, .aload_n 0, 1), (76, .invokevirtual 200, 3), (79, .aload_n 0, 1), (80, .iload_n 1, 1), (81, .invokevirtual 203, 3), (84, .ireturn, 1)]
theorem dX10_put : ∀ q ∈ tX10_put, decode cX10_put q.1 = .ok q.2 := by decide +kernel
def tX10_take : List (Nat × Instr × Nat) := [(0, .iload_n 1, 1), (1, .invokestatic 194, 3), (4, .ifCond .ne 9, 3), (7, .aload_n 0, 1), (8, .iconst 1, 1), (9, .invokevirtual 127, 3), (12, .ireturn, 1), (13, .aload_n 0, 1), (14, .getfield 35, 3), (17, .iload_n 1, 1), (18, .iaload, 1), (19, .ifCond .ne 9, 3), (22, .aload_n 0, 1), (23, .iconst 2, 1), (24, .invokevirtual 127, 3), (27, .ireturn, 1), (28, .aload_n 0, 1), (29, .iload_n 1, 1), (30, .aload_n 0, 1), (31, .getfield 35, 3), (34, .iload_n 1, 1), (35, .iaload, 1), (36, .iconst 1, 1), (37, .isub, 1), (38, .invokevirtual 179, 3), (41, .istore_n 2, 1), (42, .aload_n 0, 1), (43, .getfield 74, 3), (46, .iconst 4, 1), (47, .dup2, 1), (48, .iaload, 1), (49, .aload_n 0, 1), (50, .getfield 23, 3), (53, .iload_n 2, 1), (54, .iaload, 1), (55, .iadd, 1), (56, .iastore, 1), (57, .aload_n 0, 1), (58, .iload_n 1, 1), (59, .aload_n 0, 1), (60, .getfield 35, 3), (63, .iload_n 1, 1), (64, .iaload, 1), (65, .iconst 1, 1), (66, .isub, 1), (67, .invokevirtual 188, 3), (70, .iload_n 2, 1), (71, .ireturn, 1)]
theorem dX10_take : ∀ q ∈ tX10_take, decode cX10_take q.1 = .ok q.2 := by decide +kernel
def tX10_move : List (Nat × Instr × Nat) := [(0, .iload_n 1, 1), (1, .invokestatic 194, 3), (4, .ifCond .eq 15, 3), (7, .iload_n 2, 1), (8, .invokestatic 194, 3), (11, .ifCond .eq 8, 3), (14, .iload_n 1, 1), (15, .iload_n 2, 1), (16, .if_icmp .ne 9, 3), (19, .aload_n 0, 1), (20, .iconst 1, 1), (21, .invokevirtual 127, 3), (24, .ireturn, 1), (25, .aload_n 0, 1), (26, .getfield 35, 3), (29, .iload_n 1, 1), (30, .iaload, 1), (31, .ifCond .ne 9, 3), (34, .aload_n 0, 1), (35, .iconst 2, 1), (36, .invokevirtual 127, 3), (39, .ireturn, 1), (40, .aload_n 0, 1), (41, .getfield 35, 3), (44, .iload_n 2, 1), (45, .iaload, 1), (46, .bipush 6, 2), (48, .if_icmp .ne 9, 3), (51, .aload_n 0, 1), (52, .iconst 3, 1), (53, .invokevirtual 127, 3), (56, .ireturn, 1), (57, .aload_n 0, 1), (58, .iload_n 1, 1), (59, .aload_n 0, 1), (60, .getfield 35, 3), (63, .iload_n 1, 1), (64, .iaload, 1), (65, .iconst 1, 1), (66, .isub, 1), (67, .invokevirtual 179, 3), (70, .istore_n 3, 1), (71, .aload_n 0, 1), (72, .iload_n 1, 1), (73, .aload_n 0, 1), (74, .getfield 35, 3), (77, .iload_n 1, 1), (78, .iaload, 1), (79, .iconst 1, 1), (80, .isub, 1), (81, .invokevirtual 182, 3), (84, .aload_n 0, 1), (85, .iload_n 3, 1), (86, .iload_n 2, 1), (87, .invokevirtual 197, 3), (90, .aload_n 0, 1), (91, .invokevirtual 200, 3), (94, .iload_n 3, 1), (95, .ireturn, 1)]
theorem dX10_move : ∀ q ∈ tX10_move, decode cX10_move q.1 = .ok q.2 := by decide +kernel
def tX10_as : List (Nat × Instr × Nat) := [(0, .aload_n 0, 1), (1, .iload_n 1, 1), (2, .invokevirtual 191, 3), (5, .ifCond .eq 12, 3), (8, .iload_n 2, 1), (9, .iconst 0, 1), (10, .iconst 3, 1), (11, .invokestatic 123, 3), (14, .ifCond .ne 9, 3), (17, .aload_n 0, 1), (18, .iconst 1, 1), (19, .invokevirtual 127, 3), (22, .ireturn, 1), (23, .iload_n 2, 1), (24, .ifCond .eq 28, 3), (27, .aload_n 0, 1), (28, .getfield 20, 3), (31, .iload_n 1, 1), (32, .iaload, 1), (33, .iload_n 2, 1), (34, .if_icmp .eq 18, 3), (37, .iload_n 2, 1), (38, .iconst 1, 1), (39, .if_icmp .ne 22, 3), (42, .aload_n 0, 1), (43, .getfield 20, 3), (46, .iload_n 1, 1), (47, .iaload, 1), (48, .iconst 3, 1), (49, .if_icmp .ne 12, 3), (52, .aload_n 0, 1), (53, .getfield 23, 3), (56, .iload_n 1, 1), (57, .iaload, 1), (58, .goto 8, 3), (61, .aload_n 0, 1), (62, .iconst 5, 1), (63, .invokevirtual 127, 3), (66, .ireturn, 1)]
theorem dX10_as : ∀ q ∈ tX10_as, decode cX10_as q.1 = .ok q.2 := by decide +kernel
def tX10_warmthOf : List (Nat × Instr × Nat) := [(0, .iload_n 1, 1), (1, .bipush 100, 2), (3, .if_icmp .ge 12, 3), (6, .aload_n 0, 1), (7, .getfield 44, 3), (10, .iload_n 1, 1), (11, .iaload, 1), (12, .goto 5, 3), (15, .bipush 10, 2), (17, .ireturn, 1)]
theorem dX10_warmthOf : ∀ q ∈ tX10_warmthOf, decode cX10_warmthOf q.1 = .ok q.2 := by decide +kernel
def tX10_meltOf_0 : List (Nat × Instr × Nat) := [(0, .aload_n 0, 1), (1, .iload_n 1, 1), (2, .iload_n 2, 1), (3, .invokevirtual 179, 3), (6, .istore 4, 2), (8, .iload_n 2, 1), (9, .aload_n 0, 1), (10, .getfield 35, 3), (13, .iload_n 1, 1), (14, .iaload, 1), (15, .iconst 1, 1), (16, .isub, 1), (17, .if_icmp .ne 17, 3), (20, .iload_n 3, 1), (21, .bipush 10, 2), (23, .aload_n 0, 1), (24, .getfield 41, 3), (27, .iload_n 1, 1), (28, .iaload, 1), (29, .isub, 1), (30, .imul, 1), (31, .goto 4, 3), (34, .iconst 0, 1), (35, .istore 5, 2), (37, .iconst 0, 1), (38, .istore 6, 2), (40, .iload 6, 2), (42, .iconst 4, 1), (43, .if_icmp .ge 127, 3), (46, .iload_n 1, 1), (47, .iconst 4, 1), (48, .idiv, 1), (49, .iload 6, 2), (51, .ifCond .ne 7, 3), (54, .iconst (-1), 1), (55, .goto 14, 3), (58, .iload 6, 2), (60, .iconst 1, 1), (61, .if_icmp .ne 7, 3), (64, .iconst 1, 1), (65, .goto 4, 3), (68, .iconst 0, 1), (69, .iadd, 1), (70, .istore 7, 2), (72, .iload_n 1, 1), (73, .iconst 4, 1), (74, .irem, 1), (75, .iload 6, 2), (77, .iconst 2, 1), (78, .if_icmp .ne 7, 3), (81, .iconst (-1), 1), (82, .goto 14, 3), (85, .iload 6, 2), (87, .iconst 3, 1), (88, .if_icmp .ne 7, 3), (91, .iconst 1, 1), (92, .goto 4, 3), (95, .iconst 0, 1), (96, .iadd, 1), (97, .istore 8, 2), (99, .iload 7, 2), (101, .iconst 0, 1), (102, .iconst 3, 1), (103, .invokestatic 123, 3), (106, .ifCond .eq 13, 3), (109, .iload 8, 2), (111, .iconst 0, 1), (112, .iconst 3, 1), (113, .invokestatic 123, 3), (116, .ifCond .ne 23, 3), (119, .iload 5, 2), (121, .iload_n 3, 1), (122, .bipush 10, 2), (124, .aload_n 0, 1), (125, .getfield 38, 3), (128, .iload 6, 2), (130, .iaload, 1), (131, .isub, 1), (132, .imul, 1), (133, .iadd, 1), (134, .istore 5, 2), (136, .goto 28, 3), (139, .aload_n 0, 1), (140, .getfield 35, 3), (143, .iconst 4, 1), (144, .iload 7, 2), (146, .imul, 1), (147, .iload 8, 2), (149, .iadd, 1), (150, .iaload, 1)]
theorem dX10_meltOf_0 : ∀ q ∈ tX10_meltOf_0, decode cX10_meltOf q.1 = .ok q.2 := by decide +kernel
def tX10_meltOf_1 : List (Nat × Instr × Nat) := [(151, .iload_n 2, 1), (152, .if_icmp .gt 12, 3), (155, .iload 5, 2), (157, .iload_n 3, 1), (158, .bipush 10, 2), (160, .imul, 1), (161, .iadd, 1), (162, .istore 5, 2), (164, .iinc 6 1, 3), (167, .goto (-127), 3), (170, .iload 5, 2), (172, .aload_n 0, 1), (173, .getfield 20, 3), (176, .iload 4, 2), (178, .iaload, 1), (179, .ifCond .ne 7, 3), (182, .iconst 4, 1), (183, .goto 20, 3), (186, .aload_n 0, 1), (187, .getfield 20, 3), (190, .iload 4, 2), (192, .iaload, 1), (193, .iconst 2, 1), (194, .if_icmp .ne 8, 3), (197, .bipush 6, 2), (199, .goto 4, 3), (202, .iconst 3, 1), (203, .imul, 1), (204, .sipush 400, 3), (207, .idiv, 1), (208, .istore 6, 2), (210, .iload 6, 2), (212, .aload_n 0, 1), (213, .getfield 23, 3), (216, .iload 4, 2), (218, .iaload, 1), (219, .if_icmp .ge 8, 3), (222, .iload 6, 2), (224, .goto 10, 3), (227, .aload_n 0, 1), (228, .getfield 23, 3), (231, .iload 4, 2), (233, .iaload, 1), (234, .ireturn, 1)]
theorem dX10_meltOf_1 : ∀ q ∈ tX10_meltOf_1, decode cX10_meltOf q.1 = .ok q.2 := by decide +kernel
def tX10_meltOf : List (Nat × Instr × Nat) := tX10_meltOf_0 ++ (tX10_meltOf_1)
theorem dX10_meltOf : ∀ q ∈ tX10_meltOf, decode cX10_meltOf q.1 = .ok q.2 := List.forall_mem_append.mpr ⟨dX10_meltOf_0, dX10_meltOf_1⟩
def tX10_allMelts : List (Nat × Instr × Nat) := [(0, .iconst 0, 1), (1, .istore_n 1, 1), (2, .iconst 0, 1), (3, .istore_n 2, 1), (4, .iload_n 2, 1), (5, .bipush 16, 2), (7, .if_icmp .ge 44, 3), (10, .iconst 0, 1), (11, .istore_n 3, 1), (12, .iload_n 3, 1), (13, .aload_n 0, 1), (14, .getfield 35, 3), (17, .iload_n 2, 1), (18, .iaload, 1), (19, .if_icmp .ge 26, 3), (22, .iload_n 1, 1), (23, .aload_n 0, 1), (24, .iload_n 2, 1), (25, .iload_n 3, 1), (26, .aload_n 0, 1), (27, .aload_n 0, 1), (28, .getfield 206, 3), (31, .invokevirtual 209, 3), (34, .invokevirtual 212, 3), (37, .iadd, 1), (38, .istore_n 1, 1), (39, .iinc 3 1, 3), (42, .goto (-30), 3), (45, .iinc 2 1, 3), (48, .goto (-44), 3), (51, .iload_n 1, 1), (52, .ireturn, 1)]
theorem dX10_allMelts : ∀ q ∈ tX10_allMelts, decode cX10_allMelts q.1 = .ok q.2 := by decide +kernel
def tX10_about : List (Nat × Instr × Nat) := [(0, .aload_n 0, 1), (1, .iload_n 1, 1), (2, .invokevirtual 191, 3), (5, .ifCond .eq 13, 3), (8, .iload_n 2, 1), (9, .iconst 0, 1), (10, .bipush 6, 2), (12, .invokestatic 123, 3), (15, .ifCond .ne 9, 3), (18, .aload_n 0, 1), (19, .iconst 1, 1), (20, .invokevirtual 127, 3), (23, .ireturn, 1), (24, .aload_n 0, 1), (25, .getfield 26, 3), (28, .iload_n 1, 1), (29, .iaload, 1), (30, .iconst 1, 1), (31, .if_icmp .ne 7, 3), (34, .iconst 1, 1), (35, .goto 4, 3), (38, .iconst 0, 1), (39, .istore_n 3, 1), (40, .iload_n 2, 1), (41, .tableswitch 105 0 5 #[39, 46, 53, 60, 67, 81], 39), (80, .aload_n 0, 1), (81, .getfield 20, 3), (84, .iload_n 1, 1), (85, .iaload, 1), (86, .ireturn, 1), (87, .aload_n 0, 1), (88, .getfield 23, 3), (91, .iload_n 1, 1), (92, .iaload, 1), (93, .ireturn, 1), (94, .aload_n 0, 1), (95, .getfield 26, 3), (98, .iload_n 1, 1), (99, .iaload, 1), (100, .ireturn, 1), (101, .aload_n 0, 1), (102, .getfield 29, 3), (105, .iload_n 1, 1), (106, .iaload, 1), (107, .ireturn, 1), (108, .iload_n 3, 1), (109, .ifCond .eq 11, 3), (112, .aload_n 0, 1), (113, .iload_n 1, 1), (114, .invokevirtual 203, 3), (117, .goto 4, 3), (120, .iconst (-1), 1), (121, .ireturn, 1), (122, .iload_n 3, 1), (123, .ifCond .eq 21, 3), (126, .aload_n 0, 1), (127, .aload_n 0, 1), (128, .getfield 29, 3), (131, .iload_n 1, 1), (132, .iaload, 1), (133, .aload_n 0, 1), (134, .iload_n 1, 1), (135, .invokevirtual 203, 3), (138, .invokevirtual 185, 3), (141, .goto 4, 3), (144, .iconst 0, 1), (145, .ireturn, 1), (146, .iload_n 3, 1), (147, .ifCond .eq 29, 3), (150, .aload_n 0, 1), (151, .aload_n 0, 1), (152, .getfield 29, 3), (155, .iload_n 1, 1), (156, .iaload, 1), (157, .aload_n 0, 1), (158, .iload_n 1, 1), (159, .invokevirtual 203, 3), (162, .aload_n 0, 1), (163, .aload_n 0, 1), (164, .getfield 206, 3), (167, .invokevirtual 209, 3), (170, .invokevirtual 212, 3), (173, .goto 4, 3), (176, .iconst 0, 1), (177, .ireturn, 1)]
theorem dX10_about : ∀ q ∈ tX10_about, decode cX10_about q.1 = .ok q.2 := by decide +kernel
def tX10_at : List (Nat × Instr × Nat) := [(0, .iload_n 1, 1), (1, .invokestatic 194, 3), (4, .ifCond .eq 12, 3), (7, .iload_n 2, 1), (8, .iconst 0, 1), (9, .iconst 5, 1), (10, .invokestatic 123, 3), (13, .ifCond .ne 9, 3), (16, .aload_n 0, 1), (17, .iconst 1, 1), (18, .invokevirtual 127, 3), (21, .ireturn, 1), (22, .iload_n 2, 1), (23, .aload_n 0, 1), (24, .getfield 35, 3), (27, .iload_n 1, 1), (28, .iaload, 1), (29, .if_icmp .ge 12, 3), (32, .aload_n 0, 1), (33, .iload_n 1, 1), (34, .iload_n 2, 1), (35, .invokevirtual 179, 3), (38, .goto 8, 3), (41, .aload_n 0, 1), (42, .iconst 2, 1), (43, .invokevirtual 127, 3), (46, .ireturn, 1)]
theorem dX10_at : ∀ q ∈ tX10_at, decode cX10_at q.1 = .ok q.2 := by decide +kernel
def tX10_dust : List (Nat × Instr × Nat) := [(0, .iload_n 1, 1), (1, .iconst 0, 1), (2, .iconst 3, 1), (3, .invokestatic 123, 3), (6, .ifCond .eq 13, 3), (9, .iload_n 2, 1), (10, .iconst 0, 1), (11, .bipush 10, 2), (13, .invokestatic 123, 3), (16, .ifCond .ne 9, 3), (19, .aload_n 0, 1), (20, .iconst 1, 1), (21, .invokevirtual 127, 3), (24, .ireturn, 1), (25, .aload_n 0, 1), (26, .getfield 38, 3), (29, .iload_n 1, 1), (30, .iaload, 1), (31, .istore_n 3, 1), (32, .aload_n 0, 1), (33, .getfield 38, 3), (36, .iload_n 1, 1), (37, .iload_n 2, 1), (38, .iastore, 1), (39, .iload_n 3, 1), (40, .ireturn, 1)]
theorem dX10_dust : ∀ q ∈ tX10_dust, decode cX10_dust q.1 = .ok q.2 := by decide +kernel
def tX10_cover : List (Nat × Instr × Nat) := [(0, .iload_n 1, 1), (1, .invokestatic 194, 3), (4, .ifCond .eq 13, 3), (7, .iload_n 2, 1), (8, .iconst 0, 1), (9, .bipush 10, 2), (11, .invokestatic 123, 3), (14, .ifCond .ne 9, 3), (17, .aload_n 0, 1), (18, .iconst 1, 1), (19, .invokevirtual 127, 3), (22, .ireturn, 1), (23, .aload_n 0, 1), (24, .getfield 41, 3), (27, .iload_n 1, 1), (28, .iaload, 1), (29, .istore_n 3, 1), (30, .aload_n 0, 1), (31, .getfield 41, 3), (34, .iload_n 1, 1), (35, .iload_n 2, 1), (36, .iastore, 1), (37, .iload_n 3, 1), (38, .ireturn, 1)]
theorem dX10_cover : ∀ q ∈ tX10_cover, decode cX10_cover q.1 = .ok q.2 := by decide +kernel
def tX10_warmth : List (Nat × Instr × Nat) := [(0, .iload_n 1, 1), (1, .iconst 0, 1), (2, .bipush 99, 2), (4, .invokestatic 123, 3), (7, .ifCond .eq 13, 3), (10, .iload_n 2, 1), (11, .iconst 0, 1), (12, .bipush 40, 2), (14, .invokestatic 123, 3), (17, .ifCond .ne 9, 3), (20, .aload_n 0, 1), (21, .iconst 1, 1), (22, .invokevirtual 127, 3), (25, .ireturn, 1), (26, .aload_n 0, 1), (27, .getfield 44, 3), (30, .iload_n 1, 1), (31, .iaload, 1), (32, .istore_n 3, 1), (33, .aload_n 0, 1), (34, .getfield 44, 3), (37, .iload_n 1, 1), (38, .iload_n 2, 1), (39, .iastore, 1), (40, .iload_n 3, 1), (41, .ireturn, 1)]
theorem dX10_warmth : ∀ q ∈ tX10_warmth, decode cX10_warmth q.1 = .ok q.2 := by decide +kernel
def tX10_melts : List (Nat × Instr × Nat) := [(0, .aload_n 0, 1), (1, .invokevirtual 216, 3), (4, .ireturn, 1)]
theorem dX10_melts : ∀ q ∈ tX10_melts, decode cX10_melts q.1 = .ok q.2 := by decide +kernel
def tX10_weekGoes_0 : List (Nat × Instr × Nat) := [(0, .aload_n 0, 1), (1, .aload_n 0, 1), (2, .getfield 206, 3), (5, .invokevirtual 209, 3), (8, .istore_n 1, 1), (9, .iconst 0, 1), (10, .istore_n 2, 1), (11, .iload_n 2, 1), (12, .bipush 16, 2), (14, .if_icmp .ge 45, 3), (17, .iconst 0, 1), (18, .istore_n 3, 1), (19, .iload_n 3, 1), (20, .aload_n 0, 1), (21, .getfield 35, 3), (24, .iload_n 2, 1), (25, .iaload, 1), (26, .if_icmp .ge 27, 3), (29, .aload_n 0, 1), (30, .getfield 101, 3), (33, .bipush 6, 2), (35, .iload_n 2, 1), (36, .imul, 1), (37, .iload_n 3, 1), (38, .iadd, 1), (39, .aload_n 0, 1), (40, .iload_n 2, 1), (41, .iload_n 3, 1), (42, .iload_n 1, 1), (43, .invokevirtual 212, 3), (46, .iastore, 1), (47, .iinc 3 1, 3), (50, .goto (-31), 3), (53, .iinc 2 1, 3), (56, .goto (-45), 3), (59, .iconst 0, 1), (60, .istore_n 2, 1), (61, .iload_n 2, 1), (62, .bipush 16, 2), (64, .if_icmp .ge 93, 3), (67, .aload_n 0, 1), (68, .getfield 35, 3), (71, .iload_n 2, 1), (72, .iaload, 1), (73, .iconst 1, 1), (74, .isub, 1), (75, .istore_n 3, 1), (76, .iload_n 3, 1), (77, .ifCond .lt 74, 3), (80, .aload_n 0, 1), (81, .iload_n 2, 1), (82, .iload_n 3, 1), (83, .invokevirtual 179, 3), (86, .istore 4, 2), (88, .aload_n 0, 1), (89, .getfield 23, 3), (92, .iload 4, 2), (94, .dup2, 1), (95, .iaload, 1), (96, .aload_n 0, 1), (97, .getfield 101, 3), (100, .bipush 6, 2), (102, .iload_n 2, 1), (103, .imul, 1), (104, .iload_n 3, 1), (105, .iadd, 1), (106, .iaload, 1), (107, .isub, 1), (108, .iastore, 1), (109, .aload_n 0, 1), (110, .getfield 74, 3), (113, .iconst 1, 1), (114, .dup2, 1), (115, .iaload, 1), (116, .aload_n 0, 1), (117, .getfield 101, 3), (120, .bipush 6, 2), (122, .iload_n 2, 1), (123, .imul, 1), (124, .iload_n 3, 1), (125, .iadd, 1), (126, .iaload, 1), (127, .iadd, 1), (128, .iastore, 1), (129, .aload_n 0, 1), (130, .getfield 23, 3), (133, .iload 4, 2), (135, .iaload, 1), (136, .ifCond .ne 9, 3), (139, .aload_n 0, 1)]
theorem dX10_weekGoes_0 : ∀ q ∈ tX10_weekGoes_0, decode cX10_weekGoes q.1 = .ok q.2 := by decide +kernel
def tX10_weekGoes_1 : List (Nat × Instr × Nat) := [(140, .iload_n 2, 1), (141, .iload_n 3, 1), (142, .invokevirtual 188, 3), (145, .iinc 3 (-1), 3), (148, .goto (-72), 3), (151, .iinc 2 1, 3), (154, .goto (-93), 3), (157, .aload_n 0, 1), (158, .invokevirtual 200, 3), (161, .aload_n 0, 1), (162, .dup, 1), (163, .getfield 206, 3), (166, .iconst 1, 1), (167, .iadd, 1), (168, .putfield 206, 3), (171, .return_, 1)]
theorem dX10_weekGoes_1 : ∀ q ∈ tX10_weekGoes_1, decode cX10_weekGoes q.1 = .ok q.2 := by decide +kernel
def tX10_weekGoes : List (Nat × Instr × Nat) := tX10_weekGoes_0 ++ (tX10_weekGoes_1)
theorem dX10_weekGoes : ∀ q ∈ tX10_weekGoes, decode cX10_weekGoes q.1 = .ok q.2 := List.forall_mem_append.mpr ⟨dX10_weekGoes_0, dX10_weekGoes_1⟩
def tX10_allWeight : List (Nat × Instr × Nat) := [(0, .iconst 0, 1), (1, .istore_n 1, 1), (2, .iconst 0, 1), (3, .istore_n 2, 1), (4, .iload_n 2, 1), (5, .bipush 16, 2), (7, .if_icmp .ge 41, 3), (10, .iconst 0, 1), (11, .istore_n 3, 1), (12, .iload_n 3, 1), (13, .aload_n 0, 1), (14, .getfield 35, 3), (17, .iload_n 2, 1), (18, .iaload, 1), (19, .if_icmp .ge 23, 3), (22, .iload_n 1, 1), (23, .aload_n 0, 1), (24, .getfield 23, 3), (27, .aload_n 0, 1), (28, .iload_n 2, 1), (29, .iload_n 3, 1), (30, .invokevirtual 179, 3), (33, .iaload, 1), (34, .iadd, 1), (35, .istore_n 1, 1), (36, .iinc 3 1, 3), (39, .goto (-27), 3), (42, .iinc 2 1, 3), (45, .goto (-41), 3), (48, .iload_n 1, 1), (49, .ireturn, 1)]
theorem dX10_allWeight : ∀ q ∈ tX10_allWeight, decode cX10_allWeight q.1 = .ok q.2 := by decide +kernel
def tX10_weeks : List (Nat × Instr × Nat) := [(0, .iload_n 1, 1), (1, .iconst 1, 1), (2, .bipush 20, 2), (4, .invokestatic 123, 3), (7, .ifCond .ne 9, 3), (10, .aload_n 0, 1), (11, .iconst 1, 1), (12, .invokevirtual 127, 3), (15, .ireturn, 1), (16, .aload_n 0, 1), (17, .getfield 206, 3), (20, .iload_n 1, 1), (21, .iadd, 1), (22, .bipush 100, 2), (24, .if_icmp .le 9, 3), (27, .aload_n 0, 1), (28, .iconst 4, 1), (29, .invokevirtual 127, 3), (32, .ireturn, 1), (33, .iconst 0, 1), (34, .istore_n 2, 1), (35, .iload_n 2, 1), (36, .iload_n 1, 1), (37, .if_icmp .ge 13, 3), (40, .aload_n 0, 1), (41, .invokevirtual 220, 3), (44, .iinc 2 1, 3), (47, .goto (-12), 3), (50, .aload_n 0, 1), (51, .invokevirtual 223, 3), (54, .ireturn, 1)]
theorem dX10_weeks : ∀ q ∈ tX10_weeks, decode cX10_weeks q.1 = .ok q.2 := by decide +kernel
def tX10_lays : List (Nat × Instr × Nat) := [(0, .iconst 0, 1), (1, .istore_n 3, 1), (2, .iload_n 3, 1), (3, .aload_n 1, 1), (4, .arraylength, 1), (5, .if_icmp .ge 50, 3), (8, .iload_n 2, 1), (9, .ifCond .eq 18, 3), (12, .aload_n 0, 1), (13, .getfield 104, 3), (16, .aload_n 0, 1), (17, .getfield 226, 3), (20, .aload_n 1, 1), (21, .iload_n 3, 1), (22, .iaload, 1), (23, .iastore, 1), (24, .goto 15, 3), (27, .aload_n 1, 1), (28, .iload_n 3, 1), (29, .aload_n 0, 1), (30, .getfield 104, 3), (33, .aload_n 0, 1), (34, .getfield 226, 3), (37, .iaload, 1), (38, .iastore, 1), (39, .aload_n 0, 1), (40, .dup, 1), (41, .getfield 226, 3), (44, .iconst 1, 1), (45, .iadd, 1), (46, .putfield 226, 3), (49, .iinc 3 1, 3), (52, .goto (-50), 3), (55, .return_, 1)]
theorem dX10_lays : ∀ q ∈ tX10_lays, decode cX10_lays q.1 = .ok q.2 := by decide +kernel
def tX10_layAside : List (Nat × Instr × Nat) := [(0, .aload_n 0, 1), (1, .iconst 0, 1), (2, .putfield 226, 3), (5, .aload_n 0, 1), (6, .aload_n 0, 1), (7, .getfield 23, 3), (10, .iload_n 1, 1), (11, .invokevirtual 229, 3), (14, .aload_n 0, 1), (15, .aload_n 0, 1), (16, .getfield 26, 3), (19, .iload_n 1, 1), (20, .invokevirtual 229, 3), (23, .aload_n 0, 1), (24, .aload_n 0, 1), (25, .getfield 29, 3), (28, .iload_n 1, 1), (29, .invokevirtual 229, 3), (32, .aload_n 0, 1), (33, .aload_n 0, 1), (34, .getfield 32, 3), (37, .iload_n 1, 1), (38, .invokevirtual 229, 3), (41, .aload_n 0, 1), (42, .aload_n 0, 1), (43, .getfield 35, 3), (46, .iload_n 1, 1), (47, .invokevirtual 229, 3), (50, .aload_n 0, 1), (51, .aload_n 0, 1), (52, .getfield 74, 3), (55, .iload_n 1, 1), (56, .invokevirtual 229, 3), (59, .iload_n 1, 1), (60, .ifCond .eq 14, 3), (63, .aload_n 0, 1), (64, .aload_n 0, 1), (65, .getfield 206, 3), (68, .putfield 233, 3), (71, .goto 11, 3), (74, .aload_n 0, 1), (75, .aload_n 0, 1), (76, .getfield 233, 3), (79, .putfield 206, 3), (82, .return_, 1)]
theorem dX10_layAside : ∀ q ∈ tX10_layAside, decode cX10_layAside q.1 = .ok q.2 := by decide +kernel
def tX10_after : List (Nat × Instr × Nat) := [(0, .iload_n 1, 1), (1, .iconst 0, 1), (2, .bipush 20, 2), (4, .invokestatic 123, 3), (7, .ifCond .ne 9, 3), (10, .aload_n 0, 1), (11, .iconst 1, 1), (12, .invokevirtual 127, 3), (15, .ireturn, 1), (16, .aload_n 0, 1), (17, .iconst 1, 1), (18, .invokevirtual 236, 3), (21, .iconst 0, 1), (22, .istore_n 2, 1), (23, .iload_n 2, 1), (24, .iload_n 1, 1), (25, .if_icmp .ge 13, 3), (28, .aload_n 0, 1), (29, .invokevirtual 220, 3), (32, .iinc 2 1, 3), (35, .goto (-12), 3), (38, .aload_n 0, 1), (39, .invokevirtual 223, 3), (42, .istore_n 2, 1), (43, .aload_n 0, 1), (44, .iconst 0, 1), (45, .invokevirtual 236, 3), (48, .iload_n 2, 1), (49, .ireturn, 1)]
theorem dX10_after : ∀ q ∈ tX10_after, decode cX10_after q.1 = .ok q.2 := by decide +kernel
def tX10_lasts : List (Nat × Instr × Nat) := [(0, .iload_n 1, 1), (1, .iconst 1, 1), (2, .ldc 240, 2), (4, .invokestatic 123, 3), (7, .ifCond .ne 9, 3), (10, .aload_n 0, 1), (11, .iconst 1, 1), (12, .invokevirtual 127, 3), (15, .ireturn, 1), (16, .aload_n 0, 1), (17, .iconst 1, 1), (18, .invokevirtual 236, 3), (21, .iconst 0, 1), (22, .istore_n 2, 1), (23, .iload_n 2, 1), (24, .bipush 20, 2), (26, .if_icmp .ge 21, 3), (29, .aload_n 0, 1), (30, .invokevirtual 223, 3), (33, .iload_n 1, 1), (34, .if_icmp .lt 13, 3), (37, .aload_n 0, 1), (38, .invokevirtual 220, 3), (41, .iinc 2 1, 3), (44, .goto (-21), 3), (47, .aload_n 0, 1), (48, .invokevirtual 223, 3), (51, .iload_n 1, 1), (52, .if_icmp .ge 7, 3), (55, .iconst 1, 1), (56, .goto 4, 3), (59, .iconst 0, 1), (60, .istore_n 3, 1), (61, .aload_n 0, 1), (62, .iconst 0, 1), (63, .invokevirtual 236, 3), (66, .iload_n 3, 1), (67, .ifCond .eq 7, 3), (70, .iload_n 2, 1), (71, .goto 8, 3), (74, .aload_n 0, 1), (75, .iconst 2, 1), (76, .invokevirtual 127, 3), (79, .ireturn, 1)]
theorem dX10_lasts : ∀ q ∈ tX10_lasts, decode cX10_lasts q.1 = .ok q.2 := by decide +kernel
def tX10_findDust_0 : List (Nat × Instr × Nat) := [(0, .iconst 0, 1), (1, .istore_n 2, 1), (2, .iload_n 2, 1), (3, .iconst 4, 1), (4, .if_icmp .ge 21, 3), (7, .aload_n 0, 1), (8, .getfield 107, 3), (11, .iload_n 2, 1), (12, .aload_n 0, 1), (13, .getfield 38, 3), (16, .iload_n 2, 1), (17, .iaload, 1), (18, .iastore, 1), (19, .iinc 2 1, 3), (22, .goto (-20), 3), (25, .ldc 241, 2), (27, .istore_n 2, 1), (28, .ldc 241, 2), (30, .istore_n 3, 1), (31, .iconst 0, 1), (32, .istore 4, 2), (34, .iload 4, 2), (36, .sipush 14641, 3), (39, .if_icmp .ge 126, 3), (42, .iload 4, 2), (44, .istore 5, 2), (46, .iconst 0, 1), (47, .istore 6, 2), (49, .iconst 3, 1), (50, .istore 7, 2), (52, .iload 7, 2), (54, .ifCond .lt 40, 3), (57, .aload_n 0, 1), (58, .getfield 38, 3), (61, .iload 7, 2), (63, .iload 5, 2), (65, .bipush 11, 2), (67, .irem, 1), (68, .iastore, 1), (69, .iload 5, 2), (71, .bipush 11, 2), (73, .idiv, 1), (74, .istore 5, 2), (76, .iload 6, 2), (78, .aload_n 0, 1), (79, .getfield 38, 3), (82, .iload 7, 2), (84, .iaload, 1), (85, .iadd, 1), (86, .istore 6, 2), (88, .iinc 7 (-1), 3), (91, .goto (-39), 3), (94, .iload 6, 2), (96, .iload_n 1, 1), (97, .if_icmp .gt 62, 3), (100, .aload_n 0, 1), (101, .invokevirtual 216, 3), (104, .istore 7, 2), (106, .iload 7, 2), (108, .iload_n 2, 1), (109, .if_icmp .lt 15, 3), (112, .iload 7, 2), (114, .iload_n 2, 1), (115, .if_icmp .ne 44, 3), (118, .iload 6, 2), (120, .iload_n 3, 1), (121, .if_icmp .ge 38, 3), (124, .iload 7, 2), (126, .istore_n 2, 1), (127, .iload 6, 2), (129, .istore_n 3, 1), (130, .iconst 0, 1), (131, .istore 8, 2), (133, .iload 8, 2), (135, .iconst 4, 1), (136, .if_icmp .ge 23, 3), (139, .aload_n 0, 1), (140, .getfield 110, 3), (143, .iload 8, 2), (145, .aload_n 0, 1), (146, .getfield 38, 3), (149, .iload 8, 2), (151, .iaload, 1), (152, .iastore, 1), (153, .iinc 8 1, 3), (156, .goto (-23), 3), (159, .iinc 4 1, 3), (162, .goto (-128), 3), (165, .iconst 0, 1), (166, .istore 4, 2)]
theorem dX10_findDust_0 : ∀ q ∈ tX10_findDust_0, decode cX10_findDust q.1 = .ok q.2 := by decide +kernel
def tX10_findDust_1 : List (Nat × Instr × Nat) := [(168, .iload 4, 2), (170, .iconst 4, 1), (171, .if_icmp .ge 23, 3), (174, .aload_n 0, 1), (175, .getfield 38, 3), (178, .iload 4, 2), (180, .aload_n 0, 1), (181, .getfield 107, 3), (184, .iload 4, 2), (186, .iaload, 1), (187, .iastore, 1), (188, .iinc 4 1, 3), (191, .goto (-23), 3), (194, .iload_n 2, 1), (195, .ireturn, 1)]
theorem dX10_findDust_1 : ∀ q ∈ tX10_findDust_1, decode cX10_findDust q.1 = .ok q.2 := by decide +kernel
def tX10_findDust : List (Nat × Instr × Nat) := tX10_findDust_0 ++ (tX10_findDust_1)
theorem dX10_findDust : ∀ q ∈ tX10_findDust, decode cX10_findDust q.1 = .ok q.2 := List.forall_mem_append.mpr ⟨dX10_findDust_0, dX10_findDust_1⟩
def tX10_best : List (Nat × Instr × Nat) := [(0, .iload_n 1, 1), (1, .iconst 0, 1), (2, .bipush 40, 2), (4, .invokestatic 123, 3), (7, .ifCond .eq 12, 3), (10, .iload_n 2, 1), (11, .iconst 0, 1), (12, .iconst 4, 1), (13, .invokestatic 123, 3), (16, .ifCond .ne 9, 3), (19, .aload_n 0, 1), (20, .iconst 1, 1), (21, .invokevirtual 127, 3), (24, .ireturn, 1), (25, .aload_n 0, 1), (26, .iload_n 1, 1), (27, .invokevirtual 242, 3), (30, .istore_n 3, 1), (31, .iload_n 2, 1), (32, .ifCond .ne 7, 3), (35, .iload_n 3, 1), (36, .goto 11, 3), (39, .aload_n 0, 1), (40, .getfield 110, 3), (43, .iload_n 2, 1), (44, .iconst 1, 1), (45, .isub, 1), (46, .iaload, 1), (47, .ireturn, 1)]
theorem dX10_best : ∀ q ∈ tX10_best, decode cX10_best q.1 = .ok q.2 := by decide +kernel
def tX10_order : List (Nat × Instr × Nat) := [(0, .iload_n 1, 1), (1, .iconst 0, 1), (2, .iconst 2, 1), (3, .invokestatic 123, 3), (6, .ifCond .eq 47, 3), (9, .iload_n 2, 1), (10, .iconst 1, 1), (11, .sipush 2000, 3), (14, .invokestatic 123, 3), (17, .ifCond .eq 36, 3), (20, .iload_n 3, 1), (21, .iconst 0, 1), (22, .bipush 100, 2), (24, .invokestatic 123, 3), (27, .ifCond .eq 26, 3), (30, .iload 4, 2), (32, .iconst 0, 1), (33, .bipush 20, 2), (35, .invokestatic 123, 3), (38, .ifCond .eq 15, 3), (41, .iload 5, 2), (43, .iconst 1, 1), (44, .sipush 1000, 3), (47, .invokestatic 123, 3), (50, .ifCond .ne 9, 3), (53, .aload_n 0, 1), (54, .iconst 1, 1), (55, .invokevirtual 127, 3), (58, .ireturn, 1), (59, .aload_n 0, 1), (60, .getfield 245, 3), (63, .bipush 10, 2), (65, .if_icmp .ne 9, 3), (68, .aload_n 0, 1), (69, .iconst 4, 1), (70, .invokevirtual 127, 3), (73, .ireturn, 1), (74, .aload_n 0, 1), (75, .getfield 47, 3), (78, .aload_n 0, 1), (79, .getfield 245, 3), (82, .iload_n 1, 1), (83, .iastore, 1), (84, .aload_n 0, 1), (85, .getfield 50, 3), (88, .aload_n 0, 1), (89, .getfield 245, 3), (92, .iload_n 2, 1), (93, .iastore, 1), (94, .aload_n 0, 1), (95, .getfield 53, 3), (98, .aload_n 0, 1), (99, .getfield 245, 3), (102, .iload_n 3, 1), (103, .iastore, 1), (104, .aload_n 0, 1), (105, .getfield 56, 3), (108, .aload_n 0, 1), (109, .getfield 245, 3), (112, .iload 4, 2), (114, .iastore, 1), (115, .aload_n 0, 1), (116, .getfield 59, 3), (119, .aload_n 0, 1), (120, .getfield 245, 3), (123, .iload 5, 2), (125, .iastore, 1), (126, .aload_n 0, 1), (127, .dup, 1), (128, .getfield 245, 3), (131, .iconst 1, 1), (132, .iadd, 1), (133, .putfield 245, 3), (136, .aload_n 0, 1), (137, .getfield 245, 3), (140, .iconst 1, 1), (141, .isub, 1), (142, .ireturn, 1)]
theorem dX10_order : ∀ q ∈ tX10_order, decode cX10_order q.1 = .ok q.2 := by decide +kernel
def tX10_comesOf : List (Nat × Instr × Nat) := [(0, .aload_n 0, 1), (1, .getfield 23, 3), (4, .iload_n 2, 1), (5, .iaload, 1), (6, .aload_n 0, 1), (7, .getfield 56, 3), (10, .iload_n 1, 1), (11, .iaload, 1), (12, .aload_n 0, 1), (13, .aload_n 0, 1), (14, .getfield 206, 3), (17, .invokevirtual 209, 3), (20, .imul, 1), (21, .bipush 10, 2), (23, .idiv, 1), (24, .isub, 1), (25, .istore_n 3, 1), (26, .iload_n 3, 1), (27, .ifCond .ge 7, 3), (30, .iconst 0, 1), (31, .goto 4, 3), (34, .iload_n 3, 1), (35, .ireturn, 1)]
theorem dX10_comesOf : ∀ q ∈ tX10_comesOf, decode cX10_comesOf q.1 = .ok q.2 := by decide +kernel
def tX10_isOfGrade : List (Nat × Instr × Nat) := [(0, .aload_n 0, 1), (1, .getfield 47, 3), (4, .iload_n 1, 1), (5, .iaload, 1), (6, .ifCond .eq 43, 3), (9, .aload_n 0, 1), (10, .getfield 47, 3), (13, .iload_n 1, 1), (14, .iaload, 1), (15, .iconst 1, 1), (16, .if_icmp .ne 13, 3), (19, .aload_n 0, 1), (20, .getfield 20, 3), (23, .iload_n 2, 1), (24, .iaload, 1), (25, .iconst 2, 1), (26, .if_icmp .ne 23, 3), (29, .aload_n 0, 1), (30, .getfield 20, 3), (33, .iload_n 2, 1), (34, .iaload, 1), (35, .iconst 1, 1), (36, .if_icmp .eq 13, 3), (39, .aload_n 0, 1), (40, .getfield 20, 3), (43, .iload_n 2, 1), (44, .iaload, 1), (45, .iconst 3, 1), (46, .if_icmp .ne 7, 3), (49, .iconst 1, 1), (50, .goto 4, 3), (53, .iconst 0, 1), (54, .ireturn, 1)]
theorem dX10_isOfGrade : ∀ q ∈ tX10_isOfGrade, decode cX10_isOfGrade q.1 = .ok q.2 := by decide +kernel
def tX10_whyNot : List (Nat × Instr × Nat) := [(0, .aload_n 0, 1), (1, .getfield 62, 3), (4, .iload_n 1, 1), (5, .baload, 1), (6, .ifCond .eq 5, 3), (9, .iconst 1, 1), (10, .ireturn, 1), (11, .aload_n 0, 1), (12, .getfield 206, 3), (15, .aload_n 0, 1), (16, .getfield 53, 3), (19, .iload_n 1, 1), (20, .iaload, 1), (21, .if_icmp .le 5, 3), (24, .iconst 2, 1), (25, .ireturn, 1), (26, .aload_n 0, 1), (27, .getfield 35, 3), (30, .iload_n 2, 1), (31, .iaload, 1), (32, .ifCond .ne 5, 3), (35, .iconst 3, 1), (36, .ireturn, 1), (37, .aload_n 0, 1), (38, .iload_n 2, 1), (39, .aload_n 0, 1), (40, .getfield 35, 3), (43, .iload_n 2, 1), (44, .iaload, 1), (45, .iconst 1, 1), (46, .isub, 1), (47, .invokevirtual 179, 3), (50, .istore_n 3, 1), (51, .aload_n 0, 1), (52, .iload_n 1, 1), (53, .iload_n 3, 1), (54, .invokevirtual 248, 3), (57, .ifCond .ne 7, 3), (60, .iconst 4, 1), (61, .goto 23, 3), (64, .aload_n 0, 1), (65, .iload_n 1, 1), (66, .iload_n 3, 1), (67, .invokevirtual 251, 3), (70, .aload_n 0, 1), (71, .getfield 50, 3), (74, .iload_n 1, 1), (75, .iaload, 1), (76, .if_icmp .ge 7, 3), (79, .iconst 5, 1), (80, .goto 4, 3), (83, .iconst 0, 1), (84, .ireturn, 1)]
theorem dX10_whyNot : ∀ q ∈ tX10_whyNot, decode cX10_whyNot q.1 = .ok q.2 := by decide +kernel
def tX10_isOrder : List (Nat × Instr × Nat) := [(0, .iload_n 1, 1), (1, .ifCond .lt 15, 3), (4, .iload_n 1, 1), (5, .aload_n 0, 1), (6, .getfield 245, 3), (9, .if_icmp .ge 7, 3), (12, .iconst 1, 1), (13, .goto 4, 3), (16, .iconst 0, 1), (17, .ireturn, 1)]
theorem dX10_isOrder : ∀ q ∈ tX10_isOrder, decode cX10_isOrder q.1 = .ok q.2 := by decide +kernel
def tX10_why : List (Nat × Instr × Nat) := [(0, .aload_n 0, 1), (1, .iload_n 1, 1), (2, .invokevirtual 254, 3), (5, .ifCond .eq 19, 3), (8, .iload_n 2, 1), (9, .invokestatic 194, 3), (12, .ifCond .eq 12, 3), (15, .aload_n 0, 1), (16, .iload_n 1, 1), (17, .iload_n 2, 1), (18, .invokevirtual 257, 3), (21, .goto 8, 3), (24, .aload_n 0, 1), (25, .iconst 1, 1), (26, .invokevirtual 127, 3), (29, .ireturn, 1)]
theorem dX10_why : ∀ q ∈ tX10_why, decode cX10_why q.1 = .ok q.2 := by decide +kernel
def tX10_serve : List (Nat × Instr × Nat) := [(0, .aload_n 0, 1), (1, .iload_n 1, 1), (2, .invokevirtual 254, 3), (5, .ifCond .eq 10, 3), (8, .iload_n 2, 1), (9, .invokestatic 194, 3), (12, .ifCond .ne 9, 3), (15, .aload_n 0, 1), (16, .iconst 1, 1), (17, .invokevirtual 127, 3), (20, .ireturn, 1), (21, .aload_n 0, 1), (22, .iload_n 1, 1), (23, .iload_n 2, 1), (24, .invokevirtual 257, 3), (27, .ifCond .eq 9, 3), (30, .aload_n 0, 1), (31, .iconst 3, 1), (32, .invokevirtual 127, 3), (35, .ireturn, 1), (36, .aload_n 0, 1), (37, .iload_n 2, 1), (38, .aload_n 0, 1), (39, .getfield 35, 3), (42, .iload_n 2, 1), (43, .iaload, 1), (44, .iconst 1, 1), (45, .isub, 1), (46, .invokevirtual 179, 3), (49, .istore_n 3, 1), (50, .aload_n 0, 1), (51, .iload_n 1, 1), (52, .iload_n 3, 1), (53, .invokevirtual 251, 3), (56, .istore 4, 2), (58, .aload_n 0, 1), (59, .getfield 74, 3), (62, .iconst 3, 1), (63, .dup2, 1), (64, .iaload, 1), (65, .iload 4, 2), (67, .iadd, 1), (68, .iastore, 1), (69, .aload_n 0, 1), (70, .getfield 74, 3), (73, .iconst 1, 1), (74, .dup2, 1), (75, .iaload, 1), (76, .aload_n 0, 1), (77, .getfield 23, 3), (80, .iload_n 3, 1), (81, .iaload, 1), (82, .iload 4, 2), (84, .isub, 1), (85, .iadd, 1), (86, .iastore, 1), (87, .aload_n 0, 1), (88, .getfield 74, 3), (91, .iconst 5, 1), (92, .dup2, 1), (93, .iaload, 1), (94, .aload_n 0, 1), (95, .getfield 59, 3), (98, .iload_n 1, 1), (99, .iaload, 1), (100, .iadd, 1), (101, .iastore, 1), (102, .aload_n 0, 1), (103, .getfield 62, 3), (106, .iload_n 1, 1), (107, .iconst 1, 1), (108, .bastore, 1), (109, .aload_n 0, 1), (110, .iload_n 2, 1), (111, .aload_n 0, 1), (112, .getfield 35, 3), (115, .iload_n 2, 1), (116, .iaload, 1), (117, .iconst 1, 1), (118, .isub, 1), (119, .invokevirtual 188, 3), (122, .iload 4, 2), (124, .ireturn, 1)]
theorem dX10_serve : ∀ q ∈ tX10_serve, decode cX10_serve q.1 = .ok q.2 := by decide +kernel
def tX10_trySales_0 : List (Nat × Instr × Nat) := [(0, .iload_n 2, 1), (1, .aload_n 0, 1), (2, .getfield 260, 3), (5, .if_icmp .gt 19, 3), (8, .iload_n 2, 1), (9, .aload_n 0, 1), (10, .getfield 260, 3), (13, .if_icmp .ne 48, 3), (16, .iload_n 1, 1), (17, .aload_n 0, 1), (18, .getfield 263, 3), (21, .if_icmp .ge 40, 3), (24, .aload_n 0, 1), (25, .iload_n 2, 1), (26, .putfield 260, 3), (29, .aload_n 0, 1), (30, .iload_n 1, 1), (31, .putfield 263, 3), (34, .iconst 0, 1), (35, .istore_n 3, 1), (36, .iload_n 3, 1), (37, .iconst 2, 1), (38, .iload_n 1, 1), (39, .imul, 1), (40, .if_icmp .ge 21, 3), (43, .aload_n 0, 1), (44, .getfield 116, 3), (47, .iload_n 3, 1), (48, .aload_n 0, 1), (49, .getfield 113, 3), (52, .iload_n 3, 1), (53, .iaload, 1), (54, .iastore, 1), (55, .iinc 3 1, 3), (58, .goto (-22), 3), (61, .iconst 0, 1), (62, .istore_n 3, 1), (63, .iload_n 3, 1), (64, .aload_n 0, 1), (65, .getfield 245, 3), (68, .if_icmp .ge 123, 3), (71, .iload_n 1, 1), (72, .iconst 4, 1), (73, .if_icmp .ge 118, 3), (76, .iconst 0, 1), (77, .istore 4, 2), (79, .iload 4, 2), (81, .aload_n 0, 1), (82, .getfield 170, 3), (85, .if_icmp .ge 100, 3), (88, .aload_n 0, 1), (89, .getfield 89, 3), (92, .iload 4, 2), (94, .iaload, 1), (95, .istore 5, 2), (97, .aload_n 0, 1), (98, .iload_n 3, 1), (99, .iload 5, 2), (101, .invokevirtual 257, 3), (104, .ifCond .ne 75, 3), (107, .aload_n 0, 1), (108, .getfield 113, 3), (111, .iconst 2, 1), (112, .iload_n 1, 1), (113, .imul, 1), (114, .iload_n 3, 1), (115, .iastore, 1), (116, .aload_n 0, 1), (117, .getfield 113, 3), (120, .iconst 2, 1), (121, .iload_n 1, 1), (122, .imul, 1), (123, .iconst 1, 1), (124, .iadd, 1), (125, .iload 5, 2), (127, .iastore, 1), (128, .aload_n 0, 1), (129, .getfield 62, 3), (132, .iload_n 3, 1), (133, .iconst 1, 1), (134, .bastore, 1), (135, .aload_n 0, 1), (136, .getfield 35, 3), (139, .iload 5, 2), (141, .dup2, 1), (142, .iaload, 1), (143, .iconst 1, 1), (144, .isub, 1), (145, .iastore, 1), (146, .aload_n 0, 1)]
theorem dX10_trySales_0 : ∀ q ∈ tX10_trySales_0, decode cX10_trySales q.1 = .ok q.2 := by decide +kernel
def tX10_trySales_1 : List (Nat × Instr × Nat) := [(147, .iload_n 1, 1), (148, .iconst 1, 1), (149, .iadd, 1), (150, .iload_n 2, 1), (151, .aload_n 0, 1), (152, .getfield 59, 3), (155, .iload_n 3, 1), (156, .iaload, 1), (157, .iadd, 1), (158, .invokevirtual 266, 3), (161, .aload_n 0, 1), (162, .getfield 35, 3), (165, .iload 5, 2), (167, .dup2, 1), (168, .iaload, 1), (169, .iconst 1, 1), (170, .iadd, 1), (171, .iastore, 1), (172, .aload_n 0, 1), (173, .getfield 62, 3), (176, .iload_n 3, 1), (177, .iconst 0, 1), (178, .bastore, 1), (179, .iinc 4 1, 3), (182, .goto (-103), 3), (185, .iinc 3 1, 3), (188, .goto (-125), 3), (191, .return_, 1)]
theorem dX10_trySales_1 : ∀ q ∈ tX10_trySales_1, decode cX10_trySales q.1 = .ok q.2 := by decide +kernel
def tX10_trySales : List (Nat × Instr × Nat) := tX10_trySales_0 ++ (tX10_trySales_1)
theorem dX10_trySales : ∀ q ∈ tX10_trySales, decode cX10_trySales q.1 = .ok q.2 := List.forall_mem_append.mpr ⟨dX10_trySales_0, dX10_trySales_1⟩
def tX10_sales_0 : List (Nat × Instr × Nat) := [(0, .iload_n 1, 1), (1, .ifCond .ge 9, 3), (4, .aload_n 0, 1), (5, .iconst 1, 1), (6, .invokevirtual 127, 3), (9, .ireturn, 1), (10, .aload_n 0, 1), (11, .getfield 176, 3), (14, .istore_n 2, 1), (15, .aload_n 0, 1), (16, .iconst 0, 1), (17, .putfield 176, 3), (20, .iload_n 2, 1), (21, .iconst 1, 1), (22, .iconst 3, 1), (23, .invokestatic 123, 3), (26, .istore_n 3, 1), (27, .iconst 0, 1), (28, .istore 4, 2), (30, .iload 4, 2), (32, .iload_n 2, 1), (33, .if_icmp .ge 79, 3), (36, .iload_n 3, 1), (37, .ifCond .eq 75, 3), (40, .aload_n 0, 1), (41, .getfield 77, 3), (44, .iload 4, 2), (46, .iaload, 1), (47, .invokestatic 194, 3), (50, .istore_n 3, 1), (51, .iconst 0, 1), (52, .istore 5, 2), (54, .iload 5, 2), (56, .iload 4, 2), (58, .if_icmp .ge 34, 3), (61, .iload_n 3, 1), (62, .aload_n 0, 1), (63, .getfield 77, 3), (66, .iload 5, 2), (68, .iaload, 1), (69, .aload_n 0, 1), (70, .getfield 77, 3), (73, .iload 4, 2), (75, .iaload, 1), (76, .if_icmp .eq 7, 3), (79, .iconst 1, 1), (80, .goto 4, 3), (83, .iconst 0, 1), (84, .iand, 1), (85, .istore_n 3, 1), (86, .iinc 5 1, 3), (89, .goto (-35), 3), (92, .aload_n 0, 1), (93, .getfield 89, 3), (96, .iload 4, 2), (98, .aload_n 0, 1), (99, .getfield 77, 3), (102, .iload 4, 2), (104, .iaload, 1), (105, .iastore, 1), (106, .iinc 4 1, 3), (109, .goto (-79), 3), (112, .iload_n 3, 1), (113, .ifCond .ne 9, 3), (116, .aload_n 0, 1), (117, .iconst 3, 1), (118, .invokevirtual 127, 3), (121, .ireturn, 1), (122, .aload_n 0, 1), (123, .iload_n 2, 1), (124, .putfield 170, 3), (127, .aload_n 0, 1), (128, .iconst 0, 1), (129, .putfield 260, 3), (132, .aload_n 0, 1), (133, .iconst 0, 1), (134, .putfield 263, 3), (137, .aload_n 0, 1), (138, .iconst 0, 1), (139, .iconst 0, 1), (140, .invokevirtual 266, 3), (143, .iload_n 1, 1), (144, .iconst 2, 1), (145, .if_icmp .ge 19, 3), (148, .iload_n 1, 1), (149, .ifCond .ne 10, 3), (152, .aload_n 0, 1), (153, .getfield 260, 3), (156, .goto 7, 3), (159, .aload_n 0, 1)]
theorem dX10_sales_0 : ∀ q ∈ tX10_sales_0, decode cX10_sales q.1 = .ok q.2 := by decide +kernel
def tX10_sales_1 : List (Nat × Instr × Nat) := [(160, .getfield 263, 3), (163, .ireturn, 1), (164, .iload_n 1, 1), (165, .iconst 2, 1), (166, .isub, 1), (167, .iconst 2, 1), (168, .aload_n 0, 1), (169, .getfield 263, 3), (172, .imul, 1), (173, .if_icmp .ge 14, 3), (176, .aload_n 0, 1), (177, .getfield 116, 3), (180, .iload_n 1, 1), (181, .iconst 2, 1), (182, .isub, 1), (183, .iaload, 1), (184, .goto 8, 3), (187, .aload_n 0, 1), (188, .iconst 2, 1), (189, .invokevirtual 127, 3), (192, .ireturn, 1)]
theorem dX10_sales_1 : ∀ q ∈ tX10_sales_1, decode cX10_sales q.1 = .ok q.2 := by decide +kernel
def tX10_sales : List (Nat × Instr × Nat) := tX10_sales_0 ++ (tX10_sales_1)
theorem dX10_sales : ∀ q ∈ tX10_sales, decode cX10_sales q.1 = .ok q.2 := List.forall_mem_append.mpr ⟨dX10_sales_0, dX10_sales_1⟩
def tX10_isStation : List (Nat × Instr × Nat) := [(0, .iload_n 0, 1), (1, .iconst 1, 1), (2, .bipush 100, 2), (4, .invokestatic 123, 3), (7, .ifCond .eq 27, 3), (10, .iload_n 1, 1), (11, .iconst 0, 1), (12, .bipush 60, 2), (14, .invokestatic 123, 3), (17, .ifCond .eq 17, 3), (20, .iload_n 2, 1), (21, .iconst 0, 1), (22, .bipush 30, 2), (24, .invokestatic 123, 3), (27, .ifCond .eq 7, 3), (30, .iconst 1, 1), (31, .goto 4, 3), (34, .iconst 0, 1), (35, .ireturn, 1)]
theorem dX10_isStation : ∀ q ∈ tX10_isStation, decode cX10_isStation q.1 = .ok q.2 := by decide +kernel
def tX10_tellStation : List (Nat × Instr × Nat) := [(0, .aload_n 0, 1), (1, .getfield 65, 3), (4, .iload_n 1, 1), (5, .iload_n 2, 1), (6, .iastore, 1), (7, .aload_n 0, 1), (8, .getfield 68, 3), (11, .iload_n 1, 1), (12, .iload_n 3, 1), (13, .iastore, 1), (14, .aload_n 0, 1), (15, .getfield 71, 3), (18, .iload_n 1, 1), (19, .iload 4, 2), (21, .iastore, 1), (22, .return_, 1)]
theorem dX10_tellStation : ∀ q ∈ tX10_tellStation, decode cX10_tellStation q.1 = .ok q.2 := by decide +kernel
def tX10_station : List (Nat × Instr × Nat) := [(0, .iload_n 1, 1), (1, .iload_n 2, 1), (2, .iload_n 3, 1), (3, .invokestatic 269, 3), (6, .ifCond .ne 9, 3), (9, .aload_n 0, 1), (10, .iconst 1, 1), (11, .invokevirtual 127, 3), (14, .ireturn, 1), (15, .aload_n 0, 1), (16, .getfield 272, 3), (19, .bipush 9, 2), (21, .if_icmp .ne 9, 3), (24, .aload_n 0, 1), (25, .iconst 4, 1), (26, .invokevirtual 127, 3), (29, .ireturn, 1), (30, .aload_n 0, 1), (31, .aload_n 0, 1), (32, .getfield 272, 3), (35, .iload_n 1, 1), (36, .iload_n 2, 1), (37, .iload_n 3, 1), (38, .invokevirtual 275, 3), (41, .aload_n 0, 1), (42, .dup, 1), (43, .getfield 272, 3), (46, .iconst 1, 1), (47, .iadd, 1), (48, .putfield 272, 3), (51, .aload_n 0, 1), (52, .getfield 272, 3), (55, .ireturn, 1)]
theorem dX10_station : ∀ q ∈ tX10_station, decode cX10_station q.1 = .ok q.2 := by decide +kernel
def tX10_change : List (Nat × Instr × Nat) := [(0, .iload_n 1, 1), (1, .ifCond .lt 21, 3), (4, .iload_n 1, 1), (5, .aload_n 0, 1), (6, .getfield 272, 3), (9, .if_icmp .ge 13, 3), (12, .iload_n 2, 1), (13, .iload_n 3, 1), (14, .iload 4, 2), (16, .invokestatic 269, 3), (19, .ifCond .ne 9, 3), (22, .aload_n 0, 1), (23, .iconst 1, 1), (24, .invokevirtual 127, 3), (27, .ireturn, 1), (28, .aload_n 0, 1), (29, .getfield 68, 3), (32, .iload_n 1, 1), (33, .iaload, 1), (34, .istore 5, 2), (36, .aload_n 0, 1), (37, .iload_n 1, 1), (38, .iload_n 2, 1), (39, .iload_n 3, 1), (40, .iload 4, 2), (42, .invokevirtual 275, 3), (45, .iload 5, 2), (47, .ireturn, 1)]
theorem dX10_change : ∀ q ∈ tX10_change, decode cX10_change q.1 = .ok q.2 := by decide +kernel
def tX10_costOf : List (Nat × Instr × Nat) := [(0, .iload_n 2, 1), (1, .iload_n 3, 1), (2, .iadd, 1), (3, .aload_n 0, 1), (4, .getfield 71, 3), (7, .iload_n 1, 1), (8, .iaload, 1), (9, .isub, 1), (10, .istore 5, 2), (12, .iload_n 3, 1), (13, .aload_n 0, 1), (14, .getfield 68, 3), (17, .iload_n 1, 1), (18, .iaload, 1), (19, .if_icmp .gt 35, 3), (22, .iload_n 2, 1), (23, .iload_n 3, 1), (24, .iadd, 1), (25, .iload 4, 2), (27, .if_icmp .gt 27, 3), (30, .iload 5, 2), (32, .ifCond .lt 22, 3), (35, .aload_n 0, 1), (36, .getfield 119, 3), (39, .bipush 61, 2), (41, .iload_n 1, 1), (42, .iconst 1, 1), (43, .iadd, 1), (44, .imul, 1), (45, .iload 5, 2), (47, .iadd, 1), (48, .iaload, 1), (49, .ldc 241, 2), (51, .if_icmp .ne 6, 3), (54, .ldc 241, 2), (56, .ireturn, 1), (57, .iload_n 3, 1), (58, .aload_n 0, 1), (59, .getfield 65, 3), (62, .iload_n 1, 1), (63, .iaload, 1), (64, .imul, 1), (65, .aload_n 0, 1), (66, .getfield 119, 3), (69, .bipush 61, 2), (71, .iload_n 1, 1), (72, .iconst 1, 1), (73, .iadd, 1), (74, .imul, 1), (75, .iload 5, 2), (77, .iadd, 1), (78, .iaload, 1), (79, .iadd, 1), (80, .ireturn, 1)]
theorem dX10_costOf : ∀ q ∈ tX10_costOf, decode cX10_costOf q.1 = .ok q.2 := by decide +kernel
def tX10_icing_0 : List (Nat × Instr × Nat) := [(0, .iload_n 1, 1), (1, .iconst 1, 1), (2, .bipush 60, 2), (4, .invokestatic 123, 3), (7, .ifCond .eq 12, 3), (10, .iload_n 2, 1), (11, .iconst 0, 1), (12, .iload_n 1, 1), (13, .invokestatic 123, 3), (16, .ifCond .ne 9, 3), (19, .aload_n 0, 1), (20, .iconst 1, 1), (21, .invokevirtual 127, 3), (24, .ireturn, 1), (25, .aload_n 0, 1), (26, .getfield 272, 3), (29, .iconst 2, 1), (30, .if_icmp .ge 9, 3), (33, .aload_n 0, 1), (34, .iconst 3, 1), (35, .invokevirtual 127, 3), (38, .ireturn, 1), (39, .iload_n 3, 1), (40, .iconst (-1), 1), (41, .aload_n 0, 1), (42, .getfield 272, 3), (45, .iconst 2, 1), (46, .isub, 1), (47, .invokestatic 123, 3), (50, .ifCond .ne 9, 3), (53, .aload_n 0, 1), (54, .iconst 1, 1), (55, .invokevirtual 127, 3), (58, .ireturn, 1), (59, .aload_n 0, 1), (60, .getfield 272, 3), (63, .iconst 1, 1), (64, .isub, 1), (65, .istore 4, 2), (67, .iload 4, 2), (69, .ifCond .lt 113, 3), (72, .iconst 0, 1), (73, .istore 5, 2), (75, .iload 5, 2), (77, .iload_n 1, 1), (78, .if_icmp .gt 98, 3), (81, .iload 4, 2), (83, .aload_n 0, 1), (84, .getfield 272, 3), (87, .iconst 1, 1), (88, .isub, 1), (89, .if_icmp .ne 7, 3), (92, .iconst 0, 1), (93, .goto 5, 3), (96, .ldc 241, 2), (98, .istore 6, 2), (100, .iconst 0, 1), (101, .istore 7, 2), (103, .iload 7, 2), (105, .iload_n 1, 1), (106, .if_icmp .gt 49, 3), (109, .iload 4, 2), (111, .aload_n 0, 1), (112, .getfield 272, 3), (115, .iconst 1, 1), (116, .isub, 1), (117, .if_icmp .ge 38, 3), (120, .aload_n 0, 1), (121, .iload 4, 2), (123, .iload 5, 2), (125, .iload 7, 2), (127, .iload_n 1, 1), (128, .invokevirtual 279, 3), (131, .istore 8, 2), (133, .iload 8, 2), (135, .iload 6, 2), (137, .if_icmp .ge 8, 3), (140, .iload 8, 2), (142, .goto 5, 3), (145, .iload 6, 2), (147, .istore 6, 2), (149, .iinc 7 1, 3), (152, .goto (-49), 3), (155, .aload_n 0, 1), (156, .getfield 119, 3), (159, .bipush 61, 2), (161, .iload 4, 2), (163, .imul, 1), (164, .iload 5, 2), (166, .iadd, 1)]
theorem dX10_icing_0 : ∀ q ∈ tX10_icing_0, decode cX10_icing q.1 = .ok q.2 := by decide +kernel
def tX10_icing_1 : List (Nat × Instr × Nat) := [(167, .iload 6, 2), (169, .iastore, 1), (170, .iinc 5 1, 3), (173, .goto (-98), 3), (176, .iinc 4 (-1), 3), (179, .goto (-112), 3), (182, .aload_n 0, 1), (183, .getfield 119, 3), (186, .iload_n 2, 1), (187, .iaload, 1), (188, .ldc 241, 2), (190, .if_icmp .ne 9, 3), (193, .aload_n 0, 1), (194, .iconst 2, 1), (195, .invokevirtual 127, 3), (198, .ireturn, 1), (199, .iload_n 3, 1), (200, .ifCond .ge 10, 3), (203, .aload_n 0, 1), (204, .getfield 119, 3), (207, .iload_n 2, 1), (208, .iaload, 1), (209, .ireturn, 1), (210, .iload_n 2, 1), (211, .istore 4, 2), (213, .iconst 0, 1), (214, .istore 5, 2), (216, .iconst 0, 1), (217, .istore 6, 2), (219, .iload 6, 2), (221, .iload_n 3, 1), (222, .if_icmp .gt 60, 3), (225, .iconst 0, 1), (226, .istore 5, 2), (228, .aload_n 0, 1), (229, .iload 6, 2), (231, .iload 4, 2), (233, .iload 5, 2), (235, .iload_n 1, 1), (236, .invokevirtual 279, 3), (239, .aload_n 0, 1), (240, .getfield 119, 3), (243, .bipush 61, 2), (245, .iload 6, 2), (247, .imul, 1), (248, .iload 4, 2), (250, .iadd, 1), (251, .iaload, 1), (252, .if_icmp .eq 9, 3), (255, .iinc 5 1, 3), (258, .goto (-30), 3), (261, .iload 4, 2), (263, .iload 5, 2), (265, .aload_n 0, 1), (266, .getfield 71, 3), (269, .iload 6, 2), (271, .iaload, 1), (272, .isub, 1), (273, .iadd, 1), (274, .istore 4, 2), (276, .iinc 6 1, 3), (279, .goto (-60), 3), (282, .iload 5, 2), (284, .ireturn, 1)]
theorem dX10_icing_1 : ∀ q ∈ tX10_icing_1, decode cX10_icing q.1 = .ok q.2 := by decide +kernel
def tX10_icing : List (Nat × Instr × Nat) := tX10_icing_0 ++ (tX10_icing_1)
theorem dX10_icing : ∀ q ∈ tX10_icing, decode cX10_icing q.1 = .ok q.2 := List.forall_mem_append.mpr ⟨dX10_icing_0, dX10_icing_1⟩
def tX10_ledger : List (Nat × Instr × Nat) := [(0, .iload_n 1, 1), (1, .iconst 0, 1), (2, .bipush 6, 2), (4, .invokestatic 123, 3), (7, .ifCond .ne 9, 3), (10, .aload_n 0, 1), (11, .iconst 1, 1), (12, .invokevirtual 127, 3), (15, .ireturn, 1), (16, .iload_n 1, 1), (17, .iconst 5, 1), (18, .if_icmp .ge 12, 3), (21, .aload_n 0, 1), (22, .getfield 74, 3), (25, .iload_n 1, 1), (26, .iaload, 1), (27, .goto 21, 3), (30, .iload_n 1, 1), (31, .iconst 5, 1), (32, .if_icmp .ne 10, 3), (35, .aload_n 0, 1), (36, .invokevirtual 223, 3), (39, .goto 9, 3), (42, .aload_n 0, 1), (43, .getfield 74, 3), (46, .iconst 5, 1), (47, .iaload, 1), (48, .ireturn, 1)]
theorem dX10_ledger : ∀ q ∈ tX10_ledger, decode cX10_ledger q.1 = .ok q.2 := by decide +kernel
def tX10_tell : List (Nat × Instr × Nat) := [(0, .aload_n 0, 1), (1, .getfield 176, 3), (4, .bipush 16, 2), (6, .if_icmp .ne 9, 3), (9, .aload_n 0, 1), (10, .iconst 4, 1), (11, .invokevirtual 127, 3), (14, .ireturn, 1), (15, .aload_n 0, 1), (16, .getfield 77, 3), (19, .aload_n 0, 1), (20, .getfield 176, 3), (23, .iload_n 1, 1), (24, .iastore, 1), (25, .aload_n 0, 1), (26, .dup, 1), (27, .getfield 176, 3), (30, .iconst 1, 1), (31, .iadd, 1), (32, .putfield 176, 3), (35, .aload_n 0, 1), (36, .getfield 176, 3), (39, .ireturn, 1)]
theorem dX10_tell : ∀ q ∈ tX10_tell, decode cX10_tell q.1 = .ok q.2 := by decide +kernel
def tX10_check : List (Nat × Instr × Nat) := [(0, .aload_n 0, 1), (1, .getfield 176, 3), (4, .istore_n 2, 1), (5, .aload_n 0, 1), (6, .iconst 0, 1), (7, .putfield 176, 3), (10, .iload_n 1, 1), (11, .iconst 0, 1), (12, .bipush 20, 2), (14, .invokestatic 123, 3), (17, .ifCond .ne 9, 3), (20, .aload_n 0, 1), (21, .iconst 1, 1), (22, .invokevirtual 127, 3), (25, .ireturn, 1), (26, .aload_n 0, 1), (27, .iconst 1, 1), (28, .invokevirtual 236, 3), (31, .iconst 0, 1), (32, .istore_n 3, 1), (33, .iload_n 3, 1), (34, .iload_n 1, 1), (35, .if_icmp .ge 13, 3), (38, .aload_n 0, 1), (39, .invokevirtual 220, 3), (42, .iinc 3 1, 3), (45, .goto (-12), 3), (48, .iconst 0, 1), (49, .istore_n 3, 1), (50, .iconst 0, 1), (51, .istore 4, 2), (53, .iload 4, 2), (55, .iload_n 2, 1), (56, .if_icmp .ge 76, 3), (59, .iload_n 3, 1), (60, .ifCond .ne 72, 3), (63, .iconst 0, 1), (64, .istore 5, 2), (66, .iconst 0, 1), (67, .istore 6, 2), (69, .iload 6, 2), (71, .aload_n 0, 1), (72, .getfield 35, 3), (75, .iload 4, 2), (77, .iaload, 1), (78, .if_icmp .ge 27, 3), (81, .iload 5, 2), (83, .aload_n 0, 1), (84, .getfield 23, 3), (87, .aload_n 0, 1), (88, .iload 4, 2), (90, .iload 6, 2), (92, .invokevirtual 179, 3), (95, .iaload, 1), (96, .iadd, 1), (97, .istore 5, 2), (99, .iinc 6 1, 3), (102, .goto (-33), 3), (105, .iload 5, 2), (107, .aload_n 0, 1), (108, .getfield 77, 3), (111, .iload 4, 2), (113, .iaload, 1), (114, .if_icmp .eq 10, 3), (117, .iconst 1, 1), (118, .iload 4, 2), (120, .iadd, 1), (121, .goto 4, 3), (124, .iconst 0, 1), (125, .istore_n 3, 1), (126, .iinc 4 1, 3), (129, .goto (-76), 3), (132, .aload_n 0, 1), (133, .iconst 0, 1), (134, .invokevirtual 236, 3), (137, .iload_n 3, 1), (138, .ireturn, 1)]
theorem dX10_check : ∀ q ∈ tX10_check, decode cX10_check q.1 = .ok q.2 := by decide +kernel
def tX10_placed : List (Nat × Instr × Nat) := [(0, .iconst 0, 1), (1, .istore_n 2, 1), (2, .iconst 0, 1), (3, .istore_n 3, 1), (4, .iload_n 3, 1), (5, .aload_n 0, 1), (6, .getfield 163, 3), (9, .if_icmp .ge 27, 3), (12, .iload_n 2, 1), (13, .aload_n 0, 1), (14, .getfield 26, 3), (17, .iload_n 3, 1), (18, .iaload, 1), (19, .iload_n 1, 1), (20, .if_icmp .ne 7, 3), (23, .iconst 1, 1), (24, .goto 4, 3), (27, .iconst 0, 1), (28, .iadd, 1), (29, .istore_n 2, 1), (30, .iinc 3 1, 3), (33, .goto (-29), 3), (36, .iload_n 2, 1), (37, .ireturn, 1)]
theorem dX10_placed : ∀ q ∈ tX10_placed, decode cX10_placed q.1 = .ok q.2 := by decide +kernel
def tX10_count : List (Nat × Instr × Nat) := [(0, .iconst 0, 1), (1, .istore_n 2, 1), (2, .iload_n 1, 1), (3, .tableswitch 127 0 8 #[49, 54, 60, 66, 71, 106, 111, 116, 121], 49), (52, .aload_n 0, 1), (53, .getfield 163, 3), (56, .ireturn, 1), (57, .aload_n 0, 1), (58, .iconst 0, 1), (59, .invokevirtual 283, 3), (62, .ireturn, 1), (63, .aload_n 0, 1), (64, .iconst 1, 1), (65, .invokevirtual 283, 3), (68, .ireturn, 1), (69, .aload_n 0, 1), (70, .getfield 245, 3), (73, .ireturn, 1), (74, .iconst 0, 1), (75, .istore_n 3, 1), (76, .iload_n 3, 1), (77, .aload_n 0, 1), (78, .getfield 245, 3), (81, .if_icmp .ge 26, 3), (84, .iload_n 2, 1), (85, .aload_n 0, 1), (86, .getfield 62, 3), (89, .iload_n 3, 1), (90, .baload, 1), (91, .ifCond .eq 7, 3), (94, .iconst 1, 1), (95, .goto 4, 3), (98, .iconst 0, 1), (99, .iadd, 1), (100, .istore_n 2, 1), (101, .iinc 3 1, 3), (104, .goto (-28), 3), (107, .iload_n 2, 1), (108, .ireturn, 1), (109, .aload_n 0, 1), (110, .getfield 206, 3), (113, .ireturn, 1), (114, .aload_n 0, 1), (115, .getfield 272, 3), (118, .ireturn, 1), (119, .aload_n 0, 1), (120, .getfield 176, 3), (123, .ireturn, 1), (124, .aload_n 0, 1), (125, .iconst 1, 1), (126, .invokevirtual 138, 3), (129, .ireturn, 1), (130, .aload_n 0, 1), (131, .iconst 1, 1), (132, .invokevirtual 127, 3), (135, .ireturn, 1)]
theorem dX10_count : ∀ q ∈ tX10_count, decode cX10_count q.1 = .ok q.2 := by decide +kernel
def tX10_found : List (Nat × Instr × Nat) := [(0, .iload_n 1, 1), (1, .iconst 1, 1), (2, .iconst 5, 1), (3, .invokestatic 123, 3), (6, .ifCond .eq 12, 3), (9, .aload_n 0, 1), (10, .getfield 80, 3), (13, .iload_n 1, 1), (14, .iaload, 1), (15, .goto 8, 3), (18, .aload_n 0, 1), (19, .iconst 1, 1), (20, .invokevirtual 127, 3), (23, .ireturn, 1)]
theorem dX10_found : ∀ q ∈ tX10_found, decode cX10_found q.1 = .ok q.2 := by decide +kernel
def tJ13_bitCount_95d88 : List (Nat × Instr × Nat) := [(0, .lload_n 0, 1), (1, .lload_n 0, 1), (2, .iconst 1, 1), (3, .lushr, 1), (4, .ldc2_w 314, 3), (7, .land, 1), (8, .lsub, 1), (9, .lstore_n 0, 1), (10, .lload_n 0, 1), (11, .ldc2_w 316, 3), (14, .land, 1), (15, .lload_n 0, 1), (16, .iconst 2, 1), (17, .lushr, 1), (18, .ldc2_w 316, 3), (21, .land, 1), (22, .ladd, 1), (23, .lstore_n 0, 1), (24, .lload_n 0, 1), (25, .lload_n 0, 1), (26, .iconst 4, 1), (27, .lushr, 1), (28, .ladd, 1), (29, .ldc2_w 318, 3), (32, .land, 1), (33, .lstore_n 0, 1), (34, .lload_n 0, 1), (35, .lload_n 0, 1), (36, .bipush 8, 2), (38, .lushr, 1), (39, .ladd, 1), (40, .lstore_n 0, 1), (41, .lload_n 0, 1), (42, .lload_n 0, 1), (43, .bipush 16, 2), (45, .lushr, 1), (46, .ladd, 1), (47, .lstore_n 0, 1), (48, .lload_n 0, 1), (49, .lload_n 0, 1), (50, .bipush 32, 2), (52, .lushr, 1), (53, .ladd, 1), (54, .lstore_n 0, 1), (55, .lload_n 0, 1), (56, .l2i, 1), (57, .bipush 127, 2), (59, .iand, 1), (60, .ireturn, 1)]
theorem dJ13_bitCount_95d88 : ∀ q ∈ tJ13_bitCount_95d88, decode cJ13_bitCount_95d88 q.1 = .ok q.2 := by decide +kernel
def tJ9_max_7cf53 : List (Nat × Instr × Nat) := [(0, .iload_n 0, 1), (1, .iload_n 1, 1), (2, .if_icmp .lt 7, 3), (5, .iload_n 0, 1), (6, .goto 4, 3), (9, .iload_n 1, 1), (10, .ireturn, 1)]
theorem dJ9_max_7cf53 : ∀ q ∈ tJ9_max_7cf53, decode cJ9_max_7cf53 q.1 = .ok q.2 := by decide +kernel
def tJ9_min_7cf53 : List (Nat × Instr × Nat) := [(0, .iload_n 0, 1), (1, .iload_n 1, 1), (2, .if_icmp .gt 7, 3), (5, .iload_n 0, 1), (6, .goto 4, 3), (9, .iload_n 1, 1), (10, .ireturn, 1)]
theorem dJ9_min_7cf53 : ∀ q ∈ tJ9_min_7cf53, decode cJ9_min_7cf53 q.1 = .ok q.2 := by decide +kernel
def tJ7_fill_53178 : List (Nat × Instr × Nat) := [(0, .iconst 0, 1), (1, .istore_n 2, 1), (2, .aload_n 0, 1), (3, .arraylength, 1), (4, .istore_n 3, 1), (5, .iload_n 2, 1), (6, .iload_n 3, 1), (7, .if_icmp .ge 13, 3), (10, .aload_n 0, 1), (11, .iload_n 2, 1), (12, .iload_n 1, 1), (13, .iastore, 1), (14, .iinc 2 1, 3), (17, .goto (-12), 3), (20, .return_, 1)]
theorem dJ7_fill_53178 : ∀ q ∈ tJ7_fill_53178, decode cJ7_fill_53178 q.1 = .ok q.2 := by decide +kernel
def tL_law_0 : List (Nat × Instr × Nat) := [(0, .new 7, 3), (3, .dup, 1), (4, .invokespecial 9, 3), (7, .astore_n 1, 1), (8, .new 10, 3), (11, .dup, 1), (12, .invokespecial 12, 3), (15, .astore_n 2, 1), (16, .iconst 0, 1), (17, .istore_n 3, 1), (18, .iload_n 3, 1), (19, .aload_n 0, 1), (20, .arraylength, 1), (21, .bipush 6, 2), (23, .isub, 1), (24, .if_icmp .gt 1232, 3), (27, .aload_n 0, 1), (28, .iload_n 3, 1), (29, .iaload, 1), (30, .bipush 63, 2), (32, .iand, 1), (33, .tableswitch 1217 0 35 #[159, 182, 205, 228, 251, 284, 307, 340, 363, 386, 409, 442, 465, 498, 531, 564, 597, 630, 663, 696, 709, 732, 755, 778, 811, 874, 907, 940, 963, 1006, 1059, 1102, 1125, 1148, 1171, 1194], 159), (192, .aload_n 1, 1), (193, .aload_n 0, 1), (194, .iload_n 3, 1), (195, .iconst 1, 1), (196, .iadd, 1), (197, .iaload, 1), (198, .invokevirtual 13, 3), (201, .aload_n 2, 1), (202, .aload_n 0, 1), (203, .iload_n 3, 1), (204, .iconst 1, 1), (205, .iadd, 1), (206, .iaload, 1), (207, .invokevirtual 17, 3), (210, .if_icmp .eq 1040, 3), (213, .iconst 0, 1), (214, .ireturn, 1), (215, .aload_n 1, 1), (216, .aload_n 0, 1), (217, .iload_n 3, 1), (218, .iconst 1, 1), (219, .iadd, 1), (220, .iaload, 1), (221, .invokevirtual 18, 3), (224, .aload_n 2, 1), (225, .aload_n 0, 1), (226, .iload_n 3, 1), (227, .iconst 1, 1), (228, .iadd, 1), (229, .iaload, 1), (230, .invokevirtual 21, 3), (233, .if_icmp .eq 1017, 3), (236, .iconst 0, 1), (237, .ireturn, 1), (238, .aload_n 1, 1), (239, .aload_n 0, 1), (240, .iload_n 3, 1), (241, .iconst 1, 1), (242, .iadd, 1), (243, .iaload, 1), (244, .invokevirtual 22, 3), (247, .aload_n 2, 1), (248, .aload_n 0, 1), (249, .iload_n 3, 1), (250, .iconst 1, 1), (251, .iadd, 1), (252, .iaload, 1), (253, .invokevirtual 25, 3), (256, .if_icmp .eq 994, 3), (259, .iconst 0, 1), (260, .ireturn, 1), (261, .aload_n 1, 1), (262, .aload_n 0, 1), (263, .iload_n 3, 1), (264, .iconst 1, 1), (265, .iadd, 1), (266, .iaload, 1), (267, .invokevirtual 26, 3), (270, .aload_n 2, 1), (271, .aload_n 0, 1), (272, .iload_n 3, 1), (273, .iconst 1, 1), (274, .iadd, 1), (275, .iaload, 1), (276, .invokevirtual 29, 3), (279, .if_icmp .eq 971, 3), (282, .iconst 0, 1), (283, .ireturn, 1)]
theorem dL_law_0 : ∀ q ∈ tL_law_0, decode cL_law q.1 = .ok q.2 := by decide +kernel
def tL_law_1 : List (Nat × Instr × Nat) := [(284, .aload_n 1, 1), (285, .aload_n 0, 1), (286, .iload_n 3, 1), (287, .iconst 1, 1), (288, .iadd, 1), (289, .iaload, 1), (290, .aload_n 0, 1), (291, .iload_n 3, 1), (292, .iconst 2, 1), (293, .iadd, 1), (294, .iaload, 1), (295, .invokevirtual 30, 3), (298, .aload_n 2, 1), (299, .aload_n 0, 1), (300, .iload_n 3, 1), (301, .iconst 1, 1), (302, .iadd, 1), (303, .iaload, 1), (304, .aload_n 0, 1), (305, .iload_n 3, 1), (306, .iconst 2, 1), (307, .iadd, 1), (308, .iaload, 1), (309, .invokevirtual 34, 3), (312, .if_icmp .eq 938, 3), (315, .iconst 0, 1), (316, .ireturn, 1), (317, .aload_n 1, 1), (318, .aload_n 0, 1), (319, .iload_n 3, 1), (320, .iconst 1, 1), (321, .iadd, 1), (322, .iaload, 1), (323, .invokevirtual 35, 3), (326, .aload_n 2, 1), (327, .aload_n 0, 1), (328, .iload_n 3, 1), (329, .iconst 1, 1), (330, .iadd, 1), (331, .iaload, 1), (332, .invokevirtual 38, 3), (335, .if_icmp .eq 915, 3), (338, .iconst 0, 1), (339, .ireturn, 1), (340, .aload_n 1, 1), (341, .aload_n 0, 1), (342, .iload_n 3, 1), (343, .iconst 1, 1), (344, .iadd, 1), (345, .iaload, 1), (346, .aload_n 0, 1), (347, .iload_n 3, 1), (348, .iconst 2, 1), (349, .iadd, 1), (350, .iaload, 1), (351, .invokevirtual 39, 3), (354, .aload_n 2, 1), (355, .aload_n 0, 1), (356, .iload_n 3, 1), (357, .iconst 1, 1), (358, .iadd, 1), (359, .iaload, 1), (360, .aload_n 0, 1), (361, .iload_n 3, 1), (362, .iconst 2, 1), (363, .iadd, 1), (364, .iaload, 1), (365, .invokevirtual 42, 3), (368, .if_icmp .eq 882, 3), (371, .iconst 0, 1), (372, .ireturn, 1), (373, .aload_n 1, 1), (374, .aload_n 0, 1), (375, .iload_n 3, 1), (376, .iconst 1, 1), (377, .iadd, 1), (378, .iaload, 1), (379, .invokevirtual 43, 3), (382, .aload_n 2, 1), (383, .aload_n 0, 1), (384, .iload_n 3, 1), (385, .iconst 1, 1), (386, .iadd, 1), (387, .iaload, 1), (388, .invokevirtual 46, 3), (391, .if_icmp .eq 859, 3), (394, .iconst 0, 1), (395, .ireturn, 1), (396, .aload_n 1, 1), (397, .aload_n 0, 1)]
theorem dL_law_1 : ∀ q ∈ tL_law_1, decode cL_law q.1 = .ok q.2 := by decide +kernel
def tL_law_2 : List (Nat × Instr × Nat) := [(398, .iload_n 3, 1), (399, .iconst 1, 1), (400, .iadd, 1), (401, .iaload, 1), (402, .invokevirtual 47, 3), (405, .aload_n 2, 1), (406, .aload_n 0, 1), (407, .iload_n 3, 1), (408, .iconst 1, 1), (409, .iadd, 1), (410, .iaload, 1), (411, .invokevirtual 50, 3), (414, .if_icmp .eq 836, 3), (417, .iconst 0, 1), (418, .ireturn, 1), (419, .aload_n 1, 1), (420, .aload_n 0, 1), (421, .iload_n 3, 1), (422, .iconst 1, 1), (423, .iadd, 1), (424, .iaload, 1), (425, .invokevirtual 51, 3), (428, .aload_n 2, 1), (429, .aload_n 0, 1), (430, .iload_n 3, 1), (431, .iconst 1, 1), (432, .iadd, 1), (433, .iaload, 1), (434, .invokevirtual 54, 3), (437, .if_icmp .eq 813, 3), (440, .iconst 0, 1), (441, .ireturn, 1), (442, .aload_n 1, 1), (443, .aload_n 0, 1), (444, .iload_n 3, 1), (445, .iconst 1, 1), (446, .iadd, 1), (447, .iaload, 1), (448, .aload_n 0, 1), (449, .iload_n 3, 1), (450, .iconst 2, 1), (451, .iadd, 1), (452, .iaload, 1), (453, .invokevirtual 55, 3), (456, .aload_n 2, 1), (457, .aload_n 0, 1), (458, .iload_n 3, 1), (459, .iconst 1, 1), (460, .iadd, 1), (461, .iaload, 1), (462, .aload_n 0, 1), (463, .iload_n 3, 1), (464, .iconst 2, 1), (465, .iadd, 1), (466, .iaload, 1), (467, .invokevirtual 58, 3), (470, .if_icmp .eq 780, 3), (473, .iconst 0, 1), (474, .ireturn, 1), (475, .aload_n 1, 1), (476, .aload_n 0, 1), (477, .iload_n 3, 1), (478, .iconst 1, 1), (479, .iadd, 1), (480, .iaload, 1), (481, .invokevirtual 59, 3), (484, .aload_n 2, 1), (485, .aload_n 0, 1), (486, .iload_n 3, 1), (487, .iconst 1, 1), (488, .iadd, 1), (489, .iaload, 1), (490, .invokevirtual 62, 3), (493, .if_icmp .eq 757, 3), (496, .iconst 0, 1), (497, .ireturn, 1), (498, .aload_n 1, 1), (499, .aload_n 0, 1), (500, .iload_n 3, 1), (501, .iconst 1, 1), (502, .iadd, 1), (503, .iaload, 1), (504, .aload_n 0, 1), (505, .iload_n 3, 1), (506, .iconst 2, 1), (507, .iadd, 1), (508, .iaload, 1), (509, .invokevirtual 63, 3), (512, .aload_n 2, 1), (513, .aload_n 0, 1)]
theorem dL_law_2 : ∀ q ∈ tL_law_2, decode cL_law q.1 = .ok q.2 := by decide +kernel
def tL_law_3 : List (Nat × Instr × Nat) := [(514, .iload_n 3, 1), (515, .iconst 1, 1), (516, .iadd, 1), (517, .iaload, 1), (518, .aload_n 0, 1), (519, .iload_n 3, 1), (520, .iconst 2, 1), (521, .iadd, 1), (522, .iaload, 1), (523, .invokevirtual 66, 3), (526, .if_icmp .eq 724, 3), (529, .iconst 0, 1), (530, .ireturn, 1), (531, .aload_n 1, 1), (532, .aload_n 0, 1), (533, .iload_n 3, 1), (534, .iconst 1, 1), (535, .iadd, 1), (536, .iaload, 1), (537, .aload_n 0, 1), (538, .iload_n 3, 1), (539, .iconst 2, 1), (540, .iadd, 1), (541, .iaload, 1), (542, .invokevirtual 67, 3), (545, .aload_n 2, 1), (546, .aload_n 0, 1), (547, .iload_n 3, 1), (548, .iconst 1, 1), (549, .iadd, 1), (550, .iaload, 1), (551, .aload_n 0, 1), (552, .iload_n 3, 1), (553, .iconst 2, 1), (554, .iadd, 1), (555, .iaload, 1), (556, .invokevirtual 70, 3), (559, .if_icmp .eq 691, 3), (562, .iconst 0, 1), (563, .ireturn, 1), (564, .aload_n 1, 1), (565, .aload_n 0, 1), (566, .iload_n 3, 1), (567, .iconst 1, 1), (568, .iadd, 1), (569, .iaload, 1), (570, .aload_n 0, 1), (571, .iload_n 3, 1), (572, .iconst 2, 1), (573, .iadd, 1), (574, .iaload, 1), (575, .invokevirtual 71, 3), (578, .aload_n 2, 1), (579, .aload_n 0, 1), (580, .iload_n 3, 1), (581, .iconst 1, 1), (582, .iadd, 1), (583, .iaload, 1), (584, .aload_n 0, 1), (585, .iload_n 3, 1), (586, .iconst 2, 1), (587, .iadd, 1), (588, .iaload, 1), (589, .invokevirtual 74, 3), (592, .if_icmp .eq 658, 3), (595, .iconst 0, 1), (596, .ireturn, 1), (597, .aload_n 1, 1), (598, .aload_n 0, 1), (599, .iload_n 3, 1), (600, .iconst 1, 1), (601, .iadd, 1), (602, .iaload, 1), (603, .aload_n 0, 1), (604, .iload_n 3, 1), (605, .iconst 2, 1), (606, .iadd, 1), (607, .iaload, 1), (608, .invokevirtual 75, 3), (611, .aload_n 2, 1), (612, .aload_n 0, 1), (613, .iload_n 3, 1), (614, .iconst 1, 1), (615, .iadd, 1), (616, .iaload, 1), (617, .aload_n 0, 1), (618, .iload_n 3, 1), (619, .iconst 2, 1), (620, .iadd, 1), (621, .iaload, 1)]
theorem dL_law_3 : ∀ q ∈ tL_law_3, decode cL_law q.1 = .ok q.2 := by decide +kernel
def tL_law_4 : List (Nat × Instr × Nat) := [(622, .invokevirtual 78, 3), (625, .if_icmp .eq 625, 3), (628, .iconst 0, 1), (629, .ireturn, 1), (630, .aload_n 1, 1), (631, .aload_n 0, 1), (632, .iload_n 3, 1), (633, .iconst 1, 1), (634, .iadd, 1), (635, .iaload, 1), (636, .aload_n 0, 1), (637, .iload_n 3, 1), (638, .iconst 2, 1), (639, .iadd, 1), (640, .iaload, 1), (641, .invokevirtual 79, 3), (644, .aload_n 2, 1), (645, .aload_n 0, 1), (646, .iload_n 3, 1), (647, .iconst 1, 1), (648, .iadd, 1), (649, .iaload, 1), (650, .aload_n 0, 1), (651, .iload_n 3, 1), (652, .iconst 2, 1), (653, .iadd, 1), (654, .iaload, 1), (655, .invokevirtual 82, 3), (658, .if_icmp .eq 592, 3), (661, .iconst 0, 1), (662, .ireturn, 1), (663, .aload_n 1, 1), (664, .aload_n 0, 1), (665, .iload_n 3, 1), (666, .iconst 1, 1), (667, .iadd, 1), (668, .iaload, 1), (669, .aload_n 0, 1), (670, .iload_n 3, 1), (671, .iconst 2, 1), (672, .iadd, 1), (673, .iaload, 1), (674, .invokevirtual 83, 3), (677, .aload_n 2, 1), (678, .aload_n 0, 1), (679, .iload_n 3, 1), (680, .iconst 1, 1), (681, .iadd, 1), (682, .iaload, 1), (683, .aload_n 0, 1), (684, .iload_n 3, 1), (685, .iconst 2, 1), (686, .iadd, 1), (687, .iaload, 1), (688, .invokevirtual 86, 3), (691, .if_icmp .eq 559, 3), (694, .iconst 0, 1), (695, .ireturn, 1), (696, .aload_n 1, 1), (697, .aload_n 0, 1), (698, .iload_n 3, 1), (699, .iconst 1, 1), (700, .iadd, 1), (701, .iaload, 1), (702, .aload_n 0, 1), (703, .iload_n 3, 1), (704, .iconst 2, 1), (705, .iadd, 1), (706, .iaload, 1), (707, .invokevirtual 87, 3), (710, .aload_n 2, 1), (711, .aload_n 0, 1), (712, .iload_n 3, 1), (713, .iconst 1, 1), (714, .iadd, 1), (715, .iaload, 1), (716, .aload_n 0, 1), (717, .iload_n 3, 1), (718, .iconst 2, 1), (719, .iadd, 1), (720, .iaload, 1), (721, .invokevirtual 90, 3), (724, .if_icmp .eq 526, 3), (727, .iconst 0, 1), (728, .ireturn, 1), (729, .aload_n 1, 1), (730, .invokevirtual 91, 3), (733, .aload_n 2, 1), (734, .invokevirtual 95, 3), (737, .if_icmp .eq 513, 3)]
theorem dL_law_4 : ∀ q ∈ tL_law_4, decode cL_law q.1 = .ok q.2 := by decide +kernel
def tL_law_5 : List (Nat × Instr × Nat) := [(740, .iconst 0, 1), (741, .ireturn, 1), (742, .aload_n 1, 1), (743, .aload_n 0, 1), (744, .iload_n 3, 1), (745, .iconst 1, 1), (746, .iadd, 1), (747, .iaload, 1), (748, .invokevirtual 96, 3), (751, .aload_n 2, 1), (752, .aload_n 0, 1), (753, .iload_n 3, 1), (754, .iconst 1, 1), (755, .iadd, 1), (756, .iaload, 1), (757, .invokevirtual 99, 3), (760, .if_icmp .eq 490, 3), (763, .iconst 0, 1), (764, .ireturn, 1), (765, .aload_n 1, 1), (766, .aload_n 0, 1), (767, .iload_n 3, 1), (768, .iconst 1, 1), (769, .iadd, 1), (770, .iaload, 1), (771, .invokevirtual 100, 3), (774, .aload_n 2, 1), (775, .aload_n 0, 1), (776, .iload_n 3, 1), (777, .iconst 1, 1), (778, .iadd, 1), (779, .iaload, 1), (780, .invokevirtual 103, 3), (783, .if_icmp .eq 467, 3), (786, .iconst 0, 1), (787, .ireturn, 1), (788, .aload_n 1, 1), (789, .aload_n 0, 1), (790, .iload_n 3, 1), (791, .iconst 1, 1), (792, .iadd, 1), (793, .iaload, 1), (794, .invokevirtual 104, 3), (797, .aload_n 2, 1), (798, .aload_n 0, 1), (799, .iload_n 3, 1), (800, .iconst 1, 1), (801, .iadd, 1), (802, .iaload, 1), (803, .invokevirtual 107, 3), (806, .if_icmp .eq 444, 3), (809, .iconst 0, 1), (810, .ireturn, 1), (811, .aload_n 1, 1), (812, .aload_n 0, 1), (813, .iload_n 3, 1), (814, .iconst 1, 1), (815, .iadd, 1), (816, .iaload, 1), (817, .aload_n 0, 1), (818, .iload_n 3, 1), (819, .iconst 2, 1), (820, .iadd, 1), (821, .iaload, 1), (822, .invokevirtual 108, 3), (825, .aload_n 2, 1), (826, .aload_n 0, 1), (827, .iload_n 3, 1), (828, .iconst 1, 1), (829, .iadd, 1), (830, .iaload, 1), (831, .aload_n 0, 1), (832, .iload_n 3, 1), (833, .iconst 2, 1), (834, .iadd, 1), (835, .iaload, 1), (836, .invokevirtual 111, 3), (839, .if_icmp .eq 411, 3), (842, .iconst 0, 1), (843, .ireturn, 1), (844, .aload_n 1, 1), (845, .aload_n 0, 1), (846, .iload_n 3, 1), (847, .iconst 1, 1), (848, .iadd, 1), (849, .iaload, 1), (850, .aload_n 0, 1), (851, .iload_n 3, 1), (852, .iconst 2, 1), (853, .iadd, 1)]
theorem dL_law_5 : ∀ q ∈ tL_law_5, decode cL_law q.1 = .ok q.2 := by decide +kernel
def tL_law_6 : List (Nat × Instr × Nat) := [(854, .iaload, 1), (855, .aload_n 0, 1), (856, .iload_n 3, 1), (857, .iconst 3, 1), (858, .iadd, 1), (859, .iaload, 1), (860, .aload_n 0, 1), (861, .iload_n 3, 1), (862, .iconst 4, 1), (863, .iadd, 1), (864, .iaload, 1), (865, .aload_n 0, 1), (866, .iload_n 3, 1), (867, .iconst 5, 1), (868, .iadd, 1), (869, .iaload, 1), (870, .invokevirtual 112, 3), (873, .aload_n 2, 1), (874, .aload_n 0, 1), (875, .iload_n 3, 1), (876, .iconst 1, 1), (877, .iadd, 1), (878, .iaload, 1), (879, .aload_n 0, 1), (880, .iload_n 3, 1), (881, .iconst 2, 1), (882, .iadd, 1), (883, .iaload, 1), (884, .aload_n 0, 1), (885, .iload_n 3, 1), (886, .iconst 3, 1), (887, .iadd, 1), (888, .iaload, 1), (889, .aload_n 0, 1), (890, .iload_n 3, 1), (891, .iconst 4, 1), (892, .iadd, 1), (893, .iaload, 1), (894, .aload_n 0, 1), (895, .iload_n 3, 1), (896, .iconst 5, 1), (897, .iadd, 1), (898, .iaload, 1), (899, .invokevirtual 116, 3), (902, .if_icmp .eq 348, 3), (905, .iconst 0, 1), (906, .ireturn, 1), (907, .aload_n 1, 1), (908, .aload_n 0, 1), (909, .iload_n 3, 1), (910, .iconst 1, 1), (911, .iadd, 1), (912, .iaload, 1), (913, .aload_n 0, 1), (914, .iload_n 3, 1), (915, .iconst 2, 1), (916, .iadd, 1), (917, .iaload, 1), (918, .invokevirtual 117, 3), (921, .aload_n 2, 1), (922, .aload_n 0, 1), (923, .iload_n 3, 1), (924, .iconst 1, 1), (925, .iadd, 1), (926, .iaload, 1), (927, .aload_n 0, 1), (928, .iload_n 3, 1), (929, .iconst 2, 1), (930, .iadd, 1), (931, .iaload, 1), (932, .invokevirtual 120, 3), (935, .if_icmp .eq 315, 3), (938, .iconst 0, 1), (939, .ireturn, 1), (940, .aload_n 1, 1), (941, .aload_n 0, 1), (942, .iload_n 3, 1), (943, .iconst 1, 1), (944, .iadd, 1), (945, .iaload, 1), (946, .aload_n 0, 1), (947, .iload_n 3, 1), (948, .iconst 2, 1), (949, .iadd, 1), (950, .iaload, 1), (951, .invokevirtual 121, 3), (954, .aload_n 2, 1), (955, .aload_n 0, 1), (956, .iload_n 3, 1), (957, .iconst 1, 1)]
theorem dL_law_6 : ∀ q ∈ tL_law_6, decode cL_law q.1 = .ok q.2 := by decide +kernel
def tL_law_7 : List (Nat × Instr × Nat) := [(958, .iadd, 1), (959, .iaload, 1), (960, .aload_n 0, 1), (961, .iload_n 3, 1), (962, .iconst 2, 1), (963, .iadd, 1), (964, .iaload, 1), (965, .invokevirtual 124, 3), (968, .if_icmp .eq 282, 3), (971, .iconst 0, 1), (972, .ireturn, 1), (973, .aload_n 1, 1), (974, .aload_n 0, 1), (975, .iload_n 3, 1), (976, .iconst 1, 1), (977, .iadd, 1), (978, .iaload, 1), (979, .invokevirtual 125, 3), (982, .aload_n 2, 1), (983, .aload_n 0, 1), (984, .iload_n 3, 1), (985, .iconst 1, 1), (986, .iadd, 1), (987, .iaload, 1), (988, .invokevirtual 128, 3), (991, .if_icmp .eq 259, 3), (994, .iconst 0, 1), (995, .ireturn, 1), (996, .aload_n 1, 1), (997, .aload_n 0, 1), (998, .iload_n 3, 1), (999, .iconst 1, 1), (1000, .iadd, 1), (1001, .iaload, 1), (1002, .aload_n 0, 1), (1003, .iload_n 3, 1), (1004, .iconst 2, 1), (1005, .iadd, 1), (1006, .iaload, 1), (1007, .aload_n 0, 1), (1008, .iload_n 3, 1), (1009, .iconst 3, 1), (1010, .iadd, 1), (1011, .iaload, 1), (1012, .invokevirtual 129, 3), (1015, .aload_n 2, 1), (1016, .aload_n 0, 1), (1017, .iload_n 3, 1), (1018, .iconst 1, 1), (1019, .iadd, 1), (1020, .iaload, 1), (1021, .aload_n 0, 1), (1022, .iload_n 3, 1), (1023, .iconst 2, 1), (1024, .iadd, 1), (1025, .iaload, 1), (1026, .aload_n 0, 1), (1027, .iload_n 3, 1), (1028, .iconst 3, 1), (1029, .iadd, 1), (1030, .iaload, 1), (1031, .invokevirtual 133, 3), (1034, .if_icmp .eq 216, 3), (1037, .iconst 0, 1), (1038, .ireturn, 1), (1039, .aload_n 1, 1), (1040, .aload_n 0, 1), (1041, .iload_n 3, 1), (1042, .iconst 1, 1), (1043, .iadd, 1), (1044, .iaload, 1), (1045, .aload_n 0, 1), (1046, .iload_n 3, 1), (1047, .iconst 2, 1), (1048, .iadd, 1), (1049, .iaload, 1), (1050, .aload_n 0, 1), (1051, .iload_n 3, 1), (1052, .iconst 3, 1), (1053, .iadd, 1), (1054, .iaload, 1), (1055, .aload_n 0, 1), (1056, .iload_n 3, 1), (1057, .iconst 4, 1), (1058, .iadd, 1), (1059, .iaload, 1), (1060, .invokevirtual 134, 3), (1063, .aload_n 2, 1), (1064, .aload_n 0, 1), (1065, .iload_n 3, 1)]
theorem dL_law_7 : ∀ q ∈ tL_law_7, decode cL_law q.1 = .ok q.2 := by decide +kernel
def tL_law_8 : List (Nat × Instr × Nat) := [(1066, .iconst 1, 1), (1067, .iadd, 1), (1068, .iaload, 1), (1069, .aload_n 0, 1), (1070, .iload_n 3, 1), (1071, .iconst 2, 1), (1072, .iadd, 1), (1073, .iaload, 1), (1074, .aload_n 0, 1), (1075, .iload_n 3, 1), (1076, .iconst 3, 1), (1077, .iadd, 1), (1078, .iaload, 1), (1079, .aload_n 0, 1), (1080, .iload_n 3, 1), (1081, .iconst 4, 1), (1082, .iadd, 1), (1083, .iaload, 1), (1084, .invokevirtual 138, 3), (1087, .if_icmp .eq 163, 3), (1090, .iconst 0, 1), (1091, .ireturn, 1), (1092, .aload_n 1, 1), (1093, .aload_n 0, 1), (1094, .iload_n 3, 1), (1095, .iconst 1, 1), (1096, .iadd, 1), (1097, .iaload, 1), (1098, .aload_n 0, 1), (1099, .iload_n 3, 1), (1100, .iconst 2, 1), (1101, .iadd, 1), (1102, .iaload, 1), (1103, .aload_n 0, 1), (1104, .iload_n 3, 1), (1105, .iconst 3, 1), (1106, .iadd, 1), (1107, .iaload, 1), (1108, .invokevirtual 139, 3), (1111, .aload_n 2, 1), (1112, .aload_n 0, 1), (1113, .iload_n 3, 1), (1114, .iconst 1, 1), (1115, .iadd, 1), (1116, .iaload, 1), (1117, .aload_n 0, 1), (1118, .iload_n 3, 1), (1119, .iconst 2, 1), (1120, .iadd, 1), (1121, .iaload, 1), (1122, .aload_n 0, 1), (1123, .iload_n 3, 1), (1124, .iconst 3, 1), (1125, .iadd, 1), (1126, .iaload, 1), (1127, .invokevirtual 142, 3), (1130, .if_icmp .eq 120, 3), (1133, .iconst 0, 1), (1134, .ireturn, 1), (1135, .aload_n 1, 1), (1136, .aload_n 0, 1), (1137, .iload_n 3, 1), (1138, .iconst 1, 1), (1139, .iadd, 1), (1140, .iaload, 1), (1141, .invokevirtual 143, 3), (1144, .aload_n 2, 1), (1145, .aload_n 0, 1), (1146, .iload_n 3, 1), (1147, .iconst 1, 1), (1148, .iadd, 1), (1149, .iaload, 1), (1150, .invokevirtual 146, 3), (1153, .if_icmp .eq 97, 3), (1156, .iconst 0, 1), (1157, .ireturn, 1), (1158, .aload_n 1, 1), (1159, .aload_n 0, 1), (1160, .iload_n 3, 1), (1161, .iconst 1, 1), (1162, .iadd, 1), (1163, .iaload, 1), (1164, .invokevirtual 147, 3), (1167, .aload_n 2, 1), (1168, .aload_n 0, 1), (1169, .iload_n 3, 1), (1170, .iconst 1, 1), (1171, .iadd, 1), (1172, .iaload, 1), (1173, .invokevirtual 150, 3)]
theorem dL_law_8 : ∀ q ∈ tL_law_8, decode cL_law q.1 = .ok q.2 := by decide +kernel
def tL_law_9 : List (Nat × Instr × Nat) := [(1176, .if_icmp .eq 74, 3), (1179, .iconst 0, 1), (1180, .ireturn, 1), (1181, .aload_n 1, 1), (1182, .aload_n 0, 1), (1183, .iload_n 3, 1), (1184, .iconst 1, 1), (1185, .iadd, 1), (1186, .iaload, 1), (1187, .invokevirtual 151, 3), (1190, .aload_n 2, 1), (1191, .aload_n 0, 1), (1192, .iload_n 3, 1), (1193, .iconst 1, 1), (1194, .iadd, 1), (1195, .iaload, 1), (1196, .invokevirtual 154, 3), (1199, .if_icmp .eq 51, 3), (1202, .iconst 0, 1), (1203, .ireturn, 1), (1204, .aload_n 1, 1), (1205, .aload_n 0, 1), (1206, .iload_n 3, 1), (1207, .iconst 1, 1), (1208, .iadd, 1), (1209, .iaload, 1), (1210, .invokevirtual 155, 3), (1213, .aload_n 2, 1), (1214, .aload_n 0, 1), (1215, .iload_n 3, 1), (1216, .iconst 1, 1), (1217, .iadd, 1), (1218, .iaload, 1), (1219, .invokevirtual 158, 3), (1222, .if_icmp .eq 28, 3), (1225, .iconst 0, 1), (1226, .ireturn, 1), (1227, .aload_n 1, 1), (1228, .aload_n 0, 1), (1229, .iload_n 3, 1), (1230, .iconst 1, 1), (1231, .iadd, 1), (1232, .iaload, 1), (1233, .invokevirtual 159, 3), (1236, .aload_n 2, 1), (1237, .aload_n 0, 1), (1238, .iload_n 3, 1), (1239, .iconst 1, 1), (1240, .iadd, 1), (1241, .iaload, 1), (1242, .invokevirtual 162, 3), (1245, .if_icmp .eq 5, 3), (1248, .iconst 0, 1), (1249, .ireturn, 1), (1250, .iinc 3 6, 3), (1253, .goto (-1235), 3), (1256, .iconst 1, 1), (1257, .ireturn, 1)]
theorem dL_law_9 : ∀ q ∈ tL_law_9, decode cL_law q.1 = .ok q.2 := by decide +kernel
def tL_law : List (Nat × Instr × Nat) := tL_law_0 ++ (tL_law_1 ++ (tL_law_2 ++ (tL_law_3 ++ (tL_law_4 ++ (tL_law_5 ++ (tL_law_6 ++ (tL_law_7 ++ (tL_law_8 ++ (tL_law_9)))))))))
theorem dL_law : ∀ q ∈ tL_law, decode cL_law q.1 = .ok q.2 := List.forall_mem_append.mpr ⟨dL_law_0, List.forall_mem_append.mpr ⟨dL_law_1, List.forall_mem_append.mpr ⟨dL_law_2, List.forall_mem_append.mpr ⟨dL_law_3, List.forall_mem_append.mpr ⟨dL_law_4, List.forall_mem_append.mpr ⟨dL_law_5, List.forall_mem_append.mpr ⟨dL_law_6, List.forall_mem_append.mpr ⟨dL_law_7, List.forall_mem_append.mpr ⟨dL_law_8, dL_law_9⟩⟩⟩⟩⟩⟩⟩⟩⟩
end
section
/-! THE WORLD: 120 places (objects and arrays of class and reference, in the order of their making), what each holds, and a judgement iz_Y over it -/
abbrev iz_S : Type := (Nat → Nat → Int32) × (Nat → Nat → Int64)
/-- shapes: (0, n) an int array, (1, n) a boolean array, (2, n) an array of int arrays, (c + 3, n) an object of class c with n fields -/
def iz_shL : List (Nat × Nat) := [(12, 11), (5, 3), (0, 64), (0, 64), (1, 64), (9, 7), (0, 6), (0, 6), (0, 64), (10, 3), (0, 4), (0, 16), (0, 100), (4, 13), (0, 60), (0, 60), (0, 60), (0, 16), (0, 96), (4, 13), (0, 60), (0, 60), (0, 60), (0, 16), (0, 96), (3, 7), (0, 4), (2, 4), (0, 11), (0, 11), (0, 11), (0, 11), (2, 4), (0, 21), (0, 21), (0, 21), (0, 21), (0, 11), (6, 10), (0, 10), (0, 10), (0, 10), (0, 10), (0, 10), (1, 10), (8, 15), (0, 3), (0, 4), (0, 4), (1, 120), (0, 10), (1, 10), (0, 3), (0, 4), (0, 4), (7, 6), (0, 9), (0, 9), (0, 9), (2, 9), (0, 61), (0, 61), (0, 61), (0, 61), (0, 61), (0, 61), (0, 61), (0, 61), (0, 61), (2, 9), (0, 61), (0, 61), (0, 61), (0, 61), (0, 61), (0, 61), (0, 61), (0, 61), (0, 61), (11, 2), (0, 16), (0, 6), (13, 48), (0, 64), (0, 64), (1, 64), (0, 60), (0, 60), (0, 60), (0, 60), (0, 96), (0, 16), (0, 4), (0, 16), (0, 100), (0, 10), (0, 10), (0, 10), (0, 10), (0, 10), (1, 10), (0, 9), (0, 9), (0, 9), (0, 6), (0, 16), (0, 6), (1, 64), (0, 64), (0, 6), (0, 6), (0, 6), (0, 256), (0, 96), (0, 320), (0, 4), (0, 4), (0, 8), (0, 8), (0, 549)]
def iz_rfL : List (List Nat) := [[1, 5, 9, 13, 19, 25, 38, 45, 55, 79, 81], [2, 3, 4], [], [], [], [6, 0, 7, 0, 8, 0, 0], [], [], [], [10, 11, 12], [], [], [], [0, 14, 15, 16, 17, 0, 0, 0, 0, 0, 0, 9, 18], [], [], [], [], [], [0, 20, 21, 22, 23, 0, 0, 0, 0, 0, 0, 9, 24], [], [], [], [], [], [0, 26, 0, 0, 27, 32, 37], [], [28, 29, 30, 31], [], [], [], [], [33, 34, 35, 36], [], [], [], [], [], [0, 0, 0, 39, 13, 40, 41, 42, 43, 44], [], [], [], [], [], [], [46, 0, 0, 47, 48, 13, 38, 0, 49, 50, 0, 51, 52, 53, 54], [], [], [], [], [], [], [], [], [], [0, 56, 57, 58, 59, 69], [], [], [], [60, 61, 62, 63, 64, 65, 66, 67, 68], [], [], [], [], [], [], [], [], [], [70, 71, 72, 73, 74, 75, 76, 77, 78], [], [], [], [], [], [], [], [], [], [0, 80], [], [], [83, 84, 85, 0, 86, 87, 88, 89, 90, 91, 92, 93, 94, 0, 0, 95, 96, 97, 98, 99, 100, 0, 101, 102, 103, 104, 0, 105, 106, 107, 108, 109, 0, 110, 111, 0, 112, 113, 114, 0, 0, 115, 116, 117, 118, 0, 0, 119], [], [], [], [], [], [], [], [], [], [], [], [], [], [], [], [], [], [], [], [], [], [], [], [], [], [], [], [], [], [], [], [], [], [], [], [], []]
def iz_ftL : List (List Nat) := [[0, 2, 0, 0, 2, 2, 2], [0, 2, 2, 2, 2, 0, 0, 0, 0, 0, 0, 2, 2], [2, 2, 2], [0, 0, 0, 2, 2, 2, 2, 2, 2, 2], [0, 2, 2, 2, 2, 2], [2, 0, 0, 2, 2, 2, 2, 0, 2, 2, 0, 2, 2, 2, 2], [2, 0, 2, 0, 2, 1, 1], [2, 2, 2], [0, 2], [2, 2, 2, 2, 2, 2, 2, 2, 2, 2, 2], [2, 2, 2, 0, 2, 2, 2, 2, 2, 2, 2, 2, 2, 0, 0, 2, 2, 2, 2, 2, 2, 0, 2, 2, 2, 2, 0, 2, 2, 2, 2, 2, 0, 2, 2, 0, 2, 2, 2, 0, 0, 2, 2, 2, 2, 0, 0, 2]]
def iz_sh (k : Nat) : Nat × Nat := iz_shL.getD k (99, 0)
def iz_rf (k i : Nat) : Nat := (iz_rfL.getD k []).getD i 0
def iz_ft (c i : Nat) : Nat := (iz_ftL.getD c []).getD i 9
abbrev iz_NP : Nat := 120
/-- addresses of places (behind the places: the four static tables), class numbers and slots, the classes of int[], boolean[], int[][] -/
abbrev iz_X : Type := (Nat → Nat) × va_G × ClassId × ClassId × ClassId
def iz_fE (X : iz_X) (S : iz_S) (k c i : Nat) : Value := if iz_ft c i = 0 then .int (S.1 k i) else if iz_ft c i = 1 then .long (S.2 k i) else .ref (X.1 (iz_rf k i))
def iz_cE (X : iz_X) (S : iz_S) (k : Nat) : va_E :=
  if (iz_sh k).1 = 0 then .inl (X.2.2.1, (iz_sh k).2, .inl (S.1 k))
  else if (iz_sh k).1 = 1 then .inl (X.2.2.2.1, (iz_sh k).2, .inl (S.1 k))
  else if (iz_sh k).1 = 2 then .inl (X.2.2.2.2, (iz_sh k).2, .inr (.inr (.inr (.inr (fun i => some (X.1 (iz_rf k i)))))))
  else .inr ((iz_sh k).1 - 3, (List.range (iz_sh k).2).map (fun i => iz_fE X S k ((iz_sh k).1 - 3) i))
def iz_ws (X : iz_X) (S : iz_S) : va_W := (List.range iz_NP).map (fun k => (X.1 k, iz_cE X S k))
def iz_tys (X : iz_X) : List (ClassId × FieldType) := [(X.2.2.1, .int), (X.2.2.2.1, .boolean), (X.2.2.2.2, .array .int)]
theorem iz_ws_get (X : iz_X) (S : iz_S) {k : Nat} (h : k < iz_NP) : (iz_ws X S)[k]? = some (X.1 k, iz_cE X S k) := by
  simp only [iz_ws, List.getElem?_map]
  rw [List.getElem?_range h]
  rfl
theorem iz_ws_some {X : iz_X} {S : iz_S} {k : Nat} {q : Nat × va_E} (h : (iz_ws X S)[k]? = some q) : k < iz_NP ∧ q = (X.1 k, iz_cE X S k) := by
  by_cases hk : k < iz_NP
  · rw [iz_ws_get X S hk] at h
    exact ⟨hk, (Option.some.inj h).symm⟩
  · rw [List.getElem?_eq_none (by simp [iz_ws]; omega)] at h
    cases h
theorem iz_ws_set (X : iz_X) (S S' : iz_S) {k : Nat} (hk : k < iz_NP) (e : va_E) (h1 : iz_cE X S' k = e) (h2 : ∀ j, j ≠ k → iz_cE X S' j = iz_cE X S j) : (iz_ws X S).set k (X.1 k, e) = iz_ws X S' := by
  apply List.ext_getElem?
  intro j
  by_cases hj : j = k
  · subst hj
    rw [iz_ws_get X S' hk, List.getElem?_set_self (by simpa [iz_ws] using hk), h1]
  · rw [List.getElem?_set_ne (fun e => hj e.symm)]
    by_cases hl : j < iz_NP
    · rw [iz_ws_get X S hl, iz_ws_get X S' hl, h2 j hj]
    · rw [List.getElem?_eq_none (by simp [iz_ws]; omega), List.getElem?_eq_none (by simp [iz_ws]; omega)]
theorem iz_sh_lt {k a b : Nat} (h : iz_sh k = (a, b)) (ha : a ≠ 99) : k < iz_NP := by
  by_cases hk : k < iz_NP
  · exact hk
  · exfalso
    have hk2 : 120 ≤ k := Nat.not_lt.mp hk
    have h120 : iz_shL.length = 120 := by decide +kernel
    have : iz_sh k = (99, 0) := by
      unfold iz_sh
      rw [List.getD_eq_getElem?_getD, List.getElem?_eq_none (by rw [h120]; exact hk2)]
      rfl
    rw [this] at h
    exact ha (congrArg Prod.fst h).symm
theorem iz_cE_I {X : iz_X} {S : iz_S} {k n : Nat} (h : iz_sh k = (0, n)) : iz_cE X S k = .inl (X.2.2.1, n, .inl (S.1 k)) := by simp [iz_cE, h]
theorem iz_cE_Z {X : iz_X} {S : iz_S} {k n : Nat} (h : iz_sh k = (1, n)) : iz_cE X S k = .inl (X.2.2.2.1, n, .inl (S.1 k)) := by simp [iz_cE, h]
theorem iz_cE_A {X : iz_X} {S : iz_S} {k n : Nat} (h : iz_sh k = (2, n)) : iz_cE X S k = .inl (X.2.2.2.2, n, .inr (.inr (.inr (.inr (fun i => some (X.1 (iz_rf k i))))))) := by simp [iz_cE, h]
theorem iz_cE_O {X : iz_X} {S : iz_S} {k c n : Nat} (h : iz_sh k = (c + 3, n)) : iz_cE X S k = .inr (c, (List.range n).map (fun i => iz_fE X S k c i)) := by simp [iz_cE, h]
/-- one number of the store changes -/
def iz_up (S : iz_S) (p i : Nat) (v : Int32) : iz_S := (fun q => if q = p then upd (S.1 q) i v else S.1 q, S.2)
def iz_upL (S : iz_S) (p i : Nat) (v : Int64) : iz_S := (S.1, fun q => if q = p then vp_updL (S.2 q) i v else S.2 q)
/-- a piece of an int array is copied -/
def iz_cpy (S : iz_S) (p sp q dp n : Nat) : iz_S := (fun r => if r = q then va_cpy (S.1 p) (S.1 q) sp dp n else S.1 r, S.2)
theorem iz_cE_up_ne {X : iz_X} {S : iz_S} {p i : Nat} {v : Int32} {j : Nat} (h : j ≠ p) : iz_cE X (iz_up S p i v) j = iz_cE X S j := by
  simp [iz_cE, iz_fE, iz_up, h]
theorem iz_cE_upL_ne {X : iz_X} {S : iz_S} {p i : Nat} {v : Int64} {j : Nat} (h : j ≠ p) : iz_cE X (iz_upL S p i v) j = iz_cE X S j := by
  simp [iz_cE, iz_fE, iz_upL, h]
theorem iz_cE_cpy_ne {X : iz_X} {S : iz_S} {p sp q dp n : Nat} {j : Nat} (h : j ≠ q) : iz_cE X (iz_cpy S p sp q dp n) j = iz_cE X S j := by
  simp [iz_cE, iz_fE, iz_cpy, h]
theorem iz_fs_get {X : iz_X} {S : iz_S} {k c n i : Nat} (hi : i < n) : ((List.range n).map (fun i => iz_fE X S k c i))[i]? = some (iz_fE X S k c i) := by
  simp [List.getElem?_map, List.getElem?_range hi]
theorem iz_fs_put {X : iz_X} {S : iz_S} {k c n i : Nat} {v : Int32} (h0 : iz_ft c i = 0) : ((List.range n).map (fun j => iz_fE X S k c j)).set i (.int v) = (List.range n).map (fun j => iz_fE X (iz_up S k i v) k c j) := by
  apply List.ext_getElem?
  intro j
  by_cases hj : j = i
  · subst hj
    by_cases hl : j < n
    · rw [List.getElem?_set_self (by simpa using hl), List.getElem?_map, List.getElem?_range hl]
      simp [iz_fE, h0, iz_up, upd]
    · rw [List.getElem?_eq_none (by simp; omega), List.getElem?_eq_none (by simp; omega)]
  · rw [List.getElem?_set_ne (fun e => hj e.symm)]
    by_cases hl : j < n
    · rw [List.getElem?_map, List.getElem?_range hl, List.getElem?_map, List.getElem?_range hl]
      simp [iz_fE, iz_up, upd, hj]
    · rw [List.getElem?_eq_none (by simp; omega), List.getElem?_eq_none (by simp; omega)]
theorem iz_fs_putL {X : iz_X} {S : iz_S} {k c n i : Nat} {v : Int64} (h0 : iz_ft c i = 1) : ((List.range n).map (fun j => iz_fE X S k c j)).set i (.long v) = (List.range n).map (fun j => iz_fE X (iz_upL S k i v) k c j) := by
  apply List.ext_getElem?
  intro j
  by_cases hj : j = i
  · subst hj
    by_cases hl : j < n
    · rw [List.getElem?_set_self (by simpa using hl), List.getElem?_map, List.getElem?_range hl]
      simp [iz_fE, h0, iz_upL, vp_updL]
    · rw [List.getElem?_eq_none (by simp; omega), List.getElem?_eq_none (by simp; omega)]
  · rw [List.getElem?_set_ne (fun e => hj e.symm)]
    by_cases hl : j < n
    · rw [List.getElem?_map, List.getElem?_range hl, List.getElem?_map, List.getElem?_range hl]
      simp [iz_fE, iz_upL, vp_updL, hj]
    · rw [List.getElem?_eq_none (by simp; omega), List.getElem?_eq_none (by simp; omega)]
/-! the tables' words in any state -/
def iz_nest : Cond → Bool
  | .methodLinkNest .. => true
  | .fieldLinkNest .. => true
  | _ => false
def iz_ok (w : Cond) : Bool := (w.onTables && w.keeps) || iz_nest w
def iz_Tb (s : State) : Prop := ∀ w ∈ lw_tbl, iz_ok w = true → w.before #[] s = true
theorem iz_ok_on {w : Cond} (h : iz_ok w = true) : w.onTables = true := by
  unfold iz_ok at h
  rcases Bool.or_eq_true _ _ ▸ h with h | h
  · exact (Bool.and_eq_true _ _ ▸ h).1
  · cases w <;> simp [iz_nest] at h <;> rfl
theorem iz_Tb.use {s : State} (h : iz_Tb s) {w : Cond} (hm : w ∈ lw_tbl) (hk : iz_ok w = true) {a : Array Value} : w.before a s = true := va_tabs (iz_ok_on hk) rfl (h w hm hk)
theorem iz_Tb.warm {s U : State} (hW : s.WarmedH U.vm) (h : iz_Tb s) : iz_Tb U := by
  intro w hm hk
  have h0 := h w hm hk
  unfold iz_ok at hk
  rcases Bool.or_eq_true _ _ ▸ hk with h1 | h1
  · exact word_at hW (Or.inl h1) h0
  · cases w <;> simp [iz_nest] at h1
    · exact va_Nw.warmM hW h0
    · exact va_Nw.warmF hW h0
theorem iz_Tb.same {s U : State} (hv : s.vm = U.vm) (h : iz_Tb s) : iz_Tb U := fun w hm hk => va_tabs (iz_ok_on hk) hv (h w hm hk)
theorem iz_Tb.all {s U : State} (h : iz_Tb s) (hW : s.WarmedH U.vm) {w : Cond} (hm : w ∈ lw_tbl) (hk : iz_ok w = true) (a : Array Value) : w.before a U = true := (h.warm hW).use hm hk
def iz_zC (j : Nat) : String := (["IceHouse", "IceHouse", "IceHouse", "IceHouseModel"] : List String).getD j ""
def iz_zN (j : Nat) : String := (["BEARING_THICK", "KIND_ABOVE", "MELT_RATE", "BEARS"] : List String).getD j ""
def iz_zL (j : Nat) : Nat := ([3, 4, 4, 3] : List Nat).getD j 0
def iz_zV (j i : Nat) : Int32 := (([[4, 10, 18], [-1, 0, 0, 1], [4, 3, 6, 3], [4, 10, 18]] : List (List Int32)).getD j []).getD i 0
/-- what doesn't change: the tables, which places are apart and may change, the static tables -/
def iz_Wk (X : iz_X) (A : Nat → Prop) (s : State) (H : Heap) : Prop :=
  iz_Tb s ∧ va_K X.2.1 vwCl (iz_tys X) s ∧ (∀ i j, i < iz_NP → j < iz_NP → X.1 i = X.1 j → i = j) ∧ (∀ k, k < iz_NP → A (X.1 k)) ∧
  ∀ j, j < 4 → va_Z (iz_zC j) (iz_zN j) "[I" (.ref (X.1 (iz_NP + j))) A s H ∧ va_T .int (X.1 (iz_NP + j)) (iz_zL j) (fun i => .int (iz_zV j i)) A s H
def iz_A (X : iz_X) : Nat → Prop := fun q => ∃ k, k < iz_NP ∧ q = X.1 k
theorem iz_Wk.D {X : iz_X} {A : Nat → Prop} {s : State} {H : Heap} (h : iz_Wk X A s H) (S : iz_S) : va_D A (iz_ws X S) := by
  refine ⟨fun i j p q hi hj he => ?_, fun k q hk => ?_⟩
  · obtain ⟨h1, rfl⟩ := iz_ws_some hi
    obtain ⟨h2, rfl⟩ := iz_ws_some hj
    exact h.2.2.1 i j h1 h2 he
  · obtain ⟨h1, rfl⟩ := iz_ws_some hk
    exact h.2.2.2.1 k h1
theorem iz_Wk.to {X : iz_X} {A : Nat → Prop} {s U : State} {H : Heap} {locs : List Loc} (h : iz_Wk X A s s.heap) (hS : va_S A s.heap H locs) (hU : U.heap = H) (hW : s.WarmedH U.vm) : iz_Wk X (iz_A X) U U.heap := by
  obtain ⟨h1, h2, h3, h4, h5⟩ := h
  have hAA : ∀ q, iz_A X q → A q := fun q ⟨k, hk, e⟩ => e ▸ h4 k hk
  refine ⟨h1.warm hW, va_K.moved hW.alike h2, h3, fun k hk => ⟨k, hk, rfl⟩, fun j hj => ?_⟩
  obtain ⟨z1, z2⟩ := h5 j hj
  subst hU
  exact ⟨va_Z.moved hW.alike ((z1.kept hS.2.1).narrow hAA), va_T.moved hW.alike ((z2.kept hS.2.1).narrow hAA)⟩
theorem iz_Wk.blind {X : iz_X} {A : Nat → Prop} {U V : State} (h : iz_Wk X A U U.heap) (hv : U.vm = V.vm) (hh : U.heap = V.heap) : iz_Wk X A V V.heap := by
  obtain ⟨h1, h2, h3, h4, h5⟩ := h
  have hal : U.vm.Alike V.vm := hv ▸ Vm.Alike.refl U.vm
  refine ⟨h1.same hv, va_K.moved hal h2, h3, h4, fun j hj => ?_⟩
  obtain ⟨z1, z2⟩ := h5 j hj
  rw [hh] at z1 z2
  exact ⟨va_Z.moved hal z1, va_T.moved hal z2⟩
/-- a method's contract: with these arguments, in a world that holds S, it answers res.1 and leaves a world that holds res.2 -/
def iz_rm (d : Nat) : Room := { frames := d, cells := 0, slots := 0, locals := 40 * d }
def iz_Qd (X : iz_X) (res : Option Value × iz_S) : Array Value → State → Outcome → State → Prop := fun _ st o t => o = .returned res.1 ∧ (iz_Wk X (iz_A X) t t.heap ∧ va_P X.2.1 vwCl (iz_ws X res.2) t.heap) ∧ va_F (iz_A X) st t
def iz_Pd (X : iz_X) (av : List Value) (S : iz_S) : Array Value → State → Prop := va_Pc av (fun U => iz_Wk X (iz_A X) U U.heap ∧ va_P X.2.1 vwCl (iz_ws X S) U.heap)
def iz_Mt (X : iz_X) (l : Launch) (d : Nat) (y : MethodName) (cc : ByteArray) (nL : Nat) (ret : Option FieldType) (av : List Value) (S : iz_S) (res : Option Value × iz_S) : Prop :=
  Met l y [.code y cc nL ret] (iz_rm d) (iz_Pd X av S) (iz_Qd X res) 0 0 (iz_A X)
/-- what a frame's context must give -/
abbrev iz_KP (α : Type) : Type := α → Program → Env → Room → State → MethodId → Array Value → List Frame → Method → Code → Nat → Nat → (State → Prop) → (Nat → Prop) → Prop
def iz_KF {α : Type} (X : iz_X) (own : String) (dt : List (Nat × Instr × Nat)) (nL d : Nat) (K : iz_KP α) : Prop :=
  ∀ z p e R s m args below meth c cells slots Q A, K z p e R s m args below meth c cells slots Q A →
    p.tables.exec = Jvm.exec ∧ (∀ q ∈ dt, decode c.code q.1 = .ok q.2) ∧ c.maxLocals = nL ∧ s.vm.findClass own = some m.cls ∧ iz_Wk X A s s.heap ∧ d ≤ R.frames ∧ 40 * d ≤ R.locals ∧ cells ≤ R.cells ∧ slots ≤ R.slots
/-- THE JUDGEMENT: from pc with these locals, this stack and a world that holds S, the frame comes to its end with o -/
def iz_Y {α : Type} (X : iz_X) (l : Launch) (own : String) (dt : List (Nat × Instr × Nat)) (nL d : Nat) (K : iz_KP α) (pc : Nat) (ls : List (Nat × Value)) (st : List Value) (S : iz_S) (o : Option α) : Prop :=
  iz_KF X own dt nL d K → ∀ z, o = some z → ∀ p e R s m args below meth c cells slots Q A, K z p e R s m args below meth c cells slots Q A →
    ∀ H locs, va_S A s.heap H locs → va_P X.2.1 vwCl (iz_ws X S) H → ∀ lsM, lv_has lsM nL ls → W p l e R s m args below meth c H locs cells slots Q (F0 m pc lsM st)
/-- the context of a method called with the contract above -/
def iz_Kc {α : Type} (X : iz_X) (l : Launch) (y : MethodName) (cc : ByteArray) (nL : Nat) (ret : Option FieldType) (d : Nat) (enc : α → Option Value × iz_S) : iz_KP α :=
  fun z p e R s m args below meth c cells slots Q A => (∃ s1, BodyLoose p l y (headSpec [.code y cc nL ret] (iz_rm d)) cc nL ret e s m args below meth c s1) ∧ c.maxLocals = nL ∧ R = iz_rm d ∧ cells = 0 ∧ slots = 0 ∧ A = iz_A X ∧ iz_Wk X (iz_A X) s s.heap ∧ Q = MQ below (iz_Qd X (enc z)) args s 0 0 (iz_A X)
theorem iz_Kc_ok {α : Type} (X : iz_X) (l : Launch) (y : MethodName) (cc : ByteArray) (nL : Nat) (ret : Option FieldType) (d : Nat) (enc : α → Option Value × iz_S) {dt : List (Nat × Instr × Nat)} (hdt : ∀ q ∈ dt, decode cc q.1 = .ok q.2) :
    iz_KF X y.cls dt nL d (iz_Kc X l y cc nL ret d enc) := by
  intro z p e R s m args below meth c cells slots Q A h
  obtain ⟨⟨s1, B⟩, hml, rfl, rfl, rfl, rfl, hW, -⟩ := h
  exact ⟨B.exec, by rw [B.bytes]; exact hdt, hml, findClass_of_methodNamed B.named, hW, Nat.le_refl _, Nat.le_refl _, Nat.le_refl _, Nat.le_refl _⟩
/-- a walk from the entry is a contract -/
theorem iz_Mt_of {α : Type} {X : iz_X} {l : Launch} {y : MethodName} {cc : ByteArray} {nL : Nat} {ret : Option FieldType} {d : Nat} {enc : α → Option Value × iz_S} {dt : List (Nat × Instr × Nat)} (hdt : ∀ q ∈ dt, decode cc q.1 = .ok q.2) (hy : plainName y.cls = true)
    {av : List Value} {S : iz_S} {o : Option α} {z : α} (ho : o = some z) (hn : (lg_sl av).length ≤ nL) (hY : iz_Y X l y.cls dt nL d (iz_Kc X l y cc nL ret d enc) 0 (lv_args 0 av) [] S o) : iz_Mt X l d y cc nL ret av S (enc z) := by
  refine Met.ofW (cc := cc) (maxL := nL) (ret := ret) hy rfl ?_
  intro p e s m args below meth c s1 B hml hv
  obtain ⟨rfl, hWk, hP⟩ := hv
  rw [lg_entry_eq]
  exact hY (iz_Kc_ok X l y cc nL ret d enc hdt) z ho p e _ s m _ below meth c 0 0 _ _ ⟨⟨s1, B⟩, hml, rfl, rfl, rfl, rfl, hWk, rfl⟩ s.heap [] va_S.rf hP _ (lv_entry av hn)
end
section
/-! ONE ROW AN INSTRUCTION over the judgement iz_Y; functions of the program are built of iz_ck (a test that must hold), iz_lt (a name), iz_bI, iz_bL, iz_bV (a call) -/
def iz_ck {β : Type} (b : Bool) (o : Option β) : Option β := if b = true then o else none
def iz_lt {β γ : Type} (v : β) (k : β → γ) : γ := k v
def iz_bI {β : Type} (o : Option (Int32 × iz_S)) (k : Int32 → iz_S → Option β) : Option β := o.bind (fun q => k q.1 q.2)
def iz_bL {β : Type} (o : Option (Int64 × iz_S)) (k : Int64 → iz_S → Option β) : Option β := o.bind (fun q => k q.1 q.2)
def iz_bV {β : Type} (o : Option iz_S) (k : iz_S → Option β) : Option β := o.bind k
def iz_in (i : Int32) (n : Nat) : Bool := !(decide (i < 0) || decide (n ≤ i.toNatClampNeg))
def iz_g (S : iz_S) (p : Nat) (i : Int32) : Int32 := S.1 p i.toNatClampNeg
def iz_s (S : iz_S) (p : Nat) (i : Int32) (v : Int32) : iz_S := iz_up S p i.toNatClampNeg v
def iz_nb (v : Int32) : Int32 := v &&& 1
def iz_eI (q : Int32 × iz_S) : Option Value × iz_S := (some (.int q.1), q.2)
def iz_eL (q : Int64 × iz_S) : Option Value × iz_S := (some (.long q.1), q.2)
def iz_eV (q : iz_S) : Option Value × iz_S := (none, q)
set_option maxHeartbeats 40000 in
theorem iz_in_p {i : Int32} {n : Nat} (h : iz_in i n = true) : vp_in i n := by
  unfold iz_in at h
  unfold vp_in
  simp only [Bool.not_eq_true', Bool.or_eq_false_iff, decide_eq_false_iff_not] at h
  exact fun q => q.elim h.1 h.2
set_option maxHeartbeats 40000 in
theorem iz_dq {dt : List (Nat × Instr × Nat)} {cb : ByteArray} (hdt : ∀ q ∈ dt, decode cb q.1 = .ok q.2) {j pc n : Nat} {ins : Instr} (hd : dt[j]? = some (pc, ins, n)) : decode cb pc = .ok (ins, n) := hdt (pc, ins, n) (List.mem_of_getElem? hd)
section iz_rows
variable {α : Type} {X : iz_X} {l : Launch} {own : String} {dt : List (Nat × Instr × Nat)} {nL d : Nat} {K : iz_KP α} {pc : Nat} {ls ls2 : List (Nat × Value)} {st : List Value} {S : iz_S} {o o2 : Option α}
set_option maxHeartbeats 40000 in
theorem iz_none : iz_Y X l own dt nL d K pc ls st S none := fun _ _ h => by cases h
set_option maxHeartbeats 40000 in
theorem iz_sub (ks : List Nat) (h : lv_pick ls ks = ls2) (kk : iz_Y X l own dt nL d K pc ls2 st S o) : iz_Y X l own dt nL d K pc ls st S o := by
  intro hK z hz p e R s m args below meth c cells slots Q A k H locs hS hP lsM hls
  exact kk hK z hz p e R s m args below meth c cells slots Q A k H locs hS hP lsM (lv_sub hls ks h)
set_option maxHeartbeats 40000 in
theorem iz_ckr {b : Bool} (kk : b = true → iz_Y X l own dt nL d K pc ls st S o) : iz_Y X l own dt nL d K pc ls st S (iz_ck b o) := by
  intro hK z hz
  unfold iz_ck at hz
  by_cases hb : b = true
  · rw [if_pos hb] at hz
    exact kk hb hK z hz
  · rw [if_neg hb] at hz
    cases hz
set_option maxHeartbeats 40000 in
theorem iz_let {v : Int32} {k : Int32 → Option α} (kk : ∀ x, iz_Y X l own dt nL d K pc ls (.int x :: st) S (k x)) : iz_Y X l own dt nL d K pc ls (.int v :: st) S (iz_lt v k) := kk v
set_option maxHeartbeats 40000 in
theorem iz_letL {v : Int64} {k : Int64 → Option α} (kk : ∀ x, iz_Y X l own dt nL d K pc ls (.long x :: st) S (k x)) : iz_Y X l own dt nL d K pc ls (.long v :: st) S (iz_lt v k) := kk v
set_option maxHeartbeats 40000 in
theorem iz_iconst (j : Nat) {n : Int} {v : Int32} (hv : Int32.ofInt n = v) (hd : dt[j]? = some (pc, .iconst n, 1)) (kk : iz_Y X l own dt nL d K (pc + 1) ls (.int v :: st) S o) : iz_Y X l own dt nL d K pc ls st S o := by
  intro hK z hz p e R s m args below meth c cells slots Q A k H locs hS hP lsM hls
  obtain ⟨hx, hdt, hml, hown, hW, hfr, hlo, hce, hsl⟩ := hK z p e R s m args below meth c cells slots Q A k
  exact lv_iconst hx rfl (iz_dq hdt hd) hv (kk hK z hz p e R s m args below meth c cells slots Q A k H locs hS hP lsM hls)
set_option maxHeartbeats 40000 in
theorem iz_bipush (j : Nat) {n : Int} {v : Int32} (hv : (Int8.ofInt n).toInt32 = v) (hd : dt[j]? = some (pc, .bipush n, 2)) (kk : iz_Y X l own dt nL d K (pc + 2) ls (.int v :: st) S o) : iz_Y X l own dt nL d K pc ls st S o := by
  intro hK z hz p e R s m args below meth c cells slots Q A k H locs hS hP lsM hls
  obtain ⟨hx, hdt, hml, hown, hW, hfr, hlo, hce, hsl⟩ := hK z p e R s m args below meth c cells slots Q A k
  exact lv_bipush hx rfl (iz_dq hdt hd) hv (kk hK z hz p e R s m args below meth c cells slots Q A k H locs hS hP lsM hls)
set_option maxHeartbeats 40000 in
theorem iz_sipush (j : Nat) {n : Int} {v : Int32} (hv : (Int16.ofInt n).toInt32 = v) (hd : dt[j]? = some (pc, .sipush n, 3)) (kk : iz_Y X l own dt nL d K (pc + 3) ls (.int v :: st) S o) : iz_Y X l own dt nL d K pc ls st S o := by
  intro hK z hz p e R s m args below meth c cells slots Q A k H locs hS hP lsM hls
  obtain ⟨hx, hdt, hml, hown, hW, hfr, hlo, hce, hsl⟩ := hK z p e R s m args below meth c cells slots Q A k
  exact lv_sipush hx rfl (iz_dq hdt hd) hv (kk hK z hz p e R s m args below meth c cells slots Q A k H locs hS hP lsM hls)
set_option maxHeartbeats 40000 in
theorem iz_lconst (j : Nat) {n : Fin 2} {v : Int64} (hv : Int64.ofNat (n : Nat) = v) (hd : dt[j]? = some (pc, .lconst n, 1)) (kk : iz_Y X l own dt nL d K (pc + 1) ls (.long v :: st) S o) : iz_Y X l own dt nL d K pc ls st S o := by
  intro hK z hz p e R s m args below meth c cells slots Q A k H locs hS hP lsM hls
  obtain ⟨hx, hdt, hml, hown, hW, hfr, hlo, hce, hsl⟩ := hK z p e R s m args below meth c cells slots Q A k
  exact lv_lconst hx rfl (iz_dq hdt hd) hv (kk hK z hz p e R s m args below meth c cells slots Q A k H locs hS hP lsM hls)
set_option maxHeartbeats 40000 in
theorem iz_ldc (j : Nat) {n : Nat} {v : Int32} (hm : Cond.constant own n v ∈ lw_tbl) (hd : dt[j]? = some (pc, .ldc n, 2)) (kk : iz_Y X l own dt nL d K (pc + 2) ls (.int v :: st) S o) : iz_Y X l own dt nL d K pc ls st S o := by
  intro hK z hz p e R s m args below meth c cells slots Q A k H locs hS hP lsM hls
  obtain ⟨hx, hdt, hml, hown, hW, hfr, hlo, hce, hsl⟩ := hK z p e R s m args below meth c cells slots Q A k
  exact lv_ldc hx rfl hown (hW.1.use hm rfl) (iz_dq hdt hd) (kk hK z hz p e R s m args below meth c cells slots Q A k H locs hS hP lsM hls)
set_option maxHeartbeats 40000 in
theorem iz_ldcw (j : Nat) {n : Nat} {v : Int32} (hm : Cond.constant own n v ∈ lw_tbl) (hd : dt[j]? = some (pc, .ldc_w n, 3)) (kk : iz_Y X l own dt nL d K (pc + 3) ls (.int v :: st) S o) : iz_Y X l own dt nL d K pc ls st S o := by
  intro hK z hz p e R s m args below meth c cells slots Q A k H locs hS hP lsM hls
  obtain ⟨hx, hdt, hml, hown, hW, hfr, hlo, hce, hsl⟩ := hK z p e R s m args below meth c cells slots Q A k
  exact lv_ldcw hx rfl hown (hW.1.use hm rfl) (iz_dq hdt hd) (kk hK z hz p e R s m args below meth c cells slots Q A k H locs hS hP lsM hls)
set_option maxHeartbeats 40000 in
theorem iz_ldc2 (j : Nat) {n : Nat} {v : Int64} (hm : Cond.constantLong own n v ∈ lw_tbl) (hd : dt[j]? = some (pc, .ldc2_w n, 3)) (kk : iz_Y X l own dt nL d K (pc + 3) ls (.long v :: st) S o) : iz_Y X l own dt nL d K pc ls st S o := by
  intro hK z hz p e R s m args below meth c cells slots Q A k H locs hS hP lsM hls
  obtain ⟨hx, hdt, hml, hown, hW, hfr, hlo, hce, hsl⟩ := hK z p e R s m args below meth c cells slots Q A k
  exact lv_ldc2 hx rfl hown (hW.1.use hm rfl) (iz_dq hdt hd) (kk hK z hz p e R s m args below meth c cells slots Q A k H locs hS hP lsM hls)
set_option maxHeartbeats 40000 in
theorem iz_iload_n (j : Nat) {n : Fin 4} (i : Nat) {x : Int32} (hl : ls[i]? = some ((n : Nat), .int x)) (hd : dt[j]? = some (pc, .iload_n n, 1)) (kk : iz_Y X l own dt nL d K (pc + 1) ls (.int x :: st) S o) : iz_Y X l own dt nL d K pc ls st S o := by
  intro hK z hz p e R s m args below meth c cells slots Q A k H locs hS hP lsM hls
  obtain ⟨hx, hdt, hml, hown, hW, hfr, hlo, hce, hsl⟩ := hK z p e R s m args below meth c cells slots Q A k
  exact lv_iload_n hx rfl (iz_dq hdt hd) rfl (lv_at hls i hl) (kk hK z hz p e R s m args below meth c cells slots Q A k H locs hS hP lsM hls)
set_option maxHeartbeats 40000 in
theorem iz_iload (j : Nat) {n : Nat} (i : Nat) {x : Int32} (hl : ls[i]? = some (n, .int x)) (hd : dt[j]? = some (pc, .iload n, 2)) (kk : iz_Y X l own dt nL d K (pc + 2) ls (.int x :: st) S o) : iz_Y X l own dt nL d K pc ls st S o := by
  intro hK z hz p e R s m args below meth c cells slots Q A k H locs hS hP lsM hls
  obtain ⟨hx, hdt, hml, hown, hW, hfr, hlo, hce, hsl⟩ := hK z p e R s m args below meth c cells slots Q A k
  exact lv_iload hx rfl (iz_dq hdt hd) (lv_at hls i hl) (kk hK z hz p e R s m args below meth c cells slots Q A k H locs hS hP lsM hls)
set_option maxHeartbeats 40000 in
theorem iz_lload_n (j : Nat) {n : Fin 4} (i : Nat) {x : Int64} (hl : ls[i]? = some ((n : Nat), .long x)) (hd : dt[j]? = some (pc, .lload_n n, 1)) (kk : iz_Y X l own dt nL d K (pc + 1) ls (.long x :: st) S o) : iz_Y X l own dt nL d K pc ls st S o := by
  intro hK z hz p e R s m args below meth c cells slots Q A k H locs hS hP lsM hls
  obtain ⟨hx, hdt, hml, hown, hW, hfr, hlo, hce, hsl⟩ := hK z p e R s m args below meth c cells slots Q A k
  exact lv_lload_n hx rfl (iz_dq hdt hd) rfl (lv_at hls i hl) (kk hK z hz p e R s m args below meth c cells slots Q A k H locs hS hP lsM hls)
set_option maxHeartbeats 40000 in
theorem iz_lload (j : Nat) {n : Nat} (i : Nat) {x : Int64} (hl : ls[i]? = some (n, .long x)) (hd : dt[j]? = some (pc, .lload n, 2)) (kk : iz_Y X l own dt nL d K (pc + 2) ls (.long x :: st) S o) : iz_Y X l own dt nL d K pc ls st S o := by
  intro hK z hz p e R s m args below meth c cells slots Q A k H locs hS hP lsM hls
  obtain ⟨hx, hdt, hml, hown, hW, hfr, hlo, hce, hsl⟩ := hK z p e R s m args below meth c cells slots Q A k
  exact lv_lload hx rfl (iz_dq hdt hd) (lv_at hls i hl) (kk hK z hz p e R s m args below meth c cells slots Q A k H locs hS hP lsM hls)
set_option maxHeartbeats 40000 in
theorem iz_aload_n (j : Nat) {n : Fin 4} (i : Nat) {x : Nat} (hl : ls[i]? = some ((n : Nat), .ref x)) (hd : dt[j]? = some (pc, .aload_n n, 1)) (kk : iz_Y X l own dt nL d K (pc + 1) ls (.ref x :: st) S o) : iz_Y X l own dt nL d K pc ls st S o := by
  intro hK z hz p e R s m args below meth c cells slots Q A k H locs hS hP lsM hls
  obtain ⟨hx, hdt, hml, hown, hW, hfr, hlo, hce, hsl⟩ := hK z p e R s m args below meth c cells slots Q A k
  exact lv_aload_n hx rfl (iz_dq hdt hd) rfl (lv_at hls i hl) (kk hK z hz p e R s m args below meth c cells slots Q A k H locs hS hP lsM hls)
set_option maxHeartbeats 40000 in
theorem iz_aload (j : Nat) {n : Nat} (i : Nat) {x : Nat} (hl : ls[i]? = some (n, .ref x)) (hd : dt[j]? = some (pc, .aload n, 2)) (kk : iz_Y X l own dt nL d K (pc + 2) ls (.ref x :: st) S o) : iz_Y X l own dt nL d K pc ls st S o := by
  intro hK z hz p e R s m args below meth c cells slots Q A k H locs hS hP lsM hls
  obtain ⟨hx, hdt, hml, hown, hW, hfr, hlo, hce, hsl⟩ := hK z p e R s m args below meth c cells slots Q A k
  exact lv_aload hx rfl (iz_dq hdt hd) (lv_at hls i hl) (kk hK z hz p e R s m args below meth c cells slots Q A k H locs hS hP lsM hls)
set_option maxHeartbeats 40000 in
theorem iz_istore_n (j : Nat) {n : Fin 4} {x : Int32} (ks : List Nat) (hd : dt[j]? = some (pc, .istore_n n, 1)) (hn : (n : Nat) < nL) (hp : lv_pick (((n : Nat), Value.int x) :: ls.filter (fun q => !(q.1 == (n : Nat)) && !(q.1 + 1 == (n : Nat) && q.2.category == 2))) ks = ls2) (kk : iz_Y X l own dt nL d K (pc + 1) ls2 st S o) : iz_Y X l own dt nL d K pc ls (.int x :: st) S o := by
  intro hK z hz p e R s m args below meth c cells slots Q A k H locs hS hP lsM hls
  obtain ⟨hx, hdt, hml, hown, hW, hfr, hlo, hce, hsl⟩ := hK z p e R s m args below meth c cells slots Q A k
  exact lv_istore_n hx rfl (iz_dq hdt hd) rfl hls hn rfl (fun lsN hlN => (kk hK z hz p e R s m args below meth c cells slots Q A k H locs hS hP lsN (lv_sub hlN ks hp)))
set_option maxHeartbeats 40000 in
theorem iz_istore (j : Nat) {n : Nat} {x : Int32} (ks : List Nat) (hd : dt[j]? = some (pc, .istore n, 2)) (hn : n < nL) (hp : lv_pick ((n, Value.int x) :: ls.filter (fun q => !(q.1 == n) && !(q.1 + 1 == n && q.2.category == 2))) ks = ls2) (kk : iz_Y X l own dt nL d K (pc + 2) ls2 st S o) : iz_Y X l own dt nL d K pc ls (.int x :: st) S o := by
  intro hK z hz p e R s m args below meth c cells slots Q A k H locs hS hP lsM hls
  obtain ⟨hx, hdt, hml, hown, hW, hfr, hlo, hce, hsl⟩ := hK z p e R s m args below meth c cells slots Q A k
  exact lv_istore hx rfl (iz_dq hdt hd) hls hn rfl (fun lsN hlN => (kk hK z hz p e R s m args below meth c cells slots Q A k H locs hS hP lsN (lv_sub hlN ks hp)))
set_option maxHeartbeats 40000 in
theorem iz_astore_n (j : Nat) {n : Fin 4} {x : Nat} (ks : List Nat) (hd : dt[j]? = some (pc, .astore_n n, 1)) (hn : (n : Nat) < nL) (hp : lv_pick (((n : Nat), Value.ref x) :: ls.filter (fun q => !(q.1 == (n : Nat)) && !(q.1 + 1 == (n : Nat) && q.2.category == 2))) ks = ls2) (kk : iz_Y X l own dt nL d K (pc + 1) ls2 st S o) : iz_Y X l own dt nL d K pc ls (.ref x :: st) S o := by
  intro hK z hz p e R s m args below meth c cells slots Q A k H locs hS hP lsM hls
  obtain ⟨hx, hdt, hml, hown, hW, hfr, hlo, hce, hsl⟩ := hK z p e R s m args below meth c cells slots Q A k
  exact lv_astore_n hx rfl (iz_dq hdt hd) rfl hls hn rfl (fun lsN hlN => (kk hK z hz p e R s m args below meth c cells slots Q A k H locs hS hP lsN (lv_sub hlN ks hp)))
set_option maxHeartbeats 40000 in
theorem iz_astore (j : Nat) {n : Nat} {x : Nat} (ks : List Nat) (hd : dt[j]? = some (pc, .astore n, 2)) (hn : n < nL) (hp : lv_pick ((n, Value.ref x) :: ls.filter (fun q => !(q.1 == n) && !(q.1 + 1 == n && q.2.category == 2))) ks = ls2) (kk : iz_Y X l own dt nL d K (pc + 2) ls2 st S o) : iz_Y X l own dt nL d K pc ls (.ref x :: st) S o := by
  intro hK z hz p e R s m args below meth c cells slots Q A k H locs hS hP lsM hls
  obtain ⟨hx, hdt, hml, hown, hW, hfr, hlo, hce, hsl⟩ := hK z p e R s m args below meth c cells slots Q A k
  exact lv_astore hx rfl (iz_dq hdt hd) hls hn rfl (fun lsN hlN => (kk hK z hz p e R s m args below meth c cells slots Q A k H locs hS hP lsN (lv_sub hlN ks hp)))
set_option maxHeartbeats 40000 in
theorem iz_lstore_n (j : Nat) {n : Fin 4} {x : Int64} (ks : List Nat) (hd : dt[j]? = some (pc, .lstore_n n, 1)) (hn : (n : Nat) + 1 < nL) (hp : lv_pick (((n : Nat), Value.long x) :: ls.filter (fun q => !(q.1 == (n : Nat)) && (!(q.1 == (n : Nat) + 1) && !(q.1 + 1 == (n : Nat) && q.2.category == 2)))) ks = ls2) (kk : iz_Y X l own dt nL d K (pc + 1) ls2 st S o) : iz_Y X l own dt nL d K pc ls (.long x :: st) S o := by
  intro hK z hz p e R s m args below meth c cells slots Q A k H locs hS hP lsM hls
  obtain ⟨hx, hdt, hml, hown, hW, hfr, hlo, hce, hsl⟩ := hK z p e R s m args below meth c cells slots Q A k
  exact lv_lstore_n hx rfl (iz_dq hdt hd) rfl hls hn rfl (fun lsN hlN => (kk hK z hz p e R s m args below meth c cells slots Q A k H locs hS hP lsN (lv_sub hlN ks hp)))
set_option maxHeartbeats 40000 in
theorem iz_lstore (j : Nat) {n : Nat} {x : Int64} (ks : List Nat) (hd : dt[j]? = some (pc, .lstore n, 2)) (hn : n + 1 < nL) (hp : lv_pick ((n, Value.long x) :: ls.filter (fun q => !(q.1 == n) && (!(q.1 == n + 1) && !(q.1 + 1 == n && q.2.category == 2)))) ks = ls2) (kk : iz_Y X l own dt nL d K (pc + 2) ls2 st S o) : iz_Y X l own dt nL d K pc ls (.long x :: st) S o := by
  intro hK z hz p e R s m args below meth c cells slots Q A k H locs hS hP lsM hls
  obtain ⟨hx, hdt, hml, hown, hW, hfr, hlo, hce, hsl⟩ := hK z p e R s m args below meth c cells slots Q A k
  exact lv_lstore hx rfl (iz_dq hdt hd) hls hn rfl (fun lsN hlN => (kk hK z hz p e R s m args below meth c cells slots Q A k H locs hS hP lsN (lv_sub hlN ks hp)))
set_option maxHeartbeats 40000 in
theorem iz_iinc (j : Nat) {n : Nat} {w : Int} {x v : Int32} (i : Nat) (ks : List Nat) (hd : dt[j]? = some (pc, .iinc n w, 3)) (hl : ls[i]? = some (n, .int x)) (hv : x + Int32.ofInt w = v) (hn : n < nL) (hp : lv_pick ((n, Value.int v) :: ls.filter (fun q => !(q.1 == n) && !(q.1 + 1 == n && q.2.category == 2))) ks = ls2) (kk : iz_Y X l own dt nL d K (pc + 3) ls2 st S o) : iz_Y X l own dt nL d K pc ls st S o := by
  intro hK z hz p e R s m args below meth c cells slots Q A k H locs hS hP lsM hls
  obtain ⟨hx, hdt, hml, hown, hW, hfr, hlo, hce, hsl⟩ := hK z p e R s m args below meth c cells slots Q A k
  exact lv_iinc hx rfl (iz_dq hdt hd) hls hl hv hn rfl (fun lsN hlN => (kk hK z hz p e R s m args below meth c cells slots Q A k H locs hS hP lsN (lv_sub hlN ks hp)))
set_option maxHeartbeats 40000 in
theorem iz_iadd (j : Nat) {x y : Int32} (hd : dt[j]? = some (pc, .iadd, 1)) (kk : iz_Y X l own dt nL d K (pc + 1) ls (.int (x + y) :: st) S o) : iz_Y X l own dt nL d K pc ls (.int y :: .int x :: st) S o := by
  intro hK z hz p e R s m args below meth c cells slots Q A k H locs hS hP lsM hls
  obtain ⟨hx, hdt, hml, hown, hW, hfr, hlo, hce, hsl⟩ := hK z p e R s m args below meth c cells slots Q A k
  exact lv_iadd hx rfl (iz_dq hdt hd) (kk hK z hz p e R s m args below meth c cells slots Q A k H locs hS hP lsM hls)
set_option maxHeartbeats 40000 in
theorem iz_isub (j : Nat) {x y : Int32} (hd : dt[j]? = some (pc, .isub, 1)) (kk : iz_Y X l own dt nL d K (pc + 1) ls (.int (x - y) :: st) S o) : iz_Y X l own dt nL d K pc ls (.int y :: .int x :: st) S o := by
  intro hK z hz p e R s m args below meth c cells slots Q A k H locs hS hP lsM hls
  obtain ⟨hx, hdt, hml, hown, hW, hfr, hlo, hce, hsl⟩ := hK z p e R s m args below meth c cells slots Q A k
  exact lv_isub hx rfl (iz_dq hdt hd) (kk hK z hz p e R s m args below meth c cells slots Q A k H locs hS hP lsM hls)
set_option maxHeartbeats 40000 in
theorem iz_imul (j : Nat) {x y : Int32} (hd : dt[j]? = some (pc, .imul, 1)) (kk : iz_Y X l own dt nL d K (pc + 1) ls (.int (x * y) :: st) S o) : iz_Y X l own dt nL d K pc ls (.int y :: .int x :: st) S o := by
  intro hK z hz p e R s m args below meth c cells slots Q A k H locs hS hP lsM hls
  obtain ⟨hx, hdt, hml, hown, hW, hfr, hlo, hce, hsl⟩ := hK z p e R s m args below meth c cells slots Q A k
  exact lv_imul hx rfl (iz_dq hdt hd) (kk hK z hz p e R s m args below meth c cells slots Q A k H locs hS hP lsM hls)
set_option maxHeartbeats 40000 in
theorem iz_iand (j : Nat) {x y : Int32} (hd : dt[j]? = some (pc, .iand, 1)) (kk : iz_Y X l own dt nL d K (pc + 1) ls (.int (x &&& y) :: st) S o) : iz_Y X l own dt nL d K pc ls (.int y :: .int x :: st) S o := by
  intro hK z hz p e R s m args below meth c cells slots Q A k H locs hS hP lsM hls
  obtain ⟨hx, hdt, hml, hown, hW, hfr, hlo, hce, hsl⟩ := hK z p e R s m args below meth c cells slots Q A k
  exact lv_iand hx rfl (iz_dq hdt hd) (kk hK z hz p e R s m args below meth c cells slots Q A k H locs hS hP lsM hls)
set_option maxHeartbeats 40000 in
theorem iz_ior (j : Nat) {x y : Int32} (hd : dt[j]? = some (pc, .ior, 1)) (kk : iz_Y X l own dt nL d K (pc + 1) ls (.int (x ||| y) :: st) S o) : iz_Y X l own dt nL d K pc ls (.int y :: .int x :: st) S o := by
  intro hK z hz p e R s m args below meth c cells slots Q A k H locs hS hP lsM hls
  obtain ⟨hx, hdt, hml, hown, hW, hfr, hlo, hce, hsl⟩ := hK z p e R s m args below meth c cells slots Q A k
  exact lv_ior hx rfl (iz_dq hdt hd) (kk hK z hz p e R s m args below meth c cells slots Q A k H locs hS hP lsM hls)
set_option maxHeartbeats 40000 in
theorem iz_ishl (j : Nat) {x y : Int32} (hd : dt[j]? = some (pc, .ishl, 1)) (kk : iz_Y X l own dt nL d K (pc + 1) ls (.int (x <<< (y &&& 31)) :: st) S o) : iz_Y X l own dt nL d K pc ls (.int y :: .int x :: st) S o := by
  intro hK z hz p e R s m args below meth c cells slots Q A k H locs hS hP lsM hls
  obtain ⟨hx, hdt, hml, hown, hW, hfr, hlo, hce, hsl⟩ := hK z p e R s m args below meth c cells slots Q A k
  exact lv_ishl hx rfl (iz_dq hdt hd) (kk hK z hz p e R s m args below meth c cells slots Q A k H locs hS hP lsM hls)
set_option maxHeartbeats 40000 in
theorem iz_ishr (j : Nat) {x y : Int32} (hd : dt[j]? = some (pc, .ishr, 1)) (kk : iz_Y X l own dt nL d K (pc + 1) ls (.int (x >>> (y &&& 31)) :: st) S o) : iz_Y X l own dt nL d K pc ls (.int y :: .int x :: st) S o := by
  intro hK z hz p e R s m args below meth c cells slots Q A k H locs hS hP lsM hls
  obtain ⟨hx, hdt, hml, hown, hW, hfr, hlo, hce, hsl⟩ := hK z p e R s m args below meth c cells slots Q A k
  exact lv_ishr hx rfl (iz_dq hdt hd) (kk hK z hz p e R s m args below meth c cells slots Q A k H locs hS hP lsM hls)
set_option maxHeartbeats 40000 in
theorem iz_idiv (j : Nat) {x y : Int32} (hne : ¬ y = 0) (hd : dt[j]? = some (pc, .idiv, 1)) (kk : iz_Y X l own dt nL d K (pc + 1) ls (.int (x / y) :: st) S o) : iz_Y X l own dt nL d K pc ls (.int y :: .int x :: st) S o := by
  intro hK z hz p e R s m args below meth c cells slots Q A k H locs hS hP lsM hls
  obtain ⟨hx, hdt, hml, hown, hW, hfr, hlo, hce, hsl⟩ := hK z p e R s m args below meth c cells slots Q A k
  exact lv_idiv hx rfl (iz_dq hdt hd) hne (kk hK z hz p e R s m args below meth c cells slots Q A k H locs hS hP lsM hls)
set_option maxHeartbeats 40000 in
theorem iz_irem (j : Nat) {x y : Int32} (hne : ¬ y = 0) (hd : dt[j]? = some (pc, .irem, 1)) (kk : iz_Y X l own dt nL d K (pc + 1) ls (.int (x - x / y * y) :: st) S o) : iz_Y X l own dt nL d K pc ls (.int y :: .int x :: st) S o := by
  intro hK z hz p e R s m args below meth c cells slots Q A k H locs hS hP lsM hls
  obtain ⟨hx, hdt, hml, hown, hW, hfr, hlo, hce, hsl⟩ := hK z p e R s m args below meth c cells slots Q A k
  exact lv_irem hx rfl (iz_dq hdt hd) hne (kk hK z hz p e R s m args below meth c cells slots Q A k H locs hS hP lsM hls)
set_option maxHeartbeats 40000 in
theorem iz_ladd (j : Nat) {x y : Int64} (hd : dt[j]? = some (pc, .ladd, 1)) (kk : iz_Y X l own dt nL d K (pc + 1) ls (.long (x + y) :: st) S o) : iz_Y X l own dt nL d K pc ls (.long y :: .long x :: st) S o := by
  intro hK z hz p e R s m args below meth c cells slots Q A k H locs hS hP lsM hls
  obtain ⟨hx, hdt, hml, hown, hW, hfr, hlo, hce, hsl⟩ := hK z p e R s m args below meth c cells slots Q A k
  exact lv_ladd hx rfl (iz_dq hdt hd) (kk hK z hz p e R s m args below meth c cells slots Q A k H locs hS hP lsM hls)
set_option maxHeartbeats 40000 in
theorem iz_lsub (j : Nat) {x y : Int64} (hd : dt[j]? = some (pc, .lsub, 1)) (kk : iz_Y X l own dt nL d K (pc + 1) ls (.long (x - y) :: st) S o) : iz_Y X l own dt nL d K pc ls (.long y :: .long x :: st) S o := by
  intro hK z hz p e R s m args below meth c cells slots Q A k H locs hS hP lsM hls
  obtain ⟨hx, hdt, hml, hown, hW, hfr, hlo, hce, hsl⟩ := hK z p e R s m args below meth c cells slots Q A k
  exact lv_lsub hx rfl (iz_dq hdt hd) (kk hK z hz p e R s m args below meth c cells slots Q A k H locs hS hP lsM hls)
set_option maxHeartbeats 40000 in
theorem iz_land (j : Nat) {x y : Int64} (hd : dt[j]? = some (pc, .land, 1)) (kk : iz_Y X l own dt nL d K (pc + 1) ls (.long (x &&& y) :: st) S o) : iz_Y X l own dt nL d K pc ls (.long y :: .long x :: st) S o := by
  intro hK z hz p e R s m args below meth c cells slots Q A k H locs hS hP lsM hls
  obtain ⟨hx, hdt, hml, hown, hW, hfr, hlo, hce, hsl⟩ := hK z p e R s m args below meth c cells slots Q A k
  exact lv_land hx rfl (iz_dq hdt hd) (kk hK z hz p e R s m args below meth c cells slots Q A k H locs hS hP lsM hls)
set_option maxHeartbeats 40000 in
theorem iz_lor (j : Nat) {x y : Int64} (hd : dt[j]? = some (pc, .lor, 1)) (kk : iz_Y X l own dt nL d K (pc + 1) ls (.long (x ||| y) :: st) S o) : iz_Y X l own dt nL d K pc ls (.long y :: .long x :: st) S o := by
  intro hK z hz p e R s m args below meth c cells slots Q A k H locs hS hP lsM hls
  obtain ⟨hx, hdt, hml, hown, hW, hfr, hlo, hce, hsl⟩ := hK z p e R s m args below meth c cells slots Q A k
  exact lv_lor hx rfl (iz_dq hdt hd) (kk hK z hz p e R s m args below meth c cells slots Q A k H locs hS hP lsM hls)
set_option maxHeartbeats 40000 in
theorem iz_lxor (j : Nat) {x y : Int64} (hd : dt[j]? = some (pc, .lxor, 1)) (kk : iz_Y X l own dt nL d K (pc + 1) ls (.long (x ^^^ y) :: st) S o) : iz_Y X l own dt nL d K pc ls (.long y :: .long x :: st) S o := by
  intro hK z hz p e R s m args below meth c cells slots Q A k H locs hS hP lsM hls
  obtain ⟨hx, hdt, hml, hown, hW, hfr, hlo, hce, hsl⟩ := hK z p e R s m args below meth c cells slots Q A k
  exact lv_lxor hx rfl (iz_dq hdt hd) (kk hK z hz p e R s m args below meth c cells slots Q A k H locs hS hP lsM hls)
set_option maxHeartbeats 40000 in
theorem iz_lshl (j : Nat) {x : Int64} {y : Int32} (hd : dt[j]? = some (pc, .lshl, 1)) (kk : iz_Y X l own dt nL d K (pc + 1) ls (.long (x <<< (y.toInt64 &&& 63)) :: st) S o) : iz_Y X l own dt nL d K pc ls (.int y :: .long x :: st) S o := by
  intro hK z hz p e R s m args below meth c cells slots Q A k H locs hS hP lsM hls
  obtain ⟨hx, hdt, hml, hown, hW, hfr, hlo, hce, hsl⟩ := hK z p e R s m args below meth c cells slots Q A k
  exact lv_lshl hx rfl (iz_dq hdt hd) rfl (kk hK z hz p e R s m args below meth c cells slots Q A k H locs hS hP lsM hls)
set_option maxHeartbeats 40000 in
theorem iz_lushr (j : Nat) {x : Int64} {y : Int32} (hd : dt[j]? = some (pc, .lushr, 1)) (kk : iz_Y X l own dt nL d K (pc + 1) ls (.long ((x.toUInt64 >>> (y.toInt64.toUInt64 &&& Int64.toUInt64 63)).toInt64) :: st) S o) : iz_Y X l own dt nL d K pc ls (.int y :: .long x :: st) S o := by
  intro hK z hz p e R s m args below meth c cells slots Q A k H locs hS hP lsM hls
  obtain ⟨hx, hdt, hml, hown, hW, hfr, hlo, hce, hsl⟩ := hK z p e R s m args below meth c cells slots Q A k
  exact lv_lushr hx rfl (iz_dq hdt hd) rfl (kk hK z hz p e R s m args below meth c cells slots Q A k H locs hS hP lsM hls)
set_option maxHeartbeats 40000 in
theorem iz_l2i (j : Nat) {x : Int64} (hd : dt[j]? = some (pc, .l2i, 1)) (kk : iz_Y X l own dt nL d K (pc + 1) ls (.int x.toInt32 :: st) S o) : iz_Y X l own dt nL d K pc ls (.long x :: st) S o := by
  intro hK z hz p e R s m args below meth c cells slots Q A k H locs hS hP lsM hls
  obtain ⟨hx, hdt, hml, hown, hW, hfr, hlo, hce, hsl⟩ := hK z p e R s m args below meth c cells slots Q A k
  exact lv_l2i hx rfl (iz_dq hdt hd) rfl (kk hK z hz p e R s m args below meth c cells slots Q A k H locs hS hP lsM hls)
set_option maxHeartbeats 40000 in
theorem iz_lcmp (j : Nat) {x y : Int64} (hd : dt[j]? = some (pc, .lcmp, 1)) (kk : iz_Y X l own dt nL d K (pc + 1) ls (.int (lg_cmp x y) :: st) S o) : iz_Y X l own dt nL d K pc ls (.long y :: .long x :: st) S o := by
  intro hK z hz p e R s m args below meth c cells slots Q A k H locs hS hP lsM hls
  obtain ⟨hx, hdt, hml, hown, hW, hfr, hlo, hce, hsl⟩ := hK z p e R s m args below meth c cells slots Q A k
  exact W.lcmp hx rfl (iz_dq hdt hd) (kk hK z hz p e R s m args below meth c cells slots Q A k H locs hS hP lsM hls)
set_option maxHeartbeats 40000 in
theorem iz_dup (j : Nat) {v : Value} (hv : v.category = 1) (hd : dt[j]? = some (pc, .dup, 1)) (kk : iz_Y X l own dt nL d K (pc + 1) ls (v :: v :: st) S o) : iz_Y X l own dt nL d K pc ls (v :: st) S o := by
  intro hK z hz p e R s m args below meth c cells slots Q A k H locs hS hP lsM hls
  obtain ⟨hx, hdt, hml, hown, hW, hfr, hlo, hce, hsl⟩ := hK z p e R s m args below meth c cells slots Q A k
  exact lv_dup hx rfl (iz_dq hdt hd) hv (kk hK z hz p e R s m args below meth c cells slots Q A k H locs hS hP lsM hls)
set_option maxHeartbeats 40000 in
theorem iz_dup2 (j : Nat) {v w : Value} (hv : v.category = 1) (hw : w.category = 1) (hd : dt[j]? = some (pc, .dup2, 1)) (kk : iz_Y X l own dt nL d K (pc + 1) ls (v :: w :: v :: w :: st) S o) : iz_Y X l own dt nL d K pc ls (v :: w :: st) S o := by
  intro hK z hz p e R s m args below meth c cells slots Q A k H locs hS hP lsM hls
  obtain ⟨hx, hdt, hml, hown, hW, hfr, hlo, hce, hsl⟩ := hK z p e R s m args below meth c cells slots Q A k
  exact lv_dup2_11 hx rfl (iz_dq hdt hd) hv hw (kk hK z hz p e R s m args below meth c cells slots Q A k H locs hS hP lsM hls)
set_option maxHeartbeats 40000 in
theorem iz_pop (j : Nat) {v : Value} (hv : v.category = 1) (hd : dt[j]? = some (pc, .pop, 1)) (kk : iz_Y X l own dt nL d K (pc + 1) ls st S o) : iz_Y X l own dt nL d K pc ls (v :: st) S o := by
  intro hK z hz p e R s m args below meth c cells slots Q A k H locs hS hP lsM hls
  obtain ⟨hx, hdt, hml, hown, hW, hfr, hlo, hce, hsl⟩ := hK z p e R s m args below meth c cells slots Q A k
  exact lv_pop hx rfl (iz_dq hdt hd) hv (kk hK z hz p e R s m args below meth c cells slots Q A k H locs hS hP lsM hls)
set_option maxHeartbeats 40000 in
theorem iz_goto (j : Nat) {off : Int} {tgt : Nat} (ht : (pc : Int) + off = (tgt : Int)) (hd : dt[j]? = some (pc, .goto off, 3)) (kk : iz_Y X l own dt nL d K tgt ls st S o) : iz_Y X l own dt nL d K pc ls st S o := by
  intro hK z hz p e R s m args below meth c cells slots Q A k H locs hS hP lsM hls
  obtain ⟨hx, hdt, hml, hown, hW, hfr, hlo, hce, hsl⟩ := hK z p e R s m args below meth c cells slots Q A k
  exact lv_goto hx rfl (iz_dq hdt hd) ht (kk hK z hz p e R s m args below meth c cells slots Q A k H locs hS hP lsM hls)
set_option maxHeartbeats 40000 in
theorem iz_cmp_eq (j : Nat) {off : Int} {tgt : Nat} {x y : Int32} (hd : dt[j]? = some (pc, .if_icmp .eq off, 3)) (ht : (pc : Int) + off = (tgt : Int)) (kt : iz_Y X l own dt nL d K tgt ls st S o) (kf : iz_Y X l own dt nL d K (pc + 3) ls st S o2) : iz_Y X l own dt nL d K pc ls (.int y :: .int x :: st) S (if x = y then o else o2) := by
  intro hK z hz p e R s m args below meth c cells slots Q A k H locs hS hP lsM hls
  obtain ⟨hx, hdt, hml, hown, hW, hfr, hlo, hce, hsl⟩ := hK z p e R s m args below meth c cells slots Q A k
  refine lv_icmp_eq hx rfl (iz_dq hdt hd) ht (fun h => ?_) (fun h => ?_)
  · rw [if_pos h] at hz
    exact kt hK z hz p e R s m args below meth c cells slots Q A k H locs hS hP lsM hls
  · rw [if_neg h] at hz
    exact kf hK z hz p e R s m args below meth c cells slots Q A k H locs hS hP lsM hls
set_option maxHeartbeats 40000 in
theorem iz_cmp_ne (j : Nat) {off : Int} {tgt : Nat} {x y : Int32} (hd : dt[j]? = some (pc, .if_icmp .ne off, 3)) (ht : (pc : Int) + off = (tgt : Int)) (kt : iz_Y X l own dt nL d K tgt ls st S o2) (kf : iz_Y X l own dt nL d K (pc + 3) ls st S o) : iz_Y X l own dt nL d K pc ls (.int y :: .int x :: st) S (if x = y then o else o2) := by
  intro hK z hz p e R s m args below meth c cells slots Q A k H locs hS hP lsM hls
  obtain ⟨hx, hdt, hml, hown, hW, hfr, hlo, hce, hsl⟩ := hK z p e R s m args below meth c cells slots Q A k
  refine lv_icmp_ne hx rfl (iz_dq hdt hd) ht (fun h => ?_) (fun h => ?_)
  · rw [if_neg h] at hz
    exact kt hK z hz p e R s m args below meth c cells slots Q A k H locs hS hP lsM hls
  · rw [if_pos h] at hz
    exact kf hK z hz p e R s m args below meth c cells slots Q A k H locs hS hP lsM hls
set_option maxHeartbeats 40000 in
theorem iz_cmp_lt (j : Nat) {off : Int} {tgt : Nat} {x y : Int32} (hd : dt[j]? = some (pc, .if_icmp .lt off, 3)) (ht : (pc : Int) + off = (tgt : Int)) (kt : iz_Y X l own dt nL d K tgt ls st S o) (kf : iz_Y X l own dt nL d K (pc + 3) ls st S o2) : iz_Y X l own dt nL d K pc ls (.int y :: .int x :: st) S (if x < y then o else o2) := by
  intro hK z hz p e R s m args below meth c cells slots Q A k H locs hS hP lsM hls
  obtain ⟨hx, hdt, hml, hown, hW, hfr, hlo, hce, hsl⟩ := hK z p e R s m args below meth c cells slots Q A k
  refine lv_icmp_lt hx rfl (iz_dq hdt hd) ht (fun h => ?_) (fun h => ?_)
  · rw [if_pos h] at hz
    exact kt hK z hz p e R s m args below meth c cells slots Q A k H locs hS hP lsM hls
  · rw [if_neg h] at hz
    exact kf hK z hz p e R s m args below meth c cells slots Q A k H locs hS hP lsM hls
set_option maxHeartbeats 40000 in
theorem iz_cmp_ge (j : Nat) {off : Int} {tgt : Nat} {x y : Int32} (hd : dt[j]? = some (pc, .if_icmp .ge off, 3)) (ht : (pc : Int) + off = (tgt : Int)) (kt : iz_Y X l own dt nL d K tgt ls st S o2) (kf : iz_Y X l own dt nL d K (pc + 3) ls st S o) : iz_Y X l own dt nL d K pc ls (.int y :: .int x :: st) S (if x < y then o else o2) := by
  intro hK z hz p e R s m args below meth c cells slots Q A k H locs hS hP lsM hls
  obtain ⟨hx, hdt, hml, hown, hW, hfr, hlo, hce, hsl⟩ := hK z p e R s m args below meth c cells slots Q A k
  refine lv_icmp_ge hx rfl (iz_dq hdt hd) ht (fun h => ?_) (fun h => ?_)
  · rw [if_neg (Int32.not_lt.mpr h)] at hz
    exact kt hK z hz p e R s m args below meth c cells slots Q A k H locs hS hP lsM hls
  · rw [if_pos (Int32.not_le.mp h)] at hz
    exact kf hK z hz p e R s m args below meth c cells slots Q A k H locs hS hP lsM hls
set_option maxHeartbeats 40000 in
theorem iz_cmp_gt (j : Nat) {off : Int} {tgt : Nat} {x y : Int32} (hd : dt[j]? = some (pc, .if_icmp .gt off, 3)) (ht : (pc : Int) + off = (tgt : Int)) (kt : iz_Y X l own dt nL d K tgt ls st S o2) (kf : iz_Y X l own dt nL d K (pc + 3) ls st S o) : iz_Y X l own dt nL d K pc ls (.int y :: .int x :: st) S (if x ≤ y then o else o2) := by
  intro hK z hz p e R s m args below meth c cells slots Q A k H locs hS hP lsM hls
  obtain ⟨hx, hdt, hml, hown, hW, hfr, hlo, hce, hsl⟩ := hK z p e R s m args below meth c cells slots Q A k
  refine lv_icmp_gt hx rfl (iz_dq hdt hd) ht (fun h => ?_) (fun h => ?_)
  · rw [if_neg (Int32.not_le.mpr h)] at hz
    exact kt hK z hz p e R s m args below meth c cells slots Q A k H locs hS hP lsM hls
  · rw [if_pos (Int32.not_lt.mp h)] at hz
    exact kf hK z hz p e R s m args below meth c cells slots Q A k H locs hS hP lsM hls
set_option maxHeartbeats 40000 in
theorem iz_cmp_le (j : Nat) {off : Int} {tgt : Nat} {x y : Int32} (hd : dt[j]? = some (pc, .if_icmp .le off, 3)) (ht : (pc : Int) + off = (tgt : Int)) (kt : iz_Y X l own dt nL d K tgt ls st S o) (kf : iz_Y X l own dt nL d K (pc + 3) ls st S o2) : iz_Y X l own dt nL d K pc ls (.int y :: .int x :: st) S (if x ≤ y then o else o2) := by
  intro hK z hz p e R s m args below meth c cells slots Q A k H locs hS hP lsM hls
  obtain ⟨hx, hdt, hml, hown, hW, hfr, hlo, hce, hsl⟩ := hK z p e R s m args below meth c cells slots Q A k
  refine lv_icmp_le hx rfl (iz_dq hdt hd) ht (fun h => ?_) (fun h => ?_)
  · rw [if_pos h] at hz
    exact kt hK z hz p e R s m args below meth c cells slots Q A k H locs hS hP lsM hls
  · rw [if_neg h] at hz
    exact kf hK z hz p e R s m args below meth c cells slots Q A k H locs hS hP lsM hls
set_option maxHeartbeats 40000 in
theorem iz_if_eq (j : Nat) {off : Int} {tgt : Nat} {x : Int32} (hd : dt[j]? = some (pc, .ifCond .eq off, 3)) (ht : (pc : Int) + off = (tgt : Int)) (kt : iz_Y X l own dt nL d K tgt ls st S o) (kf : iz_Y X l own dt nL d K (pc + 3) ls st S o2) : iz_Y X l own dt nL d K pc ls (.int x :: st) S (if x = 0 then o else o2) := by
  intro hK z hz p e R s m args below meth c cells slots Q A k H locs hS hP lsM hls
  obtain ⟨hx, hdt, hml, hown, hW, hfr, hlo, hce, hsl⟩ := hK z p e R s m args below meth c cells slots Q A k
  refine lv_if_eq hx rfl (iz_dq hdt hd) ht (fun h => ?_) (fun h => ?_)
  · rw [if_pos h] at hz
    exact kt hK z hz p e R s m args below meth c cells slots Q A k H locs hS hP lsM hls
  · rw [if_neg h] at hz
    exact kf hK z hz p e R s m args below meth c cells slots Q A k H locs hS hP lsM hls
set_option maxHeartbeats 40000 in
theorem iz_if_ne (j : Nat) {off : Int} {tgt : Nat} {x : Int32} (hd : dt[j]? = some (pc, .ifCond .ne off, 3)) (ht : (pc : Int) + off = (tgt : Int)) (kt : iz_Y X l own dt nL d K tgt ls st S o2) (kf : iz_Y X l own dt nL d K (pc + 3) ls st S o) : iz_Y X l own dt nL d K pc ls (.int x :: st) S (if x = 0 then o else o2) := by
  intro hK z hz p e R s m args below meth c cells slots Q A k H locs hS hP lsM hls
  obtain ⟨hx, hdt, hml, hown, hW, hfr, hlo, hce, hsl⟩ := hK z p e R s m args below meth c cells slots Q A k
  refine lv_if_ne hx rfl (iz_dq hdt hd) ht (fun h => ?_) (fun h => ?_)
  · rw [if_neg h] at hz
    exact kt hK z hz p e R s m args below meth c cells slots Q A k H locs hS hP lsM hls
  · rw [if_pos h] at hz
    exact kf hK z hz p e R s m args below meth c cells slots Q A k H locs hS hP lsM hls
set_option maxHeartbeats 40000 in
theorem iz_if_lt (j : Nat) {off : Int} {tgt : Nat} {x : Int32} (hd : dt[j]? = some (pc, .ifCond .lt off, 3)) (ht : (pc : Int) + off = (tgt : Int)) (kt : iz_Y X l own dt nL d K tgt ls st S o) (kf : iz_Y X l own dt nL d K (pc + 3) ls st S o2) : iz_Y X l own dt nL d K pc ls (.int x :: st) S (if x < 0 then o else o2) := by
  intro hK z hz p e R s m args below meth c cells slots Q A k H locs hS hP lsM hls
  obtain ⟨hx, hdt, hml, hown, hW, hfr, hlo, hce, hsl⟩ := hK z p e R s m args below meth c cells slots Q A k
  refine lv_if_lt hx rfl (iz_dq hdt hd) ht (fun h => ?_) (fun h => ?_)
  · rw [if_pos h] at hz
    exact kt hK z hz p e R s m args below meth c cells slots Q A k H locs hS hP lsM hls
  · rw [if_neg h] at hz
    exact kf hK z hz p e R s m args below meth c cells slots Q A k H locs hS hP lsM hls
set_option maxHeartbeats 40000 in
theorem iz_if_ge (j : Nat) {off : Int} {tgt : Nat} {x : Int32} (hd : dt[j]? = some (pc, .ifCond .ge off, 3)) (ht : (pc : Int) + off = (tgt : Int)) (kt : iz_Y X l own dt nL d K tgt ls st S o2) (kf : iz_Y X l own dt nL d K (pc + 3) ls st S o) : iz_Y X l own dt nL d K pc ls (.int x :: st) S (if x < 0 then o else o2) := by
  intro hK z hz p e R s m args below meth c cells slots Q A k H locs hS hP lsM hls
  obtain ⟨hx, hdt, hml, hown, hW, hfr, hlo, hce, hsl⟩ := hK z p e R s m args below meth c cells slots Q A k
  refine lv_if_ge hx rfl (iz_dq hdt hd) ht (fun h => ?_) (fun h => ?_)
  · rw [if_neg (Int32.not_lt.mpr h)] at hz
    exact kt hK z hz p e R s m args below meth c cells slots Q A k H locs hS hP lsM hls
  · rw [if_pos (Int32.not_le.mp h)] at hz
    exact kf hK z hz p e R s m args below meth c cells slots Q A k H locs hS hP lsM hls
set_option maxHeartbeats 40000 in
theorem iz_if_gt (j : Nat) {off : Int} {tgt : Nat} {x : Int32} (hd : dt[j]? = some (pc, .ifCond .gt off, 3)) (ht : (pc : Int) + off = (tgt : Int)) (kt : iz_Y X l own dt nL d K tgt ls st S o2) (kf : iz_Y X l own dt nL d K (pc + 3) ls st S o) : iz_Y X l own dt nL d K pc ls (.int x :: st) S (if x ≤ 0 then o else o2) := by
  intro hK z hz p e R s m args below meth c cells slots Q A k H locs hS hP lsM hls
  obtain ⟨hx, hdt, hml, hown, hW, hfr, hlo, hce, hsl⟩ := hK z p e R s m args below meth c cells slots Q A k
  refine lv_if_gt hx rfl (iz_dq hdt hd) ht (fun h => ?_) (fun h => ?_)
  · rw [if_neg (Int32.not_le.mpr h)] at hz
    exact kt hK z hz p e R s m args below meth c cells slots Q A k H locs hS hP lsM hls
  · rw [if_pos (Int32.not_lt.mp h)] at hz
    exact kf hK z hz p e R s m args below meth c cells slots Q A k H locs hS hP lsM hls
set_option maxHeartbeats 40000 in
theorem iz_if_le (j : Nat) {off : Int} {tgt : Nat} {x : Int32} (hd : dt[j]? = some (pc, .ifCond .le off, 3)) (ht : (pc : Int) + off = (tgt : Int)) (kt : iz_Y X l own dt nL d K tgt ls st S o) (kf : iz_Y X l own dt nL d K (pc + 3) ls st S o2) : iz_Y X l own dt nL d K pc ls (.int x :: st) S (if x ≤ 0 then o else o2) := by
  intro hK z hz p e R s m args below meth c cells slots Q A k H locs hS hP lsM hls
  obtain ⟨hx, hdt, hml, hown, hW, hfr, hlo, hce, hsl⟩ := hK z p e R s m args below meth c cells slots Q A k
  refine lv_if_le hx rfl (iz_dq hdt hd) ht (fun h => ?_) (fun h => ?_)
  · rw [if_pos h] at hz
    exact kt hK z hz p e R s m args below meth c cells slots Q A k H locs hS hP lsM hls
  · rw [if_neg h] at hz
    exact kf hK z hz p e R s m args below meth c cells slots Q A k H locs hS hP lsM hls
/-- a switch: the cases in a list, by their places -/
def iz_sw (x : Int32) (lo hi : Int) (os : List (Option α)) (od : Option α) : Option α := if x.toInt < lo ∨ hi < x.toInt then od else os.getD (x.toInt - lo).toNat none
set_option maxHeartbeats 40000 in
theorem iz_tsw (j : Nat) {dflt lo hi : Int} {offs : Array Int} {len : Nat} {x : Int32} {dtgt : Nat} (tgts : List Nat) {os : List (Option α)} {od : Option α} (hd : dt[j]? = some (pc, .tableswitch dflt lo hi offs, len)) (htd : (pc : Int) + dflt = (dtgt : Int)) (hto : offs.toList.map (fun q => (pc : Int) + q) = tgts.map (fun q : Nat => (q : Int))) (hn : (hi - lo).toNat < offs.size)
    (kd : iz_Y X l own dt nL d K dtgt ls st S od) (kk : ∀ (i t : Nat), tgts[i]? = some t → iz_Y X l own dt nL d K t ls st S (os.getD i none)) : iz_Y X l own dt nL d K pc ls (.int x :: st) S (iz_sw x lo hi os od) := by
  intro hK z hz p e R s m args below meth c cells slots Q A k H locs hS hP lsM hls
  obtain ⟨hx, hdt, hml, hown, hW, hfr, hlo, hce, hsl⟩ := hK z p e R s m args below meth c cells slots Q A k
  unfold iz_sw at hz
  by_cases h : x.toInt < lo ∨ hi < x.toInt
  · rw [if_pos h] at hz
    exact lv_tableOut hx rfl (iz_dq hdt hd) h htd (kd hK z hz p e R s m args below meth c cells slots Q A k H locs hS hP lsM hls)
  · rw [if_neg h] at hz
    have h1 : ¬ x.toInt < lo := fun q => h (Or.inl q)
    have h2 : ¬ hi < x.toInt := fun q => h (Or.inr q)
    have hlt : (x.toInt - lo).toNat < offs.size := by omega
    obtain ⟨off, ho⟩ : ∃ off, offs[(x.toInt - lo).toNat]? = some off := ⟨offs[(x.toInt - lo).toNat], by simp [hlt]⟩
    have hm : (offs.toList.map (fun q => (pc : Int) + q))[(x.toInt - lo).toNat]? = some ((pc : Int) + off) := by
      rw [List.getElem?_map, Array.getElem?_toList, ho]; rfl
    rw [hto, List.getElem?_map] at hm
    cases ht : tgts[(x.toInt - lo).toNat]? with
    | none => rw [ht] at hm; cases hm
    | some t =>
      rw [ht] at hm
      have ht2 : (pc : Int) + off = (t : Int) := (Option.some.inj hm).symm
      exact lv_tableIn hx rfl (iz_dq hdt hd) h1 h2 ho ht2 (kk _ t ht hK z hz p e R s m args below meth c cells slots Q A k H locs hS hP lsM hls)
end iz_rows
end
section
/-! ROWS: fields, arrays, static tables, calls, returns -/
def iz_FL (own : String) (idx c i : Nat) (ds : String) (fin : Bool) : Prop := ∃ (C : String) (T : u_T) (N : Nat), vwCl[c]? = some (C, T, N) ∧ i < N ∧ (T i).2.2.1 = ds ∧ (T i).2.2.2 = fin ∧ Cond.fieldLink own idx (T i).1 (T i).2.1 ds ∈ lw_tbl
def iz_CO (C : String) (T : u_T) (N : Nat) : Prop := (∀ w ∈ u_ws C T N, w ∈ lw_tbl) ∧ (∃ ty : Nat → FieldType, ∀ k, k < N → parseFieldDescriptor (T k).2.2.1 = some (ty k)) ∧ ∀ a, a < N → ∀ b, b < N → a ≠ b → (T a).2.1 ≠ (T b).2.1
theorem iz_co0 : iz_CO RX0 TX0 7 := ⟨by decide +kernel, ⟨tyX0, tyX0_ok⟩, nmX0⟩
theorem iz_co1 : iz_CO RX1 TX1 13 := ⟨by decide +kernel, ⟨tyX1, tyX1_ok⟩, nmX1⟩
theorem iz_co2 : iz_CO RX2 TX2 3 := ⟨by decide +kernel, ⟨tyX2, tyX2_ok⟩, nmX2⟩
theorem iz_co3 : iz_CO RX3 TX3 10 := ⟨by decide +kernel, ⟨tyX3, tyX3_ok⟩, nmX3⟩
theorem iz_co4 : iz_CO RX4 TX4 6 := ⟨by decide +kernel, ⟨tyX4, tyX4_ok⟩, nmX4⟩
theorem iz_co5 : iz_CO RX5 TX5 15 := ⟨by decide +kernel, ⟨tyX5, tyX5_ok⟩, nmX5⟩
theorem iz_co6 : iz_CO RX6 TX6 7 := ⟨by decide +kernel, ⟨tyX6, tyX6_ok⟩, nmX6⟩
theorem iz_co7 : iz_CO RX7 TX7 3 := ⟨by decide +kernel, ⟨tyX7, tyX7_ok⟩, nmX7⟩
theorem iz_co8 : iz_CO RX8 TX8 2 := ⟨by decide +kernel, ⟨tyX8, tyX8_ok⟩, nmX8⟩
theorem iz_co9 : iz_CO RX9 TX9 11 := ⟨by decide +kernel, ⟨tyX9, tyX9_ok⟩, nmX9⟩
theorem iz_co10 : iz_CO RX10 TX10 48 := ⟨by decide +kernel, ⟨tyX10, tyX10_ok⟩, nmX10⟩
theorem iz_co {c : Nat} {C : String} {T : u_T} {N : Nat} (h : vwCl[c]? = some (C, T, N)) : iz_CO C T N := by
  match c, h with
  | 0, h => cases h; exact iz_co0
  | 1, h => cases h; exact iz_co1
  | 2, h => cases h; exact iz_co2
  | 3, h => cases h; exact iz_co3
  | 4, h => cases h; exact iz_co4
  | 5, h => cases h; exact iz_co5
  | 6, h => cases h; exact iz_co6
  | 7, h => cases h; exact iz_co7
  | 8, h => cases h; exact iz_co8
  | 9, h => cases h; exact iz_co9
  | 10, h => cases h; exact iz_co10
  | k + 11, h => simp [vwCl] at h
theorem iz_lays {C : String} {T : u_T} {N : Nat} (h : iz_CO C T N) {s : State} (ht : iz_Tb s) {a : Array Value} : ∀ w ∈ u_ws C T N, w.before a s = true := by
  intro w hw
  refine ht.use (h.1 w hw) ?_
  unfold u_ws at hw
  obtain ⟨k, -, rfl⟩ := List.mem_map.mp hw
  unfold u_lay
  split <;> rfl
def iz_cpk (sp dp n : Int32) (n0 n1 : Nat) : Bool := !(decide (sp < 0)) && (!(decide (dp < 0)) && (!(decide (n < 0)) && (decide (sp.toNatClampNeg + n.toNatClampNeg ≤ n0) && decide (dp.toNatClampNeg + n.toNatClampNeg ≤ n1))))
section iz_rows_b
variable {α : Type} {X : iz_X} {l : Launch} {own : String} {dt : List (Nat × Instr × Nat)} {nL d : Nat} {K : iz_KP α} {pc : Nat} {ls ls2 : List (Nat × Value)} {st : List Value} {S : iz_S} {o o2 : Option α}
theorem iz_get (j : Nat) {idx kp c n i : Nat} {ds : String} {fin : Bool} (hd : dt[j]? = some (pc, .getfield idx, 3)) (hs : iz_sh kp = (c + 3, n)) (hi : i < n) (hc : c < 90) (hf : iz_FL own idx c i ds fin) (kk : iz_Y X l own dt nL d K (pc + 3) ls (iz_fE X S kp c i :: st) S o) : iz_Y X l own dt nL d K pc ls (.ref (X.1 kp) :: st) S o := by
  intro hK z hz p e R s m args below meth c0 cells slots Q A k H locs hS hP lsM hls
  obtain ⟨hx, hdt, hml, hown, hW, hfr, hlo, hce, hsl⟩ := hK z p e R s m args below meth c0 cells slots Q A k
  obtain ⟨C, T, N, hcl, hN, hds, hfin, hm⟩ := hf
  subst hds
  have hkp := iz_sh_lt hs (by omega)
  have he := iz_ws_get X S hkp
  rw [iz_cE_O hs] at he
  exact va_get (D := X.2.1) (ci := c) (C := C) (T := T) (N := N) hx rfl (iz_lays (iz_co hcl) hW.1) (fun w h => h) hown hW.2.1 hP kp he hcl i hN (hW.1.use hm rfl) (fun _ h9 => h9) (iz_fs_get hi) (iz_dq hdt hd) (kk hK z hz p e R s m args below meth c0 cells slots Q A k H locs hS hP lsM hls)
theorem iz_getI (j : Nat) {idx kp c n : Nat} (i : Nat) {ds : String} {fin : Bool} (hs : iz_sh kp = (c + 3, n)) (hf : iz_FL own idx c i ds fin) (hd : dt[j]? = some (pc, .getfield idx, 3)) (hi : i < n) (hc : c < 90) (h0 : iz_ft c i = 0) (kk : iz_Y X l own dt nL d K (pc + 3) ls (.int (S.1 kp i) :: st) S o) : iz_Y X l own dt nL d K pc ls (.ref (X.1 kp) :: st) S o :=
  iz_get j hd hs hi hc hf (by have e : iz_fE X S kp c i = .int (S.1 kp i) := by simp [iz_fE, h0]
                              rw [e]; exact kk)
theorem iz_getL (j : Nat) {idx kp c n : Nat} (i : Nat) {ds : String} {fin : Bool} (hs : iz_sh kp = (c + 3, n)) (hf : iz_FL own idx c i ds fin) (hd : dt[j]? = some (pc, .getfield idx, 3)) (hi : i < n) (hc : c < 90) (h0 : iz_ft c i = 1) (kk : iz_Y X l own dt nL d K (pc + 3) ls (.long (S.2 kp i) :: st) S o) : iz_Y X l own dt nL d K pc ls (.ref (X.1 kp) :: st) S o :=
  iz_get j hd hs hi hc hf (by have e : iz_fE X S kp c i = .long (S.2 kp i) := by simp [iz_fE, h0]
                              rw [e]; exact kk)
theorem iz_getR (j : Nat) {idx kp c n : Nat} (i : Nat) {ds : String} {fin : Bool} (hs : iz_sh kp = (c + 3, n)) (hf : iz_FL own idx c i ds fin) (hd : dt[j]? = some (pc, .getfield idx, 3)) (hi : i < n) (hc : c < 90) (h0 : iz_ft c i = 2) (kk : iz_Y X l own dt nL d K (pc + 3) ls (.ref (X.1 (iz_rf kp i)) :: st) S o) : iz_Y X l own dt nL d K pc ls (.ref (X.1 kp) :: st) S o :=
  iz_get j hd hs hi hc hf (by have e : iz_fE X S kp c i = .ref (X.1 (iz_rf kp i)) := by simp [iz_fE, h0]
                              rw [e]; exact kk)
theorem iz_putI (j : Nat) {idx kp c n : Nat} (i : Nat) {v : Int32} {k9 : iz_S → Option α} (hs : iz_sh kp = (c + 3, n)) (hf : iz_FL own idx c i "I" false) (hd : dt[j]? = some (pc, .putfield idx, 3)) (hi : i < n) (hc : c < 90) (h0 : iz_ft c i = 0) (kk : ∀ S1, iz_Y X l own dt nL d K (pc + 3) ls st S1 (k9 S1)) : iz_Y X l own dt nL d K pc ls (.int v :: .ref (X.1 kp) :: st) S (iz_lt (iz_up S kp i v) k9) := by
  intro hK z hz p e R s m args below meth c0 cells slots Q A k H locs hS hP lsM hls
  obtain ⟨hx, hdt, hml, hown, hW, hfr, hlo, hce, hsl⟩ := hK z p e R s m args below meth c0 cells slots Q A k
  obtain ⟨C, T, N, hcl, hN, hds, hfin, hm⟩ := hf
  have hkp := iz_sh_lt hs (by omega)
  have he := iz_ws_get X S hkp
  rw [iz_cE_O hs] at he
  obtain ⟨hco1, ⟨ty0, hty⟩, hnm⟩ := iz_co hcl
  refine va_put (D := X.2.1) (ci := c) (v := .int v) (ty := .int) (C := C) (T := T) (N := N) hx rfl (iz_lays (iz_co hcl) hW.1) (fun w h => h) ty0 hty hnm hown hW.2.1 hP (hW.D S) hS kp he hcl i hN (hds ▸ hW.1.use hm rfl) (fun _ h9 => h9) hfin (by rw [hds]; decide +kernel) rfl rfl (by simpa using hi) (iz_dq hdt hd) (fun H1 locs1 hP1 hD1 hS1 => ?_)
  rw [iz_fs_put h0, iz_ws_set X S (iz_up S kp i v) hkp _ (iz_cE_O hs) (fun q hq => iz_cE_up_ne hq)] at hP1
  exact kk _ hK z hz p e R s m args below meth c0 cells slots Q A k H1 locs1 hS1 hP1 lsM hls
theorem iz_putL (j : Nat) {idx kp c n : Nat} (i : Nat) {v : Int64} {k9 : iz_S → Option α} (hs : iz_sh kp = (c + 3, n)) (hf : iz_FL own idx c i "J" false) (hd : dt[j]? = some (pc, .putfield idx, 3)) (hi : i < n) (hc : c < 90) (h0 : iz_ft c i = 1) (kk : ∀ S1, iz_Y X l own dt nL d K (pc + 3) ls st S1 (k9 S1)) : iz_Y X l own dt nL d K pc ls (.long v :: .ref (X.1 kp) :: st) S (iz_lt (iz_upL S kp i v) k9) := by
  intro hK z hz p e R s m args below meth c0 cells slots Q A k H locs hS hP lsM hls
  obtain ⟨hx, hdt, hml, hown, hW, hfr, hlo, hce, hsl⟩ := hK z p e R s m args below meth c0 cells slots Q A k
  obtain ⟨C, T, N, hcl, hN, hds, hfin, hm⟩ := hf
  have hkp := iz_sh_lt hs (by omega)
  have he := iz_ws_get X S hkp
  rw [iz_cE_O hs] at he
  obtain ⟨hco1, ⟨ty0, hty⟩, hnm⟩ := iz_co hcl
  refine va_put (D := X.2.1) (ci := c) (v := .long v) (ty := .long) (C := C) (T := T) (N := N) hx rfl (iz_lays (iz_co hcl) hW.1) (fun w h => h) ty0 hty hnm hown hW.2.1 hP (hW.D S) hS kp he hcl i hN (hds ▸ hW.1.use hm rfl) (fun _ h9 => h9) hfin (by rw [hds]; decide +kernel) rfl rfl (by simpa using hi) (iz_dq hdt hd) (fun H1 locs1 hP1 hD1 hS1 => ?_)
  rw [iz_fs_putL h0, iz_ws_set X S (iz_upL S kp i v) hkp _ (iz_cE_O hs) (fun q hq => iz_cE_upL_ne hq)] at hP1
  exact kk _ hK z hz p e R s m args below meth c0 cells slots Q A k H1 locs1 hS1 hP1 lsM hls
theorem iz_iald (j : Nat) {kp n : Nat} {i : Int32} (hs : iz_sh kp = (0, n)) (hd : dt[j]? = some (pc, .iaload, 1)) (kk : iz_Y X l own dt nL d K (pc + 1) ls (.int (iz_g S kp i) :: st) S o) : iz_Y X l own dt nL d K pc ls (.int i :: .ref (X.1 kp) :: st) S (iz_ck (iz_in i n) o) := by
  refine iz_ckr (fun hin => ?_)
  intro hK z hz p e R s m args below meth c0 cells slots Q A k H locs hS hP lsM hls
  obtain ⟨hx, hdt, hml, hown, hW, hfr, hlo, hce, hsl⟩ := hK z p e R s m args below meth c0 cells slots Q A k
  have he := iz_ws_get X S (iz_sh_lt hs (by decide))
  rw [iz_cE_I hs] at he
  exact va_iald hx rfl hW.2.1 hP kp 0 he rfl (iz_in_p hin) (iz_dq hdt hd) (kk hK z hz p e R s m args below meth c0 cells slots Q A k H locs hS hP lsM hls)
theorem iz_bald (j : Nat) {kp n : Nat} {i : Int32} (hs : iz_sh kp = (1, n)) (hd : dt[j]? = some (pc, .baload, 1)) (kk : iz_Y X l own dt nL d K (pc + 1) ls (.int (iz_g S kp i) :: st) S o) : iz_Y X l own dt nL d K pc ls (.int i :: .ref (X.1 kp) :: st) S (iz_ck (iz_in i n) o) := by
  refine iz_ckr (fun hin => ?_)
  intro hK z hz p e R s m args below meth c0 cells slots Q A k H locs hS hP lsM hls
  obtain ⟨hx, hdt, hml, hown, hW, hfr, hlo, hce, hsl⟩ := hK z p e R s m args below meth c0 cells slots Q A k
  have he := iz_ws_get X S (iz_sh_lt hs (by decide))
  rw [iz_cE_Z hs] at he
  exact va_zald hx rfl hW.2.1 hP kp 1 he rfl (iz_in_p hin) (iz_dq hdt hd) (kk hK z hz p e R s m args below meth c0 cells slots Q A k H locs hS hP lsM hls)
theorem iz_aald (j : Nat) {kp n : Nat} {i : Int32} (hs : iz_sh kp = (2, n)) (hd : dt[j]? = some (pc, .aaload, 1)) (kk : iz_in i n = true → iz_Y X l own dt nL d K (pc + 1) ls (.ref (X.1 (iz_rf kp i.toNatClampNeg)) :: st) S o) : iz_Y X l own dt nL d K pc ls (.int i :: .ref (X.1 kp) :: st) S (iz_ck (iz_in i n) o) := by
  refine iz_ckr (fun hin => ?_)
  intro hK z hz p e R s m args below meth c0 cells slots Q A k H locs hS hP lsM hls
  obtain ⟨hx, hdt, hml, hown, hW, hfr, hlo, hce, hsl⟩ := hK z p e R s m args below meth c0 cells slots Q A k
  have he := iz_ws_get X S (iz_sh_lt hs (by decide))
  rw [iz_cE_A hs] at he
  have hin2 := iz_in_p hin
  have hlt : i.toNatClampNeg < n := Nat.not_le.mp fun q => hin2 (Or.inr q)
  have ht : (iz_tys X)[2]? = some (X.2.2.2.2, .array .int) := rfl
  exact W.aald (v := va_rf (some (X.1 (iz_rf kp i.toNatClampNeg)))) (ty := .array .int) hx rfl (hP kp _ he) ((hW.2.1.2 2 _ ht).1 n (fun j => va_rf (some (X.1 (iz_rf kp j))))) rfl (fun q => by cases q) (by show ¬ (i < 0 ∨ (arrV _ _ _).slots.size ≤ _); rw [arrV_size]; exact hin2) (by show (arrV _ _ _).slots[_]? = _; rw [arrV_read _ _ hlt]) rfl rfl (iz_dq hdt hd) (kk hin hK z hz p e R s m args below meth c0 cells slots Q A k H locs hS hP lsM hls)
theorem iz_iast (j : Nat) {kp n : Nat} {i v : Int32} {k9 : iz_S → Option α} (hs : iz_sh kp = (0, n)) (hd : dt[j]? = some (pc, .iastore, 1)) (kk : ∀ S1, iz_Y X l own dt nL d K (pc + 1) ls st S1 (k9 S1)) : iz_Y X l own dt nL d K pc ls (.int v :: .int i :: .ref (X.1 kp) :: st) S (iz_ck (iz_in i n) (iz_lt (iz_s S kp i v) k9)) := by
  refine iz_ckr (fun hin => ?_)
  intro hK z hz p e R s m args below meth c0 cells slots Q A k H locs hS hP lsM hls
  obtain ⟨hx, hdt, hml, hown, hW, hfr, hlo, hce, hsl⟩ := hK z p e R s m args below meth c0 cells slots Q A k
  have hkp := iz_sh_lt hs (by decide)
  have he := iz_ws_get X S hkp
  rw [iz_cE_I hs] at he
  refine va_iast hx rfl hW.2.1 hP (hW.D S) hS kp 0 he rfl (iz_in_p hin) (iz_dq hdt hd) (fun H1 locs1 hP1 hD1 hS1 => ?_)
  rw [iz_ws_set X S (iz_s S kp i v) hkp _ (by rw [iz_cE_I hs]; simp [iz_s, iz_up]) (fun q hq => iz_cE_up_ne hq)] at hP1
  exact kk _ hK z hz p e R s m args below meth c0 cells slots Q A k H1 locs1 hS1 hP1 lsM hls
theorem iz_bast (j : Nat) {kp n : Nat} {i v : Int32} {k9 : iz_S → Option α} (hs : iz_sh kp = (1, n)) (hd : dt[j]? = some (pc, .bastore, 1)) (kk : ∀ S1, iz_Y X l own dt nL d K (pc + 1) ls st S1 (k9 S1)) : iz_Y X l own dt nL d K pc ls (.int v :: .int i :: .ref (X.1 kp) :: st) S (iz_ck (iz_in i n) (iz_lt (iz_s S kp i (iz_nb v)) k9)) := by
  refine iz_ckr (fun hin => ?_)
  intro hK z hz p e R s m args below meth c0 cells slots Q A k H locs hS hP lsM hls
  obtain ⟨hx, hdt, hml, hown, hW, hfr, hlo, hce, hsl⟩ := hK z p e R s m args below meth c0 cells slots Q A k
  have hkp := iz_sh_lt hs (by decide)
  have he := iz_ws_get X S hkp
  rw [iz_cE_Z hs] at he
  refine va_zast hx rfl hW.2.1 hP (hW.D S) hS kp 1 he rfl (iz_in_p hin) (iz_dq hdt hd) (fun H1 locs1 hP1 hD1 hS1 => ?_)
  rw [iz_ws_set X S (iz_s S kp i (iz_nb v)) hkp _ (by rw [iz_cE_Z hs]; simp [iz_s, iz_up, iz_nb, vp_nar, narrow]) (fun q hq => iz_cE_up_ne hq)] at hP1
  exact kk _ hK z hz p e R s m args below meth c0 cells slots Q A k H1 locs1 hS1 hP1 lsM hls
theorem iz_alen (j : Nat) {kp n : Nat} (hs : iz_sh kp = (0, n)) (hd : dt[j]? = some (pc, .arraylength, 1)) (kk : iz_Y X l own dt nL d K (pc + 1) ls (.int (Int32.ofNat n) :: st) S o) : iz_Y X l own dt nL d K pc ls (.ref (X.1 kp) :: st) S o := by
  intro hK z hz p e R s m args below meth c0 cells slots Q A k H locs hS hP lsM hls
  obtain ⟨hx, hdt, hml, hown, hW, hfr, hlo, hce, hsl⟩ := hK z p e R s m args below meth c0 cells slots Q A k
  have he := iz_ws_get X S (iz_sh_lt hs (by decide))
  rw [iz_cE_I hs] at he
  exact va_alen hx rfl hW.2.1 hP kp 0 he (ty := .int) rfl rfl (iz_dq hdt hd) (kk hK z hz p e R s m args below meth c0 cells slots Q A k H locs hS hP lsM hls)
theorem iz_gets (j jz : Nat) {idx : Nat} (hj : jz < 4) (hm : Cond.fieldLink own idx (iz_zC jz) (iz_zN jz) "[I" ∈ lw_tbl) (hd : dt[j]? = some (pc, .getstatic idx, 3)) (kk : iz_Y X l own dt nL d K (pc + 3) ls (.ref (X.1 (iz_NP + jz)) :: st) S o) : iz_Y X l own dt nL d K pc ls st S o := by
  intro hK z hz p e R s m args below meth c0 cells slots Q A k H locs hS hP lsM hls
  obtain ⟨hx, hdt, hml, hown, hW, hfr, hlo, hce, hsl⟩ := hK z p e R s m args below meth c0 cells slots Q A k
  exact va_gets hx rfl (hW.2.2.2.2 jz hj).1 hS hown (hW.1.use hm rfl) (fun _ h9 => h9) (iz_dq hdt hd) (kk hK z hz p e R s m args below meth c0 cells slots Q A k H locs hS hP lsM hls)
theorem iz_getsN (j jz : Nat) {idx : Nat} {host : String} (hj : jz < 4) (hm : Cond.fieldLinkNest own idx (iz_zC jz) (iz_zN jz) "[I" host ∈ lw_tbl) (hd : dt[j]? = some (pc, .getstatic idx, 3)) (kk : iz_Y X l own dt nL d K (pc + 3) ls (.ref (X.1 (iz_NP + jz)) :: st) S o) : iz_Y X l own dt nL d K pc ls st S o := by
  intro hK z hz p e R s m args below meth c0 cells slots Q A k H locs hS hP lsM hls
  obtain ⟨hx, hdt, hml, hown, hW, hfr, hlo, hce, hsl⟩ := hK z p e R s m args below meth c0 cells slots Q A k
  exact va_getsN hx rfl (hW.2.2.2.2 jz hj).1 hS hown (hW.1.use hm rfl) (fun _ h9 => h9) (iz_dq hdt hd) (kk hK z hz p e R s m args below meth c0 cells slots Q A k H locs hS hP lsM hls)
theorem iz_tald (j jz : Nat) {i : Int32} (hj : jz < 4) (hd : dt[j]? = some (pc, .iaload, 1)) (kk : iz_Y X l own dt nL d K (pc + 1) ls (.int (iz_zV jz i.toNatClampNeg) :: st) S o) : iz_Y X l own dt nL d K pc ls (.int i :: .ref (X.1 (iz_NP + jz)) :: st) S (iz_ck (iz_in i (iz_zL jz)) o) := by
  refine iz_ckr (fun hin => ?_)
  intro hK z hz p e R s m args below meth c0 cells slots Q A k H locs hS hP lsM hls
  obtain ⟨hx, hdt, hml, hown, hW, hfr, hlo, hce, hsl⟩ := hK z p e R s m args below meth c0 cells slots Q A k
  exact va_ti hx rfl (hW.2.2.2.2 jz hj).2 hS (iz_in_p hin) rfl (iz_dq hdt hd) (kk hK z hz p e R s m args below meth c0 cells slots Q A k H locs hS hP lsM hls)
theorem iz_acopy (j : Nat) {idx kp kq n0 n1 : Nat} {sp dp n : Int32} {k9 : iz_S → Option α} (hs0 : iz_sh kp = (0, n0)) (hs1 : iz_sh kq = (0, n1)) (hl : Cond.methodLink own idx arraycopyName ∈ lw_tbl) (h2 : Cond.native arraycopyName ∈ lw_tbl) (h3 : Cond.static arraycopyName ∈ lw_tbl) (h4 : Cond.initialized "java/lang/System" ∈ lw_tbl) (hd1 : 1 ≤ d) (hr8 : (st.map fun v => v.category).sum ≤ 8) (hd : dt[j]? = some (pc, .invokestatic idx, 3))
    (kk : ∀ S1, iz_Y X l own dt nL d K (pc + 3) ls st S1 (k9 S1)) : iz_Y X l own dt nL d K pc ls (.int n :: .int dp :: .ref (X.1 kq) :: .int sp :: .ref (X.1 kp) :: st) S (iz_ck (iz_cpk sp dp n n0 n1) (iz_lt (iz_cpy S kp sp.toNatClampNeg kq dp.toNatClampNeg n.toNatClampNeg) k9)) := by
  refine iz_ckr (fun hc => ?_)
  simp only [iz_cpk, Bool.and_eq_true, Bool.not_eq_true', decide_eq_false_iff_not, decide_eq_true_eq] at hc
  obtain ⟨c1, c2, c3, c4, c5⟩ := hc
  intro hK z hz p e R s m args below meth c0 cells slots Q A k H locs hS hP lsM hls
  obtain ⟨hx, hdt, hml, hown, hW, hfr, hlo, hce, hsl⟩ := hK z p e R s m args below meth c0 cells slots Q A k
  have hkp := iz_sh_lt hs0 (by decide)
  have hkq := iz_sh_lt hs1 (by decide)
  have he0 := iz_ws_get X S hkp
  have he1 := iz_ws_get X S hkq
  rw [iz_cE_I hs0] at he0
  rw [iz_cE_I hs1] at he1
  have hnw : nativeFrameWords "java/lang/System" "arraycopy" 5 + 11 ≤ 30 := by decide +kernel
  refine va_copyi hx rfl (hml.trans hls.1.symm) hown (hW.1.use hl rfl) (hW.1.use h2 rfl) (hW.1.use h3 rfl) (hW.1.use h4 rfl) hW.2.1 hP (hW.D S) hS kp kq 0 0 (ty := .int) he0 he1 rfl rfl rfl c1 c2 c3 c4 c5 (fun _ _ => rfl) (by omega) (by omega) (iz_dq hdt hd) (fun H1 locs1 hP1 hD1 hS1 => ?_)
  rw [iz_ws_set X S (iz_cpy S kp sp.toNatClampNeg kq dp.toNatClampNeg n.toNatClampNeg) hkq _ (by rw [iz_cE_I hs1]; simp [iz_cpy]) (fun q hq => iz_cE_cpy_ne hq)] at hP1
  exact kk _ hK z hz p e R s m args below meth c0 cells slots Q A k H1 locs1 hS1 hP1 lsM hls
end iz_rows_b
/-! calls -/
theorem iz_wcall {p : Program} {l : Launch} {e : Env} {R : Room} {s : State} {m : MethodId} {args : Array Value} {below : List Frame} {meth : Method} {c : Code} {H : Heap} {locs : List Loc} {cells slots : Nat} {Q : State → Prop} {A : Nat → Prop} {pc : Nat} {lsM : Array Slot} {st0 rest : List Value} {a : Array Value} {X : iz_X} {res : Option Value × iz_S}
    (hr : va_Run p l e R s m args below meth c H locs cells slots 0 0 (F0 m pc lsM st0) rest (iz_Qd X res a) (iz_A X)) (hA : ∀ q, iz_A X q → A q) (hS : va_S A s.heap H locs)
    (kk : ∀ H1 locs1, va_S A s.heap H1 locs1 → va_P X.2.1 vwCl (iz_ws X res.2) H1 → W p l e R s m args below meth c H1 locs1 cells slots Q (F0 m (pc + 3) lsM (res.1.toList ++ rest))) : W p l e R s m args below meth c H locs cells slots Q (F0 m pc lsM st0) := by
  intro T hT Xs
  obtain ⟨v, st₀, t, T', L, h0, X', hL, e1, e2, ⟨hv, ⟨hWk, hP⟩, hz, hk⟩, stp⟩ := hr T hT Xs
  have hv2 : v = res.1 := by injection hv
  subst hv2
  rw [h0] at hz hk
  obtain ⟨t2, a1, b1⟩ := kk T'.heap (locs ++ L)
    ⟨Nat.le_trans hS.1 (by rw [e1]; exact hz), fun q h1 h2 => by rw [e1, hk q (Nat.lt_of_lt_of_le h1 hS.1) (fun z => h2 (hA q z))]; exact hS.2.1 q h1 h2, fun q hq => by
      rcases List.mem_append.mp hq with h | h
      · exact hS.2.2 q h
      · exact hA _ (hL q h)⟩ (by rw [e1]; exact hP) T' rfl X'
  exact ⟨t2, stp t2 a1, b1⟩
theorem iz_Pd_blind (X : iz_X) (av : List Value) (S : iz_S) : FrameBlind (iz_Pd X av S) := by
  intro a U g mk h
  obtain ⟨h1, h2, h3⟩ := h
  exact ⟨h1, h2.blind (V := U.calling g mk a) rfl rfl, h3⟩
/-- a callee's words -/
def iz_CW (y : MethodName) (cc : ByteArray) (nL : Nat) (ret : Option FieldType) (n : Nat) : Prop :=
  Cond.code y cc nL ret ∈ lw_tbl ∧ Cond.initialized y.cls ∈ lw_tbl ∧ (y.cls ≠ "java/lang/invoke/MethodHandle" ∧ y.cls ≠ "java/lang/invoke/VarHandle" ∧ (parseMethodDescriptor y.desc).map (fun d => d.parameters.length) = some n) ∧ nL ≤ 21
def iz_CI (y : MethodName) (c : Nat) : Prop := Cond.instanceMethod y ∈ lw_tbl ∧ Cond.selects y.cls y y ∈ lw_tbl ∧ ∃ (T : u_T) (N : Nat), vwCl[c]? = some (y.cls, T, N)
theorem iz_callB {R : Room} {s : State} {args : Array Value} {own : String} {idx d d2 nL2 n : Nat} {y : MethodName} {cc : ByteArray} {ret : Option FieldType} (ht : iz_Tb s) (cw : iz_CW y cc nL2 ret n) (hdd : d2 + 1 ≤ d) (hfr : d ≤ R.frames) (hlo : 40 * d ≤ R.locals) (hl : (Cond.methodLink own idx y).before args s = true) :
    CallB R s args own idx y cc nL2 ret [.code y cc nL2 ret] (iz_rm d2) 0 0 n := by
  obtain ⟨h1, h2, ⟨h3, h4, h5⟩, h6⟩ := cw
  refine ⟨rfl, rfl, Nat.le_trans hdd hfr, by show 8 + (nL2 + 11) + 40 * d2 ≤ R.locals; omega, fun w hw a' U hW => ?_, List.mem_cons_self, ht.use h1 rfl, ht.use h2 rfl, ⟨h3, h4⟩, fun sig h => ?_, hl⟩
  · rw [List.mem_singleton.mp hw]
    exact ht.all hW h1 rfl a'
  · rw [h] at h5
    exact (Option.some.inj h5).symm
theorem iz_callN {R : Room} {s : State} {args : Array Value} {own host : String} {idx d d2 nL2 n : Nat} {y : MethodName} {cc : ByteArray} {ret : Option FieldType} (ht : iz_Tb s) (cw : iz_CW y cc nL2 ret n) (hdd : d2 + 1 ≤ d) (hfr : d ≤ R.frames) (hlo : 40 * d ≤ R.locals) (hl : (Cond.methodLinkNest own idx y host).before args s = true) :
    va_CN R s args own idx y host cc nL2 ret [.code y cc nL2 ret] (iz_rm d2) 0 0 n := by
  obtain ⟨h1, h2, ⟨h3, h4, h5⟩, h6⟩ := cw
  refine ⟨⟨rfl, rfl, Nat.le_trans hdd hfr, by show 8 + (nL2 + 11) + 40 * d2 ≤ R.locals; omega, fun w hw a' U hW => ?_, List.mem_cons_self⟩, ht.use h1 rfl, ht.use h2 rfl, ⟨h3, h4⟩, fun sig h => ?_, hl⟩
  · rw [List.mem_singleton.mp hw]
    exact ht.all hW h1 rfl a'
  · rw [h] at h5
    exact (Option.some.inj h5).symm
section iz_calls
variable {α β : Type} {X : iz_X} {l : Launch} {own host : String} {dt : List (Nat × Instr × Nat)} {nL d : Nat} {K : iz_KP α} {pc : Nat} {ls ls2 : List (Nat × Value)} {st rest As : List Value} {S : iz_S} {o o2 : Option α}
variable {idx kb cb n9 d2 nL2 n : Nat} {y : MethodName} {cc : ByteArray} {ret : Option FieldType} {enc : β → Option Value × iz_S} {fo : Option β} {k9 : β → Option α}
theorem iz_callV (j : Nat) (hd : dt[j]? = some (pc, .invokevirtual idx, 3)) (hl : Cond.methodLink own idx y ∈ lw_tbl) (cw : iz_CW y cc nL2 ret n) (ci : iz_CI y cb) (hs : iz_sh kb = (cb + 3, n9)) (hc : cb < 90) (hdd : d2 + 1 ≤ d) (hA : As.length = n) (hst : st = As.reverse ++ .ref (X.1 kb) :: rest) (hr8 : (rest.map fun v => v.category).sum ≤ 8)
    (hM : ∀ r, fo = some r → iz_Mt X l d2 y cc nL2 ret (.ref (X.1 kb) :: As) S (enc r)) (kk : ∀ r, iz_Y X l own dt nL d K (pc + 3) ls ((enc r).1.toList ++ rest) (enc r).2 (k9 r)) : iz_Y X l own dt nL d K pc ls st S (fo.bind k9) := by
  intro hK z hz p e R s m args below meth c0 cells slots Q A k H locs hS hP lsM hls
  obtain ⟨hx, hdt, hml, hown, hW, hfr, hlo, hce, hsl⟩ := hK z p e R s m args below meth c0 cells slots Q A k
  obtain ⟨r, hr, hz2⟩ := Option.bind_eq_some_iff.mp hz
  obtain ⟨i1, i2, T9, N9, i3⟩ := ci
  have hkb := iz_sh_lt hs (by omega)
  have he := iz_ws_get X S hkb
  rw [iz_cE_O hs] at he
  subst hst
  refine iz_wcall (a := (Value.ref (X.1 kb) :: As).toArray) (va_runV (Ts := []) (n := n) (C := y.cls) (b := X.1 kb) (As := As) (rest := rest) ⟨hx, rfl, hml, hown, fun _ h => by cases h⟩ (hM r hr) ⟨iz_callB hW.1 cw hdd hfr hlo (hW.1.use hl rfl), hW.1.use i1 rfl, hW.1.use i2 rfl⟩ ⟨iz_Pd_blind X _ S, va_recv hW.2.1 hP i3 he, fun U hU hWm => ⟨rfl, hW.to hS hU hWm, by rw [hU]; exact hP⟩⟩ rfl hA hls.1 rfl (lv_room hr8) (iz_dq hdt hd) ⟨hce, hsl⟩) (fun q ⟨k2, hk2, e2⟩ => e2 ▸ hW.2.2.2.1 k2 hk2) hS (fun H1 locs1 hS1 hP1 => ?_)
  exact kk r hK z hz2 p e R s m args below meth c0 cells slots Q A k H1 locs1 hS1 hP1 lsM hls
theorem iz_callS (j : Nat) (hd : dt[j]? = some (pc, .invokestatic idx, 3)) (hl : Cond.methodLink own idx y ∈ lw_tbl) (cw : iz_CW y cc nL2 ret n) (ci : Cond.static y ∈ lw_tbl) (hdd : d2 + 1 ≤ d) (hA : As.length = n) (hst : st = As.reverse ++ rest) (hr8 : (rest.map fun v => v.category).sum ≤ 8)
    (hM : ∀ r, fo = some r → iz_Mt X l d2 y cc nL2 ret As S (enc r)) (kk : ∀ r, iz_Y X l own dt nL d K (pc + 3) ls ((enc r).1.toList ++ rest) (enc r).2 (k9 r)) : iz_Y X l own dt nL d K pc ls st S (fo.bind k9) := by
  intro hK z hz p e R s m args below meth c0 cells slots Q A k H locs hS hP lsM hls
  obtain ⟨hx, hdt, hml, hown, hW, hfr, hlo, hce, hsl⟩ := hK z p e R s m args below meth c0 cells slots Q A k
  obtain ⟨r, hr, hz2⟩ := Option.bind_eq_some_iff.mp hz
  subst hst
  refine iz_wcall (a := As.toArray) (va_runS (Ts := []) (n := n) (As := As) (rest := rest) ⟨hx, rfl, hml, hown, fun _ h => by cases h⟩ (hM r hr) ⟨iz_callB hW.1 cw hdd hfr hlo (hW.1.use hl rfl), hW.1.use ci rfl⟩ ⟨iz_Pd_blind X _ S, fun U hU hWm => ⟨rfl, hW.to hS hU hWm, by rw [hU]; exact hP⟩⟩ rfl hA hls.1 rfl (lv_room hr8) (iz_dq hdt hd) ⟨hce, hsl⟩) (fun q ⟨k2, hk2, e2⟩ => e2 ▸ hW.2.2.2.1 k2 hk2) hS (fun H1 locs1 hS1 hP1 => ?_)
  exact kk r hK z hz2 p e R s m args below meth c0 cells slots Q A k H1 locs1 hS1 hP1 lsM hls
theorem iz_callSN (j : Nat) (hd : dt[j]? = some (pc, .invokestatic idx, 3)) (hl : Cond.methodLinkNest own idx y host ∈ lw_tbl) (cw : iz_CW y cc nL2 ret n) (ci : Cond.static y ∈ lw_tbl) (hdd : d2 + 1 ≤ d) (hA : As.length = n) (hst : st = As.reverse ++ rest) (hr8 : (rest.map fun v => v.category).sum ≤ 8)
    (hM : ∀ r, fo = some r → iz_Mt X l d2 y cc nL2 ret As S (enc r)) (kk : ∀ r, iz_Y X l own dt nL d K (pc + 3) ls ((enc r).1.toList ++ rest) (enc r).2 (k9 r)) : iz_Y X l own dt nL d K pc ls st S (fo.bind k9) := by
  intro hK z hz p e R s m args below meth c0 cells slots Q A k H locs hS hP lsM hls
  obtain ⟨hx, hdt, hml, hown, hW, hfr, hlo, hce, hsl⟩ := hK z p e R s m args below meth c0 cells slots Q A k
  obtain ⟨r, hr, hz2⟩ := Option.bind_eq_some_iff.mp hz
  subst hst
  refine iz_wcall (a := As.toArray) (va_runSN (Ts := []) (n := n) (As := As) (rest := rest) ⟨hx, rfl, hml, hown, fun _ h => by cases h⟩ (hM r hr) ⟨iz_callN hW.1 cw hdd hfr hlo (hW.1.use hl rfl), hW.1.use ci rfl, trivial⟩ ⟨iz_Pd_blind X _ S, fun U hU hWm => ⟨rfl, hW.to hS hU hWm, by rw [hU]; exact hP⟩⟩ rfl hA hls.1 rfl (lv_room hr8) (iz_dq hdt hd) ⟨hce, hsl⟩) (fun q ⟨k2, hk2, e2⟩ => e2 ▸ hW.2.2.2.1 k2 hk2) hS (fun H1 locs1 hS1 hP1 => ?_)
  exact kk r hK z hz2 p e R s m args below meth c0 cells slots Q A k H1 locs1 hS1 hP1 lsM hls
theorem iz_callVI (j : Nat) {f8 : Option (Int32 × iz_S)} {k8 : Int32 → iz_S → Option α} (hl : Cond.methodLink own idx y ∈ lw_tbl) (cw : iz_CW y cc nL2 ret n) (ci : iz_CI y cb) (hs : iz_sh kb = (cb + 3, n9)) (hM : ∀ r, f8 = some r → iz_Mt X l d2 y cc nL2 ret (.ref (X.1 kb) :: As) S (iz_eI r)) (hd : dt[j]? = some (pc, .invokevirtual idx, 3)) (hc : cb < 90) (hdd : d2 + 1 ≤ d) (hA : As.length = n) (hst : st = As.reverse ++ .ref (X.1 kb) :: rest) (hr8 : (rest.map fun v => v.category).sum ≤ 8) (kk : ∀ r S1, iz_Y X l own dt nL d K (pc + 3) ls (.int r :: rest) S1 (k8 r S1)) : iz_Y X l own dt nL d K pc ls st S (iz_bI f8 k8) := iz_callV (enc := iz_eI) j hd hl cw ci hs hc hdd hA hst hr8 hM (fun r => kk r.1 r.2)
theorem iz_callSI (j : Nat) {f8 : Option (Int32 × iz_S)} {k8 : Int32 → iz_S → Option α} (hl : Cond.methodLink own idx y ∈ lw_tbl) (cw : iz_CW y cc nL2 ret n) (ci : Cond.static y ∈ lw_tbl) (hM : ∀ r, f8 = some r → iz_Mt X l d2 y cc nL2 ret As S (iz_eI r)) (hd : dt[j]? = some (pc, .invokestatic idx, 3)) (hdd : d2 + 1 ≤ d) (hA : As.length = n) (hst : st = As.reverse ++ rest) (hr8 : (rest.map fun v => v.category).sum ≤ 8) (kk : ∀ r S1, iz_Y X l own dt nL d K (pc + 3) ls (.int r :: rest) S1 (k8 r S1)) : iz_Y X l own dt nL d K pc ls st S (iz_bI f8 k8) := iz_callS (enc := iz_eI) j hd hl cw ci hdd hA hst hr8 hM (fun r => kk r.1 r.2)
theorem iz_callSNI (j : Nat) {f8 : Option (Int32 × iz_S)} {k8 : Int32 → iz_S → Option α} (hl : Cond.methodLinkNest own idx y host ∈ lw_tbl) (cw : iz_CW y cc nL2 ret n) (ci : Cond.static y ∈ lw_tbl) (hM : ∀ r, f8 = some r → iz_Mt X l d2 y cc nL2 ret As S (iz_eI r)) (hd : dt[j]? = some (pc, .invokestatic idx, 3)) (hdd : d2 + 1 ≤ d) (hA : As.length = n) (hst : st = As.reverse ++ rest) (hr8 : (rest.map fun v => v.category).sum ≤ 8) (kk : ∀ r S1, iz_Y X l own dt nL d K (pc + 3) ls (.int r :: rest) S1 (k8 r S1)) : iz_Y X l own dt nL d K pc ls st S (iz_bI f8 k8) := iz_callSN (enc := iz_eI) j hd hl cw ci hdd hA hst hr8 hM (fun r => kk r.1 r.2)
theorem iz_callVL (j : Nat) {f8 : Option (Int64 × iz_S)} {k8 : Int64 → iz_S → Option α} (hl : Cond.methodLink own idx y ∈ lw_tbl) (cw : iz_CW y cc nL2 ret n) (ci : iz_CI y cb) (hs : iz_sh kb = (cb + 3, n9)) (hM : ∀ r, f8 = some r → iz_Mt X l d2 y cc nL2 ret (.ref (X.1 kb) :: As) S (iz_eL r)) (hd : dt[j]? = some (pc, .invokevirtual idx, 3)) (hc : cb < 90) (hdd : d2 + 1 ≤ d) (hA : As.length = n) (hst : st = As.reverse ++ .ref (X.1 kb) :: rest) (hr8 : (rest.map fun v => v.category).sum ≤ 8) (kk : ∀ r S1, iz_Y X l own dt nL d K (pc + 3) ls (.long r :: rest) S1 (k8 r S1)) : iz_Y X l own dt nL d K pc ls st S (iz_bL f8 k8) := iz_callV (enc := iz_eL) j hd hl cw ci hs hc hdd hA hst hr8 hM (fun r => kk r.1 r.2)
theorem iz_callSL (j : Nat) {f8 : Option (Int64 × iz_S)} {k8 : Int64 → iz_S → Option α} (hl : Cond.methodLink own idx y ∈ lw_tbl) (cw : iz_CW y cc nL2 ret n) (ci : Cond.static y ∈ lw_tbl) (hM : ∀ r, f8 = some r → iz_Mt X l d2 y cc nL2 ret As S (iz_eL r)) (hd : dt[j]? = some (pc, .invokestatic idx, 3)) (hdd : d2 + 1 ≤ d) (hA : As.length = n) (hst : st = As.reverse ++ rest) (hr8 : (rest.map fun v => v.category).sum ≤ 8) (kk : ∀ r S1, iz_Y X l own dt nL d K (pc + 3) ls (.long r :: rest) S1 (k8 r S1)) : iz_Y X l own dt nL d K pc ls st S (iz_bL f8 k8) := iz_callS (enc := iz_eL) j hd hl cw ci hdd hA hst hr8 hM (fun r => kk r.1 r.2)
theorem iz_callSNL (j : Nat) {f8 : Option (Int64 × iz_S)} {k8 : Int64 → iz_S → Option α} (hl : Cond.methodLinkNest own idx y host ∈ lw_tbl) (cw : iz_CW y cc nL2 ret n) (ci : Cond.static y ∈ lw_tbl) (hM : ∀ r, f8 = some r → iz_Mt X l d2 y cc nL2 ret As S (iz_eL r)) (hd : dt[j]? = some (pc, .invokestatic idx, 3)) (hdd : d2 + 1 ≤ d) (hA : As.length = n) (hst : st = As.reverse ++ rest) (hr8 : (rest.map fun v => v.category).sum ≤ 8) (kk : ∀ r S1, iz_Y X l own dt nL d K (pc + 3) ls (.long r :: rest) S1 (k8 r S1)) : iz_Y X l own dt nL d K pc ls st S (iz_bL f8 k8) := iz_callSN (enc := iz_eL) j hd hl cw ci hdd hA hst hr8 hM (fun r => kk r.1 r.2)
theorem iz_callVV (j : Nat) {f8 : Option (iz_S)} {k8 : iz_S → Option α} (hl : Cond.methodLink own idx y ∈ lw_tbl) (cw : iz_CW y cc nL2 ret n) (ci : iz_CI y cb) (hs : iz_sh kb = (cb + 3, n9)) (hM : ∀ r, f8 = some r → iz_Mt X l d2 y cc nL2 ret (.ref (X.1 kb) :: As) S (iz_eV r)) (hd : dt[j]? = some (pc, .invokevirtual idx, 3)) (hc : cb < 90) (hdd : d2 + 1 ≤ d) (hA : As.length = n) (hst : st = As.reverse ++ .ref (X.1 kb) :: rest) (hr8 : (rest.map fun v => v.category).sum ≤ 8) (kk : ∀ S1, iz_Y X l own dt nL d K (pc + 3) ls rest S1 (k8 S1)) : iz_Y X l own dt nL d K pc ls st S (iz_bV f8 k8) := iz_callV (enc := iz_eV) j hd hl cw ci hs hc hdd hA hst hr8 hM kk
theorem iz_callSV (j : Nat) {f8 : Option (iz_S)} {k8 : iz_S → Option α} (hl : Cond.methodLink own idx y ∈ lw_tbl) (cw : iz_CW y cc nL2 ret n) (ci : Cond.static y ∈ lw_tbl) (hM : ∀ r, f8 = some r → iz_Mt X l d2 y cc nL2 ret As S (iz_eV r)) (hd : dt[j]? = some (pc, .invokestatic idx, 3)) (hdd : d2 + 1 ≤ d) (hA : As.length = n) (hst : st = As.reverse ++ rest) (hr8 : (rest.map fun v => v.category).sum ≤ 8) (kk : ∀ S1, iz_Y X l own dt nL d K (pc + 3) ls rest S1 (k8 S1)) : iz_Y X l own dt nL d K pc ls st S (iz_bV f8 k8) := iz_callS (enc := iz_eV) j hd hl cw ci hdd hA hst hr8 hM kk
theorem iz_callSNV (j : Nat) {f8 : Option (iz_S)} {k8 : iz_S → Option α} (hl : Cond.methodLinkNest own idx y host ∈ lw_tbl) (cw : iz_CW y cc nL2 ret n) (ci : Cond.static y ∈ lw_tbl) (hM : ∀ r, f8 = some r → iz_Mt X l d2 y cc nL2 ret As S (iz_eV r)) (hd : dt[j]? = some (pc, .invokestatic idx, 3)) (hdd : d2 + 1 ≤ d) (hA : As.length = n) (hst : st = As.reverse ++ rest) (hr8 : (rest.map fun v => v.category).sum ≤ 8) (kk : ∀ S1, iz_Y X l own dt nL d K (pc + 3) ls rest S1 (k8 S1)) : iz_Y X l own dt nL d K pc ls st S (iz_bV f8 k8) := iz_callSN (enc := iz_eV) j hd hl cw ci hdd hA hst hr8 hM kk
end iz_calls
/-! returns -/
section iz_rets
variable {X : iz_X} {l : Launch} {own : String} {dt : List (Nat × Instr × Nat)} {nL d : Nat} {pc : Nat} {ls : List (Nat × Value)} {S : iz_S} {y : MethodName} {cc : ByteArray}
theorem iz_iret (j : Nat) {v : Int32} (hd : dt[j]? = some (pc, .ireturn, 1)) : iz_Y X l own dt nL d (iz_Kc X l y cc nL (some .int) d iz_eI) pc ls [.int v] S (some (v, S)) := by
  intro hK z hz p e R s m args below meth c0 cells slots Q A k H locs hS hP lsM hls
  obtain ⟨hx, hdt, hml, hown, hW, hfr, hlo, hce, hsl⟩ := hK z p e R s m args below meth c0 cells slots Q A k
  obtain ⟨⟨s1, B⟩, -, rfl, rfl, rfl, rfl, -, rfl⟩ := k
  cases hz
  exact W.iret hx rfl B.returns (fun t ht hWm => ⟨rfl, ⟨hW.to hS ht hWm, by rw [ht]; exact hP⟩, hS.F ht⟩) hS.2.2 (iz_dq hdt hd) (hlocks := B.notSynchronized)
theorem iz_zret (j : Nat) {v : Int32} (hd : dt[j]? = some (pc, .ireturn, 1)) : iz_Y X l own dt nL d (iz_Kc X l y cc nL (some .boolean) d iz_eI) pc ls [.int v] S (iz_ck (decide (iz_nb v = v)) (some (v, S))) := by
  refine iz_ckr (fun hn => ?_)
  intro hK z hz p e R s m args below meth c0 cells slots Q A k H locs hS hP lsM hls
  obtain ⟨hx, hdt, hml, hown, hW, hfr, hlo, hce, hsl⟩ := hK z p e R s m args below meth c0 cells slots Q A k
  obtain ⟨⟨s1, B⟩, -, rfl, rfl, rfl, rfl, -, rfl⟩ := k
  cases hz
  exact W.zret hx rfl B.returns (show Value.int (v &&& 1) = Value.int v from congrArg Value.int (of_decide_eq_true hn)) (fun t ht hWm => ⟨rfl, ⟨hW.to hS ht hWm, by rw [ht]; exact hP⟩, hS.F ht⟩) hS.2.2 (iz_dq hdt hd) (hlocks := B.notSynchronized)
theorem iz_lret (j : Nat) {v : Int64} (hd : dt[j]? = some (pc, .lreturn, 1)) : iz_Y X l own dt nL d (iz_Kc X l y cc nL (some .long) d iz_eL) pc ls [.long v] S (some (v, S)) := by
  intro hK z hz p e R s m args below meth c0 cells slots Q A k H locs hS hP lsM hls
  obtain ⟨hx, hdt, hml, hown, hW, hfr, hlo, hce, hsl⟩ := hK z p e R s m args below meth c0 cells slots Q A k
  obtain ⟨⟨s1, B⟩, -, rfl, rfl, rfl, rfl, -, rfl⟩ := k
  cases hz
  exact W.lret hx rfl B.returns (fun t ht hWm => ⟨rfl, ⟨hW.to hS ht hWm, by rw [ht]; exact hP⟩, hS.F ht⟩) hS.2.2 (iz_dq hdt hd) (hlocks := B.notSynchronized)
theorem iz_vret (j : Nat) (hd : dt[j]? = some (pc, .return_, 1)) : iz_Y X l own dt nL d (iz_Kc X l y cc nL none d iz_eV) pc ls [] S (some S) := by
  intro hK z hz p e R s m args below meth c0 cells slots Q A k H locs hS hP lsM hls
  obtain ⟨hx, hdt, hml, hown, hW, hfr, hlo, hce, hsl⟩ := hK z p e R s m args below meth c0 cells slots Q A k
  obtain ⟨⟨s1, B⟩, -, rfl, rfl, rfl, rfl, -, rfl⟩ := k
  cases hz
  exact W.vret hx rfl B.returns (fun t ht hWm => ⟨rfl, ⟨hW.to hS ht hWm, by rw [ht]; exact hP⟩, hS.F ht⟩) hS.2.2 (iz_dq hdt hd) (hlocks := B.notSynchronized)
end iz_rets
end
section
/-! WORDS by their places; shapes of the fields -/
def iz_cs {α : Type} (F : Nat → Option α → Prop) : List Nat → List (Option α) → Prop
  | [], _ => True
  | _ :: _, [] => False
  | t :: ts, o :: os => F t o ∧ iz_cs F ts os
theorem iz_cs_at {α : Type} {F : Nat → Option α → Prop} : ∀ {ts : List Nat} {os : List (Option α)}, iz_cs F ts os → ∀ (i t : Nat), ts[i]? = some t → F t (os.getD i none)
  | [], _, _, i, t, h => by simp at h
  | _ :: _, [], h0, _, _, _ => h0.elim
  | t0 :: ts, o0 :: os, h0, 0, t, h => by
    have e : t0 = t := by simpa using h
    subst e
    exact h0.1
  | t0 :: ts, o0 :: os, h0, i + 1, t, h => by
    have h1 : ts[i]? = some t := by simpa using h
    exact iz_cs_at h0.2 i t h1
theorem iz_tsw2 {α : Type} {X : iz_X} {l : Launch} {own : String} {dt : List (Nat × Instr × Nat)} {nL d : Nat} {K : iz_KP α} {pc : Nat} {ls : List (Nat × Value)} {st : List Value} {S : iz_S} (j : Nat) {dflt lo hi : Int} {offs : Array Int} {len : Nat} {x : Int32} {dtgt : Nat} (tgts : List Nat) {os : List (Option α)} {od : Option α} (hd : dt[j]? = some (pc, .tableswitch dflt lo hi offs, len)) (htd : (pc : Int) + dflt = (dtgt : Int)) (hto : offs.toList.map (fun q => (pc : Int) + q) = tgts.map (fun q : Nat => (q : Int))) (hn : (hi - lo).toNat < offs.size)
    (kd : iz_Y X l own dt nL d K dtgt ls st S od) (kk : iz_cs (fun t o => iz_Y X l own dt nL d K t ls st S o) tgts os) : iz_Y X l own dt nL d K pc ls (.int x :: st) S (iz_sw x lo hi os od) :=
  iz_tsw j tgts hd htd hto hn kd (fun i t h => iz_cs_at kk i t h)
def iz_FU : Nat := 20000
theorem fl_X2_9 : iz_FL RX2 9 2 0 "[I" true := ⟨RX2, TX2, 3, rfl, by decide, rfl, rfl, List.mem_of_getElem? (i := 95) (by decide +kernel)⟩
theorem fl_X9_120 : iz_FL RX9 120 2 0 "[I" true := ⟨RX2, TX2, 3, rfl, by decide, rfl, rfl, List.mem_of_getElem? (i := 96) (by decide +kernel)⟩
theorem fl_X2_15 : iz_FL RX2 15 2 1 "[I" true := ⟨RX2, TX2, 3, rfl, by decide, rfl, rfl, List.mem_of_getElem? (i := 97) (by decide +kernel)⟩
theorem fl_X9_123 : iz_FL RX9 123 2 1 "[I" true := ⟨RX2, TX2, 3, rfl, by decide, rfl, rfl, List.mem_of_getElem? (i := 98) (by decide +kernel)⟩
theorem fl_X2_18 : iz_FL RX2 18 2 2 "[Z" true := ⟨RX2, TX2, 3, rfl, by decide, rfl, rfl, List.mem_of_getElem? (i := 99) (by decide +kernel)⟩
theorem fl_X9_126 : iz_FL RX9 126 2 2 "[Z" true := ⟨RX2, TX2, 3, rfl, by decide, rfl, rfl, List.mem_of_getElem? (i := 100) (by decide +kernel)⟩
theorem fl_X6_9 : iz_FL RX6 9 6 0 "[I" true := ⟨RX6, TX6, 7, rfl, by decide, rfl, rfl, List.mem_of_getElem? (i := 116) (by decide +kernel)⟩
theorem fl_X9_169 : iz_FL RX9 169 6 0 "[I" true := ⟨RX6, TX6, 7, rfl, by decide, rfl, rfl, List.mem_of_getElem? (i := 117) (by decide +kernel)⟩
theorem fl_X6_80 : iz_FL RX6 80 6 1 "I" false := ⟨RX6, TX6, 7, rfl, by decide, rfl, rfl, List.mem_of_getElem? (i := 118) (by decide +kernel)⟩
theorem fl_X9_166 : iz_FL RX9 166 6 1 "I" false := ⟨RX6, TX6, 7, rfl, by decide, rfl, rfl, List.mem_of_getElem? (i := 119) (by decide +kernel)⟩
theorem fl_X6_15 : iz_FL RX6 15 6 2 "[I" true := ⟨RX6, TX6, 7, rfl, by decide, rfl, rfl, List.mem_of_getElem? (i := 120) (by decide +kernel)⟩
theorem fl_X6_27 : iz_FL RX6 27 6 3 "I" false := ⟨RX6, TX6, 7, rfl, by decide, rfl, rfl, List.mem_of_getElem? (i := 121) (by decide +kernel)⟩
theorem fl_X6_18 : iz_FL RX6 18 6 4 "[I" true := ⟨RX6, TX6, 7, rfl, by decide, rfl, rfl, List.mem_of_getElem? (i := 122) (by decide +kernel)⟩
theorem fl_X6_41 : iz_FL RX6 41 6 5 "J" false := ⟨RX6, TX6, 7, rfl, by decide, rfl, rfl, List.mem_of_getElem? (i := 123) (by decide +kernel)⟩
theorem fl_X6_48 : iz_FL RX6 48 6 6 "J" false := ⟨RX6, TX6, 7, rfl, by decide, rfl, rfl, List.mem_of_getElem? (i := 124) (by decide +kernel)⟩
theorem fl_X7_9 : iz_FL RX7 9 7 0 "[I" true := ⟨RX7, TX7, 3, rfl, by decide, rfl, rfl, List.mem_of_getElem? (i := 149) (by decide +kernel)⟩
theorem fl_X9_224 : iz_FL RX9 224 7 0 "[I" true := ⟨RX7, TX7, 3, rfl, by decide, rfl, rfl, List.mem_of_getElem? (i := 150) (by decide +kernel)⟩
theorem fl_X7_15 : iz_FL RX7 15 7 1 "[I" true := ⟨RX7, TX7, 3, rfl, by decide, rfl, rfl, List.mem_of_getElem? (i := 151) (by decide +kernel)⟩
theorem fl_X9_231 : iz_FL RX9 231 7 1 "[I" true := ⟨RX7, TX7, 3, rfl, by decide, rfl, rfl, List.mem_of_getElem? (i := 152) (by decide +kernel)⟩
theorem fl_X1_121 : iz_FL RX1 121 7 1 "[I" true := ⟨RX7, TX7, 3, rfl, by decide, rfl, rfl, List.mem_of_getElem? (i := 153) (by decide +kernel)⟩
theorem fl_X7_18 : iz_FL RX7 18 7 2 "[I" true := ⟨RX7, TX7, 3, rfl, by decide, rfl, rfl, List.mem_of_getElem? (i := 154) (by decide +kernel)⟩
theorem fl_X9_234 : iz_FL RX9 234 7 2 "[I" true := ⟨RX7, TX7, 3, rfl, by decide, rfl, rfl, List.mem_of_getElem? (i := 155) (by decide +kernel)⟩
theorem fl_X1_31 : iz_FL RX1 31 1 0 "I" false := ⟨RX1, TX1, 13, rfl, by decide, rfl, rfl, List.mem_of_getElem? (i := 169) (by decide +kernel)⟩
theorem fl_X9_141 : iz_FL RX9 141 1 0 "I" false := ⟨RX1, TX1, 13, rfl, by decide, rfl, rfl, List.mem_of_getElem? (i := 170) (by decide +kernel)⟩
theorem fl_X1_9 : iz_FL RX1 9 1 1 "[I" true := ⟨RX1, TX1, 13, rfl, by decide, rfl, rfl, List.mem_of_getElem? (i := 171) (by decide +kernel)⟩
theorem fl_X3_48 : iz_FL RX3 48 1 1 "[I" true := ⟨RX1, TX1, 13, rfl, by decide, rfl, rfl, List.mem_of_getElem? (i := 172) (by decide +kernel)⟩
theorem fl_X9_203 : iz_FL RX9 203 1 1 "[I" true := ⟨RX1, TX1, 13, rfl, by decide, rfl, rfl, List.mem_of_getElem? (i := 173) (by decide +kernel)⟩
theorem fl_X1_15 : iz_FL RX1 15 1 2 "[I" true := ⟨RX1, TX1, 13, rfl, by decide, rfl, rfl, List.mem_of_getElem? (i := 174) (by decide +kernel)⟩
theorem fl_X3_72 : iz_FL RX3 72 1 2 "[I" true := ⟨RX1, TX1, 13, rfl, by decide, rfl, rfl, List.mem_of_getElem? (i := 175) (by decide +kernel)⟩
theorem fl_X9_209 : iz_FL RX9 209 1 2 "[I" true := ⟨RX1, TX1, 13, rfl, by decide, rfl, rfl, List.mem_of_getElem? (i := 176) (by decide +kernel)⟩
theorem fl_X1_18 : iz_FL RX1 18 1 3 "[I" true := ⟨RX1, TX1, 13, rfl, by decide, rfl, rfl, List.mem_of_getElem? (i := 177) (by decide +kernel)⟩
theorem fl_X9_178 : iz_FL RX9 178 1 3 "[I" true := ⟨RX1, TX1, 13, rfl, by decide, rfl, rfl, List.mem_of_getElem? (i := 178) (by decide +kernel)⟩
theorem fl_X1_21 : iz_FL RX1 21 1 4 "[I" true := ⟨RX1, TX1, 13, rfl, by decide, rfl, rfl, List.mem_of_getElem? (i := 179) (by decide +kernel)⟩
theorem fl_X5_87 : iz_FL RX5 87 1 4 "[I" true := ⟨RX1, TX1, 13, rfl, by decide, rfl, rfl, List.mem_of_getElem? (i := 180) (by decide +kernel)⟩
theorem fl_X9_188 : iz_FL RX9 188 1 4 "[I" true := ⟨RX1, TX1, 13, rfl, by decide, rfl, rfl, List.mem_of_getElem? (i := 181) (by decide +kernel)⟩
theorem fl_X1_35 : iz_FL RX1 35 1 5 "I" false := ⟨RX1, TX1, 13, rfl, by decide, rfl, rfl, List.mem_of_getElem? (i := 182) (by decide +kernel)⟩
theorem fl_X3_43 : iz_FL RX3 43 1 5 "I" false := ⟨RX1, TX1, 13, rfl, by decide, rfl, rfl, List.mem_of_getElem? (i := 183) (by decide +kernel)⟩
theorem fl_X9_240 : iz_FL RX9 240 1 5 "I" false := ⟨RX1, TX1, 13, rfl, by decide, rfl, rfl, List.mem_of_getElem? (i := 184) (by decide +kernel)⟩
theorem fl_X1_52 : iz_FL RX1 52 1 6 "I" false := ⟨RX1, TX1, 13, rfl, by decide, rfl, rfl, List.mem_of_getElem? (i := 185) (by decide +kernel)⟩
theorem fl_X9_321 : iz_FL RX9 321 1 6 "I" false := ⟨RX1, TX1, 13, rfl, by decide, rfl, rfl, List.mem_of_getElem? (i := 186) (by decide +kernel)⟩
theorem fl_X1_82 : iz_FL RX1 82 1 7 "I" false := ⟨RX1, TX1, 13, rfl, by decide, rfl, rfl, List.mem_of_getElem? (i := 187) (by decide +kernel)⟩
theorem fl_X9_324 : iz_FL RX9 324 1 7 "I" false := ⟨RX1, TX1, 13, rfl, by decide, rfl, rfl, List.mem_of_getElem? (i := 188) (by decide +kernel)⟩
theorem fl_X1_95 : iz_FL RX1 95 1 8 "I" false := ⟨RX1, TX1, 13, rfl, by decide, rfl, rfl, List.mem_of_getElem? (i := 189) (by decide +kernel)⟩
theorem fl_X9_327 : iz_FL RX9 327 1 8 "I" false := ⟨RX1, TX1, 13, rfl, by decide, rfl, rfl, List.mem_of_getElem? (i := 190) (by decide +kernel)⟩
theorem fl_X1_79 : iz_FL RX1 79 1 9 "I" false := ⟨RX1, TX1, 13, rfl, by decide, rfl, rfl, List.mem_of_getElem? (i := 191) (by decide +kernel)⟩
theorem fl_X9_330 : iz_FL RX9 330 1 9 "I" false := ⟨RX1, TX1, 13, rfl, by decide, rfl, rfl, List.mem_of_getElem? (i := 192) (by decide +kernel)⟩
theorem fl_X1_73 : iz_FL RX1 73 1 10 "I" false := ⟨RX1, TX1, 13, rfl, by decide, rfl, rfl, List.mem_of_getElem? (i := 193) (by decide +kernel)⟩
theorem fl_X9_333 : iz_FL RX9 333 1 10 "I" false := ⟨RX1, TX1, 13, rfl, by decide, rfl, rfl, List.mem_of_getElem? (i := 194) (by decide +kernel)⟩
theorem fl_X1_27 : iz_FL RX1 27 1 11 "LIceHouse$Shelter;" true := ⟨RX1, TX1, 13, rfl, by decide, rfl, rfl, List.mem_of_getElem? (i := 195) (by decide +kernel)⟩
theorem fl_X3_62 : iz_FL RX3 62 1 11 "LIceHouse$Shelter;" true := ⟨RX1, TX1, 13, rfl, by decide, rfl, rfl, List.mem_of_getElem? (i := 196) (by decide +kernel)⟩
theorem fl_X1_24 : iz_FL RX1 24 1 12 "[I" true := ⟨RX1, TX1, 13, rfl, by decide, rfl, rfl, List.mem_of_getElem? (i := 197) (by decide +kernel)⟩
theorem fl_X0_49 : iz_FL RX0 49 0 0 "I" false := ⟨RX0, TX0, 7, rfl, by decide, rfl, rfl, List.mem_of_getElem? (i := 233) (by decide +kernel)⟩
theorem fl_X9_256 : iz_FL RX9 256 0 0 "I" false := ⟨RX0, TX0, 7, rfl, by decide, rfl, rfl, List.mem_of_getElem? (i := 234) (by decide +kernel)⟩
theorem fl_X0_9 : iz_FL RX0 9 0 1 "[I" true := ⟨RX0, TX0, 7, rfl, by decide, rfl, rfl, List.mem_of_getElem? (i := 235) (by decide +kernel)⟩
theorem fl_X9_259 : iz_FL RX9 259 0 1 "[I" true := ⟨RX0, TX0, 7, rfl, by decide, rfl, rfl, List.mem_of_getElem? (i := 236) (by decide +kernel)⟩
theorem fl_X0_53 : iz_FL RX0 53 0 2 "I" false := ⟨RX0, TX0, 7, rfl, by decide, rfl, rfl, List.mem_of_getElem? (i := 237) (by decide +kernel)⟩
theorem fl_X0_56 : iz_FL RX0 56 0 3 "I" false := ⟨RX0, TX0, 7, rfl, by decide, rfl, rfl, List.mem_of_getElem? (i := 238) (by decide +kernel)⟩
theorem fl_X0_17 : iz_FL RX0 17 0 4 "[[I" true := ⟨RX0, TX0, 7, rfl, by decide, rfl, rfl, List.mem_of_getElem? (i := 239) (by decide +kernel)⟩
theorem fl_X0_20 : iz_FL RX0 20 0 5 "[[I" true := ⟨RX0, TX0, 7, rfl, by decide, rfl, rfl, List.mem_of_getElem? (i := 240) (by decide +kernel)⟩
theorem fl_X0_23 : iz_FL RX0 23 0 6 "[I" true := ⟨RX0, TX0, 7, rfl, by decide, rfl, rfl, List.mem_of_getElem? (i := 241) (by decide +kernel)⟩
theorem fl_X3_35 : iz_FL RX3 35 3 0 "I" false := ⟨RX3, TX3, 10, rfl, by decide, rfl, rfl, List.mem_of_getElem? (i := 263) (by decide +kernel)⟩
theorem fl_X5_71 : iz_FL RX5 71 3 0 "I" false := ⟨RX3, TX3, 10, rfl, by decide, rfl, rfl, List.mem_of_getElem? (i := 264) (by decide +kernel)⟩
theorem fl_X9_262 : iz_FL RX9 262 3 0 "I" false := ⟨RX3, TX3, 10, rfl, by decide, rfl, rfl, List.mem_of_getElem? (i := 265) (by decide +kernel)⟩
theorem fl_X3_87 : iz_FL RX3 87 3 1 "I" false := ⟨RX3, TX3, 10, rfl, by decide, rfl, rfl, List.mem_of_getElem? (i := 266) (by decide +kernel)⟩
theorem fl_X9_352 : iz_FL RX9 352 3 1 "I" false := ⟨RX3, TX3, 10, rfl, by decide, rfl, rfl, List.mem_of_getElem? (i := 267) (by decide +kernel)⟩
theorem fl_X3_90 : iz_FL RX3 90 3 2 "I" false := ⟨RX3, TX3, 10, rfl, by decide, rfl, rfl, List.mem_of_getElem? (i := 268) (by decide +kernel)⟩
theorem fl_X9_336 : iz_FL RX9 336 3 2 "I" false := ⟨RX3, TX3, 10, rfl, by decide, rfl, rfl, List.mem_of_getElem? (i := 269) (by decide +kernel)⟩
theorem fl_X3_9 : iz_FL RX3 9 3 3 "[I" true := ⟨RX3, TX3, 10, rfl, by decide, rfl, rfl, List.mem_of_getElem? (i := 270) (by decide +kernel)⟩
theorem fl_X5_103 : iz_FL RX5 103 3 3 "[I" true := ⟨RX3, TX3, 10, rfl, by decide, rfl, rfl, List.mem_of_getElem? (i := 271) (by decide +kernel)⟩
theorem fl_X3_31 : iz_FL RX3 31 3 4 "LIceHouse$House;" true := ⟨RX3, TX3, 10, rfl, by decide, rfl, rfl, List.mem_of_getElem? (i := 272) (by decide +kernel)⟩
theorem fl_X3_15 : iz_FL RX3 15 3 5 "[I" true := ⟨RX3, TX3, 10, rfl, by decide, rfl, rfl, List.mem_of_getElem? (i := 273) (by decide +kernel)⟩
theorem fl_X3_18 : iz_FL RX3 18 3 6 "[I" true := ⟨RX3, TX3, 10, rfl, by decide, rfl, rfl, List.mem_of_getElem? (i := 274) (by decide +kernel)⟩
theorem fl_X3_21 : iz_FL RX3 21 3 7 "[I" true := ⟨RX3, TX3, 10, rfl, by decide, rfl, rfl, List.mem_of_getElem? (i := 275) (by decide +kernel)⟩
theorem fl_X3_24 : iz_FL RX3 24 3 8 "[I" true := ⟨RX3, TX3, 10, rfl, by decide, rfl, rfl, List.mem_of_getElem? (i := 276) (by decide +kernel)⟩
theorem fl_X3_27 : iz_FL RX3 27 3 9 "[Z" true := ⟨RX3, TX3, 10, rfl, by decide, rfl, rfl, List.mem_of_getElem? (i := 277) (by decide +kernel)⟩
theorem fl_X5_9 : iz_FL RX5 9 5 0 "[I" true := ⟨RX5, TX5, 15, rfl, by decide, rfl, rfl, List.mem_of_getElem? (i := 305) (by decide +kernel)⟩
theorem fl_X9_293 : iz_FL RX9 293 5 0 "[I" true := ⟨RX5, TX5, 15, rfl, by decide, rfl, rfl, List.mem_of_getElem? (i := 306) (by decide +kernel)⟩
theorem fl_X5_62 : iz_FL RX5 62 5 1 "I" false := ⟨RX5, TX5, 15, rfl, by decide, rfl, rfl, List.mem_of_getElem? (i := 307) (by decide +kernel)⟩
theorem fl_X9_284 : iz_FL RX9 284 5 1 "I" false := ⟨RX5, TX5, 15, rfl, by decide, rfl, rfl, List.mem_of_getElem? (i := 308) (by decide +kernel)⟩
theorem fl_X5_65 : iz_FL RX5 65 5 2 "I" false := ⟨RX5, TX5, 15, rfl, by decide, rfl, rfl, List.mem_of_getElem? (i := 309) (by decide +kernel)⟩
theorem fl_X9_287 : iz_FL RX9 287 5 2 "I" false := ⟨RX5, TX5, 15, rfl, by decide, rfl, rfl, List.mem_of_getElem? (i := 310) (by decide +kernel)⟩
theorem fl_X5_15 : iz_FL RX5 15 5 3 "[I" true := ⟨RX5, TX5, 15, rfl, by decide, rfl, rfl, List.mem_of_getElem? (i := 311) (by decide +kernel)⟩
theorem fl_X9_290 : iz_FL RX9 290 5 3 "[I" true := ⟨RX5, TX5, 15, rfl, by decide, rfl, rfl, List.mem_of_getElem? (i := 312) (by decide +kernel)⟩
theorem fl_X5_18 : iz_FL RX5 18 5 4 "[I" true := ⟨RX5, TX5, 15, rfl, by decide, rfl, rfl, List.mem_of_getElem? (i := 313) (by decide +kernel)⟩
theorem fl_X9_296 : iz_FL RX9 296 5 4 "[I" true := ⟨RX5, TX5, 15, rfl, by decide, rfl, rfl, List.mem_of_getElem? (i := 314) (by decide +kernel)⟩
theorem fl_X5_40 : iz_FL RX5 40 5 5 "LIceHouse$House;" true := ⟨RX5, TX5, 15, rfl, by decide, rfl, rfl, List.mem_of_getElem? (i := 315) (by decide +kernel)⟩
theorem fl_X5_44 : iz_FL RX5 44 5 6 "LIceHouse$Orders;" true := ⟨RX5, TX5, 15, rfl, by decide, rfl, rfl, List.mem_of_getElem? (i := 316) (by decide +kernel)⟩
theorem fl_X5_54 : iz_FL RX5 54 5 7 "I" false := ⟨RX5, TX5, 15, rfl, by decide, rfl, rfl, List.mem_of_getElem? (i := 317) (by decide +kernel)⟩
theorem fl_X5_21 : iz_FL RX5 21 5 8 "[Z" true := ⟨RX5, TX5, 15, rfl, by decide, rfl, rfl, List.mem_of_getElem? (i := 318) (by decide +kernel)⟩
theorem fl_X5_25 : iz_FL RX5 25 5 9 "[I" true := ⟨RX5, TX5, 15, rfl, by decide, rfl, rfl, List.mem_of_getElem? (i := 319) (by decide +kernel)⟩
theorem fl_X5_68 : iz_FL RX5 68 5 10 "I" false := ⟨RX5, TX5, 15, rfl, by decide, rfl, rfl, List.mem_of_getElem? (i := 320) (by decide +kernel)⟩
theorem fl_X5_28 : iz_FL RX5 28 5 11 "[Z" true := ⟨RX5, TX5, 15, rfl, by decide, rfl, rfl, List.mem_of_getElem? (i := 321) (by decide +kernel)⟩
theorem fl_X5_31 : iz_FL RX5 31 5 12 "[I" true := ⟨RX5, TX5, 15, rfl, by decide, rfl, rfl, List.mem_of_getElem? (i := 322) (by decide +kernel)⟩
theorem fl_X5_34 : iz_FL RX5 34 5 13 "[I" true := ⟨RX5, TX5, 15, rfl, by decide, rfl, rfl, List.mem_of_getElem? (i := 323) (by decide +kernel)⟩
theorem fl_X5_37 : iz_FL RX5 37 5 14 "[I" true := ⟨RX5, TX5, 15, rfl, by decide, rfl, rfl, List.mem_of_getElem? (i := 324) (by decide +kernel)⟩
theorem fl_X4_29 : iz_FL RX4 29 4 0 "I" false := ⟨RX4, TX4, 6, rfl, by decide, rfl, rfl, List.mem_of_getElem? (i := 363) (by decide +kernel)⟩
theorem fl_X9_302 : iz_FL RX9 302 4 0 "I" false := ⟨RX4, TX4, 6, rfl, by decide, rfl, rfl, List.mem_of_getElem? (i := 364) (by decide +kernel)⟩
theorem fl_X4_9 : iz_FL RX4 9 4 1 "[I" true := ⟨RX4, TX4, 6, rfl, by decide, rfl, rfl, List.mem_of_getElem? (i := 365) (by decide +kernel)⟩
theorem fl_X9_306 : iz_FL RX9 306 4 1 "[I" true := ⟨RX4, TX4, 6, rfl, by decide, rfl, rfl, List.mem_of_getElem? (i := 366) (by decide +kernel)⟩
theorem fl_X4_15 : iz_FL RX4 15 4 2 "[I" true := ⟨RX4, TX4, 6, rfl, by decide, rfl, rfl, List.mem_of_getElem? (i := 367) (by decide +kernel)⟩
theorem fl_X4_18 : iz_FL RX4 18 4 3 "[I" true := ⟨RX4, TX4, 6, rfl, by decide, rfl, rfl, List.mem_of_getElem? (i := 368) (by decide +kernel)⟩
theorem fl_X4_23 : iz_FL RX4 23 4 4 "[[I" true := ⟨RX4, TX4, 6, rfl, by decide, rfl, rfl, List.mem_of_getElem? (i := 369) (by decide +kernel)⟩
theorem fl_X4_26 : iz_FL RX4 26 4 5 "[[I" true := ⟨RX4, TX4, 6, rfl, by decide, rfl, rfl, List.mem_of_getElem? (i := 370) (by decide +kernel)⟩
theorem fl_X8_15 : iz_FL RX8 15 8 0 "I" false := ⟨RX8, TX8, 2, rfl, by decide, rfl, rfl, List.mem_of_getElem? (i := 390) (by decide +kernel)⟩
theorem fl_X9_339 : iz_FL RX9 339 8 0 "I" false := ⟨RX8, TX8, 2, rfl, by decide, rfl, rfl, List.mem_of_getElem? (i := 391) (by decide +kernel)⟩
theorem fl_X8_9 : iz_FL RX8 9 8 1 "[I" true := ⟨RX8, TX8, 2, rfl, by decide, rfl, rfl, List.mem_of_getElem? (i := 392) (by decide +kernel)⟩
theorem fl_X9_10 : iz_FL RX9 10 9 0 "LIceHouse$Lake;" true := ⟨RX9, TX9, 11, rfl, by decide, rfl, rfl, List.mem_of_getElem? (i := 398) (by decide +kernel)⟩
theorem fl_X9_19 : iz_FL RX9 19 9 1 "LIceHouse$Season;" true := ⟨RX9, TX9, 11, rfl, by decide, rfl, rfl, List.mem_of_getElem? (i := 399) (by decide +kernel)⟩
theorem fl_X9_26 : iz_FL RX9 26 9 2 "LIceHouse$Shelter;" true := ⟨RX9, TX9, 11, rfl, by decide, rfl, rfl, List.mem_of_getElem? (i := 400) (by decide +kernel)⟩
theorem fl_X9_35 : iz_FL RX9 35 9 3 "LIceHouse$House;" true := ⟨RX9, TX9, 11, rfl, by decide, rfl, rfl, List.mem_of_getElem? (i := 401) (by decide +kernel)⟩
theorem fl_X9_39 : iz_FL RX9 39 9 4 "LIceHouse$House;" true := ⟨RX9, TX9, 11, rfl, by decide, rfl, rfl, List.mem_of_getElem? (i := 402) (by decide +kernel)⟩
theorem fl_X9_45 : iz_FL RX9 45 9 5 "LIceHouse$DustPlan;" true := ⟨RX9, TX9, 11, rfl, by decide, rfl, rfl, List.mem_of_getElem? (i := 403) (by decide +kernel)⟩
theorem fl_X9_54 : iz_FL RX9 54 9 6 "LIceHouse$Orders;" true := ⟨RX9, TX9, 11, rfl, by decide, rfl, rfl, List.mem_of_getElem? (i := 404) (by decide +kernel)⟩
theorem fl_X9_63 : iz_FL RX9 63 9 7 "LIceHouse$SalesPlan;" true := ⟨RX9, TX9, 11, rfl, by decide, rfl, rfl, List.mem_of_getElem? (i := 405) (by decide +kernel)⟩
theorem fl_X9_70 : iz_FL RX9 70 9 8 "LIceHouse$Railway;" true := ⟨RX9, TX9, 11, rfl, by decide, rfl, rfl, List.mem_of_getElem? (i := 406) (by decide +kernel)⟩
theorem fl_X9_77 : iz_FL RX9 77 9 9 "LIceHouse$Waiting;" true := ⟨RX9, TX9, 11, rfl, by decide, rfl, rfl, List.mem_of_getElem? (i := 407) (by decide +kernel)⟩
theorem fl_X9_81 : iz_FL RX9 81 9 10 "[I" true := ⟨RX9, TX9, 11, rfl, by decide, rfl, rfl, List.mem_of_getElem? (i := 408) (by decide +kernel)⟩
theorem sl_X2_48 : Cond.fieldLinkNest RX2 48 (iz_zC 0) (iz_zN 0) "[I" "IceHouse" ∈ lw_tbl := List.mem_of_getElem? (i := 455) (by decide +kernel)
theorem sl_X9_356 : Cond.fieldLink RX9 356 (iz_zC 1) (iz_zN 1) "[I" ∈ lw_tbl := List.mem_of_getElem? (i := 712) (by decide +kernel)
theorem sl_X1_113 : Cond.fieldLinkNest RX1 113 (iz_zC 2) (iz_zN 2) "[I" "IceHouse" ∈ lw_tbl := List.mem_of_getElem? (i := 758) (by decide +kernel)
theorem fl_X10_7 : iz_FL RX10 7 10 0 "[I" true := ⟨RX10, TX10, 48, rfl, by decide, rfl, rfl, List.mem_of_getElem? (i := 1053) (by decide +kernel)⟩
theorem fl_X10_13 : iz_FL RX10 13 10 1 "[I" true := ⟨RX10, TX10, 48, rfl, by decide, rfl, rfl, List.mem_of_getElem? (i := 1054) (by decide +kernel)⟩
theorem fl_X10_16 : iz_FL RX10 16 10 2 "[Z" true := ⟨RX10, TX10, 48, rfl, by decide, rfl, rfl, List.mem_of_getElem? (i := 1055) (by decide +kernel)⟩
theorem fl_X10_163 : iz_FL RX10 163 10 3 "I" false := ⟨RX10, TX10, 48, rfl, by decide, rfl, rfl, List.mem_of_getElem? (i := 1056) (by decide +kernel)⟩
theorem fl_X10_20 : iz_FL RX10 20 10 4 "[I" true := ⟨RX10, TX10, 48, rfl, by decide, rfl, rfl, List.mem_of_getElem? (i := 1057) (by decide +kernel)⟩
theorem fl_X10_23 : iz_FL RX10 23 10 5 "[I" true := ⟨RX10, TX10, 48, rfl, by decide, rfl, rfl, List.mem_of_getElem? (i := 1058) (by decide +kernel)⟩
theorem fl_X10_26 : iz_FL RX10 26 10 6 "[I" true := ⟨RX10, TX10, 48, rfl, by decide, rfl, rfl, List.mem_of_getElem? (i := 1059) (by decide +kernel)⟩
theorem fl_X10_29 : iz_FL RX10 29 10 7 "[I" true := ⟨RX10, TX10, 48, rfl, by decide, rfl, rfl, List.mem_of_getElem? (i := 1060) (by decide +kernel)⟩
theorem fl_X10_32 : iz_FL RX10 32 10 8 "[I" true := ⟨RX10, TX10, 48, rfl, by decide, rfl, rfl, List.mem_of_getElem? (i := 1061) (by decide +kernel)⟩
theorem fl_X10_35 : iz_FL RX10 35 10 9 "[I" true := ⟨RX10, TX10, 48, rfl, by decide, rfl, rfl, List.mem_of_getElem? (i := 1062) (by decide +kernel)⟩
theorem fl_X10_38 : iz_FL RX10 38 10 10 "[I" true := ⟨RX10, TX10, 48, rfl, by decide, rfl, rfl, List.mem_of_getElem? (i := 1063) (by decide +kernel)⟩
theorem fl_X10_41 : iz_FL RX10 41 10 11 "[I" true := ⟨RX10, TX10, 48, rfl, by decide, rfl, rfl, List.mem_of_getElem? (i := 1064) (by decide +kernel)⟩
theorem fl_X10_44 : iz_FL RX10 44 10 12 "[I" true := ⟨RX10, TX10, 48, rfl, by decide, rfl, rfl, List.mem_of_getElem? (i := 1065) (by decide +kernel)⟩
theorem fl_X10_206 : iz_FL RX10 206 10 13 "I" false := ⟨RX10, TX10, 48, rfl, by decide, rfl, rfl, List.mem_of_getElem? (i := 1066) (by decide +kernel)⟩
theorem fl_X10_245 : iz_FL RX10 245 10 14 "I" false := ⟨RX10, TX10, 48, rfl, by decide, rfl, rfl, List.mem_of_getElem? (i := 1067) (by decide +kernel)⟩
theorem fl_X10_47 : iz_FL RX10 47 10 15 "[I" true := ⟨RX10, TX10, 48, rfl, by decide, rfl, rfl, List.mem_of_getElem? (i := 1068) (by decide +kernel)⟩
theorem fl_X10_50 : iz_FL RX10 50 10 16 "[I" true := ⟨RX10, TX10, 48, rfl, by decide, rfl, rfl, List.mem_of_getElem? (i := 1069) (by decide +kernel)⟩
theorem fl_X10_53 : iz_FL RX10 53 10 17 "[I" true := ⟨RX10, TX10, 48, rfl, by decide, rfl, rfl, List.mem_of_getElem? (i := 1070) (by decide +kernel)⟩
theorem fl_X10_56 : iz_FL RX10 56 10 18 "[I" true := ⟨RX10, TX10, 48, rfl, by decide, rfl, rfl, List.mem_of_getElem? (i := 1071) (by decide +kernel)⟩
theorem fl_X10_59 : iz_FL RX10 59 10 19 "[I" true := ⟨RX10, TX10, 48, rfl, by decide, rfl, rfl, List.mem_of_getElem? (i := 1072) (by decide +kernel)⟩
theorem fl_X10_62 : iz_FL RX10 62 10 20 "[Z" true := ⟨RX10, TX10, 48, rfl, by decide, rfl, rfl, List.mem_of_getElem? (i := 1073) (by decide +kernel)⟩
theorem fl_X10_272 : iz_FL RX10 272 10 21 "I" false := ⟨RX10, TX10, 48, rfl, by decide, rfl, rfl, List.mem_of_getElem? (i := 1074) (by decide +kernel)⟩
theorem fl_X10_65 : iz_FL RX10 65 10 22 "[I" true := ⟨RX10, TX10, 48, rfl, by decide, rfl, rfl, List.mem_of_getElem? (i := 1075) (by decide +kernel)⟩
theorem fl_X10_68 : iz_FL RX10 68 10 23 "[I" true := ⟨RX10, TX10, 48, rfl, by decide, rfl, rfl, List.mem_of_getElem? (i := 1076) (by decide +kernel)⟩
theorem fl_X10_71 : iz_FL RX10 71 10 24 "[I" true := ⟨RX10, TX10, 48, rfl, by decide, rfl, rfl, List.mem_of_getElem? (i := 1077) (by decide +kernel)⟩
theorem fl_X10_74 : iz_FL RX10 74 10 25 "[I" true := ⟨RX10, TX10, 48, rfl, by decide, rfl, rfl, List.mem_of_getElem? (i := 1078) (by decide +kernel)⟩
theorem fl_X10_176 : iz_FL RX10 176 10 26 "I" false := ⟨RX10, TX10, 48, rfl, by decide, rfl, rfl, List.mem_of_getElem? (i := 1079) (by decide +kernel)⟩
theorem fl_X10_77 : iz_FL RX10 77 10 27 "[I" true := ⟨RX10, TX10, 48, rfl, by decide, rfl, rfl, List.mem_of_getElem? (i := 1080) (by decide +kernel)⟩
theorem fl_X10_80 : iz_FL RX10 80 10 28 "[I" true := ⟨RX10, TX10, 48, rfl, by decide, rfl, rfl, List.mem_of_getElem? (i := 1081) (by decide +kernel)⟩
theorem fl_X10_83 : iz_FL RX10 83 10 29 "[Z" true := ⟨RX10, TX10, 48, rfl, by decide, rfl, rfl, List.mem_of_getElem? (i := 1082) (by decide +kernel)⟩
theorem fl_X10_86 : iz_FL RX10 86 10 30 "[I" true := ⟨RX10, TX10, 48, rfl, by decide, rfl, rfl, List.mem_of_getElem? (i := 1083) (by decide +kernel)⟩
theorem fl_X10_89 : iz_FL RX10 89 10 31 "[I" true := ⟨RX10, TX10, 48, rfl, by decide, rfl, rfl, List.mem_of_getElem? (i := 1084) (by decide +kernel)⟩
theorem fl_X10_170 : iz_FL RX10 170 10 32 "I" false := ⟨RX10, TX10, 48, rfl, by decide, rfl, rfl, List.mem_of_getElem? (i := 1085) (by decide +kernel)⟩
theorem fl_X10_92 : iz_FL RX10 92 10 33 "[I" true := ⟨RX10, TX10, 48, rfl, by decide, rfl, rfl, List.mem_of_getElem? (i := 1086) (by decide +kernel)⟩
theorem fl_X10_95 : iz_FL RX10 95 10 34 "[I" true := ⟨RX10, TX10, 48, rfl, by decide, rfl, rfl, List.mem_of_getElem? (i := 1087) (by decide +kernel)⟩
theorem fl_X10_167 : iz_FL RX10 167 10 35 "I" false := ⟨RX10, TX10, 48, rfl, by decide, rfl, rfl, List.mem_of_getElem? (i := 1088) (by decide +kernel)⟩
theorem fl_X10_98 : iz_FL RX10 98 10 36 "[I" true := ⟨RX10, TX10, 48, rfl, by decide, rfl, rfl, List.mem_of_getElem? (i := 1089) (by decide +kernel)⟩
theorem fl_X10_101 : iz_FL RX10 101 10 37 "[I" true := ⟨RX10, TX10, 48, rfl, by decide, rfl, rfl, List.mem_of_getElem? (i := 1090) (by decide +kernel)⟩
theorem fl_X10_104 : iz_FL RX10 104 10 38 "[I" true := ⟨RX10, TX10, 48, rfl, by decide, rfl, rfl, List.mem_of_getElem? (i := 1091) (by decide +kernel)⟩
theorem fl_X10_226 : iz_FL RX10 226 10 39 "I" false := ⟨RX10, TX10, 48, rfl, by decide, rfl, rfl, List.mem_of_getElem? (i := 1092) (by decide +kernel)⟩
theorem fl_X10_233 : iz_FL RX10 233 10 40 "I" false := ⟨RX10, TX10, 48, rfl, by decide, rfl, rfl, List.mem_of_getElem? (i := 1093) (by decide +kernel)⟩
theorem fl_X10_107 : iz_FL RX10 107 10 41 "[I" true := ⟨RX10, TX10, 48, rfl, by decide, rfl, rfl, List.mem_of_getElem? (i := 1094) (by decide +kernel)⟩
theorem fl_X10_110 : iz_FL RX10 110 10 42 "[I" true := ⟨RX10, TX10, 48, rfl, by decide, rfl, rfl, List.mem_of_getElem? (i := 1095) (by decide +kernel)⟩
theorem fl_X10_113 : iz_FL RX10 113 10 43 "[I" true := ⟨RX10, TX10, 48, rfl, by decide, rfl, rfl, List.mem_of_getElem? (i := 1096) (by decide +kernel)⟩
theorem fl_X10_116 : iz_FL RX10 116 10 44 "[I" true := ⟨RX10, TX10, 48, rfl, by decide, rfl, rfl, List.mem_of_getElem? (i := 1097) (by decide +kernel)⟩
theorem fl_X10_263 : iz_FL RX10 263 10 45 "I" false := ⟨RX10, TX10, 48, rfl, by decide, rfl, rfl, List.mem_of_getElem? (i := 1098) (by decide +kernel)⟩
theorem fl_X10_260 : iz_FL RX10 260 10 46 "I" false := ⟨RX10, TX10, 48, rfl, by decide, rfl, rfl, List.mem_of_getElem? (i := 1099) (by decide +kernel)⟩
theorem fl_X10_119 : iz_FL RX10 119 10 47 "[I" true := ⟨RX10, TX10, 48, rfl, by decide, rfl, rfl, List.mem_of_getElem? (i := 1100) (by decide +kernel)⟩
theorem sl_X10_135 : Cond.fieldLink RX10 135 (iz_zC 3) (iz_zN 3) "[I" ∈ lw_tbl := List.mem_of_getElem? (i := 1214) (by decide +kernel)
theorem ml_L_9 : Cond.methodLink RL 9 yX9_init ∈ lw_tbl := List.mem_of_getElem? (i := 83) (by decide +kernel)
theorem ml_X9_9 : Cond.methodLinkNest RX9 9 yX2_init "IceHouse" ∈ lw_tbl := List.mem_of_getElem? (i := 91) (by decide +kernel)
theorem ml_X9_18 : Cond.methodLinkNest RX9 18 yX6_init "IceHouse" ∈ lw_tbl := List.mem_of_getElem? (i := 112) (by decide +kernel)
theorem ml_X9_25 : Cond.methodLink RX9 25 yX7_init ∈ lw_tbl := List.mem_of_getElem? (i := 142) (by decide +kernel)
theorem ml_X7_21 : Cond.methodLink RX7 21 yJ7_fill_53178 ∈ lw_tbl := List.mem_of_getElem? (i := 146) (by decide +kernel)
theorem ml_X9_32 : Cond.methodLink RX9 32 yX1_init ∈ lw_tbl := List.mem_of_getElem? (i := 165) (by decide +kernel)
theorem ml_X9_44 : Cond.methodLinkNest RX9 44 yX0_init "IceHouse" ∈ lw_tbl := List.mem_of_getElem? (i := 227) (by decide +kernel)
theorem ml_X9_51 : Cond.methodLink RX9 51 yX3_init ∈ lw_tbl := List.mem_of_getElem? (i := 259) (by decide +kernel)
theorem ml_X9_60 : Cond.methodLink RX9 60 yX5_init ∈ lw_tbl := List.mem_of_getElem? (i := 301) (by decide +kernel)
theorem ml_X9_69 : Cond.methodLinkNest RX9 69 yX4_init "IceHouse" ∈ lw_tbl := List.mem_of_getElem? (i := 358) (by decide +kernel)
theorem ml_X9_76 : Cond.methodLinkNest RX9 76 yX8_init "IceHouse" ∈ lw_tbl := List.mem_of_getElem? (i := 386) (by decide +kernel)
theorem ml_L_13 : Cond.methodLink RL 13 yX9_frost ∈ lw_tbl := List.mem_of_getElem? (i := 432) (by decide +kernel)
theorem ml_X9_85 : Cond.methodLink RX9 85 yX9_within ∈ lw_tbl := List.mem_of_getElem? (i := 436) (by decide +kernel)
theorem ml_X9_89 : Cond.methodLink RX9 89 yX9_finding ∈ lw_tbl := List.mem_of_getElem? (i := 439) (by decide +kernel)
theorem ml_X9_93 : Cond.methodLink RX9 93 yX2_freeze ∈ lw_tbl := List.mem_of_getElem? (i := 444) (by decide +kernel)
theorem ml_X2_22 : Cond.methodLink RX2 22 yX2_rootUpFrom ∈ lw_tbl := List.mem_of_getElem? (i := 448) (by decide +kernel)
theorem ml_X9_97 : Cond.methodLink RX9 97 yX2_bearing ∈ lw_tbl := List.mem_of_getElem? (i := 451) (by decide +kernel)
theorem ml_X2_38 : Cond.methodLink RX2 38 yX2_cellsOf ∈ lw_tbl := List.mem_of_getElem? (i := 457) (by decide +kernel)
theorem ml_X9_101 : Cond.methodLink RX9 101 yJ13_bitCount_95d88 ∈ lw_tbl := List.mem_of_getElem? (i := 461) (by decide +kernel)
theorem ml_L_18 : Cond.methodLink RL 18 yX9_thaw ∈ lw_tbl := List.mem_of_getElem? (i := 467) (by decide +kernel)
theorem ml_X9_107 : Cond.methodLink RX9 107 yX2_soften ∈ lw_tbl := List.mem_of_getElem? (i := 471) (by decide +kernel)
theorem ml_X2_26 : Cond.methodLink RX2 26 yJ9_max_7cf53 ∈ lw_tbl := List.mem_of_getElem? (i := 475) (by decide +kernel)
theorem ml_X9_110 : Cond.methodLink RX9 110 yX2_frozenCells ∈ lw_tbl := List.mem_of_getElem? (i := 478) (by decide +kernel)
theorem ml_X2_42 : Cond.methodLink RX2 42 yJ13_bitCount_95d88 ∈ lw_tbl := List.mem_of_getElem? (i := 482) (by decide +kernel)
theorem ml_L_22 : Cond.methodLink RL 22 yX9_snow ∈ lw_tbl := List.mem_of_getElem? (i := 483) (by decide +kernel)
theorem ml_X9_114 : Cond.methodLink RX9 114 yX2_snowOver ∈ lw_tbl := List.mem_of_getElem? (i := 487) (by decide +kernel)
theorem ml_X2_31 : Cond.methodLink RX2 31 yJ9_min_7cf53 ∈ lw_tbl := List.mem_of_getElem? (i := 491) (by decide +kernel)
theorem ml_L_26 : Cond.methodLink RL 26 yX9_scrape ∈ lw_tbl := List.mem_of_getElem? (i := 494) (by decide +kernel)
theorem ml_X9_117 : Cond.methodLink RX9 117 yX2_clearRow ∈ lw_tbl := List.mem_of_getElem? (i := 498) (by decide +kernel)
theorem ml_X2_34 : Cond.methodLinkNest RX2 34 yX9_exchange "IceHouse" ∈ lw_tbl := List.mem_of_getElem? (i := 502) (by decide +kernel)
theorem ml_L_30 : Cond.methodLink RL 30 yX9_cell ∈ lw_tbl := List.mem_of_getElem? (i := 505) (by decide +kernel)
theorem ml_L_35 : Cond.methodLink RL 35 yX9_reached ∈ lw_tbl := List.mem_of_getElem? (i := 509) (by decide +kernel)
theorem ml_X9_130 : Cond.methodLink RX9 130 yX2_reachedOver ∈ lw_tbl := List.mem_of_getElem? (i := 513) (by decide +kernel)
theorem ml_X2_53 : Cond.methodLink RX2 53 yX2_beside ∈ lw_tbl := List.mem_of_getElem? (i := 517) (by decide +kernel)
theorem ml_L_39 : Cond.methodLink RL 39 yX9_reach ∈ lw_tbl := List.mem_of_getElem? (i := 522) (by decide +kernel)
theorem ml_L_43 : Cond.methodLink RL 43 yX9_bars ∈ lw_tbl := List.mem_of_getElem? (i := 526) (by decide +kernel)
theorem ml_X9_134 : Cond.methodLink RX9 134 yX2_isSquare ∈ lw_tbl := List.mem_of_getElem? (i := 530) (by decide +kernel)
theorem ml_X2_61 : Cond.methodLinkNest RX2 61 yX9_within "IceHouse" ∈ lw_tbl := List.mem_of_getElem? (i := 533) (by decide +kernel)
theorem ml_X9_138 : Cond.methodLink RX9 138 yX2_barTo ∈ lw_tbl := List.mem_of_getElem? (i := 534) (by decide +kernel)
theorem ml_X2_67 : Cond.methodLink RX2 67 yX2_cellsOfSquare ∈ lw_tbl := List.mem_of_getElem? (i := 538) (by decide +kernel)
theorem ml_X2_70 : Cond.methodLink RX2 70 yX2_bearing ∈ lw_tbl := List.mem_of_getElem? (i := 542) (by decide +kernel)
theorem ml_X2_73 : Cond.methodLink RX2 73 yX2_barAmong ∈ lw_tbl := List.mem_of_getElem? (i := 543) (by decide +kernel)
theorem ml_X2_79 : Cond.methodLink RX2 79 yX2_reachedOver ∈ lw_tbl := List.mem_of_getElem? (i := 547) (by decide +kernel)
theorem ml_L_47 : Cond.methodLink RL 47 yX9_cut ∈ lw_tbl := List.mem_of_getElem? (i := 548) (by decide +kernel)
theorem ml_X9_145 : Cond.methodLink RX9 145 yX2_kindOf ∈ lw_tbl := List.mem_of_getElem? (i := 552) (by decide +kernel)
theorem ml_X2_82 : Cond.methodLink RX2 82 yX2_milk ∈ lw_tbl := List.mem_of_getElem? (i := 556) (by decide +kernel)
theorem ml_X2_86 : Cond.methodLink RX2 86 yX2_thicksOf ∈ lw_tbl := List.mem_of_getElem? (i := 560) (by decide +kernel)
theorem ml_X9_148 : Cond.methodLink RX9 148 yX2_thicksOf ∈ lw_tbl := List.mem_of_getElem? (i := 564) (by decide +kernel)
theorem ml_X9_151 : Cond.methodLink RX9 151 yX1_newBlock ∈ lw_tbl := List.mem_of_getElem? (i := 565) (by decide +kernel)
theorem ml_X9_155 : Cond.methodLink RX9 155 yX2_open ∈ lw_tbl := List.mem_of_getElem? (i := 569) (by decide +kernel)
theorem ml_X2_89 : Cond.methodLink RX2 89 yX2_openCell ∈ lw_tbl := List.mem_of_getElem? (i := 573) (by decide +kernel)
theorem ml_L_51 : Cond.methodLink RL 51 yX9_season ∈ lw_tbl := List.mem_of_getElem? (i := 577) (by decide +kernel)
theorem ml_X9_158 : Cond.methodLink RX9 158 yX6_takeOver ∈ lw_tbl := List.mem_of_getElem? (i := 581) (by decide +kernel)
theorem ml_X6_21 : Cond.methodLink RX6 21 yX8_handOver ∈ lw_tbl := List.mem_of_getElem? (i := 585) (by decide +kernel)
theorem ml_X8_19 : Cond.methodLink RX8 19 yX8_hasTwins ∈ lw_tbl := List.mem_of_getElem? (i := 589) (by decide +kernel)
theorem ml_X8_23 : Cond.methodLink RX8 23 arraycopyName ∈ lw_tbl := List.mem_of_getElem? (i := 593) (by decide +kernel)
theorem ml_X8_29 : Cond.methodLink RX8 29 yX8_clear ∈ lw_tbl := List.mem_of_getElem? (i := 596) (by decide +kernel)
theorem ml_X6_31 : Cond.methodLink RX6 31 yX2_isSquare ∈ lw_tbl := List.mem_of_getElem? (i := 600) (by decide +kernel)
theorem ml_X9_162 : Cond.methodLink RX9 162 yX6_plan ∈ lw_tbl := List.mem_of_getElem? (i := 601) (by decide +kernel)
theorem ml_X6_37 : Cond.methodLink RX6 37 yX2_cellsOf ∈ lw_tbl := List.mem_of_getElem? (i := 605) (by decide +kernel)
theorem ml_X6_45 : Cond.methodLink RX6 45 yX2_bearing ∈ lw_tbl := List.mem_of_getElem? (i := 606) (by decide +kernel)
theorem ml_X6_51 : Cond.methodLink RX6 51 yX6_longestBehind ∈ lw_tbl := List.mem_of_getElem? (i := 607) (by decide +kernel)
theorem ml_X6_58 : Cond.methodLink RX6 58 yX6_mayFollow ∈ lw_tbl := List.mem_of_getElem? (i := 611) (by decide +kernel)
theorem ml_X6_68 : Cond.methodLink RX6 68 yX6_openCells ∈ lw_tbl := List.mem_of_getElem? (i := 615) (by decide +kernel)
theorem ml_X6_71 : Cond.methodLink RX6 71 yX2_cellsOfSquare ∈ lw_tbl := List.mem_of_getElem? (i := 619) (by decide +kernel)
theorem ml_X6_76 : Cond.methodLink RX6 76 yX2_barAmong ∈ lw_tbl := List.mem_of_getElem? (i := 621) (by decide +kernel)
theorem ml_X6_62 : Cond.methodLink RX6 62 yJ9_max_7cf53 ∈ lw_tbl := List.mem_of_getElem? (i := 622) (by decide +kernel)
theorem ml_X6_55 : Cond.methodLink RX6 55 yX6_walk ∈ lw_tbl := List.mem_of_getElem? (i := 623) (by decide +kernel)
theorem ml_X6_83 : Cond.methodLink RX6 83 yX6_firstOfLongest ∈ lw_tbl := List.mem_of_getElem? (i := 627) (by decide +kernel)
theorem ml_L_55 : Cond.methodLink RL 55 yX9_put ∈ lw_tbl := List.mem_of_getElem? (i := 631) (by decide +kernel)
theorem ml_X9_172 : Cond.methodLink RX9 172 yX1_hasBlock ∈ lw_tbl := List.mem_of_getElem? (i := 635) (by decide +kernel)
theorem ml_X1_44 : Cond.methodLinkNest RX1 44 yX9_within "IceHouse" ∈ lw_tbl := List.mem_of_getElem? (i := 639) (by decide +kernel)
theorem ml_X9_175 : Cond.methodLink RX9 175 yX9_isColumn ∈ lw_tbl := List.mem_of_getElem? (i := 640) (by decide +kernel)
theorem ml_X9_181 : Cond.methodLink RX9 181 yX1_isFull ∈ lw_tbl := List.mem_of_getElem? (i := 643) (by decide +kernel)
theorem ml_X9_184 : Cond.methodLink RX9 184 yX1_bringIn ∈ lw_tbl := List.mem_of_getElem? (i := 647) (by decide +kernel)
theorem ml_X1_55 : Cond.methodLink RX1 55 yX1_layOn ∈ lw_tbl := List.mem_of_getElem? (i := 651) (by decide +kernel)
theorem ml_X1_59 : Cond.methodLink RX1 59 yX1_breakShelves ∈ lw_tbl := List.mem_of_getElem? (i := 655) (by decide +kernel)
theorem ml_X1_48 : Cond.methodLink RX1 48 yX1_blockAt ∈ lw_tbl := List.mem_of_getElem? (i := 659) (by decide +kernel)
theorem ml_X1_91 : Cond.methodLink RX1 91 yX1_breaksAt ∈ lw_tbl := List.mem_of_getElem? (i := 663) (by decide +kernel)
theorem ml_X1_85 : Cond.methodLink RX1 85 yX1_loadOver ∈ lw_tbl := List.mem_of_getElem? (i := 667) (by decide +kernel)
theorem ml_X1_67 : Cond.methodLink RX1 67 yX1_removeAt ∈ lw_tbl := List.mem_of_getElem? (i := 671) (by decide +kernel)
theorem ml_X1_76 : Cond.methodLink RX1 76 yX1_letGo ∈ lw_tbl := List.mem_of_getElem? (i := 675) (by decide +kernel)
theorem ml_L_59 : Cond.methodLink RL 59 yX9_take ∈ lw_tbl := List.mem_of_getElem? (i := 679) (by decide +kernel)
theorem ml_X9_191 : Cond.methodLink RX9 191 yX1_isEmpty ∈ lw_tbl := List.mem_of_getElem? (i := 683) (by decide +kernel)
theorem ml_X9_194 : Cond.methodLink RX9 194 yX1_throwOut ∈ lw_tbl := List.mem_of_getElem? (i := 687) (by decide +kernel)
theorem ml_X1_70 : Cond.methodLink RX1 70 yX1_liftTop ∈ lw_tbl := List.mem_of_getElem? (i := 691) (by decide +kernel)
theorem ml_X1_63 : Cond.methodLink RX1 63 yX1_topOf ∈ lw_tbl := List.mem_of_getElem? (i := 695) (by decide +kernel)
theorem ml_L_63 : Cond.methodLink RL 63 yX9_move ∈ lw_tbl := List.mem_of_getElem? (i := 699) (by decide +kernel)
theorem ml_X9_197 : Cond.methodLink RX9 197 yX1_liftTop ∈ lw_tbl := List.mem_of_getElem? (i := 703) (by decide +kernel)
theorem ml_X9_200 : Cond.methodLink RX9 200 yX1_layOn ∈ lw_tbl := List.mem_of_getElem? (i := 704) (by decide +kernel)
theorem ml_L_67 : Cond.methodLink RL 67 yX9_as ∈ lw_tbl := List.mem_of_getElem? (i := 705) (by decide +kernel)
theorem ml_X9_205 : Cond.methodLink RX9 205 yX9_isUnder ∈ lw_tbl := List.mem_of_getElem? (i := 709) (by decide +kernel)
theorem ml_L_71 : Cond.methodLink RL 71 yX9_about ∈ lw_tbl := List.mem_of_getElem? (i := 714) (by decide +kernel)
theorem ml_X9_212 : Cond.methodLink RX9 212 yX1_slotOf ∈ lw_tbl := List.mem_of_getElem? (i := 718) (by decide +kernel)
theorem ml_X9_215 : Cond.methodLink RX9 215 yX1_loadOver ∈ lw_tbl := List.mem_of_getElem? (i := 722) (by decide +kernel)
theorem ml_X9_218 : Cond.methodLink RX9 218 yX1_meltAt ∈ lw_tbl := List.mem_of_getElem? (i := 723) (by decide +kernel)
theorem ml_X1_98 : Cond.methodLink RX1 98 yX7_wallTenths ∈ lw_tbl := List.mem_of_getElem? (i := 727) (by decide +kernel)
theorem ml_X7_31 : Cond.methodLink RX7 31 yX7_rowWall ∈ lw_tbl := List.mem_of_getElem? (i := 731) (by decide +kernel)
theorem ml_X7_35 : Cond.methodLink RX7 35 yX7_tenthsAt ∈ lw_tbl := List.mem_of_getElem? (i := 734) (by decide +kernel)
theorem ml_X7_38 : Cond.methodLink RX7 38 yX7_sideWall ∈ lw_tbl := List.mem_of_getElem? (i := 738) (by decide +kernel)
theorem ml_X1_103 : Cond.methodLink RX1 103 yX1_meltBehind ∈ lw_tbl := List.mem_of_getElem? (i := 741) (by decide +kernel)
theorem ml_X1_107 : Cond.methodLink RX1 107 yX7_warmthOf ∈ lw_tbl := List.mem_of_getElem? (i := 745) (by decide +kernel)
theorem ml_X7_27 : Cond.methodLinkNest RX7 27 yX9_within "IceHouse" ∈ lw_tbl := List.mem_of_getElem? (i := 749) (by decide +kernel)
theorem ml_X1_110 : Cond.methodLink RX1 110 yX1_openTenths ∈ lw_tbl := List.mem_of_getElem? (i := 750) (by decide +kernel)
theorem ml_X1_124 : Cond.methodLink RX1 124 yX1_sideTenths ∈ lw_tbl := List.mem_of_getElem? (i := 754) (by decide +kernel)
theorem ml_X1_116 : Cond.methodLink RX1 116 yJ9_min_7cf53 ∈ lw_tbl := List.mem_of_getElem? (i := 760) (by decide +kernel)
theorem ml_L_75 : Cond.methodLink RL 75 yX9_at ∈ lw_tbl := List.mem_of_getElem? (i := 761) (by decide +kernel)
theorem ml_X9_221 : Cond.methodLink RX9 221 yX1_blockAt ∈ lw_tbl := List.mem_of_getElem? (i := 765) (by decide +kernel)
theorem ml_L_79 : Cond.methodLink RL 79 yX9_dust ∈ lw_tbl := List.mem_of_getElem? (i := 766) (by decide +kernel)
theorem ml_X9_227 : Cond.methodLink RX9 227 yX9_exchange ∈ lw_tbl := List.mem_of_getElem? (i := 770) (by decide +kernel)
theorem ml_L_83 : Cond.methodLink RL 83 yX9_cover ∈ lw_tbl := List.mem_of_getElem? (i := 771) (by decide +kernel)
theorem ml_L_87 : Cond.methodLink RL 87 yX9_warmth ∈ lw_tbl := List.mem_of_getElem? (i := 775) (by decide +kernel)
theorem ml_L_91 : Cond.methodLink RL 91 yX9_melts ∈ lw_tbl := List.mem_of_getElem? (i := 779) (by decide +kernel)
theorem ml_X9_237 : Cond.methodLink RX9 237 yX1_allMelts ∈ lw_tbl := List.mem_of_getElem? (i := 783) (by decide +kernel)
theorem ml_X1_127 : Cond.methodLink RX1 127 yX1_columnMelts ∈ lw_tbl := List.mem_of_getElem? (i := 787) (by decide +kernel)
theorem ml_L_96 : Cond.methodLink RL 96 yX9_weeks ∈ lw_tbl := List.mem_of_getElem? (i := 791) (by decide +kernel)
theorem ml_X9_243 : Cond.methodLink RX9 243 yX1_passWeeks ∈ lw_tbl := List.mem_of_getElem? (i := 795) (by decide +kernel)
theorem ml_X1_130 : Cond.methodLink RX1 130 yX1_meltAll ∈ lw_tbl := List.mem_of_getElem? (i := 799) (by decide +kernel)
theorem ml_X1_136 : Cond.methodLink RX1 136 yX1_meltAt ∈ lw_tbl := List.mem_of_getElem? (i := 803) (by decide +kernel)
theorem ml_X1_133 : Cond.methodLink RX1 133 yX1_dropMelted ∈ lw_tbl := List.mem_of_getElem? (i := 804) (by decide +kernel)
theorem ml_X9_246 : Cond.methodLink RX9 246 yX1_allWeight ∈ lw_tbl := List.mem_of_getElem? (i := 808) (by decide +kernel)
theorem ml_X1_88 : Cond.methodLink RX1 88 yX1_columnWeight ∈ lw_tbl := List.mem_of_getElem? (i := 812) (by decide +kernel)
theorem ml_L_100 : Cond.methodLink RL 100 yX9_after ∈ lw_tbl := List.mem_of_getElem? (i := 816) (by decide +kernel)
theorem ml_X9_249 : Cond.methodLink RX9 249 yX1_becomeLike ∈ lw_tbl := List.mem_of_getElem? (i := 820) (by decide +kernel)
theorem ml_X1_38 : Cond.methodLink RX1 38 arraycopyName ∈ lw_tbl := List.mem_of_getElem? (i := 824) (by decide +kernel)
theorem ml_L_104 : Cond.methodLink RL 104 yX9_lasts ∈ lw_tbl := List.mem_of_getElem? (i := 825) (by decide +kernel)
theorem ml_L_108 : Cond.methodLink RL 108 yX9_best ∈ lw_tbl := List.mem_of_getElem? (i := 830) (by decide +kernel)
theorem ml_X9_253 : Cond.methodLink RX9 253 yX0_plan ∈ lw_tbl := List.mem_of_getElem? (i := 834) (by decide +kernel)
theorem ml_X0_26 : Cond.methodLink RX0 26 yX0_clearTables ∈ lw_tbl := List.mem_of_getElem? (i := 838) (by decide +kernel)
theorem ml_X0_59 : Cond.methodLink RX0 59 yJ7_fill_53178 ∈ lw_tbl := List.mem_of_getElem? (i := 843) (by decide +kernel)
theorem ml_X0_29 : Cond.methodLink RX0 29 yX7_rowWall ∈ lw_tbl := List.mem_of_getElem? (i := 844) (by decide +kernel)
theorem ml_X0_35 : Cond.methodLink RX0 35 yX7_sideWall ∈ lw_tbl := List.mem_of_getElem? (i := 845) (by decide +kernel)
theorem ml_X0_38 : Cond.methodLink RX0 38 yX0_addColumn ∈ lw_tbl := List.mem_of_getElem? (i := 846) (by decide +kernel)
theorem ml_X0_65 : Cond.methodLink RX0 65 yX1_columnMelts ∈ lw_tbl := List.mem_of_getElem? (i := 850) (by decide +kernel)
theorem ml_X0_71 : Cond.methodLink RX0 71 yJ9_max_7cf53 ∈ lw_tbl := List.mem_of_getElem? (i := 851) (by decide +kernel)
theorem ml_X0_42 : Cond.methodLink RX0 42 yX0_trySides ∈ lw_tbl := List.mem_of_getElem? (i := 852) (by decide +kernel)
theorem ml_X0_76 : Cond.methodLink RX0 76 yX0_fillFewest ∈ lw_tbl := List.mem_of_getElem? (i := 856) (by decide +kernel)
theorem ml_X0_83 : Cond.methodLink RX0 83 yX0_sideMelts ∈ lw_tbl := List.mem_of_getElem? (i := 860) (by decide +kernel)
theorem ml_X0_80 : Cond.methodLink RX0 80 yJ9_min_7cf53 ∈ lw_tbl := List.mem_of_getElem? (i := 864) (by decide +kernel)
theorem ml_X0_87 : Cond.methodLink RX0 87 yX0_keep ∈ lw_tbl := List.mem_of_getElem? (i := 865) (by decide +kernel)
theorem ml_L_112 : Cond.methodLink RL 112 yX9_order ∈ lw_tbl := List.mem_of_getElem? (i := 869) (by decide +kernel)
theorem ml_X9_265 : Cond.methodLink RX9 265 yX3_enter ∈ lw_tbl := List.mem_of_getElem? (i := 873) (by decide +kernel)
theorem ml_L_117 : Cond.methodLink RL 117 yX9_why ∈ lw_tbl := List.mem_of_getElem? (i := 877) (by decide +kernel)
theorem ml_X9_269 : Cond.methodLink RX9 269 yX3_has ∈ lw_tbl := List.mem_of_getElem? (i := 881) (by decide +kernel)
theorem ml_X3_39 : Cond.methodLinkNest RX3 39 yX9_within "IceHouse" ∈ lw_tbl := List.mem_of_getElem? (i := 885) (by decide +kernel)
theorem ml_X9_272 : Cond.methodLink RX9 272 yX1_topOf ∈ lw_tbl := List.mem_of_getElem? (i := 886) (by decide +kernel)
theorem ml_X9_275 : Cond.methodLink RX9 275 yX3_hindrance ∈ lw_tbl := List.mem_of_getElem? (i := 887) (by decide +kernel)
theorem ml_X3_51 : Cond.methodLink RX3 51 yX3_isOfGrade ∈ lw_tbl := List.mem_of_getElem? (i := 891) (by decide +kernel)
theorem ml_X3_59 : Cond.methodLinkNest RX3 59 yX9_isUnder "IceHouse" ∈ lw_tbl := List.mem_of_getElem? (i := 894) (by decide +kernel)
theorem ml_X3_55 : Cond.methodLink RX3 55 yX3_whatComes ∈ lw_tbl := List.mem_of_getElem? (i := 895) (by decide +kernel)
theorem ml_X3_66 : Cond.methodLink RX3 66 yX7_warmthOf ∈ lw_tbl := List.mem_of_getElem? (i := 899) (by decide +kernel)
theorem ml_X3_75 : Cond.methodLink RX3 75 yJ9_max_7cf53 ∈ lw_tbl := List.mem_of_getElem? (i := 900) (by decide +kernel)
theorem ml_L_121 : Cond.methodLink RL 121 yX9_serve ∈ lw_tbl := List.mem_of_getElem? (i := 901) (by decide +kernel)
theorem ml_X9_278 : Cond.methodLink RX9 278 yX3_fulfil ∈ lw_tbl := List.mem_of_getElem? (i := 905) (by decide +kernel)
theorem ml_X3_80 : Cond.methodLink RX3 80 yX1_topOf ∈ lw_tbl := List.mem_of_getElem? (i := 909) (by decide +kernel)
theorem ml_X3_83 : Cond.methodLink RX3 83 yX1_sellTop ∈ lw_tbl := List.mem_of_getElem? (i := 910) (by decide +kernel)
theorem ml_L_125 : Cond.methodLink RL 125 yX9_sales ∈ lw_tbl := List.mem_of_getElem? (i := 914) (by decide +kernel)
theorem ml_X9_281 : Cond.methodLink RX9 281 yX5_takeOver ∈ lw_tbl := List.mem_of_getElem? (i := 918) (by decide +kernel)
theorem ml_X5_48 : Cond.methodLink RX5 48 yX8_handOver ∈ lw_tbl := List.mem_of_getElem? (i := 922) (by decide +kernel)
theorem ml_X5_58 : Cond.methodLinkNest RX5 58 yX9_isColumn "IceHouse" ∈ lw_tbl := List.mem_of_getElem? (i := 923) (by decide +kernel)
theorem ml_X9_282 : Cond.methodLink RX9 282 yX5_plan ∈ lw_tbl := List.mem_of_getElem? (i := 924) (by decide +kernel)
theorem ml_X5_76 : Cond.methodLink RX5 76 yX5_fillFits ∈ lw_tbl := List.mem_of_getElem? (i := 928) (by decide +kernel)
theorem ml_X5_92 : Cond.methodLink RX5 92 yX1_blockAt ∈ lw_tbl := List.mem_of_getElem? (i := 932) (by decide +kernel)
theorem ml_X5_96 : Cond.methodLink RX5 96 yX3_hindrance ∈ lw_tbl := List.mem_of_getElem? (i := 933) (by decide +kernel)
theorem ml_X5_99 : Cond.methodLink RX5 99 yX5_slot ∈ lw_tbl := List.mem_of_getElem? (i := 934) (by decide +kernel)
theorem ml_X5_79 : Cond.methodLink RX5 79 yX5_enlist ∈ lw_tbl := List.mem_of_getElem? (i := 937) (by decide +kernel)
theorem ml_X5_83 : Cond.methodLink RX5 83 yX5_tryRows ∈ lw_tbl := List.mem_of_getElem? (i := 941) (by decide +kernel)
theorem ml_X5_106 : Cond.methodLink RX5 106 yX5_keepIfBetter ∈ lw_tbl := List.mem_of_getElem? (i := 944) (by decide +kernel)
theorem ml_X5_124 : Cond.methodLink RX5 124 arraycopyName ∈ lw_tbl := List.mem_of_getElem? (i := 948) (by decide +kernel)
theorem ml_X5_110 : Cond.methodLink RX5 110 yX5_mayImprove ∈ lw_tbl := List.mem_of_getElem? (i := 949) (by decide +kernel)
theorem ml_X5_130 : Cond.methodLink RX5 130 yX5_dearest ∈ lw_tbl := List.mem_of_getElem? (i := 953) (by decide +kernel)
theorem ml_X5_114 : Cond.methodLink RX5 114 yX5_mayServe ∈ lw_tbl := List.mem_of_getElem? (i := 957) (by decide +kernel)
theorem ml_X5_134 : Cond.methodLinkNest RX5 134 yX9_within "IceHouse" ∈ lw_tbl := List.mem_of_getElem? (i := 961) (by decide +kernel)
theorem ml_X5_117 : Cond.methodLink RX5 117 yX5_push ∈ lw_tbl := List.mem_of_getElem? (i := 962) (by decide +kernel)
theorem ml_X5_121 : Cond.methodLink RX5 121 yX5_pop ∈ lw_tbl := List.mem_of_getElem? (i := 966) (by decide +kernel)
theorem ml_L_129 : Cond.methodLink RL 129 yX9_station ∈ lw_tbl := List.mem_of_getElem? (i := 970) (by decide +kernel)
theorem ml_X9_299 : Cond.methodLink RX9 299 yX9_isStation ∈ lw_tbl := List.mem_of_getElem? (i := 974) (by decide +kernel)
theorem ml_X9_303 : Cond.methodLink RX9 303 yX4_enter ∈ lw_tbl := List.mem_of_getElem? (i := 977) (by decide +kernel)
theorem ml_X4_33 : Cond.methodLink RX4 33 yX4_describe ∈ lw_tbl := List.mem_of_getElem? (i := 981) (by decide +kernel)
theorem ml_L_134 : Cond.methodLink RL 134 yX9_change ∈ lw_tbl := List.mem_of_getElem? (i := 985) (by decide +kernel)
theorem ml_X9_309 : Cond.methodLink RX9 309 yX4_describe ∈ lw_tbl := List.mem_of_getElem? (i := 989) (by decide +kernel)
theorem ml_L_139 : Cond.methodLink RL 139 yX9_icing ∈ lw_tbl := List.mem_of_getElem? (i := 990) (by decide +kernel)
theorem ml_X9_313 : Cond.methodLink RX9 313 yX4_plan ∈ lw_tbl := List.mem_of_getElem? (i := 994) (by decide +kernel)
theorem ml_X4_37 : Cond.methodLink RX4 37 yJ7_fill_53178 ∈ lw_tbl := List.mem_of_getElem? (i := 998) (by decide +kernel)
theorem ml_X4_43 : Cond.methodLink RX4 43 yX4_planAt ∈ lw_tbl := List.mem_of_getElem? (i := 999) (by decide +kernel)
theorem ml_X4_47 : Cond.methodLink RX4 47 yJ9_min_7cf53 ∈ lw_tbl := List.mem_of_getElem? (i := 1003) (by decide +kernel)
theorem ml_X4_53 : Cond.methodLink RX4 53 yJ9_max_7cf53 ∈ lw_tbl := List.mem_of_getElem? (i := 1004) (by decide +kernel)
theorem ml_X9_315 : Cond.methodLink RX9 315 yX4_costFrom ∈ lw_tbl := List.mem_of_getElem? (i := 1005) (by decide +kernel)
theorem ml_X9_318 : Cond.methodLink RX9 318 yX4_boughtAt ∈ lw_tbl := List.mem_of_getElem? (i := 1009) (by decide +kernel)
theorem ml_L_143 : Cond.methodLink RL 143 yX9_ledger ∈ lw_tbl := List.mem_of_getElem? (i := 1013) (by decide +kernel)
theorem ml_L_147 : Cond.methodLink RL 147 yX9_tell ∈ lw_tbl := List.mem_of_getElem? (i := 1017) (by decide +kernel)
theorem ml_X9_340 : Cond.methodLink RX9 340 yX8_enter ∈ lw_tbl := List.mem_of_getElem? (i := 1021) (by decide +kernel)
theorem ml_L_151 : Cond.methodLink RL 151 yX9_check ∈ lw_tbl := List.mem_of_getElem? (i := 1025) (by decide +kernel)
theorem ml_X9_342 : Cond.methodLink RX9 342 yX8_clear ∈ lw_tbl := List.mem_of_getElem? (i := 1029) (by decide +kernel)
theorem ml_X9_345 : Cond.methodLink RX9 345 yX8_firstWrong ∈ lw_tbl := List.mem_of_getElem? (i := 1030) (by decide +kernel)
theorem ml_X8_32 : Cond.methodLink RX8 32 yX1_columnWeight ∈ lw_tbl := List.mem_of_getElem? (i := 1034) (by decide +kernel)
theorem ml_L_155 : Cond.methodLink RL 155 yX9_count ∈ lw_tbl := List.mem_of_getElem? (i := 1035) (by decide +kernel)
theorem ml_X9_349 : Cond.methodLink RX9 349 yX1_blocksWhere ∈ lw_tbl := List.mem_of_getElem? (i := 1039) (by decide +kernel)
theorem ml_L_159 : Cond.methodLink RL 159 yX9_found ∈ lw_tbl := List.mem_of_getElem? (i := 1043) (by decide +kernel)
theorem ml_L_12 : Cond.methodLink RL 12 yX10_init ∈ lw_tbl := List.mem_of_getElem? (i := 1049) (by decide +kernel)
theorem ml_L_17 : Cond.methodLink RL 17 yX10_frost ∈ lw_tbl := List.mem_of_getElem? (i := 1198) (by decide +kernel)
theorem ml_X10_123 : Cond.methodLink RX10 123 yX10_isIn ∈ lw_tbl := List.mem_of_getElem? (i := 1202) (by decide +kernel)
theorem ml_X10_127 : Cond.methodLink RX10 127 yX10_finding ∈ lw_tbl := List.mem_of_getElem? (i := 1205) (by decide +kernel)
theorem ml_X10_131 : Cond.methodLink RX10 131 yX10_clean ∈ lw_tbl := List.mem_of_getElem? (i := 1210) (by decide +kernel)
theorem ml_X10_138 : Cond.methodLink RX10 138 yX10_bearing ∈ lw_tbl := List.mem_of_getElem? (i := 1216) (by decide +kernel)
theorem ml_L_21 : Cond.methodLink RL 21 yX10_thaw ∈ lw_tbl := List.mem_of_getElem? (i := 1220) (by decide +kernel)
theorem ml_L_25 : Cond.methodLink RL 25 yX10_snow ∈ lw_tbl := List.mem_of_getElem? (i := 1224) (by decide +kernel)
theorem ml_L_29 : Cond.methodLink RL 29 yX10_scrape ∈ lw_tbl := List.mem_of_getElem? (i := 1228) (by decide +kernel)
theorem ml_L_34 : Cond.methodLink RL 34 yX10_cell ∈ lw_tbl := List.mem_of_getElem? (i := 1232) (by decide +kernel)
theorem ml_X10_141 : Cond.methodLink RX10 141 yX10_isCell ∈ lw_tbl := List.mem_of_getElem? (i := 1236) (by decide +kernel)
theorem ml_L_38 : Cond.methodLink RL 38 yX10_reached ∈ lw_tbl := List.mem_of_getElem? (i := 1239) (by decide +kernel)
theorem ml_X10_153 : Cond.methodLink RX10 153 yX10_flood ∈ lw_tbl := List.mem_of_getElem? (i := 1243) (by decide +kernel)
theorem ml_X10_145 : Cond.methodLink RX10 145 yX10_isOf ∈ lw_tbl := List.mem_of_getElem? (i := 1247) (by decide +kernel)
theorem ml_X10_149 : Cond.methodLink RX10 149 yX10_beside ∈ lw_tbl := List.mem_of_getElem? (i := 1250) (by decide +kernel)
theorem ml_L_42 : Cond.methodLink RL 42 yX10_reach ∈ lw_tbl := List.mem_of_getElem? (i := 1253) (by decide +kernel)
theorem ml_L_46 : Cond.methodLink RL 46 yX10_bars ∈ lw_tbl := List.mem_of_getElem? (i := 1257) (by decide +kernel)
theorem ml_X10_157 : Cond.methodLink RX10 157 yX10_isSquare ∈ lw_tbl := List.mem_of_getElem? (i := 1261) (by decide +kernel)
theorem ml_X10_160 : Cond.methodLink RX10 160 yX10_barOf ∈ lw_tbl := List.mem_of_getElem? (i := 1264) (by decide +kernel)
theorem ml_L_50 : Cond.methodLink RL 50 yX10_cut ∈ lw_tbl := List.mem_of_getElem? (i := 1268) (by decide +kernel)
theorem ml_L_54 : Cond.methodLink RL 54 yX10_season ∈ lw_tbl := List.mem_of_getElem? (i := 1272) (by decide +kernel)
theorem ml_X10_173 : Cond.methodLink RX10 173 yX10_trySeason ∈ lw_tbl := List.mem_of_getElem? (i := 1276) (by decide +kernel)
theorem ml_L_58 : Cond.methodLink RL 58 yX10_put ∈ lw_tbl := List.mem_of_getElem? (i := 1280) (by decide +kernel)
theorem ml_X10_191 : Cond.methodLink RX10 191 yX10_isBlock ∈ lw_tbl := List.mem_of_getElem? (i := 1284) (by decide +kernel)
theorem ml_X10_194 : Cond.methodLink RX10 194 yX10_isColumn ∈ lw_tbl := List.mem_of_getElem? (i := 1288) (by decide +kernel)
theorem ml_X10_197 : Cond.methodLink RX10 197 yX10_lay ∈ lw_tbl := List.mem_of_getElem? (i := 1291) (by decide +kernel)
theorem ml_X10_200 : Cond.methodLink RX10 200 yX10_breakAll ∈ lw_tbl := List.mem_of_getElem? (i := 1295) (by decide +kernel)
theorem ml_X10_179 : Cond.methodLink RX10 179 yX10_blockAt ∈ lw_tbl := List.mem_of_getElem? (i := 1299) (by decide +kernel)
theorem ml_X10_185 : Cond.methodLink RX10 185 yX10_loadOf ∈ lw_tbl := List.mem_of_getElem? (i := 1303) (by decide +kernel)
theorem ml_X10_188 : Cond.methodLink RX10 188 yX10_goes ∈ lw_tbl := List.mem_of_getElem? (i := 1307) (by decide +kernel)
theorem ml_X10_182 : Cond.methodLink RX10 182 yX10_takeOut ∈ lw_tbl := List.mem_of_getElem? (i := 1311) (by decide +kernel)
theorem ml_X10_203 : Cond.methodLink RX10 203 yX10_levelOf ∈ lw_tbl := List.mem_of_getElem? (i := 1315) (by decide +kernel)
theorem ml_L_62 : Cond.methodLink RL 62 yX10_take ∈ lw_tbl := List.mem_of_getElem? (i := 1319) (by decide +kernel)
theorem ml_L_66 : Cond.methodLink RL 66 yX10_move ∈ lw_tbl := List.mem_of_getElem? (i := 1323) (by decide +kernel)
theorem ml_L_70 : Cond.methodLink RL 70 yX10_as ∈ lw_tbl := List.mem_of_getElem? (i := 1327) (by decide +kernel)
theorem ml_L_74 : Cond.methodLink RL 74 yX10_about ∈ lw_tbl := List.mem_of_getElem? (i := 1331) (by decide +kernel)
theorem ml_X10_209 : Cond.methodLink RX10 209 yX10_warmthOf ∈ lw_tbl := List.mem_of_getElem? (i := 1335) (by decide +kernel)
theorem ml_X10_212 : Cond.methodLink RX10 212 yX10_meltOf ∈ lw_tbl := List.mem_of_getElem? (i := 1339) (by decide +kernel)
theorem ml_L_78 : Cond.methodLink RL 78 yX10_at ∈ lw_tbl := List.mem_of_getElem? (i := 1343) (by decide +kernel)
theorem ml_L_82 : Cond.methodLink RL 82 yX10_dust ∈ lw_tbl := List.mem_of_getElem? (i := 1347) (by decide +kernel)
theorem ml_L_86 : Cond.methodLink RL 86 yX10_cover ∈ lw_tbl := List.mem_of_getElem? (i := 1351) (by decide +kernel)
theorem ml_L_90 : Cond.methodLink RL 90 yX10_warmth ∈ lw_tbl := List.mem_of_getElem? (i := 1355) (by decide +kernel)
theorem ml_L_95 : Cond.methodLink RL 95 yX10_melts ∈ lw_tbl := List.mem_of_getElem? (i := 1359) (by decide +kernel)
theorem ml_X10_216 : Cond.methodLink RX10 216 yX10_allMelts ∈ lw_tbl := List.mem_of_getElem? (i := 1363) (by decide +kernel)
theorem ml_L_99 : Cond.methodLink RL 99 yX10_weeks ∈ lw_tbl := List.mem_of_getElem? (i := 1367) (by decide +kernel)
theorem ml_X10_220 : Cond.methodLink RX10 220 yX10_weekGoes ∈ lw_tbl := List.mem_of_getElem? (i := 1371) (by decide +kernel)
theorem ml_X10_223 : Cond.methodLink RX10 223 yX10_allWeight ∈ lw_tbl := List.mem_of_getElem? (i := 1375) (by decide +kernel)
theorem ml_L_103 : Cond.methodLink RL 103 yX10_after ∈ lw_tbl := List.mem_of_getElem? (i := 1379) (by decide +kernel)
theorem ml_X10_236 : Cond.methodLink RX10 236 yX10_layAside ∈ lw_tbl := List.mem_of_getElem? (i := 1383) (by decide +kernel)
theorem ml_X10_229 : Cond.methodLink RX10 229 yX10_lays ∈ lw_tbl := List.mem_of_getElem? (i := 1387) (by decide +kernel)
theorem ml_L_107 : Cond.methodLink RL 107 yX10_lasts ∈ lw_tbl := List.mem_of_getElem? (i := 1391) (by decide +kernel)
theorem ml_L_111 : Cond.methodLink RL 111 yX10_best ∈ lw_tbl := List.mem_of_getElem? (i := 1396) (by decide +kernel)
theorem ml_X10_242 : Cond.methodLink RX10 242 yX10_findDust ∈ lw_tbl := List.mem_of_getElem? (i := 1400) (by decide +kernel)
theorem ml_L_116 : Cond.methodLink RL 116 yX10_order ∈ lw_tbl := List.mem_of_getElem? (i := 1405) (by decide +kernel)
theorem ml_L_120 : Cond.methodLink RL 120 yX10_why ∈ lw_tbl := List.mem_of_getElem? (i := 1409) (by decide +kernel)
theorem ml_X10_254 : Cond.methodLink RX10 254 yX10_isOrder ∈ lw_tbl := List.mem_of_getElem? (i := 1413) (by decide +kernel)
theorem ml_X10_257 : Cond.methodLink RX10 257 yX10_whyNot ∈ lw_tbl := List.mem_of_getElem? (i := 1417) (by decide +kernel)
theorem ml_X10_248 : Cond.methodLink RX10 248 yX10_isOfGrade ∈ lw_tbl := List.mem_of_getElem? (i := 1421) (by decide +kernel)
theorem ml_X10_251 : Cond.methodLink RX10 251 yX10_comesOf ∈ lw_tbl := List.mem_of_getElem? (i := 1425) (by decide +kernel)
theorem ml_L_124 : Cond.methodLink RL 124 yX10_serve ∈ lw_tbl := List.mem_of_getElem? (i := 1429) (by decide +kernel)
theorem ml_L_128 : Cond.methodLink RL 128 yX10_sales ∈ lw_tbl := List.mem_of_getElem? (i := 1433) (by decide +kernel)
theorem ml_X10_266 : Cond.methodLink RX10 266 yX10_trySales ∈ lw_tbl := List.mem_of_getElem? (i := 1437) (by decide +kernel)
theorem ml_L_133 : Cond.methodLink RL 133 yX10_station ∈ lw_tbl := List.mem_of_getElem? (i := 1441) (by decide +kernel)
theorem ml_X10_269 : Cond.methodLink RX10 269 yX10_isStation ∈ lw_tbl := List.mem_of_getElem? (i := 1445) (by decide +kernel)
theorem ml_X10_275 : Cond.methodLink RX10 275 yX10_tellStation ∈ lw_tbl := List.mem_of_getElem? (i := 1448) (by decide +kernel)
theorem ml_L_138 : Cond.methodLink RL 138 yX10_change ∈ lw_tbl := List.mem_of_getElem? (i := 1452) (by decide +kernel)
theorem ml_L_142 : Cond.methodLink RL 142 yX10_icing ∈ lw_tbl := List.mem_of_getElem? (i := 1456) (by decide +kernel)
theorem ml_X10_279 : Cond.methodLink RX10 279 yX10_costOf ∈ lw_tbl := List.mem_of_getElem? (i := 1460) (by decide +kernel)
theorem ml_L_146 : Cond.methodLink RL 146 yX10_ledger ∈ lw_tbl := List.mem_of_getElem? (i := 1464) (by decide +kernel)
theorem ml_L_150 : Cond.methodLink RL 150 yX10_tell ∈ lw_tbl := List.mem_of_getElem? (i := 1468) (by decide +kernel)
theorem ml_L_154 : Cond.methodLink RL 154 yX10_check ∈ lw_tbl := List.mem_of_getElem? (i := 1472) (by decide +kernel)
theorem ml_L_158 : Cond.methodLink RL 158 yX10_count ∈ lw_tbl := List.mem_of_getElem? (i := 1476) (by decide +kernel)
theorem ml_X10_283 : Cond.methodLink RX10 283 yX10_placed ∈ lw_tbl := List.mem_of_getElem? (i := 1480) (by decide +kernel)
theorem ml_L_162 : Cond.methodLink RL 162 yX10_found ∈ lw_tbl := List.mem_of_getElem? (i := 1484) (by decide +kernel)
theorem kc_X9_355 : Cond.constant RX9 355 (-1000000) ∈ lw_tbl := List.mem_of_getElem? (i := 443) (by decide +kernel)
theorem kc_X9_252 : Cond.constant RX9 252 (100000) ∈ lw_tbl := List.mem_of_getElem? (i := 829) (by decide +kernel)
theorem kc_X0_48 : Cond.constant RX0 48 (2147483647) ∈ lw_tbl := List.mem_of_getElem? (i := 842) (by decide +kernel)
theorem kc_X10_122 : Cond.constant RX10 122 (-1000000) ∈ lw_tbl := List.mem_of_getElem? (i := 1209) (by decide +kernel)
theorem kc_X10_240 : Cond.constant RX10 240 (100000) ∈ lw_tbl := List.mem_of_getElem? (i := 1395) (by decide +kernel)
theorem kc_X10_241 : Cond.constant RX10 241 (1000000) ∈ lw_tbl := List.mem_of_getElem? (i := 1404) (by decide +kernel)
theorem kc_J13_314 : Cond.constantLong RJ13 314 (6148914691236517205) ∈ lw_tbl := List.mem_of_getElem? (i := 464) (by decide +kernel)
theorem kc_J13_316 : Cond.constantLong RJ13 316 (3689348814741910323) ∈ lw_tbl := List.mem_of_getElem? (i := 465) (by decide +kernel)
theorem kc_J13_318 : Cond.constantLong RJ13 318 (1085102592571150095) ∈ lw_tbl := List.mem_of_getElem? (i := 466) (by decide +kernel)
theorem kc_X2_51 : Cond.constantLong RX2 51 (255) ∈ lw_tbl := List.mem_of_getElem? (i := 516) (by decide +kernel)
theorem kc_X2_57 : Cond.constantLong RX2 57 (-72340172838076674) ∈ lw_tbl := List.mem_of_getElem? (i := 520) (by decide +kernel)
theorem kc_X2_59 : Cond.constantLong RX2 59 (9187201950435737471) ∈ lw_tbl := List.mem_of_getElem? (i := 521) (by decide +kernel)
theorem kc_X2_65 : Cond.constantLong RX2 65 (771) ∈ lw_tbl := List.mem_of_getElem? (i := 541) (by decide +kernel)
theorem kc_X2_77 : Cond.constantLong RX2 77 (-1) ∈ lw_tbl := List.mem_of_getElem? (i := 546) (by decide +kernel)
theorem kc_X6_74 : Cond.constantLong RX6 74 (-1) ∈ lw_tbl := List.mem_of_getElem? (i := 620) (by decide +kernel)
theorem cw_X0_init : iz_CW yX0_init cX0_init 1 none 0 := ⟨List.mem_of_getElem? (i := 229) (by decide +kernel), List.mem_of_getElem? (i := 72) (by decide +kernel), by decide +kernel, by decide⟩
theorem cw_X0_plan : iz_CW yX0_plan cX0_plan 5 none 2 := ⟨List.mem_of_getElem? (i := 837) (by decide +kernel), List.mem_of_getElem? (i := 72) (by decide +kernel), by decide +kernel, by decide⟩
theorem ci_X0_plan : iz_CI yX0_plan 0 := ⟨List.mem_of_getElem? (i := 835) (by decide +kernel), List.mem_of_getElem? (i := 836) (by decide +kernel), ⟨TX0, 7, rfl⟩⟩
theorem cw_X0_clearTables : iz_CW yX0_clearTables cX0_clearTables 2 none 0 := ⟨List.mem_of_getElem? (i := 841) (by decide +kernel), List.mem_of_getElem? (i := 72) (by decide +kernel), by decide +kernel, by decide⟩
theorem ci_X0_clearTables : iz_CI yX0_clearTables 0 := ⟨List.mem_of_getElem? (i := 840) (by decide +kernel), List.mem_of_getElem? (i := 19) (by decide +kernel), ⟨TX0, 7, rfl⟩⟩
theorem cw_X0_addColumn : iz_CW yX0_addColumn cX0_addColumn 7 none 4 := ⟨List.mem_of_getElem? (i := 849) (by decide +kernel), List.mem_of_getElem? (i := 72) (by decide +kernel), by decide +kernel, by decide⟩
theorem ci_X0_addColumn : iz_CI yX0_addColumn 0 := ⟨List.mem_of_getElem? (i := 848) (by decide +kernel), List.mem_of_getElem? (i := 20) (by decide +kernel), ⟨TX0, 7, rfl⟩⟩
theorem cw_X0_trySides : iz_CW yX0_trySides cX0_trySides 9 none 3 := ⟨List.mem_of_getElem? (i := 855) (by decide +kernel), List.mem_of_getElem? (i := 72) (by decide +kernel), by decide +kernel, by decide⟩
theorem ci_X0_trySides : iz_CI yX0_trySides 0 := ⟨List.mem_of_getElem? (i := 854) (by decide +kernel), List.mem_of_getElem? (i := 21) (by decide +kernel), ⟨TX0, 7, rfl⟩⟩
theorem cw_X0_fillFewest : iz_CW yX0_fillFewest cX0_fillFewest 5 none 2 := ⟨List.mem_of_getElem? (i := 859) (by decide +kernel), List.mem_of_getElem? (i := 72) (by decide +kernel), by decide +kernel, by decide⟩
theorem ci_X0_fillFewest : iz_CI yX0_fillFewest 0 := ⟨List.mem_of_getElem? (i := 858) (by decide +kernel), List.mem_of_getElem? (i := 22) (by decide +kernel), ⟨TX0, 7, rfl⟩⟩
theorem cw_X0_sideMelts : iz_CW yX0_sideMelts cX0_sideMelts 5 (some .int) 4 := ⟨List.mem_of_getElem? (i := 863) (by decide +kernel), List.mem_of_getElem? (i := 72) (by decide +kernel), by decide +kernel, by decide⟩
theorem ci_X0_sideMelts : iz_CI yX0_sideMelts 0 := ⟨List.mem_of_getElem? (i := 862) (by decide +kernel), List.mem_of_getElem? (i := 23) (by decide +kernel), ⟨TX0, 7, rfl⟩⟩
theorem cw_X0_keep : iz_CW yX0_keep cX0_keep 6 none 5 := ⟨List.mem_of_getElem? (i := 868) (by decide +kernel), List.mem_of_getElem? (i := 72) (by decide +kernel), by decide +kernel, by decide⟩
theorem ci_X0_keep : iz_CI yX0_keep 0 := ⟨List.mem_of_getElem? (i := 867) (by decide +kernel), List.mem_of_getElem? (i := 24) (by decide +kernel), ⟨TX0, 7, rfl⟩⟩
theorem cw_X1_init : iz_CW yX1_init cX1_init 2 none 1 := ⟨List.mem_of_getElem? (i := 167) (by decide +kernel), List.mem_of_getElem? (i := 71) (by decide +kernel), by decide +kernel, by decide⟩
theorem cw_X1_becomeLike : iz_CW yX1_becomeLike cX1_becomeLike 2 none 1 := ⟨List.mem_of_getElem? (i := 823) (by decide +kernel), List.mem_of_getElem? (i := 71) (by decide +kernel), by decide +kernel, by decide⟩
theorem ci_X1_becomeLike : iz_CI yX1_becomeLike 1 := ⟨List.mem_of_getElem? (i := 821) (by decide +kernel), List.mem_of_getElem? (i := 822) (by decide +kernel), ⟨TX1, 13, rfl⟩⟩
theorem cw_X1_newBlock : iz_CW yX1_newBlock cX1_newBlock 3 (some .int) 2 := ⟨List.mem_of_getElem? (i := 568) (by decide +kernel), List.mem_of_getElem? (i := 71) (by decide +kernel), by decide +kernel, by decide⟩
theorem ci_X1_newBlock : iz_CI yX1_newBlock 1 := ⟨List.mem_of_getElem? (i := 566) (by decide +kernel), List.mem_of_getElem? (i := 567) (by decide +kernel), ⟨TX1, 13, rfl⟩⟩
theorem cw_X1_hasBlock : iz_CW yX1_hasBlock cX1_hasBlock 2 (some .boolean) 1 := ⟨List.mem_of_getElem? (i := 638) (by decide +kernel), List.mem_of_getElem? (i := 71) (by decide +kernel), by decide +kernel, by decide⟩
theorem ci_X1_hasBlock : iz_CI yX1_hasBlock 1 := ⟨List.mem_of_getElem? (i := 636) (by decide +kernel), List.mem_of_getElem? (i := 637) (by decide +kernel), ⟨TX1, 13, rfl⟩⟩
theorem cw_X1_blocksWhere : iz_CW yX1_blocksWhere cX1_blocksWhere 4 (some .int) 1 := ⟨List.mem_of_getElem? (i := 1042) (by decide +kernel), List.mem_of_getElem? (i := 71) (by decide +kernel), by decide +kernel, by decide⟩
theorem ci_X1_blocksWhere : iz_CI yX1_blocksWhere 1 := ⟨List.mem_of_getElem? (i := 1040) (by decide +kernel), List.mem_of_getElem? (i := 1041) (by decide +kernel), ⟨TX1, 13, rfl⟩⟩
theorem cw_X1_isEmpty : iz_CW yX1_isEmpty cX1_isEmpty 2 (some .boolean) 1 := ⟨List.mem_of_getElem? (i := 686) (by decide +kernel), List.mem_of_getElem? (i := 71) (by decide +kernel), by decide +kernel, by decide⟩
theorem ci_X1_isEmpty : iz_CI yX1_isEmpty 1 := ⟨List.mem_of_getElem? (i := 684) (by decide +kernel), List.mem_of_getElem? (i := 685) (by decide +kernel), ⟨TX1, 13, rfl⟩⟩
theorem cw_X1_isFull : iz_CW yX1_isFull cX1_isFull 2 (some .boolean) 1 := ⟨List.mem_of_getElem? (i := 646) (by decide +kernel), List.mem_of_getElem? (i := 71) (by decide +kernel), by decide +kernel, by decide⟩
theorem ci_X1_isFull : iz_CI yX1_isFull 1 := ⟨List.mem_of_getElem? (i := 644) (by decide +kernel), List.mem_of_getElem? (i := 645) (by decide +kernel), ⟨TX1, 13, rfl⟩⟩
theorem cw_X1_blockAt : iz_CW yX1_blockAt cX1_blockAt 3 (some .int) 2 := ⟨List.mem_of_getElem? (i := 662) (by decide +kernel), List.mem_of_getElem? (i := 71) (by decide +kernel), by decide +kernel, by decide⟩
theorem ci_X1_blockAt : iz_CI yX1_blockAt 1 := ⟨List.mem_of_getElem? (i := 660) (by decide +kernel), List.mem_of_getElem? (i := 661) (by decide +kernel), ⟨TX1, 13, rfl⟩⟩
theorem cw_X1_topOf : iz_CW yX1_topOf cX1_topOf 2 (some .int) 1 := ⟨List.mem_of_getElem? (i := 698) (by decide +kernel), List.mem_of_getElem? (i := 71) (by decide +kernel), by decide +kernel, by decide⟩
theorem ci_X1_topOf : iz_CI yX1_topOf 1 := ⟨List.mem_of_getElem? (i := 696) (by decide +kernel), List.mem_of_getElem? (i := 697) (by decide +kernel), ⟨TX1, 13, rfl⟩⟩
theorem cw_X1_slotOf : iz_CW yX1_slotOf cX1_slotOf 3 (some .int) 1 := ⟨List.mem_of_getElem? (i := 721) (by decide +kernel), List.mem_of_getElem? (i := 71) (by decide +kernel), by decide +kernel, by decide⟩
theorem ci_X1_slotOf : iz_CI yX1_slotOf 1 := ⟨List.mem_of_getElem? (i := 719) (by decide +kernel), List.mem_of_getElem? (i := 720) (by decide +kernel), ⟨TX1, 13, rfl⟩⟩
theorem cw_X1_bringIn : iz_CW yX1_bringIn cX1_bringIn 3 none 2 := ⟨List.mem_of_getElem? (i := 650) (by decide +kernel), List.mem_of_getElem? (i := 71) (by decide +kernel), by decide +kernel, by decide⟩
theorem ci_X1_bringIn : iz_CI yX1_bringIn 1 := ⟨List.mem_of_getElem? (i := 648) (by decide +kernel), List.mem_of_getElem? (i := 649) (by decide +kernel), ⟨TX1, 13, rfl⟩⟩
theorem cw_X1_layOn : iz_CW yX1_layOn cX1_layOn 3 none 2 := ⟨List.mem_of_getElem? (i := 654) (by decide +kernel), List.mem_of_getElem? (i := 71) (by decide +kernel), by decide +kernel, by decide⟩
theorem ci_X1_layOn : iz_CI yX1_layOn 1 := ⟨List.mem_of_getElem? (i := 652) (by decide +kernel), List.mem_of_getElem? (i := 653) (by decide +kernel), ⟨TX1, 13, rfl⟩⟩
theorem cw_X1_liftTop : iz_CW yX1_liftTop cX1_liftTop 3 (some .int) 1 := ⟨List.mem_of_getElem? (i := 694) (by decide +kernel), List.mem_of_getElem? (i := 71) (by decide +kernel), by decide +kernel, by decide⟩
theorem ci_X1_liftTop : iz_CI yX1_liftTop 1 := ⟨List.mem_of_getElem? (i := 692) (by decide +kernel), List.mem_of_getElem? (i := 693) (by decide +kernel), ⟨TX1, 13, rfl⟩⟩
theorem cw_X1_throwOut : iz_CW yX1_throwOut cX1_throwOut 3 (some .int) 1 := ⟨List.mem_of_getElem? (i := 690) (by decide +kernel), List.mem_of_getElem? (i := 71) (by decide +kernel), by decide +kernel, by decide⟩
theorem ci_X1_throwOut : iz_CI yX1_throwOut 1 := ⟨List.mem_of_getElem? (i := 688) (by decide +kernel), List.mem_of_getElem? (i := 689) (by decide +kernel), ⟨TX1, 13, rfl⟩⟩
theorem cw_X1_sellTop : iz_CW yX1_sellTop cX1_sellTop 4 none 2 := ⟨List.mem_of_getElem? (i := 913) (by decide +kernel), List.mem_of_getElem? (i := 71) (by decide +kernel), by decide +kernel, by decide⟩
theorem ci_X1_sellTop : iz_CI yX1_sellTop 1 := ⟨List.mem_of_getElem? (i := 911) (by decide +kernel), List.mem_of_getElem? (i := 912) (by decide +kernel), ⟨TX1, 13, rfl⟩⟩
theorem cw_X1_letGo : iz_CW yX1_letGo cX1_letGo 2 none 1 := ⟨List.mem_of_getElem? (i := 678) (by decide +kernel), List.mem_of_getElem? (i := 71) (by decide +kernel), by decide +kernel, by decide⟩
theorem ci_X1_letGo : iz_CI yX1_letGo 1 := ⟨List.mem_of_getElem? (i := 677) (by decide +kernel), List.mem_of_getElem? (i := 12) (by decide +kernel), ⟨TX1, 13, rfl⟩⟩
theorem cw_X1_removeAt : iz_CW yX1_removeAt cX1_removeAt 5 none 2 := ⟨List.mem_of_getElem? (i := 674) (by decide +kernel), List.mem_of_getElem? (i := 71) (by decide +kernel), by decide +kernel, by decide⟩
theorem ci_X1_removeAt : iz_CI yX1_removeAt 1 := ⟨List.mem_of_getElem? (i := 673) (by decide +kernel), List.mem_of_getElem? (i := 11) (by decide +kernel), ⟨TX1, 13, rfl⟩⟩
theorem cw_X1_loadOver : iz_CW yX1_loadOver cX1_loadOver 5 (some .int) 2 := ⟨List.mem_of_getElem? (i := 670) (by decide +kernel), List.mem_of_getElem? (i := 71) (by decide +kernel), by decide +kernel, by decide⟩
theorem ci_X1_loadOver : iz_CI yX1_loadOver 1 := ⟨List.mem_of_getElem? (i := 668) (by decide +kernel), List.mem_of_getElem? (i := 669) (by decide +kernel), ⟨TX1, 13, rfl⟩⟩
theorem cw_X1_columnWeight : iz_CW yX1_columnWeight cX1_columnWeight 2 (some .int) 1 := ⟨List.mem_of_getElem? (i := 815) (by decide +kernel), List.mem_of_getElem? (i := 71) (by decide +kernel), by decide +kernel, by decide⟩
theorem ci_X1_columnWeight : iz_CI yX1_columnWeight 1 := ⟨List.mem_of_getElem? (i := 813) (by decide +kernel), List.mem_of_getElem? (i := 814) (by decide +kernel), ⟨TX1, 13, rfl⟩⟩
theorem cw_X1_allWeight : iz_CW yX1_allWeight cX1_allWeight 3 (some .int) 0 := ⟨List.mem_of_getElem? (i := 811) (by decide +kernel), List.mem_of_getElem? (i := 71) (by decide +kernel), by decide +kernel, by decide⟩
theorem ci_X1_allWeight : iz_CI yX1_allWeight 1 := ⟨List.mem_of_getElem? (i := 809) (by decide +kernel), List.mem_of_getElem? (i := 810) (by decide +kernel), ⟨TX1, 13, rfl⟩⟩
theorem cw_X1_breakShelves : iz_CW yX1_breakShelves cX1_breakShelves 5 none 1 := ⟨List.mem_of_getElem? (i := 658) (by decide +kernel), List.mem_of_getElem? (i := 71) (by decide +kernel), by decide +kernel, by decide⟩
theorem ci_X1_breakShelves : iz_CI yX1_breakShelves 1 := ⟨List.mem_of_getElem? (i := 657) (by decide +kernel), List.mem_of_getElem? (i := 9) (by decide +kernel), ⟨TX1, 13, rfl⟩⟩
theorem cw_X1_breaksAt : iz_CW yX1_breaksAt cX1_breaksAt 4 (some .boolean) 2 := ⟨List.mem_of_getElem? (i := 666) (by decide +kernel), List.mem_of_getElem? (i := 71) (by decide +kernel), by decide +kernel, by decide⟩
theorem ci_X1_breaksAt : iz_CI yX1_breaksAt 1 := ⟨List.mem_of_getElem? (i := 665) (by decide +kernel), List.mem_of_getElem? (i := 10) (by decide +kernel), ⟨TX1, 13, rfl⟩⟩
theorem cw_X1_meltAt : iz_CW yX1_meltAt cX1_meltAt 3 (some .int) 2 := ⟨List.mem_of_getElem? (i := 726) (by decide +kernel), List.mem_of_getElem? (i := 71) (by decide +kernel), by decide +kernel, by decide⟩
theorem ci_X1_meltAt : iz_CI yX1_meltAt 1 := ⟨List.mem_of_getElem? (i := 724) (by decide +kernel), List.mem_of_getElem? (i := 725) (by decide +kernel), ⟨TX1, 13, rfl⟩⟩
theorem cw_X1_meltBehind : iz_CW yX1_meltBehind cX1_meltBehind 6 (some .int) 3 := ⟨List.mem_of_getElem? (i := 744) (by decide +kernel), List.mem_of_getElem? (i := 71) (by decide +kernel), by decide +kernel, by decide⟩
theorem ci_X1_meltBehind : iz_CI yX1_meltBehind 1 := ⟨List.mem_of_getElem? (i := 743) (by decide +kernel), List.mem_of_getElem? (i := 14) (by decide +kernel), ⟨TX1, 13, rfl⟩⟩
theorem cw_X1_openTenths : iz_CW yX1_openTenths cX1_openTenths 6 (some .int) 2 := ⟨List.mem_of_getElem? (i := 753) (by decide +kernel), List.mem_of_getElem? (i := 71) (by decide +kernel), by decide +kernel, by decide⟩
theorem ci_X1_openTenths : iz_CI yX1_openTenths 1 := ⟨List.mem_of_getElem? (i := 752) (by decide +kernel), List.mem_of_getElem? (i := 15) (by decide +kernel), ⟨TX1, 13, rfl⟩⟩
theorem cw_X1_sideTenths : iz_CW yX1_sideTenths cX1_sideTenths 3 (some .int) 2 := ⟨List.mem_of_getElem? (i := 757) (by decide +kernel), List.mem_of_getElem? (i := 71) (by decide +kernel), by decide +kernel, by decide⟩
theorem ci_X1_sideTenths : iz_CI yX1_sideTenths 1 := ⟨List.mem_of_getElem? (i := 756) (by decide +kernel), List.mem_of_getElem? (i := 16) (by decide +kernel), ⟨TX1, 13, rfl⟩⟩
theorem cw_X1_columnMelts : iz_CW yX1_columnMelts cX1_columnMelts 5 (some .int) 2 := ⟨List.mem_of_getElem? (i := 790) (by decide +kernel), List.mem_of_getElem? (i := 71) (by decide +kernel), by decide +kernel, by decide⟩
theorem ci_X1_columnMelts : iz_CI yX1_columnMelts 1 := ⟨List.mem_of_getElem? (i := 788) (by decide +kernel), List.mem_of_getElem? (i := 789) (by decide +kernel), ⟨TX1, 13, rfl⟩⟩
theorem cw_X1_allMelts : iz_CW yX1_allMelts cX1_allMelts 3 (some .int) 0 := ⟨List.mem_of_getElem? (i := 786) (by decide +kernel), List.mem_of_getElem? (i := 71) (by decide +kernel), by decide +kernel, by decide⟩
theorem ci_X1_allMelts : iz_CI yX1_allMelts 1 := ⟨List.mem_of_getElem? (i := 784) (by decide +kernel), List.mem_of_getElem? (i := 785) (by decide +kernel), ⟨TX1, 13, rfl⟩⟩
theorem cw_X1_passWeeks : iz_CW yX1_passWeeks cX1_passWeeks 4 none 1 := ⟨List.mem_of_getElem? (i := 798) (by decide +kernel), List.mem_of_getElem? (i := 71) (by decide +kernel), by decide +kernel, by decide⟩
theorem ci_X1_passWeeks : iz_CI yX1_passWeeks 1 := ⟨List.mem_of_getElem? (i := 796) (by decide +kernel), List.mem_of_getElem? (i := 797) (by decide +kernel), ⟨TX1, 13, rfl⟩⟩
theorem cw_X1_meltAll : iz_CW yX1_meltAll cX1_meltAll 4 none 0 := ⟨List.mem_of_getElem? (i := 802) (by decide +kernel), List.mem_of_getElem? (i := 71) (by decide +kernel), by decide +kernel, by decide⟩
theorem ci_X1_meltAll : iz_CI yX1_meltAll 1 := ⟨List.mem_of_getElem? (i := 801) (by decide +kernel), List.mem_of_getElem? (i := 17) (by decide +kernel), ⟨TX1, 13, rfl⟩⟩
theorem cw_X1_dropMelted : iz_CW yX1_dropMelted cX1_dropMelted 4 none 1 := ⟨List.mem_of_getElem? (i := 807) (by decide +kernel), List.mem_of_getElem? (i := 71) (by decide +kernel), by decide +kernel, by decide⟩
theorem ci_X1_dropMelted : iz_CI yX1_dropMelted 1 := ⟨List.mem_of_getElem? (i := 806) (by decide +kernel), List.mem_of_getElem? (i := 18) (by decide +kernel), ⟨TX1, 13, rfl⟩⟩
theorem cw_X2_init : iz_CW yX2_init cX2_init 1 none 0 := ⟨List.mem_of_getElem? (i := 93) (by decide +kernel), List.mem_of_getElem? (i := 67) (by decide +kernel), by decide +kernel, by decide⟩
theorem cw_X2_freeze : iz_CW yX2_freeze cX2_freeze 4 none 1 := ⟨List.mem_of_getElem? (i := 447) (by decide +kernel), List.mem_of_getElem? (i := 67) (by decide +kernel), by decide +kernel, by decide⟩
theorem ci_X2_freeze : iz_CI yX2_freeze 2 := ⟨List.mem_of_getElem? (i := 445) (by decide +kernel), List.mem_of_getElem? (i := 446) (by decide +kernel), ⟨TX2, 3, rfl⟩⟩
theorem cw_X2_rootUpFrom : iz_CW yX2_rootUpFrom cX2_rootUpFrom 3 (some .int) 2 := ⟨List.mem_of_getElem? (i := 450) (by decide +kernel), List.mem_of_getElem? (i := 67) (by decide +kernel), by decide +kernel, by decide⟩
theorem ci_X2_rootUpFrom : Cond.static yX2_rootUpFrom ∈ lw_tbl := List.mem_of_getElem? (i := 449) (by decide +kernel)
theorem cw_X2_soften : iz_CW yX2_soften cX2_soften 3 none 1 := ⟨List.mem_of_getElem? (i := 474) (by decide +kernel), List.mem_of_getElem? (i := 67) (by decide +kernel), by decide +kernel, by decide⟩
theorem ci_X2_soften : iz_CI yX2_soften 2 := ⟨List.mem_of_getElem? (i := 472) (by decide +kernel), List.mem_of_getElem? (i := 473) (by decide +kernel), ⟨TX2, 3, rfl⟩⟩
theorem cw_X2_snowOver : iz_CW yX2_snowOver cX2_snowOver 4 (some .int) 1 := ⟨List.mem_of_getElem? (i := 490) (by decide +kernel), List.mem_of_getElem? (i := 67) (by decide +kernel), by decide +kernel, by decide⟩
theorem ci_X2_snowOver : iz_CI yX2_snowOver 2 := ⟨List.mem_of_getElem? (i := 488) (by decide +kernel), List.mem_of_getElem? (i := 489) (by decide +kernel), ⟨TX2, 3, rfl⟩⟩
theorem cw_X2_clearRow : iz_CW yX2_clearRow cX2_clearRow 4 (some .int) 1 := ⟨List.mem_of_getElem? (i := 501) (by decide +kernel), List.mem_of_getElem? (i := 67) (by decide +kernel), by decide +kernel, by decide⟩
theorem ci_X2_clearRow : iz_CI yX2_clearRow 2 := ⟨List.mem_of_getElem? (i := 499) (by decide +kernel), List.mem_of_getElem? (i := 500) (by decide +kernel), ⟨TX2, 3, rfl⟩⟩
theorem cw_X2_frozenCells : iz_CW yX2_frozenCells cX2_frozenCells 1 (some .int) 0 := ⟨List.mem_of_getElem? (i := 481) (by decide +kernel), List.mem_of_getElem? (i := 67) (by decide +kernel), by decide +kernel, by decide⟩
theorem ci_X2_frozenCells : iz_CI yX2_frozenCells 2 := ⟨List.mem_of_getElem? (i := 479) (by decide +kernel), List.mem_of_getElem? (i := 480) (by decide +kernel), ⟨TX2, 3, rfl⟩⟩
theorem cw_X2_bearing : iz_CW yX2_bearing cX2_bearing 2 (some .long) 1 := ⟨List.mem_of_getElem? (i := 454) (by decide +kernel), List.mem_of_getElem? (i := 67) (by decide +kernel), by decide +kernel, by decide⟩
theorem ci_X2_bearing : iz_CI yX2_bearing 2 := ⟨List.mem_of_getElem? (i := 452) (by decide +kernel), List.mem_of_getElem? (i := 453) (by decide +kernel), ⟨TX2, 3, rfl⟩⟩
theorem cw_X2_cellsOf : iz_CW yX2_cellsOf cX2_cellsOf 5 (some .long) 1 := ⟨List.mem_of_getElem? (i := 460) (by decide +kernel), List.mem_of_getElem? (i := 67) (by decide +kernel), by decide +kernel, by decide⟩
theorem ci_X2_cellsOf : iz_CI yX2_cellsOf 2 := ⟨List.mem_of_getElem? (i := 458) (by decide +kernel), List.mem_of_getElem? (i := 459) (by decide +kernel), ⟨TX2, 3, rfl⟩⟩
theorem cw_X2_reachedOver : iz_CW yX2_reachedOver cX2_reachedOver 7 (some .long) 1 := ⟨List.mem_of_getElem? (i := 515) (by decide +kernel), List.mem_of_getElem? (i := 67) (by decide +kernel), by decide +kernel, by decide⟩
theorem ci_X2_reachedOver : Cond.static yX2_reachedOver ∈ lw_tbl := List.mem_of_getElem? (i := 514) (by decide +kernel)
theorem cw_X2_beside : iz_CW yX2_beside cX2_beside 2 (some .long) 1 := ⟨List.mem_of_getElem? (i := 519) (by decide +kernel), List.mem_of_getElem? (i := 67) (by decide +kernel), by decide +kernel, by decide⟩
theorem ci_X2_beside : Cond.static yX2_beside ∈ lw_tbl := List.mem_of_getElem? (i := 518) (by decide +kernel)
theorem cw_X2_isSquare : iz_CW yX2_isSquare cX2_isSquare 1 (some .boolean) 1 := ⟨List.mem_of_getElem? (i := 532) (by decide +kernel), List.mem_of_getElem? (i := 67) (by decide +kernel), by decide +kernel, by decide⟩
theorem ci_X2_isSquare : Cond.static yX2_isSquare ∈ lw_tbl := List.mem_of_getElem? (i := 531) (by decide +kernel)
theorem cw_X2_cellsOfSquare : iz_CW yX2_cellsOfSquare cX2_cellsOfSquare 1 (some .long) 1 := ⟨List.mem_of_getElem? (i := 540) (by decide +kernel), List.mem_of_getElem? (i := 67) (by decide +kernel), by decide +kernel, by decide⟩
theorem ci_X2_cellsOfSquare : Cond.static yX2_cellsOfSquare ∈ lw_tbl := List.mem_of_getElem? (i := 539) (by decide +kernel)
theorem cw_X2_barTo : iz_CW yX2_barTo cX2_barTo 2 (some .int) 1 := ⟨List.mem_of_getElem? (i := 537) (by decide +kernel), List.mem_of_getElem? (i := 67) (by decide +kernel), by decide +kernel, by decide⟩
theorem ci_X2_barTo : iz_CI yX2_barTo 2 := ⟨List.mem_of_getElem? (i := 535) (by decide +kernel), List.mem_of_getElem? (i := 536) (by decide +kernel), ⟨TX2, 3, rfl⟩⟩
theorem cw_X2_barAmong : iz_CW yX2_barAmong cX2_barAmong 8 (some .int) 3 := ⟨List.mem_of_getElem? (i := 545) (by decide +kernel), List.mem_of_getElem? (i := 67) (by decide +kernel), by decide +kernel, by decide⟩
theorem ci_X2_barAmong : Cond.static yX2_barAmong ∈ lw_tbl := List.mem_of_getElem? (i := 544) (by decide +kernel)
theorem cw_X2_thicksOf : iz_CW yX2_thicksOf cX2_thicksOf 2 (some .int) 1 := ⟨List.mem_of_getElem? (i := 563) (by decide +kernel), List.mem_of_getElem? (i := 67) (by decide +kernel), by decide +kernel, by decide⟩
theorem ci_X2_thicksOf : iz_CI yX2_thicksOf 2 := ⟨List.mem_of_getElem? (i := 561) (by decide +kernel), List.mem_of_getElem? (i := 562) (by decide +kernel), ⟨TX2, 3, rfl⟩⟩
theorem cw_X2_kindOf : iz_CW yX2_kindOf cX2_kindOf 3 (some .int) 1 := ⟨List.mem_of_getElem? (i := 555) (by decide +kernel), List.mem_of_getElem? (i := 67) (by decide +kernel), by decide +kernel, by decide⟩
theorem ci_X2_kindOf : iz_CI yX2_kindOf 2 := ⟨List.mem_of_getElem? (i := 553) (by decide +kernel), List.mem_of_getElem? (i := 554) (by decide +kernel), ⟨TX2, 3, rfl⟩⟩
theorem cw_X2_milk : iz_CW yX2_milk cX2_milk 2 (some .int) 1 := ⟨List.mem_of_getElem? (i := 559) (by decide +kernel), List.mem_of_getElem? (i := 67) (by decide +kernel), by decide +kernel, by decide⟩
theorem ci_X2_milk : iz_CI yX2_milk 2 := ⟨List.mem_of_getElem? (i := 558) (by decide +kernel), List.mem_of_getElem? (i := 1) (by decide +kernel), ⟨TX2, 3, rfl⟩⟩
theorem cw_X2_open : iz_CW yX2_open cX2_open 2 none 1 := ⟨List.mem_of_getElem? (i := 572) (by decide +kernel), List.mem_of_getElem? (i := 67) (by decide +kernel), by decide +kernel, by decide⟩
theorem ci_X2_open : iz_CI yX2_open 2 := ⟨List.mem_of_getElem? (i := 570) (by decide +kernel), List.mem_of_getElem? (i := 571) (by decide +kernel), ⟨TX2, 3, rfl⟩⟩
theorem cw_X2_openCell : iz_CW yX2_openCell cX2_openCell 2 none 1 := ⟨List.mem_of_getElem? (i := 576) (by decide +kernel), List.mem_of_getElem? (i := 67) (by decide +kernel), by decide +kernel, by decide⟩
theorem ci_X2_openCell : iz_CI yX2_openCell 2 := ⟨List.mem_of_getElem? (i := 575) (by decide +kernel), List.mem_of_getElem? (i := 2) (by decide +kernel), ⟨TX2, 3, rfl⟩⟩
theorem cw_X3_init : iz_CW yX3_init cX3_init 2 none 1 := ⟨List.mem_of_getElem? (i := 261) (by decide +kernel), List.mem_of_getElem? (i := 73) (by decide +kernel), by decide +kernel, by decide⟩
theorem cw_X3_has : iz_CW yX3_has cX3_has 2 (some .boolean) 1 := ⟨List.mem_of_getElem? (i := 884) (by decide +kernel), List.mem_of_getElem? (i := 73) (by decide +kernel), by decide +kernel, by decide⟩
theorem ci_X3_has : iz_CI yX3_has 3 := ⟨List.mem_of_getElem? (i := 882) (by decide +kernel), List.mem_of_getElem? (i := 883) (by decide +kernel), ⟨TX3, 10, rfl⟩⟩
theorem cw_X3_enter : iz_CW yX3_enter cX3_enter 6 (some .int) 5 := ⟨List.mem_of_getElem? (i := 876) (by decide +kernel), List.mem_of_getElem? (i := 73) (by decide +kernel), by decide +kernel, by decide⟩
theorem ci_X3_enter : iz_CI yX3_enter 3 := ⟨List.mem_of_getElem? (i := 874) (by decide +kernel), List.mem_of_getElem? (i := 875) (by decide +kernel), ⟨TX3, 10, rfl⟩⟩
theorem cw_X3_hindrance : iz_CW yX3_hindrance cX3_hindrance 3 (some .int) 2 := ⟨List.mem_of_getElem? (i := 890) (by decide +kernel), List.mem_of_getElem? (i := 73) (by decide +kernel), by decide +kernel, by decide⟩
theorem ci_X3_hindrance : iz_CI yX3_hindrance 3 := ⟨List.mem_of_getElem? (i := 888) (by decide +kernel), List.mem_of_getElem? (i := 889) (by decide +kernel), ⟨TX3, 10, rfl⟩⟩
theorem cw_X3_isOfGrade : iz_CW yX3_isOfGrade cX3_isOfGrade 2 (some .boolean) 2 := ⟨List.mem_of_getElem? (i := 893) (by decide +kernel), List.mem_of_getElem? (i := 73) (by decide +kernel), by decide +kernel, by decide⟩
theorem ci_X3_isOfGrade : Cond.static yX3_isOfGrade ∈ lw_tbl := List.mem_of_getElem? (i := 892) (by decide +kernel)
theorem cw_X3_whatComes : iz_CW yX3_whatComes cX3_whatComes 4 (some .int) 2 := ⟨List.mem_of_getElem? (i := 898) (by decide +kernel), List.mem_of_getElem? (i := 73) (by decide +kernel), by decide +kernel, by decide⟩
theorem ci_X3_whatComes : iz_CI yX3_whatComes 3 := ⟨List.mem_of_getElem? (i := 897) (by decide +kernel), List.mem_of_getElem? (i := 25) (by decide +kernel), ⟨TX3, 10, rfl⟩⟩
theorem cw_X3_fulfil : iz_CW yX3_fulfil cX3_fulfil 4 (some .int) 2 := ⟨List.mem_of_getElem? (i := 908) (by decide +kernel), List.mem_of_getElem? (i := 73) (by decide +kernel), by decide +kernel, by decide⟩
theorem ci_X3_fulfil : iz_CI yX3_fulfil 3 := ⟨List.mem_of_getElem? (i := 906) (by decide +kernel), List.mem_of_getElem? (i := 907) (by decide +kernel), ⟨TX3, 10, rfl⟩⟩
theorem cw_X4_init : iz_CW yX4_init cX4_init 1 none 0 := ⟨List.mem_of_getElem? (i := 360) (by decide +kernel), List.mem_of_getElem? (i := 75) (by decide +kernel), by decide +kernel, by decide⟩
theorem cw_X4_enter : iz_CW yX4_enter cX4_enter 4 (some .int) 3 := ⟨List.mem_of_getElem? (i := 980) (by decide +kernel), List.mem_of_getElem? (i := 75) (by decide +kernel), by decide +kernel, by decide⟩
theorem ci_X4_enter : iz_CI yX4_enter 4 := ⟨List.mem_of_getElem? (i := 978) (by decide +kernel), List.mem_of_getElem? (i := 979) (by decide +kernel), ⟨TX4, 6, rfl⟩⟩
theorem cw_X4_describe : iz_CW yX4_describe cX4_describe 5 none 4 := ⟨List.mem_of_getElem? (i := 984) (by decide +kernel), List.mem_of_getElem? (i := 75) (by decide +kernel), by decide +kernel, by decide⟩
theorem ci_X4_describe : iz_CI yX4_describe 4 := ⟨List.mem_of_getElem? (i := 982) (by decide +kernel), List.mem_of_getElem? (i := 983) (by decide +kernel), ⟨TX4, 6, rfl⟩⟩
theorem cw_X4_plan : iz_CW yX4_plan cX4_plan 4 none 1 := ⟨List.mem_of_getElem? (i := 997) (by decide +kernel), List.mem_of_getElem? (i := 75) (by decide +kernel), by decide +kernel, by decide⟩
theorem ci_X4_plan : iz_CI yX4_plan 4 := ⟨List.mem_of_getElem? (i := 995) (by decide +kernel), List.mem_of_getElem? (i := 996) (by decide +kernel), ⟨TX4, 6, rfl⟩⟩
theorem cw_X4_planAt : iz_CW yX4_planAt cX4_planAt 10 none 3 := ⟨List.mem_of_getElem? (i := 1002) (by decide +kernel), List.mem_of_getElem? (i := 75) (by decide +kernel), by decide +kernel, by decide⟩
theorem ci_X4_planAt : iz_CI yX4_planAt 4 := ⟨List.mem_of_getElem? (i := 1001) (by decide +kernel), List.mem_of_getElem? (i := 34) (by decide +kernel), ⟨TX4, 6, rfl⟩⟩
theorem cw_X4_costFrom : iz_CW yX4_costFrom cX4_costFrom 2 (some .int) 1 := ⟨List.mem_of_getElem? (i := 1008) (by decide +kernel), List.mem_of_getElem? (i := 75) (by decide +kernel), by decide +kernel, by decide⟩
theorem ci_X4_costFrom : iz_CI yX4_costFrom 4 := ⟨List.mem_of_getElem? (i := 1006) (by decide +kernel), List.mem_of_getElem? (i := 1007) (by decide +kernel), ⟨TX4, 6, rfl⟩⟩
theorem cw_X4_boughtAt : iz_CW yX4_boughtAt cX4_boughtAt 5 (some .int) 2 := ⟨List.mem_of_getElem? (i := 1012) (by decide +kernel), List.mem_of_getElem? (i := 75) (by decide +kernel), by decide +kernel, by decide⟩
theorem ci_X4_boughtAt : iz_CI yX4_boughtAt 4 := ⟨List.mem_of_getElem? (i := 1010) (by decide +kernel), List.mem_of_getElem? (i := 1011) (by decide +kernel), ⟨TX4, 6, rfl⟩⟩
theorem cw_X5_init : iz_CW yX5_init cX5_init 3 none 2 := ⟨List.mem_of_getElem? (i := 303) (by decide +kernel), List.mem_of_getElem? (i := 74) (by decide +kernel), by decide +kernel, by decide⟩
theorem cw_X5_takeOver : iz_CW yX5_takeOver cX5_takeOver 3 (some .boolean) 1 := ⟨List.mem_of_getElem? (i := 921) (by decide +kernel), List.mem_of_getElem? (i := 74) (by decide +kernel), by decide +kernel, by decide⟩
theorem ci_X5_takeOver : iz_CI yX5_takeOver 5 := ⟨List.mem_of_getElem? (i := 919) (by decide +kernel), List.mem_of_getElem? (i := 920) (by decide +kernel), ⟨TX5, 15, rfl⟩⟩
theorem cw_X5_plan : iz_CW yX5_plan cX5_plan 2 none 0 := ⟨List.mem_of_getElem? (i := 927) (by decide +kernel), List.mem_of_getElem? (i := 74) (by decide +kernel), by decide +kernel, by decide⟩
theorem ci_X5_plan : iz_CI yX5_plan 5 := ⟨List.mem_of_getElem? (i := 925) (by decide +kernel), List.mem_of_getElem? (i := 926) (by decide +kernel), ⟨TX5, 15, rfl⟩⟩
theorem cw_X5_slot : iz_CW yX5_slot cX5_slot 3 (some .int) 3 := ⟨List.mem_of_getElem? (i := 936) (by decide +kernel), List.mem_of_getElem? (i := 74) (by decide +kernel), by decide +kernel, by decide⟩
theorem ci_X5_slot : Cond.static yX5_slot ∈ lw_tbl := List.mem_of_getElem? (i := 935) (by decide +kernel)
theorem cw_X5_fillFits : iz_CW yX5_fillFits cX5_fillFits 8 (some .boolean) 1 := ⟨List.mem_of_getElem? (i := 931) (by decide +kernel), List.mem_of_getElem? (i := 74) (by decide +kernel), by decide +kernel, by decide⟩
theorem ci_X5_fillFits : iz_CI yX5_fillFits 5 := ⟨List.mem_of_getElem? (i := 930) (by decide +kernel), List.mem_of_getElem? (i := 26) (by decide +kernel), ⟨TX5, 15, rfl⟩⟩
theorem cw_X5_enlist : iz_CW yX5_enlist cX5_enlist 3 none 1 := ⟨List.mem_of_getElem? (i := 940) (by decide +kernel), List.mem_of_getElem? (i := 74) (by decide +kernel), by decide +kernel, by decide⟩
theorem ci_X5_enlist : iz_CI yX5_enlist 5 := ⟨List.mem_of_getElem? (i := 939) (by decide +kernel), List.mem_of_getElem? (i := 27) (by decide +kernel), ⟨TX5, 15, rfl⟩⟩
theorem cw_X5_tryRows : iz_CW yX5_tryRows cX5_tryRows 5 none 3 := ⟨List.mem_of_getElem? (i := 943) (by decide +kernel), List.mem_of_getElem? (i := 74) (by decide +kernel), by decide +kernel, by decide⟩
theorem ci_X5_tryRows : Cond.static yX5_tryRows ∈ lw_tbl := List.mem_of_getElem? (i := 942) (by decide +kernel)
theorem cw_X5_keepIfBetter : iz_CW yX5_keepIfBetter cX5_keepIfBetter 3 none 2 := ⟨List.mem_of_getElem? (i := 947) (by decide +kernel), List.mem_of_getElem? (i := 74) (by decide +kernel), by decide +kernel, by decide⟩
theorem ci_X5_keepIfBetter : iz_CI yX5_keepIfBetter 5 := ⟨List.mem_of_getElem? (i := 946) (by decide +kernel), List.mem_of_getElem? (i := 28) (by decide +kernel), ⟨TX5, 15, rfl⟩⟩
theorem cw_X5_mayImprove : iz_CW yX5_mayImprove cX5_mayImprove 3 (some .boolean) 2 := ⟨List.mem_of_getElem? (i := 952) (by decide +kernel), List.mem_of_getElem? (i := 74) (by decide +kernel), by decide +kernel, by decide⟩
theorem ci_X5_mayImprove : iz_CI yX5_mayImprove 5 := ⟨List.mem_of_getElem? (i := 951) (by decide +kernel), List.mem_of_getElem? (i := 29) (by decide +kernel), ⟨TX5, 15, rfl⟩⟩
theorem cw_X5_dearest : iz_CW yX5_dearest cX5_dearest 5 (some .int) 1 := ⟨List.mem_of_getElem? (i := 956) (by decide +kernel), List.mem_of_getElem? (i := 74) (by decide +kernel), by decide +kernel, by decide⟩
theorem ci_X5_dearest : iz_CI yX5_dearest 5 := ⟨List.mem_of_getElem? (i := 955) (by decide +kernel), List.mem_of_getElem? (i := 30) (by decide +kernel), ⟨TX5, 15, rfl⟩⟩
theorem cw_X5_mayServe : iz_CW yX5_mayServe cX5_mayServe 3 (some .boolean) 2 := ⟨List.mem_of_getElem? (i := 960) (by decide +kernel), List.mem_of_getElem? (i := 74) (by decide +kernel), by decide +kernel, by decide⟩
theorem ci_X5_mayServe : iz_CI yX5_mayServe 5 := ⟨List.mem_of_getElem? (i := 959) (by decide +kernel), List.mem_of_getElem? (i := 31) (by decide +kernel), ⟨TX5, 15, rfl⟩⟩
theorem cw_X5_push : iz_CW yX5_push cX5_push 4 none 3 := ⟨List.mem_of_getElem? (i := 965) (by decide +kernel), List.mem_of_getElem? (i := 74) (by decide +kernel), by decide +kernel, by decide⟩
theorem ci_X5_push : iz_CI yX5_push 5 := ⟨List.mem_of_getElem? (i := 964) (by decide +kernel), List.mem_of_getElem? (i := 32) (by decide +kernel), ⟨TX5, 15, rfl⟩⟩
theorem cw_X5_pop : iz_CW yX5_pop cX5_pop 3 none 2 := ⟨List.mem_of_getElem? (i := 969) (by decide +kernel), List.mem_of_getElem? (i := 74) (by decide +kernel), by decide +kernel, by decide⟩
theorem ci_X5_pop : iz_CI yX5_pop 5 := ⟨List.mem_of_getElem? (i := 968) (by decide +kernel), List.mem_of_getElem? (i := 33) (by decide +kernel), ⟨TX5, 15, rfl⟩⟩
theorem cw_X6_init : iz_CW yX6_init cX6_init 1 none 0 := ⟨List.mem_of_getElem? (i := 114) (by decide +kernel), List.mem_of_getElem? (i := 68) (by decide +kernel), by decide +kernel, by decide⟩
theorem cw_X6_takeOver : iz_CW yX6_takeOver cX6_takeOver 3 (some .boolean) 1 := ⟨List.mem_of_getElem? (i := 584) (by decide +kernel), List.mem_of_getElem? (i := 68) (by decide +kernel), by decide +kernel, by decide⟩
theorem ci_X6_takeOver : iz_CI yX6_takeOver 6 := ⟨List.mem_of_getElem? (i := 582) (by decide +kernel), List.mem_of_getElem? (i := 583) (by decide +kernel), ⟨TX6, 7, rfl⟩⟩
theorem cw_X6_plan : iz_CW yX6_plan cX6_plan 3 none 1 := ⟨List.mem_of_getElem? (i := 604) (by decide +kernel), List.mem_of_getElem? (i := 68) (by decide +kernel), by decide +kernel, by decide⟩
theorem ci_X6_plan : iz_CI yX6_plan 6 := ⟨List.mem_of_getElem? (i := 602) (by decide +kernel), List.mem_of_getElem? (i := 603) (by decide +kernel), ⟨TX6, 7, rfl⟩⟩
theorem cw_X6_longestBehind : iz_CW yX6_longestBehind cX6_longestBehind 4 (some .int) 1 := ⟨List.mem_of_getElem? (i := 610) (by decide +kernel), List.mem_of_getElem? (i := 68) (by decide +kernel), by decide +kernel, by decide⟩
theorem ci_X6_longestBehind : iz_CI yX6_longestBehind 6 := ⟨List.mem_of_getElem? (i := 609) (by decide +kernel), List.mem_of_getElem? (i := 4) (by decide +kernel), ⟨TX6, 7, rfl⟩⟩
theorem cw_X6_mayFollow : iz_CW yX6_mayFollow cX6_mayFollow 5 (some .boolean) 2 := ⟨List.mem_of_getElem? (i := 614) (by decide +kernel), List.mem_of_getElem? (i := 68) (by decide +kernel), by decide +kernel, by decide⟩
theorem ci_X6_mayFollow : iz_CI yX6_mayFollow 6 := ⟨List.mem_of_getElem? (i := 613) (by decide +kernel), List.mem_of_getElem? (i := 5) (by decide +kernel), ⟨TX6, 7, rfl⟩⟩
theorem cw_X6_openCells : iz_CW yX6_openCells cX6_openCells 5 (some .long) 1 := ⟨List.mem_of_getElem? (i := 618) (by decide +kernel), List.mem_of_getElem? (i := 68) (by decide +kernel), by decide +kernel, by decide⟩
theorem ci_X6_openCells : iz_CI yX6_openCells 6 := ⟨List.mem_of_getElem? (i := 617) (by decide +kernel), List.mem_of_getElem? (i := 6) (by decide +kernel), ⟨TX6, 7, rfl⟩⟩
theorem cw_X6_walk : iz_CW yX6_walk cX6_walk 4 none 0 := ⟨List.mem_of_getElem? (i := 626) (by decide +kernel), List.mem_of_getElem? (i := 68) (by decide +kernel), by decide +kernel, by decide⟩
theorem ci_X6_walk : iz_CI yX6_walk 6 := ⟨List.mem_of_getElem? (i := 625) (by decide +kernel), List.mem_of_getElem? (i := 7) (by decide +kernel), ⟨TX6, 7, rfl⟩⟩
theorem cw_X6_firstOfLongest : iz_CW yX6_firstOfLongest cX6_firstOfLongest 3 (some .int) 1 := ⟨List.mem_of_getElem? (i := 630) (by decide +kernel), List.mem_of_getElem? (i := 68) (by decide +kernel), by decide +kernel, by decide⟩
theorem ci_X6_firstOfLongest : iz_CI yX6_firstOfLongest 6 := ⟨List.mem_of_getElem? (i := 629) (by decide +kernel), List.mem_of_getElem? (i := 8) (by decide +kernel), ⟨TX6, 7, rfl⟩⟩
theorem cw_X7_init : iz_CW yX7_init cX7_init 1 none 0 := ⟨List.mem_of_getElem? (i := 144) (by decide +kernel), List.mem_of_getElem? (i := 69) (by decide +kernel), by decide +kernel, by decide⟩
theorem cw_X7_warmthOf : iz_CW yX7_warmthOf cX7_warmthOf 2 (some .int) 1 := ⟨List.mem_of_getElem? (i := 748) (by decide +kernel), List.mem_of_getElem? (i := 69) (by decide +kernel), by decide +kernel, by decide⟩
theorem ci_X7_warmthOf : iz_CI yX7_warmthOf 7 := ⟨List.mem_of_getElem? (i := 746) (by decide +kernel), List.mem_of_getElem? (i := 747) (by decide +kernel), ⟨TX7, 3, rfl⟩⟩
theorem cw_X7_wallTenths : iz_CW yX7_wallTenths cX7_wallTenths 2 (some .int) 1 := ⟨List.mem_of_getElem? (i := 730) (by decide +kernel), List.mem_of_getElem? (i := 69) (by decide +kernel), by decide +kernel, by decide⟩
theorem ci_X7_wallTenths : iz_CI yX7_wallTenths 7 := ⟨List.mem_of_getElem? (i := 728) (by decide +kernel), List.mem_of_getElem? (i := 729) (by decide +kernel), ⟨TX7, 3, rfl⟩⟩
theorem cw_X7_tenthsAt : iz_CW yX7_tenthsAt cX7_tenthsAt 2 (some .int) 1 := ⟨List.mem_of_getElem? (i := 737) (by decide +kernel), List.mem_of_getElem? (i := 69) (by decide +kernel), by decide +kernel, by decide⟩
theorem ci_X7_tenthsAt : iz_CI yX7_tenthsAt 7 := ⟨List.mem_of_getElem? (i := 736) (by decide +kernel), List.mem_of_getElem? (i := 13) (by decide +kernel), ⟨TX7, 3, rfl⟩⟩
theorem cw_X7_rowWall : iz_CW yX7_rowWall cX7_rowWall 2 (some .int) 1 := ⟨List.mem_of_getElem? (i := 733) (by decide +kernel), List.mem_of_getElem? (i := 69) (by decide +kernel), by decide +kernel, by decide⟩
theorem ci_X7_rowWall : Cond.static yX7_rowWall ∈ lw_tbl := List.mem_of_getElem? (i := 732) (by decide +kernel)
theorem cw_X7_sideWall : iz_CW yX7_sideWall cX7_sideWall 2 (some .int) 1 := ⟨List.mem_of_getElem? (i := 740) (by decide +kernel), List.mem_of_getElem? (i := 69) (by decide +kernel), by decide +kernel, by decide⟩
theorem ci_X7_sideWall : Cond.static yX7_sideWall ∈ lw_tbl := List.mem_of_getElem? (i := 739) (by decide +kernel)
theorem cw_X8_init : iz_CW yX8_init cX8_init 1 none 0 := ⟨List.mem_of_getElem? (i := 388) (by decide +kernel), List.mem_of_getElem? (i := 76) (by decide +kernel), by decide +kernel, by decide⟩
theorem cw_X8_enter : iz_CW yX8_enter cX8_enter 2 (some .int) 1 := ⟨List.mem_of_getElem? (i := 1024) (by decide +kernel), List.mem_of_getElem? (i := 76) (by decide +kernel), by decide +kernel, by decide⟩
theorem ci_X8_enter : iz_CI yX8_enter 8 := ⟨List.mem_of_getElem? (i := 1022) (by decide +kernel), List.mem_of_getElem? (i := 1023) (by decide +kernel), ⟨TX8, 2, rfl⟩⟩
theorem cw_X8_clear : iz_CW yX8_clear cX8_clear 1 none 0 := ⟨List.mem_of_getElem? (i := 599) (by decide +kernel), List.mem_of_getElem? (i := 76) (by decide +kernel), by decide +kernel, by decide⟩
theorem ci_X8_clear : iz_CI yX8_clear 8 := ⟨List.mem_of_getElem? (i := 597) (by decide +kernel), List.mem_of_getElem? (i := 598) (by decide +kernel), ⟨TX8, 2, rfl⟩⟩
theorem cw_X8_handOver : iz_CW yX8_handOver cX8_handOver 3 (some .int) 1 := ⟨List.mem_of_getElem? (i := 588) (by decide +kernel), List.mem_of_getElem? (i := 76) (by decide +kernel), by decide +kernel, by decide⟩
theorem ci_X8_handOver : iz_CI yX8_handOver 8 := ⟨List.mem_of_getElem? (i := 586) (by decide +kernel), List.mem_of_getElem? (i := 587) (by decide +kernel), ⟨TX8, 2, rfl⟩⟩
theorem cw_X8_hasTwins : iz_CW yX8_hasTwins cX8_hasTwins 3 (some .boolean) 0 := ⟨List.mem_of_getElem? (i := 592) (by decide +kernel), List.mem_of_getElem? (i := 76) (by decide +kernel), by decide +kernel, by decide⟩
theorem ci_X8_hasTwins : iz_CI yX8_hasTwins 8 := ⟨List.mem_of_getElem? (i := 591) (by decide +kernel), List.mem_of_getElem? (i := 3) (by decide +kernel), ⟨TX8, 2, rfl⟩⟩
theorem cw_X8_firstWrong : iz_CW yX8_firstWrong cX8_firstWrong 3 (some .int) 1 := ⟨List.mem_of_getElem? (i := 1033) (by decide +kernel), List.mem_of_getElem? (i := 76) (by decide +kernel), by decide +kernel, by decide⟩
theorem ci_X8_firstWrong : iz_CI yX8_firstWrong 8 := ⟨List.mem_of_getElem? (i := 1031) (by decide +kernel), List.mem_of_getElem? (i := 1032) (by decide +kernel), ⟨TX8, 2, rfl⟩⟩
theorem cw_X9_init : iz_CW yX9_init cX9_init 1 none 0 := ⟨List.mem_of_getElem? (i := 85) (by decide +kernel), List.mem_of_getElem? (i := 66) (by decide +kernel), by decide +kernel, by decide⟩
theorem cw_X9_frost : iz_CW yX9_frost cX9_frost 2 (some .int) 1 := ⟨List.mem_of_getElem? (i := 435) (by decide +kernel), List.mem_of_getElem? (i := 66) (by decide +kernel), by decide +kernel, by decide⟩
theorem ci_X9_frost : iz_CI yX9_frost 9 := ⟨List.mem_of_getElem? (i := 433) (by decide +kernel), List.mem_of_getElem? (i := 434) (by decide +kernel), ⟨TX9, 11, rfl⟩⟩
theorem cw_X9_thaw : iz_CW yX9_thaw cX9_thaw 2 (some .int) 1 := ⟨List.mem_of_getElem? (i := 470) (by decide +kernel), List.mem_of_getElem? (i := 66) (by decide +kernel), by decide +kernel, by decide⟩
theorem ci_X9_thaw : iz_CI yX9_thaw 9 := ⟨List.mem_of_getElem? (i := 468) (by decide +kernel), List.mem_of_getElem? (i := 469) (by decide +kernel), ⟨TX9, 11, rfl⟩⟩
theorem cw_X9_snow : iz_CW yX9_snow cX9_snow 2 (some .int) 1 := ⟨List.mem_of_getElem? (i := 486) (by decide +kernel), List.mem_of_getElem? (i := 66) (by decide +kernel), by decide +kernel, by decide⟩
theorem ci_X9_snow : iz_CI yX9_snow 9 := ⟨List.mem_of_getElem? (i := 484) (by decide +kernel), List.mem_of_getElem? (i := 485) (by decide +kernel), ⟨TX9, 11, rfl⟩⟩
theorem cw_X9_scrape : iz_CW yX9_scrape cX9_scrape 2 (some .int) 1 := ⟨List.mem_of_getElem? (i := 497) (by decide +kernel), List.mem_of_getElem? (i := 66) (by decide +kernel), by decide +kernel, by decide⟩
theorem ci_X9_scrape : iz_CI yX9_scrape 9 := ⟨List.mem_of_getElem? (i := 495) (by decide +kernel), List.mem_of_getElem? (i := 496) (by decide +kernel), ⟨TX9, 11, rfl⟩⟩
theorem cw_X9_cell : iz_CW yX9_cell cX9_cell 3 (some .int) 2 := ⟨List.mem_of_getElem? (i := 508) (by decide +kernel), List.mem_of_getElem? (i := 66) (by decide +kernel), by decide +kernel, by decide⟩
theorem ci_X9_cell : iz_CI yX9_cell 9 := ⟨List.mem_of_getElem? (i := 506) (by decide +kernel), List.mem_of_getElem? (i := 507) (by decide +kernel), ⟨TX9, 11, rfl⟩⟩
theorem cw_X9_reached : iz_CW yX9_reached cX9_reached 2 (some .int) 1 := ⟨List.mem_of_getElem? (i := 512) (by decide +kernel), List.mem_of_getElem? (i := 66) (by decide +kernel), by decide +kernel, by decide⟩
theorem ci_X9_reached : iz_CI yX9_reached 9 := ⟨List.mem_of_getElem? (i := 510) (by decide +kernel), List.mem_of_getElem? (i := 511) (by decide +kernel), ⟨TX9, 11, rfl⟩⟩
theorem cw_X9_reach : iz_CW yX9_reach cX9_reach 3 (some .int) 2 := ⟨List.mem_of_getElem? (i := 525) (by decide +kernel), List.mem_of_getElem? (i := 66) (by decide +kernel), by decide +kernel, by decide⟩
theorem ci_X9_reach : iz_CI yX9_reach 9 := ⟨List.mem_of_getElem? (i := 523) (by decide +kernel), List.mem_of_getElem? (i := 524) (by decide +kernel), ⟨TX9, 11, rfl⟩⟩
theorem cw_X9_bars : iz_CW yX9_bars cX9_bars 2 (some .int) 1 := ⟨List.mem_of_getElem? (i := 529) (by decide +kernel), List.mem_of_getElem? (i := 66) (by decide +kernel), by decide +kernel, by decide⟩
theorem ci_X9_bars : iz_CI yX9_bars 9 := ⟨List.mem_of_getElem? (i := 527) (by decide +kernel), List.mem_of_getElem? (i := 528) (by decide +kernel), ⟨TX9, 11, rfl⟩⟩
theorem cw_X9_cut : iz_CW yX9_cut cX9_cut 3 (some .int) 1 := ⟨List.mem_of_getElem? (i := 551) (by decide +kernel), List.mem_of_getElem? (i := 66) (by decide +kernel), by decide +kernel, by decide⟩
theorem ci_X9_cut : iz_CI yX9_cut 9 := ⟨List.mem_of_getElem? (i := 549) (by decide +kernel), List.mem_of_getElem? (i := 550) (by decide +kernel), ⟨TX9, 11, rfl⟩⟩
theorem cw_X9_season : iz_CW yX9_season cX9_season 2 (some .int) 1 := ⟨List.mem_of_getElem? (i := 580) (by decide +kernel), List.mem_of_getElem? (i := 66) (by decide +kernel), by decide +kernel, by decide⟩
theorem ci_X9_season : iz_CI yX9_season 9 := ⟨List.mem_of_getElem? (i := 578) (by decide +kernel), List.mem_of_getElem? (i := 579) (by decide +kernel), ⟨TX9, 11, rfl⟩⟩
theorem cw_X9_put : iz_CW yX9_put cX9_put 3 (some .int) 2 := ⟨List.mem_of_getElem? (i := 634) (by decide +kernel), List.mem_of_getElem? (i := 66) (by decide +kernel), by decide +kernel, by decide⟩
theorem ci_X9_put : iz_CI yX9_put 9 := ⟨List.mem_of_getElem? (i := 632) (by decide +kernel), List.mem_of_getElem? (i := 633) (by decide +kernel), ⟨TX9, 11, rfl⟩⟩
theorem cw_X9_take : iz_CW yX9_take cX9_take 2 (some .int) 1 := ⟨List.mem_of_getElem? (i := 682) (by decide +kernel), List.mem_of_getElem? (i := 66) (by decide +kernel), by decide +kernel, by decide⟩
theorem ci_X9_take : iz_CI yX9_take 9 := ⟨List.mem_of_getElem? (i := 680) (by decide +kernel), List.mem_of_getElem? (i := 681) (by decide +kernel), ⟨TX9, 11, rfl⟩⟩
theorem cw_X9_move : iz_CW yX9_move cX9_move 4 (some .int) 2 := ⟨List.mem_of_getElem? (i := 702) (by decide +kernel), List.mem_of_getElem? (i := 66) (by decide +kernel), by decide +kernel, by decide⟩
theorem ci_X9_move : iz_CI yX9_move 9 := ⟨List.mem_of_getElem? (i := 700) (by decide +kernel), List.mem_of_getElem? (i := 701) (by decide +kernel), ⟨TX9, 11, rfl⟩⟩
theorem cw_X9_as : iz_CW yX9_as cX9_as 3 (some .int) 2 := ⟨List.mem_of_getElem? (i := 708) (by decide +kernel), List.mem_of_getElem? (i := 66) (by decide +kernel), by decide +kernel, by decide⟩
theorem ci_X9_as : iz_CI yX9_as 9 := ⟨List.mem_of_getElem? (i := 706) (by decide +kernel), List.mem_of_getElem? (i := 707) (by decide +kernel), ⟨TX9, 11, rfl⟩⟩
theorem cw_X9_about : iz_CW yX9_about cX9_about 4 (some .int) 2 := ⟨List.mem_of_getElem? (i := 717) (by decide +kernel), List.mem_of_getElem? (i := 66) (by decide +kernel), by decide +kernel, by decide⟩
theorem ci_X9_about : iz_CI yX9_about 9 := ⟨List.mem_of_getElem? (i := 715) (by decide +kernel), List.mem_of_getElem? (i := 716) (by decide +kernel), ⟨TX9, 11, rfl⟩⟩
theorem cw_X9_at : iz_CW yX9_at cX9_at 4 (some .int) 2 := ⟨List.mem_of_getElem? (i := 764) (by decide +kernel), List.mem_of_getElem? (i := 66) (by decide +kernel), by decide +kernel, by decide⟩
theorem ci_X9_at : iz_CI yX9_at 9 := ⟨List.mem_of_getElem? (i := 762) (by decide +kernel), List.mem_of_getElem? (i := 763) (by decide +kernel), ⟨TX9, 11, rfl⟩⟩
theorem cw_X9_dust : iz_CW yX9_dust cX9_dust 3 (some .int) 2 := ⟨List.mem_of_getElem? (i := 769) (by decide +kernel), List.mem_of_getElem? (i := 66) (by decide +kernel), by decide +kernel, by decide⟩
theorem ci_X9_dust : iz_CI yX9_dust 9 := ⟨List.mem_of_getElem? (i := 767) (by decide +kernel), List.mem_of_getElem? (i := 768) (by decide +kernel), ⟨TX9, 11, rfl⟩⟩
theorem cw_X9_cover : iz_CW yX9_cover cX9_cover 3 (some .int) 2 := ⟨List.mem_of_getElem? (i := 774) (by decide +kernel), List.mem_of_getElem? (i := 66) (by decide +kernel), by decide +kernel, by decide⟩
theorem ci_X9_cover : iz_CI yX9_cover 9 := ⟨List.mem_of_getElem? (i := 772) (by decide +kernel), List.mem_of_getElem? (i := 773) (by decide +kernel), ⟨TX9, 11, rfl⟩⟩
theorem cw_X9_warmth : iz_CW yX9_warmth cX9_warmth 3 (some .int) 2 := ⟨List.mem_of_getElem? (i := 778) (by decide +kernel), List.mem_of_getElem? (i := 66) (by decide +kernel), by decide +kernel, by decide⟩
theorem ci_X9_warmth : iz_CI yX9_warmth 9 := ⟨List.mem_of_getElem? (i := 776) (by decide +kernel), List.mem_of_getElem? (i := 777) (by decide +kernel), ⟨TX9, 11, rfl⟩⟩
theorem cw_X9_melts : iz_CW yX9_melts cX9_melts 1 (some .int) 0 := ⟨List.mem_of_getElem? (i := 782) (by decide +kernel), List.mem_of_getElem? (i := 66) (by decide +kernel), by decide +kernel, by decide⟩
theorem ci_X9_melts : iz_CI yX9_melts 9 := ⟨List.mem_of_getElem? (i := 780) (by decide +kernel), List.mem_of_getElem? (i := 781) (by decide +kernel), ⟨TX9, 11, rfl⟩⟩
theorem cw_X9_weeks : iz_CW yX9_weeks cX9_weeks 2 (some .int) 1 := ⟨List.mem_of_getElem? (i := 794) (by decide +kernel), List.mem_of_getElem? (i := 66) (by decide +kernel), by decide +kernel, by decide⟩
theorem ci_X9_weeks : iz_CI yX9_weeks 9 := ⟨List.mem_of_getElem? (i := 792) (by decide +kernel), List.mem_of_getElem? (i := 793) (by decide +kernel), ⟨TX9, 11, rfl⟩⟩
theorem cw_X9_after : iz_CW yX9_after cX9_after 2 (some .int) 1 := ⟨List.mem_of_getElem? (i := 819) (by decide +kernel), List.mem_of_getElem? (i := 66) (by decide +kernel), by decide +kernel, by decide⟩
theorem ci_X9_after : iz_CI yX9_after 9 := ⟨List.mem_of_getElem? (i := 817) (by decide +kernel), List.mem_of_getElem? (i := 818) (by decide +kernel), ⟨TX9, 11, rfl⟩⟩
theorem cw_X9_lasts : iz_CW yX9_lasts cX9_lasts 3 (some .int) 1 := ⟨List.mem_of_getElem? (i := 828) (by decide +kernel), List.mem_of_getElem? (i := 66) (by decide +kernel), by decide +kernel, by decide⟩
theorem ci_X9_lasts : iz_CI yX9_lasts 9 := ⟨List.mem_of_getElem? (i := 826) (by decide +kernel), List.mem_of_getElem? (i := 827) (by decide +kernel), ⟨TX9, 11, rfl⟩⟩
theorem cw_X9_best : iz_CW yX9_best cX9_best 3 (some .int) 2 := ⟨List.mem_of_getElem? (i := 833) (by decide +kernel), List.mem_of_getElem? (i := 66) (by decide +kernel), by decide +kernel, by decide⟩
theorem ci_X9_best : iz_CI yX9_best 9 := ⟨List.mem_of_getElem? (i := 831) (by decide +kernel), List.mem_of_getElem? (i := 832) (by decide +kernel), ⟨TX9, 11, rfl⟩⟩
theorem cw_X9_order : iz_CW yX9_order cX9_order 7 (some .int) 5 := ⟨List.mem_of_getElem? (i := 872) (by decide +kernel), List.mem_of_getElem? (i := 66) (by decide +kernel), by decide +kernel, by decide⟩
theorem ci_X9_order : iz_CI yX9_order 9 := ⟨List.mem_of_getElem? (i := 870) (by decide +kernel), List.mem_of_getElem? (i := 871) (by decide +kernel), ⟨TX9, 11, rfl⟩⟩
theorem cw_X9_why : iz_CW yX9_why cX9_why 3 (some .int) 2 := ⟨List.mem_of_getElem? (i := 880) (by decide +kernel), List.mem_of_getElem? (i := 66) (by decide +kernel), by decide +kernel, by decide⟩
theorem ci_X9_why : iz_CI yX9_why 9 := ⟨List.mem_of_getElem? (i := 878) (by decide +kernel), List.mem_of_getElem? (i := 879) (by decide +kernel), ⟨TX9, 11, rfl⟩⟩
theorem cw_X9_serve : iz_CW yX9_serve cX9_serve 3 (some .int) 2 := ⟨List.mem_of_getElem? (i := 904) (by decide +kernel), List.mem_of_getElem? (i := 66) (by decide +kernel), by decide +kernel, by decide⟩
theorem ci_X9_serve : iz_CI yX9_serve 9 := ⟨List.mem_of_getElem? (i := 902) (by decide +kernel), List.mem_of_getElem? (i := 903) (by decide +kernel), ⟨TX9, 11, rfl⟩⟩
theorem cw_X9_sales : iz_CW yX9_sales cX9_sales 3 (some .int) 1 := ⟨List.mem_of_getElem? (i := 917) (by decide +kernel), List.mem_of_getElem? (i := 66) (by decide +kernel), by decide +kernel, by decide⟩
theorem ci_X9_sales : iz_CI yX9_sales 9 := ⟨List.mem_of_getElem? (i := 915) (by decide +kernel), List.mem_of_getElem? (i := 916) (by decide +kernel), ⟨TX9, 11, rfl⟩⟩
theorem cw_X9_station : iz_CW yX9_station cX9_station 4 (some .int) 3 := ⟨List.mem_of_getElem? (i := 973) (by decide +kernel), List.mem_of_getElem? (i := 66) (by decide +kernel), by decide +kernel, by decide⟩
theorem ci_X9_station : iz_CI yX9_station 9 := ⟨List.mem_of_getElem? (i := 971) (by decide +kernel), List.mem_of_getElem? (i := 972) (by decide +kernel), ⟨TX9, 11, rfl⟩⟩
theorem cw_X9_change : iz_CW yX9_change cX9_change 6 (some .int) 4 := ⟨List.mem_of_getElem? (i := 988) (by decide +kernel), List.mem_of_getElem? (i := 66) (by decide +kernel), by decide +kernel, by decide⟩
theorem ci_X9_change : iz_CI yX9_change 9 := ⟨List.mem_of_getElem? (i := 986) (by decide +kernel), List.mem_of_getElem? (i := 987) (by decide +kernel), ⟨TX9, 11, rfl⟩⟩
theorem cw_X9_icing : iz_CW yX9_icing cX9_icing 5 (some .int) 3 := ⟨List.mem_of_getElem? (i := 993) (by decide +kernel), List.mem_of_getElem? (i := 66) (by decide +kernel), by decide +kernel, by decide⟩
theorem ci_X9_icing : iz_CI yX9_icing 9 := ⟨List.mem_of_getElem? (i := 991) (by decide +kernel), List.mem_of_getElem? (i := 992) (by decide +kernel), ⟨TX9, 11, rfl⟩⟩
theorem cw_X9_ledger : iz_CW yX9_ledger cX9_ledger 2 (some .int) 1 := ⟨List.mem_of_getElem? (i := 1016) (by decide +kernel), List.mem_of_getElem? (i := 66) (by decide +kernel), by decide +kernel, by decide⟩
theorem ci_X9_ledger : iz_CI yX9_ledger 9 := ⟨List.mem_of_getElem? (i := 1014) (by decide +kernel), List.mem_of_getElem? (i := 1015) (by decide +kernel), ⟨TX9, 11, rfl⟩⟩
theorem cw_X9_tell : iz_CW yX9_tell cX9_tell 2 (some .int) 1 := ⟨List.mem_of_getElem? (i := 1020) (by decide +kernel), List.mem_of_getElem? (i := 66) (by decide +kernel), by decide +kernel, by decide⟩
theorem ci_X9_tell : iz_CI yX9_tell 9 := ⟨List.mem_of_getElem? (i := 1018) (by decide +kernel), List.mem_of_getElem? (i := 1019) (by decide +kernel), ⟨TX9, 11, rfl⟩⟩
theorem cw_X9_check : iz_CW yX9_check cX9_check 3 (some .int) 1 := ⟨List.mem_of_getElem? (i := 1028) (by decide +kernel), List.mem_of_getElem? (i := 66) (by decide +kernel), by decide +kernel, by decide⟩
theorem ci_X9_check : iz_CI yX9_check 9 := ⟨List.mem_of_getElem? (i := 1026) (by decide +kernel), List.mem_of_getElem? (i := 1027) (by decide +kernel), ⟨TX9, 11, rfl⟩⟩
theorem cw_X9_count : iz_CW yX9_count cX9_count 2 (some .int) 1 := ⟨List.mem_of_getElem? (i := 1038) (by decide +kernel), List.mem_of_getElem? (i := 66) (by decide +kernel), by decide +kernel, by decide⟩
theorem ci_X9_count : iz_CI yX9_count 9 := ⟨List.mem_of_getElem? (i := 1036) (by decide +kernel), List.mem_of_getElem? (i := 1037) (by decide +kernel), ⟨TX9, 11, rfl⟩⟩
theorem cw_X9_found : iz_CW yX9_found cX9_found 2 (some .int) 1 := ⟨List.mem_of_getElem? (i := 1046) (by decide +kernel), List.mem_of_getElem? (i := 66) (by decide +kernel), by decide +kernel, by decide⟩
theorem ci_X9_found : iz_CI yX9_found 9 := ⟨List.mem_of_getElem? (i := 1044) (by decide +kernel), List.mem_of_getElem? (i := 1045) (by decide +kernel), ⟨TX9, 11, rfl⟩⟩
theorem cw_X9_finding : iz_CW yX9_finding cX9_finding 2 (some .int) 1 := ⟨List.mem_of_getElem? (i := 442) (by decide +kernel), List.mem_of_getElem? (i := 66) (by decide +kernel), by decide +kernel, by decide⟩
theorem ci_X9_finding : iz_CI yX9_finding 9 := ⟨List.mem_of_getElem? (i := 441) (by decide +kernel), List.mem_of_getElem? (i := 0) (by decide +kernel), ⟨TX9, 11, rfl⟩⟩
theorem cw_X9_within : iz_CW yX9_within cX9_within 3 (some .boolean) 3 := ⟨List.mem_of_getElem? (i := 438) (by decide +kernel), List.mem_of_getElem? (i := 66) (by decide +kernel), by decide +kernel, by decide⟩
theorem ci_X9_within : Cond.static yX9_within ∈ lw_tbl := List.mem_of_getElem? (i := 437) (by decide +kernel)
theorem cw_X9_isColumn : iz_CW yX9_isColumn cX9_isColumn 1 (some .boolean) 1 := ⟨List.mem_of_getElem? (i := 642) (by decide +kernel), List.mem_of_getElem? (i := 66) (by decide +kernel), by decide +kernel, by decide⟩
theorem ci_X9_isColumn : Cond.static yX9_isColumn ∈ lw_tbl := List.mem_of_getElem? (i := 641) (by decide +kernel)
theorem cw_X9_isStation : iz_CW yX9_isStation cX9_isStation 3 (some .boolean) 3 := ⟨List.mem_of_getElem? (i := 976) (by decide +kernel), List.mem_of_getElem? (i := 66) (by decide +kernel), by decide +kernel, by decide⟩
theorem ci_X9_isStation : Cond.static yX9_isStation ∈ lw_tbl := List.mem_of_getElem? (i := 975) (by decide +kernel)
theorem cw_X9_isUnder : iz_CW yX9_isUnder cX9_isUnder 4 (some .boolean) 2 := ⟨List.mem_of_getElem? (i := 711) (by decide +kernel), List.mem_of_getElem? (i := 66) (by decide +kernel), by decide +kernel, by decide⟩
theorem ci_X9_isUnder : Cond.static yX9_isUnder ∈ lw_tbl := List.mem_of_getElem? (i := 710) (by decide +kernel)
theorem cw_X9_exchange : iz_CW yX9_exchange cX9_exchange 4 (some .int) 3 := ⟨List.mem_of_getElem? (i := 504) (by decide +kernel), List.mem_of_getElem? (i := 66) (by decide +kernel), by decide +kernel, by decide⟩
theorem ci_X9_exchange : Cond.static yX9_exchange ∈ lw_tbl := List.mem_of_getElem? (i := 503) (by decide +kernel)
theorem cw_X10_init : iz_CW yX10_init cX10_init 2 none 0 := ⟨List.mem_of_getElem? (i := 1051) (by decide +kernel), List.mem_of_getElem? (i := 77) (by decide +kernel), by decide +kernel, by decide⟩
theorem cw_X10_finding : iz_CW yX10_finding cX10_finding 2 (some .int) 1 := ⟨List.mem_of_getElem? (i := 1208) (by decide +kernel), List.mem_of_getElem? (i := 77) (by decide +kernel), by decide +kernel, by decide⟩
theorem ci_X10_finding : iz_CI yX10_finding 10 := ⟨List.mem_of_getElem? (i := 1207) (by decide +kernel), List.mem_of_getElem? (i := 35) (by decide +kernel), ⟨TX10, 48, rfl⟩⟩
theorem cw_X10_isIn : iz_CW yX10_isIn cX10_isIn 3 (some .boolean) 3 := ⟨List.mem_of_getElem? (i := 1204) (by decide +kernel), List.mem_of_getElem? (i := 77) (by decide +kernel), by decide +kernel, by decide⟩
theorem ci_X10_isIn : Cond.static yX10_isIn ∈ lw_tbl := List.mem_of_getElem? (i := 1203) (by decide +kernel)
theorem cw_X10_isCell : iz_CW yX10_isCell cX10_isCell 1 (some .boolean) 1 := ⟨List.mem_of_getElem? (i := 1238) (by decide +kernel), List.mem_of_getElem? (i := 77) (by decide +kernel), by decide +kernel, by decide⟩
theorem ci_X10_isCell : Cond.static yX10_isCell ∈ lw_tbl := List.mem_of_getElem? (i := 1237) (by decide +kernel)
theorem cw_X10_clean : iz_CW yX10_clean cX10_clean 2 none 1 := ⟨List.mem_of_getElem? (i := 1213) (by decide +kernel), List.mem_of_getElem? (i := 77) (by decide +kernel), by decide +kernel, by decide⟩
theorem ci_X10_clean : iz_CI yX10_clean 10 := ⟨List.mem_of_getElem? (i := 1212) (by decide +kernel), List.mem_of_getElem? (i := 36) (by decide +kernel), ⟨TX10, 48, rfl⟩⟩
theorem cw_X10_bearing : iz_CW yX10_bearing cX10_bearing 4 (some .int) 1 := ⟨List.mem_of_getElem? (i := 1219) (by decide +kernel), List.mem_of_getElem? (i := 77) (by decide +kernel), by decide +kernel, by decide⟩
theorem ci_X10_bearing : iz_CI yX10_bearing 10 := ⟨List.mem_of_getElem? (i := 1218) (by decide +kernel), List.mem_of_getElem? (i := 37) (by decide +kernel), ⟨TX10, 48, rfl⟩⟩
theorem cw_X10_frost : iz_CW yX10_frost cX10_frost 5 (some .int) 1 := ⟨List.mem_of_getElem? (i := 1201) (by decide +kernel), List.mem_of_getElem? (i := 77) (by decide +kernel), by decide +kernel, by decide⟩
theorem ci_X10_frost : iz_CI yX10_frost 10 := ⟨List.mem_of_getElem? (i := 1199) (by decide +kernel), List.mem_of_getElem? (i := 1200) (by decide +kernel), ⟨TX10, 48, rfl⟩⟩
theorem cw_X10_thaw : iz_CW yX10_thaw cX10_thaw 3 (some .int) 1 := ⟨List.mem_of_getElem? (i := 1223) (by decide +kernel), List.mem_of_getElem? (i := 77) (by decide +kernel), by decide +kernel, by decide⟩
theorem ci_X10_thaw : iz_CI yX10_thaw 10 := ⟨List.mem_of_getElem? (i := 1221) (by decide +kernel), List.mem_of_getElem? (i := 1222) (by decide +kernel), ⟨TX10, 48, rfl⟩⟩
theorem cw_X10_snow : iz_CW yX10_snow cX10_snow 4 (some .int) 1 := ⟨List.mem_of_getElem? (i := 1227) (by decide +kernel), List.mem_of_getElem? (i := 77) (by decide +kernel), by decide +kernel, by decide⟩
theorem ci_X10_snow : iz_CI yX10_snow 10 := ⟨List.mem_of_getElem? (i := 1225) (by decide +kernel), List.mem_of_getElem? (i := 1226) (by decide +kernel), ⟨TX10, 48, rfl⟩⟩
theorem cw_X10_scrape : iz_CW yX10_scrape cX10_scrape 4 (some .int) 1 := ⟨List.mem_of_getElem? (i := 1231) (by decide +kernel), List.mem_of_getElem? (i := 77) (by decide +kernel), by decide +kernel, by decide⟩
theorem ci_X10_scrape : iz_CI yX10_scrape 10 := ⟨List.mem_of_getElem? (i := 1229) (by decide +kernel), List.mem_of_getElem? (i := 1230) (by decide +kernel), ⟨TX10, 48, rfl⟩⟩
theorem cw_X10_cell : iz_CW yX10_cell cX10_cell 3 (some .int) 2 := ⟨List.mem_of_getElem? (i := 1235) (by decide +kernel), List.mem_of_getElem? (i := 77) (by decide +kernel), by decide +kernel, by decide⟩
theorem ci_X10_cell : iz_CI yX10_cell 10 := ⟨List.mem_of_getElem? (i := 1233) (by decide +kernel), List.mem_of_getElem? (i := 1234) (by decide +kernel), ⟨TX10, 48, rfl⟩⟩
theorem cw_X10_beside : iz_CW yX10_beside cX10_beside 4 (some .int) 2 := ⟨List.mem_of_getElem? (i := 1252) (by decide +kernel), List.mem_of_getElem? (i := 77) (by decide +kernel), by decide +kernel, by decide⟩
theorem ci_X10_beside : Cond.static yX10_beside ∈ lw_tbl := List.mem_of_getElem? (i := 1251) (by decide +kernel)
theorem cw_X10_isOf : iz_CW yX10_isOf cX10_isOf 2 (some .boolean) 2 := ⟨List.mem_of_getElem? (i := 1249) (by decide +kernel), List.mem_of_getElem? (i := 77) (by decide +kernel), by decide +kernel, by decide⟩
theorem ci_X10_isOf : Cond.static yX10_isOf ∈ lw_tbl := List.mem_of_getElem? (i := 1248) (by decide +kernel)
theorem cw_X10_flood : iz_CW yX10_flood cX10_flood 7 none 2 := ⟨List.mem_of_getElem? (i := 1246) (by decide +kernel), List.mem_of_getElem? (i := 77) (by decide +kernel), by decide +kernel, by decide⟩
theorem ci_X10_flood : iz_CI yX10_flood 10 := ⟨List.mem_of_getElem? (i := 1245) (by decide +kernel), List.mem_of_getElem? (i := 38) (by decide +kernel), ⟨TX10, 48, rfl⟩⟩
theorem cw_X10_reached : iz_CW yX10_reached cX10_reached 4 (some .int) 1 := ⟨List.mem_of_getElem? (i := 1242) (by decide +kernel), List.mem_of_getElem? (i := 77) (by decide +kernel), by decide +kernel, by decide⟩
theorem ci_X10_reached : iz_CI yX10_reached 10 := ⟨List.mem_of_getElem? (i := 1240) (by decide +kernel), List.mem_of_getElem? (i := 1241) (by decide +kernel), ⟨TX10, 48, rfl⟩⟩
theorem cw_X10_reach : iz_CW yX10_reach cX10_reach 3 (some .int) 2 := ⟨List.mem_of_getElem? (i := 1256) (by decide +kernel), List.mem_of_getElem? (i := 77) (by decide +kernel), by decide +kernel, by decide⟩
theorem ci_X10_reach : iz_CI yX10_reach 10 := ⟨List.mem_of_getElem? (i := 1254) (by decide +kernel), List.mem_of_getElem? (i := 1255) (by decide +kernel), ⟨TX10, 48, rfl⟩⟩
theorem cw_X10_isSquare : iz_CW yX10_isSquare cX10_isSquare 1 (some .boolean) 1 := ⟨List.mem_of_getElem? (i := 1263) (by decide +kernel), List.mem_of_getElem? (i := 77) (by decide +kernel), by decide +kernel, by decide⟩
theorem ci_X10_isSquare : Cond.static yX10_isSquare ∈ lw_tbl := List.mem_of_getElem? (i := 1262) (by decide +kernel)
theorem cw_X10_barOf : iz_CW yX10_barOf cX10_barOf 5 (some .int) 1 := ⟨List.mem_of_getElem? (i := 1267) (by decide +kernel), List.mem_of_getElem? (i := 77) (by decide +kernel), by decide +kernel, by decide⟩
theorem ci_X10_barOf : iz_CI yX10_barOf 10 := ⟨List.mem_of_getElem? (i := 1266) (by decide +kernel), List.mem_of_getElem? (i := 39) (by decide +kernel), ⟨TX10, 48, rfl⟩⟩
theorem cw_X10_bars : iz_CW yX10_bars cX10_bars 2 (some .int) 1 := ⟨List.mem_of_getElem? (i := 1260) (by decide +kernel), List.mem_of_getElem? (i := 77) (by decide +kernel), by decide +kernel, by decide⟩
theorem ci_X10_bars : iz_CI yX10_bars 10 := ⟨List.mem_of_getElem? (i := 1258) (by decide +kernel), List.mem_of_getElem? (i := 1259) (by decide +kernel), ⟨TX10, 48, rfl⟩⟩
theorem cw_X10_cut : iz_CW yX10_cut cX10_cut 5 (some .int) 1 := ⟨List.mem_of_getElem? (i := 1271) (by decide +kernel), List.mem_of_getElem? (i := 77) (by decide +kernel), by decide +kernel, by decide⟩
theorem ci_X10_cut : iz_CI yX10_cut 10 := ⟨List.mem_of_getElem? (i := 1269) (by decide +kernel), List.mem_of_getElem? (i := 1270) (by decide +kernel), ⟨TX10, 48, rfl⟩⟩
theorem cw_X10_trySeason : iz_CW yX10_trySeason cX10_trySeason 8 none 2 := ⟨List.mem_of_getElem? (i := 1279) (by decide +kernel), List.mem_of_getElem? (i := 77) (by decide +kernel), by decide +kernel, by decide⟩
theorem ci_X10_trySeason : iz_CI yX10_trySeason 10 := ⟨List.mem_of_getElem? (i := 1278) (by decide +kernel), List.mem_of_getElem? (i := 40) (by decide +kernel), ⟨TX10, 48, rfl⟩⟩
theorem cw_X10_season : iz_CW yX10_season cX10_season 6 (some .int) 1 := ⟨List.mem_of_getElem? (i := 1275) (by decide +kernel), List.mem_of_getElem? (i := 77) (by decide +kernel), by decide +kernel, by decide⟩
theorem ci_X10_season : iz_CI yX10_season 10 := ⟨List.mem_of_getElem? (i := 1273) (by decide +kernel), List.mem_of_getElem? (i := 1274) (by decide +kernel), ⟨TX10, 48, rfl⟩⟩
theorem cw_X10_isBlock : iz_CW yX10_isBlock cX10_isBlock 2 (some .boolean) 1 := ⟨List.mem_of_getElem? (i := 1287) (by decide +kernel), List.mem_of_getElem? (i := 77) (by decide +kernel), by decide +kernel, by decide⟩
theorem ci_X10_isBlock : iz_CI yX10_isBlock 10 := ⟨List.mem_of_getElem? (i := 1286) (by decide +kernel), List.mem_of_getElem? (i := 41) (by decide +kernel), ⟨TX10, 48, rfl⟩⟩
theorem cw_X10_isColumn : iz_CW yX10_isColumn cX10_isColumn 1 (some .boolean) 1 := ⟨List.mem_of_getElem? (i := 1290) (by decide +kernel), List.mem_of_getElem? (i := 77) (by decide +kernel), by decide +kernel, by decide⟩
theorem ci_X10_isColumn : Cond.static yX10_isColumn ∈ lw_tbl := List.mem_of_getElem? (i := 1289) (by decide +kernel)
theorem cw_X10_blockAt : iz_CW yX10_blockAt cX10_blockAt 3 (some .int) 2 := ⟨List.mem_of_getElem? (i := 1302) (by decide +kernel), List.mem_of_getElem? (i := 77) (by decide +kernel), by decide +kernel, by decide⟩
theorem ci_X10_blockAt : iz_CI yX10_blockAt 10 := ⟨List.mem_of_getElem? (i := 1301) (by decide +kernel), List.mem_of_getElem? (i := 44) (by decide +kernel), ⟨TX10, 48, rfl⟩⟩
theorem cw_X10_levelOf : iz_CW yX10_levelOf cX10_levelOf 3 (some .int) 1 := ⟨List.mem_of_getElem? (i := 1318) (by decide +kernel), List.mem_of_getElem? (i := 77) (by decide +kernel), by decide +kernel, by decide⟩
theorem ci_X10_levelOf : iz_CI yX10_levelOf 10 := ⟨List.mem_of_getElem? (i := 1317) (by decide +kernel), List.mem_of_getElem? (i := 48) (by decide +kernel), ⟨TX10, 48, rfl⟩⟩
theorem cw_X10_loadOf : iz_CW yX10_loadOf cX10_loadOf 5 (some .int) 2 := ⟨List.mem_of_getElem? (i := 1306) (by decide +kernel), List.mem_of_getElem? (i := 77) (by decide +kernel), by decide +kernel, by decide⟩
theorem ci_X10_loadOf : iz_CI yX10_loadOf 10 := ⟨List.mem_of_getElem? (i := 1305) (by decide +kernel), List.mem_of_getElem? (i := 45) (by decide +kernel), ⟨TX10, 48, rfl⟩⟩
theorem cw_X10_takeOut : iz_CW yX10_takeOut cX10_takeOut 5 none 2 := ⟨List.mem_of_getElem? (i := 1314) (by decide +kernel), List.mem_of_getElem? (i := 77) (by decide +kernel), by decide +kernel, by decide⟩
theorem ci_X10_takeOut : iz_CI yX10_takeOut 10 := ⟨List.mem_of_getElem? (i := 1313) (by decide +kernel), List.mem_of_getElem? (i := 47) (by decide +kernel), ⟨TX10, 48, rfl⟩⟩
theorem cw_X10_goes : iz_CW yX10_goes cX10_goes 4 none 2 := ⟨List.mem_of_getElem? (i := 1310) (by decide +kernel), List.mem_of_getElem? (i := 77) (by decide +kernel), by decide +kernel, by decide⟩
theorem ci_X10_goes : iz_CI yX10_goes 10 := ⟨List.mem_of_getElem? (i := 1309) (by decide +kernel), List.mem_of_getElem? (i := 46) (by decide +kernel), ⟨TX10, 48, rfl⟩⟩
theorem cw_X10_breakAll : iz_CW yX10_breakAll cX10_breakAll 4 none 0 := ⟨List.mem_of_getElem? (i := 1298) (by decide +kernel), List.mem_of_getElem? (i := 77) (by decide +kernel), by decide +kernel, by decide⟩
theorem ci_X10_breakAll : iz_CI yX10_breakAll 10 := ⟨List.mem_of_getElem? (i := 1297) (by decide +kernel), List.mem_of_getElem? (i := 43) (by decide +kernel), ⟨TX10, 48, rfl⟩⟩
theorem cw_X10_lay : iz_CW yX10_lay cX10_lay 3 none 2 := ⟨List.mem_of_getElem? (i := 1294) (by decide +kernel), List.mem_of_getElem? (i := 77) (by decide +kernel), by decide +kernel, by decide⟩
theorem ci_X10_lay : iz_CI yX10_lay 10 := ⟨List.mem_of_getElem? (i := 1293) (by decide +kernel), List.mem_of_getElem? (i := 42) (by decide +kernel), ⟨TX10, 48, rfl⟩⟩
theorem cw_X10_put : iz_CW yX10_put cX10_put 3 (some .int) 2 := ⟨List.mem_of_getElem? (i := 1283) (by decide +kernel), List.mem_of_getElem? (i := 77) (by decide +kernel), by decide +kernel, by decide⟩
theorem ci_X10_put : iz_CI yX10_put 10 := ⟨List.mem_of_getElem? (i := 1281) (by decide +kernel), List.mem_of_getElem? (i := 1282) (by decide +kernel), ⟨TX10, 48, rfl⟩⟩
theorem cw_X10_take : iz_CW yX10_take cX10_take 3 (some .int) 1 := ⟨List.mem_of_getElem? (i := 1322) (by decide +kernel), List.mem_of_getElem? (i := 77) (by decide +kernel), by decide +kernel, by decide⟩
theorem ci_X10_take : iz_CI yX10_take 10 := ⟨List.mem_of_getElem? (i := 1320) (by decide +kernel), List.mem_of_getElem? (i := 1321) (by decide +kernel), ⟨TX10, 48, rfl⟩⟩
theorem cw_X10_move : iz_CW yX10_move cX10_move 4 (some .int) 2 := ⟨List.mem_of_getElem? (i := 1326) (by decide +kernel), List.mem_of_getElem? (i := 77) (by decide +kernel), by decide +kernel, by decide⟩
theorem ci_X10_move : iz_CI yX10_move 10 := ⟨List.mem_of_getElem? (i := 1324) (by decide +kernel), List.mem_of_getElem? (i := 1325) (by decide +kernel), ⟨TX10, 48, rfl⟩⟩
theorem cw_X10_as : iz_CW yX10_as cX10_as 3 (some .int) 2 := ⟨List.mem_of_getElem? (i := 1330) (by decide +kernel), List.mem_of_getElem? (i := 77) (by decide +kernel), by decide +kernel, by decide⟩
theorem ci_X10_as : iz_CI yX10_as 10 := ⟨List.mem_of_getElem? (i := 1328) (by decide +kernel), List.mem_of_getElem? (i := 1329) (by decide +kernel), ⟨TX10, 48, rfl⟩⟩
theorem cw_X10_warmthOf : iz_CW yX10_warmthOf cX10_warmthOf 2 (some .int) 1 := ⟨List.mem_of_getElem? (i := 1338) (by decide +kernel), List.mem_of_getElem? (i := 77) (by decide +kernel), by decide +kernel, by decide⟩
theorem ci_X10_warmthOf : iz_CI yX10_warmthOf 10 := ⟨List.mem_of_getElem? (i := 1337) (by decide +kernel), List.mem_of_getElem? (i := 49) (by decide +kernel), ⟨TX10, 48, rfl⟩⟩
theorem cw_X10_meltOf : iz_CW yX10_meltOf cX10_meltOf 9 (some .int) 3 := ⟨List.mem_of_getElem? (i := 1342) (by decide +kernel), List.mem_of_getElem? (i := 77) (by decide +kernel), by decide +kernel, by decide⟩
theorem ci_X10_meltOf : iz_CI yX10_meltOf 10 := ⟨List.mem_of_getElem? (i := 1341) (by decide +kernel), List.mem_of_getElem? (i := 50) (by decide +kernel), ⟨TX10, 48, rfl⟩⟩
theorem cw_X10_allMelts : iz_CW yX10_allMelts cX10_allMelts 4 (some .int) 0 := ⟨List.mem_of_getElem? (i := 1366) (by decide +kernel), List.mem_of_getElem? (i := 77) (by decide +kernel), by decide +kernel, by decide⟩
theorem ci_X10_allMelts : iz_CI yX10_allMelts 10 := ⟨List.mem_of_getElem? (i := 1365) (by decide +kernel), List.mem_of_getElem? (i := 51) (by decide +kernel), ⟨TX10, 48, rfl⟩⟩
theorem cw_X10_about : iz_CW yX10_about cX10_about 4 (some .int) 2 := ⟨List.mem_of_getElem? (i := 1334) (by decide +kernel), List.mem_of_getElem? (i := 77) (by decide +kernel), by decide +kernel, by decide⟩
theorem ci_X10_about : iz_CI yX10_about 10 := ⟨List.mem_of_getElem? (i := 1332) (by decide +kernel), List.mem_of_getElem? (i := 1333) (by decide +kernel), ⟨TX10, 48, rfl⟩⟩
theorem cw_X10_at : iz_CW yX10_at cX10_at 3 (some .int) 2 := ⟨List.mem_of_getElem? (i := 1346) (by decide +kernel), List.mem_of_getElem? (i := 77) (by decide +kernel), by decide +kernel, by decide⟩
theorem ci_X10_at : iz_CI yX10_at 10 := ⟨List.mem_of_getElem? (i := 1344) (by decide +kernel), List.mem_of_getElem? (i := 1345) (by decide +kernel), ⟨TX10, 48, rfl⟩⟩
theorem cw_X10_dust : iz_CW yX10_dust cX10_dust 4 (some .int) 2 := ⟨List.mem_of_getElem? (i := 1350) (by decide +kernel), List.mem_of_getElem? (i := 77) (by decide +kernel), by decide +kernel, by decide⟩
theorem ci_X10_dust : iz_CI yX10_dust 10 := ⟨List.mem_of_getElem? (i := 1348) (by decide +kernel), List.mem_of_getElem? (i := 1349) (by decide +kernel), ⟨TX10, 48, rfl⟩⟩
theorem cw_X10_cover : iz_CW yX10_cover cX10_cover 4 (some .int) 2 := ⟨List.mem_of_getElem? (i := 1354) (by decide +kernel), List.mem_of_getElem? (i := 77) (by decide +kernel), by decide +kernel, by decide⟩
theorem ci_X10_cover : iz_CI yX10_cover 10 := ⟨List.mem_of_getElem? (i := 1352) (by decide +kernel), List.mem_of_getElem? (i := 1353) (by decide +kernel), ⟨TX10, 48, rfl⟩⟩
theorem cw_X10_warmth : iz_CW yX10_warmth cX10_warmth 4 (some .int) 2 := ⟨List.mem_of_getElem? (i := 1358) (by decide +kernel), List.mem_of_getElem? (i := 77) (by decide +kernel), by decide +kernel, by decide⟩
theorem ci_X10_warmth : iz_CI yX10_warmth 10 := ⟨List.mem_of_getElem? (i := 1356) (by decide +kernel), List.mem_of_getElem? (i := 1357) (by decide +kernel), ⟨TX10, 48, rfl⟩⟩
theorem cw_X10_melts : iz_CW yX10_melts cX10_melts 1 (some .int) 0 := ⟨List.mem_of_getElem? (i := 1362) (by decide +kernel), List.mem_of_getElem? (i := 77) (by decide +kernel), by decide +kernel, by decide⟩
theorem ci_X10_melts : iz_CI yX10_melts 10 := ⟨List.mem_of_getElem? (i := 1360) (by decide +kernel), List.mem_of_getElem? (i := 1361) (by decide +kernel), ⟨TX10, 48, rfl⟩⟩
theorem cw_X10_weekGoes : iz_CW yX10_weekGoes cX10_weekGoes 5 none 0 := ⟨List.mem_of_getElem? (i := 1374) (by decide +kernel), List.mem_of_getElem? (i := 77) (by decide +kernel), by decide +kernel, by decide⟩
theorem ci_X10_weekGoes : iz_CI yX10_weekGoes 10 := ⟨List.mem_of_getElem? (i := 1373) (by decide +kernel), List.mem_of_getElem? (i := 52) (by decide +kernel), ⟨TX10, 48, rfl⟩⟩
theorem cw_X10_allWeight : iz_CW yX10_allWeight cX10_allWeight 4 (some .int) 0 := ⟨List.mem_of_getElem? (i := 1378) (by decide +kernel), List.mem_of_getElem? (i := 77) (by decide +kernel), by decide +kernel, by decide⟩
theorem ci_X10_allWeight : iz_CI yX10_allWeight 10 := ⟨List.mem_of_getElem? (i := 1377) (by decide +kernel), List.mem_of_getElem? (i := 53) (by decide +kernel), ⟨TX10, 48, rfl⟩⟩
theorem cw_X10_weeks : iz_CW yX10_weeks cX10_weeks 3 (some .int) 1 := ⟨List.mem_of_getElem? (i := 1370) (by decide +kernel), List.mem_of_getElem? (i := 77) (by decide +kernel), by decide +kernel, by decide⟩
theorem ci_X10_weeks : iz_CI yX10_weeks 10 := ⟨List.mem_of_getElem? (i := 1368) (by decide +kernel), List.mem_of_getElem? (i := 1369) (by decide +kernel), ⟨TX10, 48, rfl⟩⟩
theorem cw_X10_lays : iz_CW yX10_lays cX10_lays 4 none 2 := ⟨List.mem_of_getElem? (i := 1390) (by decide +kernel), List.mem_of_getElem? (i := 77) (by decide +kernel), by decide +kernel, by decide⟩
theorem ci_X10_lays : iz_CI yX10_lays 10 := ⟨List.mem_of_getElem? (i := 1389) (by decide +kernel), List.mem_of_getElem? (i := 55) (by decide +kernel), ⟨TX10, 48, rfl⟩⟩
theorem cw_X10_layAside : iz_CW yX10_layAside cX10_layAside 2 none 1 := ⟨List.mem_of_getElem? (i := 1386) (by decide +kernel), List.mem_of_getElem? (i := 77) (by decide +kernel), by decide +kernel, by decide⟩
theorem ci_X10_layAside : iz_CI yX10_layAside 10 := ⟨List.mem_of_getElem? (i := 1385) (by decide +kernel), List.mem_of_getElem? (i := 54) (by decide +kernel), ⟨TX10, 48, rfl⟩⟩
theorem cw_X10_after : iz_CW yX10_after cX10_after 3 (some .int) 1 := ⟨List.mem_of_getElem? (i := 1382) (by decide +kernel), List.mem_of_getElem? (i := 77) (by decide +kernel), by decide +kernel, by decide⟩
theorem ci_X10_after : iz_CI yX10_after 10 := ⟨List.mem_of_getElem? (i := 1380) (by decide +kernel), List.mem_of_getElem? (i := 1381) (by decide +kernel), ⟨TX10, 48, rfl⟩⟩
theorem cw_X10_lasts : iz_CW yX10_lasts cX10_lasts 4 (some .int) 1 := ⟨List.mem_of_getElem? (i := 1394) (by decide +kernel), List.mem_of_getElem? (i := 77) (by decide +kernel), by decide +kernel, by decide⟩
theorem ci_X10_lasts : iz_CI yX10_lasts 10 := ⟨List.mem_of_getElem? (i := 1392) (by decide +kernel), List.mem_of_getElem? (i := 1393) (by decide +kernel), ⟨TX10, 48, rfl⟩⟩
theorem cw_X10_findDust : iz_CW yX10_findDust cX10_findDust 9 (some .int) 1 := ⟨List.mem_of_getElem? (i := 1403) (by decide +kernel), List.mem_of_getElem? (i := 77) (by decide +kernel), by decide +kernel, by decide⟩
theorem ci_X10_findDust : iz_CI yX10_findDust 10 := ⟨List.mem_of_getElem? (i := 1402) (by decide +kernel), List.mem_of_getElem? (i := 56) (by decide +kernel), ⟨TX10, 48, rfl⟩⟩
theorem cw_X10_best : iz_CW yX10_best cX10_best 4 (some .int) 2 := ⟨List.mem_of_getElem? (i := 1399) (by decide +kernel), List.mem_of_getElem? (i := 77) (by decide +kernel), by decide +kernel, by decide⟩
theorem ci_X10_best : iz_CI yX10_best 10 := ⟨List.mem_of_getElem? (i := 1397) (by decide +kernel), List.mem_of_getElem? (i := 1398) (by decide +kernel), ⟨TX10, 48, rfl⟩⟩
theorem cw_X10_order : iz_CW yX10_order cX10_order 6 (some .int) 5 := ⟨List.mem_of_getElem? (i := 1408) (by decide +kernel), List.mem_of_getElem? (i := 77) (by decide +kernel), by decide +kernel, by decide⟩
theorem ci_X10_order : iz_CI yX10_order 10 := ⟨List.mem_of_getElem? (i := 1406) (by decide +kernel), List.mem_of_getElem? (i := 1407) (by decide +kernel), ⟨TX10, 48, rfl⟩⟩
theorem cw_X10_comesOf : iz_CW yX10_comesOf cX10_comesOf 4 (some .int) 2 := ⟨List.mem_of_getElem? (i := 1428) (by decide +kernel), List.mem_of_getElem? (i := 77) (by decide +kernel), by decide +kernel, by decide⟩
theorem ci_X10_comesOf : iz_CI yX10_comesOf 10 := ⟨List.mem_of_getElem? (i := 1427) (by decide +kernel), List.mem_of_getElem? (i := 60) (by decide +kernel), ⟨TX10, 48, rfl⟩⟩
theorem cw_X10_isOfGrade : iz_CW yX10_isOfGrade cX10_isOfGrade 3 (some .boolean) 2 := ⟨List.mem_of_getElem? (i := 1424) (by decide +kernel), List.mem_of_getElem? (i := 77) (by decide +kernel), by decide +kernel, by decide⟩
theorem ci_X10_isOfGrade : iz_CI yX10_isOfGrade 10 := ⟨List.mem_of_getElem? (i := 1423) (by decide +kernel), List.mem_of_getElem? (i := 59) (by decide +kernel), ⟨TX10, 48, rfl⟩⟩
theorem cw_X10_whyNot : iz_CW yX10_whyNot cX10_whyNot 4 (some .int) 2 := ⟨List.mem_of_getElem? (i := 1420) (by decide +kernel), List.mem_of_getElem? (i := 77) (by decide +kernel), by decide +kernel, by decide⟩
theorem ci_X10_whyNot : iz_CI yX10_whyNot 10 := ⟨List.mem_of_getElem? (i := 1419) (by decide +kernel), List.mem_of_getElem? (i := 58) (by decide +kernel), ⟨TX10, 48, rfl⟩⟩
theorem cw_X10_isOrder : iz_CW yX10_isOrder cX10_isOrder 2 (some .boolean) 1 := ⟨List.mem_of_getElem? (i := 1416) (by decide +kernel), List.mem_of_getElem? (i := 77) (by decide +kernel), by decide +kernel, by decide⟩
theorem ci_X10_isOrder : iz_CI yX10_isOrder 10 := ⟨List.mem_of_getElem? (i := 1415) (by decide +kernel), List.mem_of_getElem? (i := 57) (by decide +kernel), ⟨TX10, 48, rfl⟩⟩
theorem cw_X10_why : iz_CW yX10_why cX10_why 3 (some .int) 2 := ⟨List.mem_of_getElem? (i := 1412) (by decide +kernel), List.mem_of_getElem? (i := 77) (by decide +kernel), by decide +kernel, by decide⟩
theorem ci_X10_why : iz_CI yX10_why 10 := ⟨List.mem_of_getElem? (i := 1410) (by decide +kernel), List.mem_of_getElem? (i := 1411) (by decide +kernel), ⟨TX10, 48, rfl⟩⟩
theorem cw_X10_serve : iz_CW yX10_serve cX10_serve 5 (some .int) 2 := ⟨List.mem_of_getElem? (i := 1432) (by decide +kernel), List.mem_of_getElem? (i := 77) (by decide +kernel), by decide +kernel, by decide⟩
theorem ci_X10_serve : iz_CI yX10_serve 10 := ⟨List.mem_of_getElem? (i := 1430) (by decide +kernel), List.mem_of_getElem? (i := 1431) (by decide +kernel), ⟨TX10, 48, rfl⟩⟩
theorem cw_X10_trySales : iz_CW yX10_trySales cX10_trySales 6 none 2 := ⟨List.mem_of_getElem? (i := 1440) (by decide +kernel), List.mem_of_getElem? (i := 77) (by decide +kernel), by decide +kernel, by decide⟩
theorem ci_X10_trySales : iz_CI yX10_trySales 10 := ⟨List.mem_of_getElem? (i := 1439) (by decide +kernel), List.mem_of_getElem? (i := 61) (by decide +kernel), ⟨TX10, 48, rfl⟩⟩
theorem cw_X10_sales : iz_CW yX10_sales cX10_sales 6 (some .int) 1 := ⟨List.mem_of_getElem? (i := 1436) (by decide +kernel), List.mem_of_getElem? (i := 77) (by decide +kernel), by decide +kernel, by decide⟩
theorem ci_X10_sales : iz_CI yX10_sales 10 := ⟨List.mem_of_getElem? (i := 1434) (by decide +kernel), List.mem_of_getElem? (i := 1435) (by decide +kernel), ⟨TX10, 48, rfl⟩⟩
theorem cw_X10_isStation : iz_CW yX10_isStation cX10_isStation 3 (some .boolean) 3 := ⟨List.mem_of_getElem? (i := 1447) (by decide +kernel), List.mem_of_getElem? (i := 77) (by decide +kernel), by decide +kernel, by decide⟩
theorem ci_X10_isStation : Cond.static yX10_isStation ∈ lw_tbl := List.mem_of_getElem? (i := 1446) (by decide +kernel)
theorem cw_X10_tellStation : iz_CW yX10_tellStation cX10_tellStation 5 none 4 := ⟨List.mem_of_getElem? (i := 1451) (by decide +kernel), List.mem_of_getElem? (i := 77) (by decide +kernel), by decide +kernel, by decide⟩
theorem ci_X10_tellStation : iz_CI yX10_tellStation 10 := ⟨List.mem_of_getElem? (i := 1450) (by decide +kernel), List.mem_of_getElem? (i := 62) (by decide +kernel), ⟨TX10, 48, rfl⟩⟩
theorem cw_X10_station : iz_CW yX10_station cX10_station 4 (some .int) 3 := ⟨List.mem_of_getElem? (i := 1444) (by decide +kernel), List.mem_of_getElem? (i := 77) (by decide +kernel), by decide +kernel, by decide⟩
theorem ci_X10_station : iz_CI yX10_station 10 := ⟨List.mem_of_getElem? (i := 1442) (by decide +kernel), List.mem_of_getElem? (i := 1443) (by decide +kernel), ⟨TX10, 48, rfl⟩⟩
theorem cw_X10_change : iz_CW yX10_change cX10_change 6 (some .int) 4 := ⟨List.mem_of_getElem? (i := 1455) (by decide +kernel), List.mem_of_getElem? (i := 77) (by decide +kernel), by decide +kernel, by decide⟩
theorem ci_X10_change : iz_CI yX10_change 10 := ⟨List.mem_of_getElem? (i := 1453) (by decide +kernel), List.mem_of_getElem? (i := 1454) (by decide +kernel), ⟨TX10, 48, rfl⟩⟩
theorem cw_X10_costOf : iz_CW yX10_costOf cX10_costOf 6 (some .int) 4 := ⟨List.mem_of_getElem? (i := 1463) (by decide +kernel), List.mem_of_getElem? (i := 77) (by decide +kernel), by decide +kernel, by decide⟩
theorem ci_X10_costOf : iz_CI yX10_costOf 10 := ⟨List.mem_of_getElem? (i := 1462) (by decide +kernel), List.mem_of_getElem? (i := 63) (by decide +kernel), ⟨TX10, 48, rfl⟩⟩
theorem cw_X10_icing : iz_CW yX10_icing cX10_icing 9 (some .int) 3 := ⟨List.mem_of_getElem? (i := 1459) (by decide +kernel), List.mem_of_getElem? (i := 77) (by decide +kernel), by decide +kernel, by decide⟩
theorem ci_X10_icing : iz_CI yX10_icing 10 := ⟨List.mem_of_getElem? (i := 1457) (by decide +kernel), List.mem_of_getElem? (i := 1458) (by decide +kernel), ⟨TX10, 48, rfl⟩⟩
theorem cw_X10_ledger : iz_CW yX10_ledger cX10_ledger 2 (some .int) 1 := ⟨List.mem_of_getElem? (i := 1467) (by decide +kernel), List.mem_of_getElem? (i := 77) (by decide +kernel), by decide +kernel, by decide⟩
theorem ci_X10_ledger : iz_CI yX10_ledger 10 := ⟨List.mem_of_getElem? (i := 1465) (by decide +kernel), List.mem_of_getElem? (i := 1466) (by decide +kernel), ⟨TX10, 48, rfl⟩⟩
theorem cw_X10_tell : iz_CW yX10_tell cX10_tell 2 (some .int) 1 := ⟨List.mem_of_getElem? (i := 1471) (by decide +kernel), List.mem_of_getElem? (i := 77) (by decide +kernel), by decide +kernel, by decide⟩
theorem ci_X10_tell : iz_CI yX10_tell 10 := ⟨List.mem_of_getElem? (i := 1469) (by decide +kernel), List.mem_of_getElem? (i := 1470) (by decide +kernel), ⟨TX10, 48, rfl⟩⟩
theorem cw_X10_check : iz_CW yX10_check cX10_check 7 (some .int) 1 := ⟨List.mem_of_getElem? (i := 1475) (by decide +kernel), List.mem_of_getElem? (i := 77) (by decide +kernel), by decide +kernel, by decide⟩
theorem ci_X10_check : iz_CI yX10_check 10 := ⟨List.mem_of_getElem? (i := 1473) (by decide +kernel), List.mem_of_getElem? (i := 1474) (by decide +kernel), ⟨TX10, 48, rfl⟩⟩
theorem cw_X10_placed : iz_CW yX10_placed cX10_placed 4 (some .int) 1 := ⟨List.mem_of_getElem? (i := 1483) (by decide +kernel), List.mem_of_getElem? (i := 77) (by decide +kernel), by decide +kernel, by decide⟩
theorem ci_X10_placed : iz_CI yX10_placed 10 := ⟨List.mem_of_getElem? (i := 1482) (by decide +kernel), List.mem_of_getElem? (i := 64) (by decide +kernel), ⟨TX10, 48, rfl⟩⟩
theorem cw_X10_count : iz_CW yX10_count cX10_count 4 (some .int) 1 := ⟨List.mem_of_getElem? (i := 1479) (by decide +kernel), List.mem_of_getElem? (i := 77) (by decide +kernel), by decide +kernel, by decide⟩
theorem ci_X10_count : iz_CI yX10_count 10 := ⟨List.mem_of_getElem? (i := 1477) (by decide +kernel), List.mem_of_getElem? (i := 1478) (by decide +kernel), ⟨TX10, 48, rfl⟩⟩
theorem cw_X10_found : iz_CW yX10_found cX10_found 2 (some .int) 1 := ⟨List.mem_of_getElem? (i := 1487) (by decide +kernel), List.mem_of_getElem? (i := 77) (by decide +kernel), by decide +kernel, by decide⟩
theorem ci_X10_found : iz_CI yX10_found 10 := ⟨List.mem_of_getElem? (i := 1485) (by decide +kernel), List.mem_of_getElem? (i := 1486) (by decide +kernel), ⟨TX10, 48, rfl⟩⟩
theorem cw_J13_bitCount_95d88 : iz_CW yJ13_bitCount_95d88 cJ13_bitCount_95d88 2 (some .int) 1 := ⟨List.mem_of_getElem? (i := 463) (by decide +kernel), List.mem_of_getElem? (i := 78) (by decide +kernel), by decide +kernel, by decide⟩
theorem ci_J13_bitCount_95d88 : Cond.static yJ13_bitCount_95d88 ∈ lw_tbl := List.mem_of_getElem? (i := 462) (by decide +kernel)
theorem cw_J9_max_7cf53 : iz_CW yJ9_max_7cf53 cJ9_max_7cf53 2 (some .int) 2 := ⟨List.mem_of_getElem? (i := 477) (by decide +kernel), List.mem_of_getElem? (i := 79) (by decide +kernel), by decide +kernel, by decide⟩
theorem ci_J9_max_7cf53 : Cond.static yJ9_max_7cf53 ∈ lw_tbl := List.mem_of_getElem? (i := 476) (by decide +kernel)
theorem cw_J9_min_7cf53 : iz_CW yJ9_min_7cf53 cJ9_min_7cf53 2 (some .int) 2 := ⟨List.mem_of_getElem? (i := 493) (by decide +kernel), List.mem_of_getElem? (i := 79) (by decide +kernel), by decide +kernel, by decide⟩
theorem ci_J9_min_7cf53 : Cond.static yJ9_min_7cf53 ∈ lw_tbl := List.mem_of_getElem? (i := 492) (by decide +kernel)
theorem cw_J7_fill_53178 : iz_CW yJ7_fill_53178 cJ7_fill_53178 4 none 2 := ⟨List.mem_of_getElem? (i := 148) (by decide +kernel), List.mem_of_getElem? (i := 70) (by decide +kernel), by decide +kernel, by decide⟩
theorem ci_J7_fill_53178 : Cond.static yJ7_fill_53178 ∈ lw_tbl := List.mem_of_getElem? (i := 147) (by decide +kernel)
theorem ac_nat : Cond.native arraycopyName ∈ lw_tbl := List.mem_of_getElem? (i := 595) (by decide +kernel)
theorem ac_sta : Cond.static arraycopyName ∈ lw_tbl := List.mem_of_getElem? (i := 594) (by decide +kernel)
theorem ac_ini : Cond.initialized "java/lang/System" ∈ lw_tbl := List.mem_of_getElem? (i := 80) (by decide +kernel)
theorem sf_0_1_all : ∀ k, k < 120 → iz_sh k = (0 + 3, 7) → iz_sh (iz_rf k 1) = (0, 4) := by decide +kernel
theorem sf_0_1 {k : Nat} (h : iz_sh k = (0 + 3, 7)) : iz_sh (iz_rf k 1) = (0, 4) := sf_0_1_all k (iz_sh_lt h (by decide)) h
theorem sf_0_4_all : ∀ k, k < 120 → iz_sh k = (0 + 3, 7) → iz_sh (iz_rf k 4) = (2, 4) := by decide +kernel
theorem sf_0_4 {k : Nat} (h : iz_sh k = (0 + 3, 7)) : iz_sh (iz_rf k 4) = (2, 4) := sf_0_4_all k (iz_sh_lt h (by decide)) h
theorem sr_0_4_all : ∀ k, k < 120 → iz_sh k = (0 + 3, 7) → ∀ q, q < 4 → iz_sh (iz_rf (iz_rf k 4) q) = (0, 11) := by decide +kernel
theorem sr_0_4 {k : Nat} (h : iz_sh k = (0 + 3, 7)) {q : Int32} (hq : iz_in q 4 = true) : iz_sh (iz_rf (iz_rf k 4) q.toNatClampNeg) = (0, 11) := sr_0_4_all k (iz_sh_lt h (by decide)) h _ (Nat.not_le.mp fun e => iz_in_p hq (Or.inr e))
theorem sf_0_5_all : ∀ k, k < 120 → iz_sh k = (0 + 3, 7) → iz_sh (iz_rf k 5) = (2, 4) := by decide +kernel
theorem sf_0_5 {k : Nat} (h : iz_sh k = (0 + 3, 7)) : iz_sh (iz_rf k 5) = (2, 4) := sf_0_5_all k (iz_sh_lt h (by decide)) h
theorem sr_0_5_all : ∀ k, k < 120 → iz_sh k = (0 + 3, 7) → ∀ q, q < 4 → iz_sh (iz_rf (iz_rf k 5) q) = (0, 21) := by decide +kernel
theorem sr_0_5 {k : Nat} (h : iz_sh k = (0 + 3, 7)) {q : Int32} (hq : iz_in q 4 = true) : iz_sh (iz_rf (iz_rf k 5) q.toNatClampNeg) = (0, 21) := sr_0_5_all k (iz_sh_lt h (by decide)) h _ (Nat.not_le.mp fun e => iz_in_p hq (Or.inr e))
theorem sf_0_6_all : ∀ k, k < 120 → iz_sh k = (0 + 3, 7) → iz_sh (iz_rf k 6) = (0, 11) := by decide +kernel
theorem sf_0_6 {k : Nat} (h : iz_sh k = (0 + 3, 7)) : iz_sh (iz_rf k 6) = (0, 11) := sf_0_6_all k (iz_sh_lt h (by decide)) h
theorem sf_1_1_all : ∀ k, k < 120 → iz_sh k = (1 + 3, 13) → iz_sh (iz_rf k 1) = (0, 60) := by decide +kernel
theorem sf_1_1 {k : Nat} (h : iz_sh k = (1 + 3, 13)) : iz_sh (iz_rf k 1) = (0, 60) := sf_1_1_all k (iz_sh_lt h (by decide)) h
theorem sf_1_2_all : ∀ k, k < 120 → iz_sh k = (1 + 3, 13) → iz_sh (iz_rf k 2) = (0, 60) := by decide +kernel
theorem sf_1_2 {k : Nat} (h : iz_sh k = (1 + 3, 13)) : iz_sh (iz_rf k 2) = (0, 60) := sf_1_2_all k (iz_sh_lt h (by decide)) h
theorem sf_1_3_all : ∀ k, k < 120 → iz_sh k = (1 + 3, 13) → iz_sh (iz_rf k 3) = (0, 60) := by decide +kernel
theorem sf_1_3 {k : Nat} (h : iz_sh k = (1 + 3, 13)) : iz_sh (iz_rf k 3) = (0, 60) := sf_1_3_all k (iz_sh_lt h (by decide)) h
theorem sf_1_4_all : ∀ k, k < 120 → iz_sh k = (1 + 3, 13) → iz_sh (iz_rf k 4) = (0, 16) := by decide +kernel
theorem sf_1_4 {k : Nat} (h : iz_sh k = (1 + 3, 13)) : iz_sh (iz_rf k 4) = (0, 16) := sf_1_4_all k (iz_sh_lt h (by decide)) h
theorem sf_1_11_all : ∀ k, k < 120 → iz_sh k = (1 + 3, 13) → iz_sh (iz_rf k 11) = (7 + 3, 3) := by decide +kernel
theorem sf_1_11 {k : Nat} (h : iz_sh k = (1 + 3, 13)) : iz_sh (iz_rf k 11) = (7 + 3, 3) := sf_1_11_all k (iz_sh_lt h (by decide)) h
theorem sf_1_12_all : ∀ k, k < 120 → iz_sh k = (1 + 3, 13) → iz_sh (iz_rf k 12) = (0, 96) := by decide +kernel
theorem sf_1_12 {k : Nat} (h : iz_sh k = (1 + 3, 13)) : iz_sh (iz_rf k 12) = (0, 96) := sf_1_12_all k (iz_sh_lt h (by decide)) h
theorem sf_2_0_all : ∀ k, k < 120 → iz_sh k = (2 + 3, 3) → iz_sh (iz_rf k 0) = (0, 64) := by decide +kernel
theorem sf_2_0 {k : Nat} (h : iz_sh k = (2 + 3, 3)) : iz_sh (iz_rf k 0) = (0, 64) := sf_2_0_all k (iz_sh_lt h (by decide)) h
theorem sf_2_1_all : ∀ k, k < 120 → iz_sh k = (2 + 3, 3) → iz_sh (iz_rf k 1) = (0, 64) := by decide +kernel
theorem sf_2_1 {k : Nat} (h : iz_sh k = (2 + 3, 3)) : iz_sh (iz_rf k 1) = (0, 64) := sf_2_1_all k (iz_sh_lt h (by decide)) h
theorem sf_2_2_all : ∀ k, k < 120 → iz_sh k = (2 + 3, 3) → iz_sh (iz_rf k 2) = (1, 64) := by decide +kernel
theorem sf_2_2 {k : Nat} (h : iz_sh k = (2 + 3, 3)) : iz_sh (iz_rf k 2) = (1, 64) := sf_2_2_all k (iz_sh_lt h (by decide)) h
theorem sf_3_3_all : ∀ k, k < 120 → iz_sh k = (3 + 3, 10) → iz_sh (iz_rf k 3) = (0, 10) := by decide +kernel
theorem sf_3_3 {k : Nat} (h : iz_sh k = (3 + 3, 10)) : iz_sh (iz_rf k 3) = (0, 10) := sf_3_3_all k (iz_sh_lt h (by decide)) h
theorem sf_3_4_all : ∀ k, k < 120 → iz_sh k = (3 + 3, 10) → iz_sh (iz_rf k 4) = (1 + 3, 13) := by decide +kernel
theorem sf_3_4 {k : Nat} (h : iz_sh k = (3 + 3, 10)) : iz_sh (iz_rf k 4) = (1 + 3, 13) := sf_3_4_all k (iz_sh_lt h (by decide)) h
theorem sf_3_5_all : ∀ k, k < 120 → iz_sh k = (3 + 3, 10) → iz_sh (iz_rf k 5) = (0, 10) := by decide +kernel
theorem sf_3_5 {k : Nat} (h : iz_sh k = (3 + 3, 10)) : iz_sh (iz_rf k 5) = (0, 10) := sf_3_5_all k (iz_sh_lt h (by decide)) h
theorem sf_3_6_all : ∀ k, k < 120 → iz_sh k = (3 + 3, 10) → iz_sh (iz_rf k 6) = (0, 10) := by decide +kernel
theorem sf_3_6 {k : Nat} (h : iz_sh k = (3 + 3, 10)) : iz_sh (iz_rf k 6) = (0, 10) := sf_3_6_all k (iz_sh_lt h (by decide)) h
theorem sf_3_7_all : ∀ k, k < 120 → iz_sh k = (3 + 3, 10) → iz_sh (iz_rf k 7) = (0, 10) := by decide +kernel
theorem sf_3_7 {k : Nat} (h : iz_sh k = (3 + 3, 10)) : iz_sh (iz_rf k 7) = (0, 10) := sf_3_7_all k (iz_sh_lt h (by decide)) h
theorem sf_3_8_all : ∀ k, k < 120 → iz_sh k = (3 + 3, 10) → iz_sh (iz_rf k 8) = (0, 10) := by decide +kernel
theorem sf_3_8 {k : Nat} (h : iz_sh k = (3 + 3, 10)) : iz_sh (iz_rf k 8) = (0, 10) := sf_3_8_all k (iz_sh_lt h (by decide)) h
theorem sf_3_9_all : ∀ k, k < 120 → iz_sh k = (3 + 3, 10) → iz_sh (iz_rf k 9) = (1, 10) := by decide +kernel
theorem sf_3_9 {k : Nat} (h : iz_sh k = (3 + 3, 10)) : iz_sh (iz_rf k 9) = (1, 10) := sf_3_9_all k (iz_sh_lt h (by decide)) h
theorem sf_4_1_all : ∀ k, k < 120 → iz_sh k = (4 + 3, 6) → iz_sh (iz_rf k 1) = (0, 9) := by decide +kernel
theorem sf_4_1 {k : Nat} (h : iz_sh k = (4 + 3, 6)) : iz_sh (iz_rf k 1) = (0, 9) := sf_4_1_all k (iz_sh_lt h (by decide)) h
theorem sf_4_2_all : ∀ k, k < 120 → iz_sh k = (4 + 3, 6) → iz_sh (iz_rf k 2) = (0, 9) := by decide +kernel
theorem sf_4_2 {k : Nat} (h : iz_sh k = (4 + 3, 6)) : iz_sh (iz_rf k 2) = (0, 9) := sf_4_2_all k (iz_sh_lt h (by decide)) h
theorem sf_4_3_all : ∀ k, k < 120 → iz_sh k = (4 + 3, 6) → iz_sh (iz_rf k 3) = (0, 9) := by decide +kernel
theorem sf_4_3 {k : Nat} (h : iz_sh k = (4 + 3, 6)) : iz_sh (iz_rf k 3) = (0, 9) := sf_4_3_all k (iz_sh_lt h (by decide)) h
theorem sf_4_4_all : ∀ k, k < 120 → iz_sh k = (4 + 3, 6) → iz_sh (iz_rf k 4) = (2, 9) := by decide +kernel
theorem sf_4_4 {k : Nat} (h : iz_sh k = (4 + 3, 6)) : iz_sh (iz_rf k 4) = (2, 9) := sf_4_4_all k (iz_sh_lt h (by decide)) h
theorem sr_4_4_all : ∀ k, k < 120 → iz_sh k = (4 + 3, 6) → ∀ q, q < 9 → iz_sh (iz_rf (iz_rf k 4) q) = (0, 61) := by decide +kernel
theorem sr_4_4 {k : Nat} (h : iz_sh k = (4 + 3, 6)) {q : Int32} (hq : iz_in q 9 = true) : iz_sh (iz_rf (iz_rf k 4) q.toNatClampNeg) = (0, 61) := sr_4_4_all k (iz_sh_lt h (by decide)) h _ (Nat.not_le.mp fun e => iz_in_p hq (Or.inr e))
theorem sf_4_5_all : ∀ k, k < 120 → iz_sh k = (4 + 3, 6) → iz_sh (iz_rf k 5) = (2, 9) := by decide +kernel
theorem sf_4_5 {k : Nat} (h : iz_sh k = (4 + 3, 6)) : iz_sh (iz_rf k 5) = (2, 9) := sf_4_5_all k (iz_sh_lt h (by decide)) h
theorem sr_4_5_all : ∀ k, k < 120 → iz_sh k = (4 + 3, 6) → ∀ q, q < 9 → iz_sh (iz_rf (iz_rf k 5) q) = (0, 61) := by decide +kernel
theorem sr_4_5 {k : Nat} (h : iz_sh k = (4 + 3, 6)) {q : Int32} (hq : iz_in q 9 = true) : iz_sh (iz_rf (iz_rf k 5) q.toNatClampNeg) = (0, 61) := sr_4_5_all k (iz_sh_lt h (by decide)) h _ (Nat.not_le.mp fun e => iz_in_p hq (Or.inr e))
theorem sf_5_0_all : ∀ k, k < 120 → iz_sh k = (5 + 3, 15) → iz_sh (iz_rf k 0) = (0, 3) := by decide +kernel
theorem sf_5_0 {k : Nat} (h : iz_sh k = (5 + 3, 15)) : iz_sh (iz_rf k 0) = (0, 3) := sf_5_0_all k (iz_sh_lt h (by decide)) h
theorem sf_5_3_all : ∀ k, k < 120 → iz_sh k = (5 + 3, 15) → iz_sh (iz_rf k 3) = (0, 4) := by decide +kernel
theorem sf_5_3 {k : Nat} (h : iz_sh k = (5 + 3, 15)) : iz_sh (iz_rf k 3) = (0, 4) := sf_5_3_all k (iz_sh_lt h (by decide)) h
theorem sf_5_4_all : ∀ k, k < 120 → iz_sh k = (5 + 3, 15) → iz_sh (iz_rf k 4) = (0, 4) := by decide +kernel
theorem sf_5_4 {k : Nat} (h : iz_sh k = (5 + 3, 15)) : iz_sh (iz_rf k 4) = (0, 4) := sf_5_4_all k (iz_sh_lt h (by decide)) h
theorem sf_5_5_all : ∀ k, k < 120 → iz_sh k = (5 + 3, 15) → iz_sh (iz_rf k 5) = (1 + 3, 13) := by decide +kernel
theorem sf_5_5 {k : Nat} (h : iz_sh k = (5 + 3, 15)) : iz_sh (iz_rf k 5) = (1 + 3, 13) := sf_5_5_all k (iz_sh_lt h (by decide)) h
theorem sf_5_6_all : ∀ k, k < 120 → iz_sh k = (5 + 3, 15) → iz_sh (iz_rf k 6) = (3 + 3, 10) := by decide +kernel
theorem sf_5_6 {k : Nat} (h : iz_sh k = (5 + 3, 15)) : iz_sh (iz_rf k 6) = (3 + 3, 10) := sf_5_6_all k (iz_sh_lt h (by decide)) h
theorem sf_5_8_all : ∀ k, k < 120 → iz_sh k = (5 + 3, 15) → iz_sh (iz_rf k 8) = (1, 120) := by decide +kernel
theorem sf_5_8 {k : Nat} (h : iz_sh k = (5 + 3, 15)) : iz_sh (iz_rf k 8) = (1, 120) := sf_5_8_all k (iz_sh_lt h (by decide)) h
theorem sf_5_9_all : ∀ k, k < 120 → iz_sh k = (5 + 3, 15) → iz_sh (iz_rf k 9) = (0, 10) := by decide +kernel
theorem sf_5_9 {k : Nat} (h : iz_sh k = (5 + 3, 15)) : iz_sh (iz_rf k 9) = (0, 10) := sf_5_9_all k (iz_sh_lt h (by decide)) h
theorem sf_5_11_all : ∀ k, k < 120 → iz_sh k = (5 + 3, 15) → iz_sh (iz_rf k 11) = (1, 10) := by decide +kernel
theorem sf_5_11 {k : Nat} (h : iz_sh k = (5 + 3, 15)) : iz_sh (iz_rf k 11) = (1, 10) := sf_5_11_all k (iz_sh_lt h (by decide)) h
theorem sf_5_12_all : ∀ k, k < 120 → iz_sh k = (5 + 3, 15) → iz_sh (iz_rf k 12) = (0, 3) := by decide +kernel
theorem sf_5_12 {k : Nat} (h : iz_sh k = (5 + 3, 15)) : iz_sh (iz_rf k 12) = (0, 3) := sf_5_12_all k (iz_sh_lt h (by decide)) h
theorem sf_5_13_all : ∀ k, k < 120 → iz_sh k = (5 + 3, 15) → iz_sh (iz_rf k 13) = (0, 4) := by decide +kernel
theorem sf_5_13 {k : Nat} (h : iz_sh k = (5 + 3, 15)) : iz_sh (iz_rf k 13) = (0, 4) := sf_5_13_all k (iz_sh_lt h (by decide)) h
theorem sf_5_14_all : ∀ k, k < 120 → iz_sh k = (5 + 3, 15) → iz_sh (iz_rf k 14) = (0, 4) := by decide +kernel
theorem sf_5_14 {k : Nat} (h : iz_sh k = (5 + 3, 15)) : iz_sh (iz_rf k 14) = (0, 4) := sf_5_14_all k (iz_sh_lt h (by decide)) h
theorem sf_6_0_all : ∀ k, k < 120 → iz_sh k = (6 + 3, 7) → iz_sh (iz_rf k 0) = (0, 6) := by decide +kernel
theorem sf_6_0 {k : Nat} (h : iz_sh k = (6 + 3, 7)) : iz_sh (iz_rf k 0) = (0, 6) := sf_6_0_all k (iz_sh_lt h (by decide)) h
theorem sf_6_2_all : ∀ k, k < 120 → iz_sh k = (6 + 3, 7) → iz_sh (iz_rf k 2) = (0, 6) := by decide +kernel
theorem sf_6_2 {k : Nat} (h : iz_sh k = (6 + 3, 7)) : iz_sh (iz_rf k 2) = (0, 6) := sf_6_2_all k (iz_sh_lt h (by decide)) h
theorem sf_6_4_all : ∀ k, k < 120 → iz_sh k = (6 + 3, 7) → iz_sh (iz_rf k 4) = (0, 64) := by decide +kernel
theorem sf_6_4 {k : Nat} (h : iz_sh k = (6 + 3, 7)) : iz_sh (iz_rf k 4) = (0, 64) := sf_6_4_all k (iz_sh_lt h (by decide)) h
theorem sf_7_0_all : ∀ k, k < 120 → iz_sh k = (7 + 3, 3) → iz_sh (iz_rf k 0) = (0, 4) := by decide +kernel
theorem sf_7_0 {k : Nat} (h : iz_sh k = (7 + 3, 3)) : iz_sh (iz_rf k 0) = (0, 4) := sf_7_0_all k (iz_sh_lt h (by decide)) h
theorem sf_7_1_all : ∀ k, k < 120 → iz_sh k = (7 + 3, 3) → iz_sh (iz_rf k 1) = (0, 16) := by decide +kernel
theorem sf_7_1 {k : Nat} (h : iz_sh k = (7 + 3, 3)) : iz_sh (iz_rf k 1) = (0, 16) := sf_7_1_all k (iz_sh_lt h (by decide)) h
theorem sf_7_2_all : ∀ k, k < 120 → iz_sh k = (7 + 3, 3) → iz_sh (iz_rf k 2) = (0, 100) := by decide +kernel
theorem sf_7_2 {k : Nat} (h : iz_sh k = (7 + 3, 3)) : iz_sh (iz_rf k 2) = (0, 100) := sf_7_2_all k (iz_sh_lt h (by decide)) h
theorem sf_8_1_all : ∀ k, k < 120 → iz_sh k = (8 + 3, 2) → iz_sh (iz_rf k 1) = (0, 16) := by decide +kernel
theorem sf_8_1 {k : Nat} (h : iz_sh k = (8 + 3, 2)) : iz_sh (iz_rf k 1) = (0, 16) := sf_8_1_all k (iz_sh_lt h (by decide)) h
theorem sf_9_0_all : ∀ k, k < 120 → iz_sh k = (9 + 3, 11) → iz_sh (iz_rf k 0) = (2 + 3, 3) := by decide +kernel
theorem sf_9_0 {k : Nat} (h : iz_sh k = (9 + 3, 11)) : iz_sh (iz_rf k 0) = (2 + 3, 3) := sf_9_0_all k (iz_sh_lt h (by decide)) h
theorem sf_9_1_all : ∀ k, k < 120 → iz_sh k = (9 + 3, 11) → iz_sh (iz_rf k 1) = (6 + 3, 7) := by decide +kernel
theorem sf_9_1 {k : Nat} (h : iz_sh k = (9 + 3, 11)) : iz_sh (iz_rf k 1) = (6 + 3, 7) := sf_9_1_all k (iz_sh_lt h (by decide)) h
theorem sf_9_2_all : ∀ k, k < 120 → iz_sh k = (9 + 3, 11) → iz_sh (iz_rf k 2) = (7 + 3, 3) := by decide +kernel
theorem sf_9_2 {k : Nat} (h : iz_sh k = (9 + 3, 11)) : iz_sh (iz_rf k 2) = (7 + 3, 3) := sf_9_2_all k (iz_sh_lt h (by decide)) h
theorem sf_9_3_all : ∀ k, k < 120 → iz_sh k = (9 + 3, 11) → iz_sh (iz_rf k 3) = (1 + 3, 13) := by decide +kernel
theorem sf_9_3 {k : Nat} (h : iz_sh k = (9 + 3, 11)) : iz_sh (iz_rf k 3) = (1 + 3, 13) := sf_9_3_all k (iz_sh_lt h (by decide)) h
theorem sf_9_4_all : ∀ k, k < 120 → iz_sh k = (9 + 3, 11) → iz_sh (iz_rf k 4) = (1 + 3, 13) := by decide +kernel
theorem sf_9_4 {k : Nat} (h : iz_sh k = (9 + 3, 11)) : iz_sh (iz_rf k 4) = (1 + 3, 13) := sf_9_4_all k (iz_sh_lt h (by decide)) h
theorem sf_9_5_all : ∀ k, k < 120 → iz_sh k = (9 + 3, 11) → iz_sh (iz_rf k 5) = (0 + 3, 7) := by decide +kernel
theorem sf_9_5 {k : Nat} (h : iz_sh k = (9 + 3, 11)) : iz_sh (iz_rf k 5) = (0 + 3, 7) := sf_9_5_all k (iz_sh_lt h (by decide)) h
theorem sf_9_6_all : ∀ k, k < 120 → iz_sh k = (9 + 3, 11) → iz_sh (iz_rf k 6) = (3 + 3, 10) := by decide +kernel
theorem sf_9_6 {k : Nat} (h : iz_sh k = (9 + 3, 11)) : iz_sh (iz_rf k 6) = (3 + 3, 10) := sf_9_6_all k (iz_sh_lt h (by decide)) h
theorem sf_9_7_all : ∀ k, k < 120 → iz_sh k = (9 + 3, 11) → iz_sh (iz_rf k 7) = (5 + 3, 15) := by decide +kernel
theorem sf_9_7 {k : Nat} (h : iz_sh k = (9 + 3, 11)) : iz_sh (iz_rf k 7) = (5 + 3, 15) := sf_9_7_all k (iz_sh_lt h (by decide)) h
theorem sf_9_8_all : ∀ k, k < 120 → iz_sh k = (9 + 3, 11) → iz_sh (iz_rf k 8) = (4 + 3, 6) := by decide +kernel
theorem sf_9_8 {k : Nat} (h : iz_sh k = (9 + 3, 11)) : iz_sh (iz_rf k 8) = (4 + 3, 6) := sf_9_8_all k (iz_sh_lt h (by decide)) h
theorem sf_9_9_all : ∀ k, k < 120 → iz_sh k = (9 + 3, 11) → iz_sh (iz_rf k 9) = (8 + 3, 2) := by decide +kernel
theorem sf_9_9 {k : Nat} (h : iz_sh k = (9 + 3, 11)) : iz_sh (iz_rf k 9) = (8 + 3, 2) := sf_9_9_all k (iz_sh_lt h (by decide)) h
theorem sf_9_10_all : ∀ k, k < 120 → iz_sh k = (9 + 3, 11) → iz_sh (iz_rf k 10) = (0, 6) := by decide +kernel
theorem sf_9_10 {k : Nat} (h : iz_sh k = (9 + 3, 11)) : iz_sh (iz_rf k 10) = (0, 6) := sf_9_10_all k (iz_sh_lt h (by decide)) h
theorem sf_10_0_all : ∀ k, k < 120 → iz_sh k = (10 + 3, 48) → iz_sh (iz_rf k 0) = (0, 64) := by decide +kernel
theorem sf_10_0 {k : Nat} (h : iz_sh k = (10 + 3, 48)) : iz_sh (iz_rf k 0) = (0, 64) := sf_10_0_all k (iz_sh_lt h (by decide)) h
theorem sf_10_1_all : ∀ k, k < 120 → iz_sh k = (10 + 3, 48) → iz_sh (iz_rf k 1) = (0, 64) := by decide +kernel
theorem sf_10_1 {k : Nat} (h : iz_sh k = (10 + 3, 48)) : iz_sh (iz_rf k 1) = (0, 64) := sf_10_1_all k (iz_sh_lt h (by decide)) h
theorem sf_10_2_all : ∀ k, k < 120 → iz_sh k = (10 + 3, 48) → iz_sh (iz_rf k 2) = (1, 64) := by decide +kernel
theorem sf_10_2 {k : Nat} (h : iz_sh k = (10 + 3, 48)) : iz_sh (iz_rf k 2) = (1, 64) := sf_10_2_all k (iz_sh_lt h (by decide)) h
theorem sf_10_4_all : ∀ k, k < 120 → iz_sh k = (10 + 3, 48) → iz_sh (iz_rf k 4) = (0, 60) := by decide +kernel
theorem sf_10_4 {k : Nat} (h : iz_sh k = (10 + 3, 48)) : iz_sh (iz_rf k 4) = (0, 60) := sf_10_4_all k (iz_sh_lt h (by decide)) h
theorem sf_10_5_all : ∀ k, k < 120 → iz_sh k = (10 + 3, 48) → iz_sh (iz_rf k 5) = (0, 60) := by decide +kernel
theorem sf_10_5 {k : Nat} (h : iz_sh k = (10 + 3, 48)) : iz_sh (iz_rf k 5) = (0, 60) := sf_10_5_all k (iz_sh_lt h (by decide)) h
theorem sf_10_6_all : ∀ k, k < 120 → iz_sh k = (10 + 3, 48) → iz_sh (iz_rf k 6) = (0, 60) := by decide +kernel
theorem sf_10_6 {k : Nat} (h : iz_sh k = (10 + 3, 48)) : iz_sh (iz_rf k 6) = (0, 60) := sf_10_6_all k (iz_sh_lt h (by decide)) h
theorem sf_10_7_all : ∀ k, k < 120 → iz_sh k = (10 + 3, 48) → iz_sh (iz_rf k 7) = (0, 60) := by decide +kernel
theorem sf_10_7 {k : Nat} (h : iz_sh k = (10 + 3, 48)) : iz_sh (iz_rf k 7) = (0, 60) := sf_10_7_all k (iz_sh_lt h (by decide)) h
theorem sf_10_8_all : ∀ k, k < 120 → iz_sh k = (10 + 3, 48) → iz_sh (iz_rf k 8) = (0, 96) := by decide +kernel
theorem sf_10_8 {k : Nat} (h : iz_sh k = (10 + 3, 48)) : iz_sh (iz_rf k 8) = (0, 96) := sf_10_8_all k (iz_sh_lt h (by decide)) h
theorem sf_10_9_all : ∀ k, k < 120 → iz_sh k = (10 + 3, 48) → iz_sh (iz_rf k 9) = (0, 16) := by decide +kernel
theorem sf_10_9 {k : Nat} (h : iz_sh k = (10 + 3, 48)) : iz_sh (iz_rf k 9) = (0, 16) := sf_10_9_all k (iz_sh_lt h (by decide)) h
theorem sf_10_10_all : ∀ k, k < 120 → iz_sh k = (10 + 3, 48) → iz_sh (iz_rf k 10) = (0, 4) := by decide +kernel
theorem sf_10_10 {k : Nat} (h : iz_sh k = (10 + 3, 48)) : iz_sh (iz_rf k 10) = (0, 4) := sf_10_10_all k (iz_sh_lt h (by decide)) h
theorem sf_10_11_all : ∀ k, k < 120 → iz_sh k = (10 + 3, 48) → iz_sh (iz_rf k 11) = (0, 16) := by decide +kernel
theorem sf_10_11 {k : Nat} (h : iz_sh k = (10 + 3, 48)) : iz_sh (iz_rf k 11) = (0, 16) := sf_10_11_all k (iz_sh_lt h (by decide)) h
theorem sf_10_12_all : ∀ k, k < 120 → iz_sh k = (10 + 3, 48) → iz_sh (iz_rf k 12) = (0, 100) := by decide +kernel
theorem sf_10_12 {k : Nat} (h : iz_sh k = (10 + 3, 48)) : iz_sh (iz_rf k 12) = (0, 100) := sf_10_12_all k (iz_sh_lt h (by decide)) h
theorem sf_10_15_all : ∀ k, k < 120 → iz_sh k = (10 + 3, 48) → iz_sh (iz_rf k 15) = (0, 10) := by decide +kernel
theorem sf_10_15 {k : Nat} (h : iz_sh k = (10 + 3, 48)) : iz_sh (iz_rf k 15) = (0, 10) := sf_10_15_all k (iz_sh_lt h (by decide)) h
theorem sf_10_16_all : ∀ k, k < 120 → iz_sh k = (10 + 3, 48) → iz_sh (iz_rf k 16) = (0, 10) := by decide +kernel
theorem sf_10_16 {k : Nat} (h : iz_sh k = (10 + 3, 48)) : iz_sh (iz_rf k 16) = (0, 10) := sf_10_16_all k (iz_sh_lt h (by decide)) h
theorem sf_10_17_all : ∀ k, k < 120 → iz_sh k = (10 + 3, 48) → iz_sh (iz_rf k 17) = (0, 10) := by decide +kernel
theorem sf_10_17 {k : Nat} (h : iz_sh k = (10 + 3, 48)) : iz_sh (iz_rf k 17) = (0, 10) := sf_10_17_all k (iz_sh_lt h (by decide)) h
theorem sf_10_18_all : ∀ k, k < 120 → iz_sh k = (10 + 3, 48) → iz_sh (iz_rf k 18) = (0, 10) := by decide +kernel
theorem sf_10_18 {k : Nat} (h : iz_sh k = (10 + 3, 48)) : iz_sh (iz_rf k 18) = (0, 10) := sf_10_18_all k (iz_sh_lt h (by decide)) h
theorem sf_10_19_all : ∀ k, k < 120 → iz_sh k = (10 + 3, 48) → iz_sh (iz_rf k 19) = (0, 10) := by decide +kernel
theorem sf_10_19 {k : Nat} (h : iz_sh k = (10 + 3, 48)) : iz_sh (iz_rf k 19) = (0, 10) := sf_10_19_all k (iz_sh_lt h (by decide)) h
theorem sf_10_20_all : ∀ k, k < 120 → iz_sh k = (10 + 3, 48) → iz_sh (iz_rf k 20) = (1, 10) := by decide +kernel
theorem sf_10_20 {k : Nat} (h : iz_sh k = (10 + 3, 48)) : iz_sh (iz_rf k 20) = (1, 10) := sf_10_20_all k (iz_sh_lt h (by decide)) h
theorem sf_10_22_all : ∀ k, k < 120 → iz_sh k = (10 + 3, 48) → iz_sh (iz_rf k 22) = (0, 9) := by decide +kernel
theorem sf_10_22 {k : Nat} (h : iz_sh k = (10 + 3, 48)) : iz_sh (iz_rf k 22) = (0, 9) := sf_10_22_all k (iz_sh_lt h (by decide)) h
theorem sf_10_23_all : ∀ k, k < 120 → iz_sh k = (10 + 3, 48) → iz_sh (iz_rf k 23) = (0, 9) := by decide +kernel
theorem sf_10_23 {k : Nat} (h : iz_sh k = (10 + 3, 48)) : iz_sh (iz_rf k 23) = (0, 9) := sf_10_23_all k (iz_sh_lt h (by decide)) h
theorem sf_10_24_all : ∀ k, k < 120 → iz_sh k = (10 + 3, 48) → iz_sh (iz_rf k 24) = (0, 9) := by decide +kernel
theorem sf_10_24 {k : Nat} (h : iz_sh k = (10 + 3, 48)) : iz_sh (iz_rf k 24) = (0, 9) := sf_10_24_all k (iz_sh_lt h (by decide)) h
theorem sf_10_25_all : ∀ k, k < 120 → iz_sh k = (10 + 3, 48) → iz_sh (iz_rf k 25) = (0, 6) := by decide +kernel
theorem sf_10_25 {k : Nat} (h : iz_sh k = (10 + 3, 48)) : iz_sh (iz_rf k 25) = (0, 6) := sf_10_25_all k (iz_sh_lt h (by decide)) h
theorem sf_10_27_all : ∀ k, k < 120 → iz_sh k = (10 + 3, 48) → iz_sh (iz_rf k 27) = (0, 16) := by decide +kernel
theorem sf_10_27 {k : Nat} (h : iz_sh k = (10 + 3, 48)) : iz_sh (iz_rf k 27) = (0, 16) := sf_10_27_all k (iz_sh_lt h (by decide)) h
theorem sf_10_28_all : ∀ k, k < 120 → iz_sh k = (10 + 3, 48) → iz_sh (iz_rf k 28) = (0, 6) := by decide +kernel
theorem sf_10_28 {k : Nat} (h : iz_sh k = (10 + 3, 48)) : iz_sh (iz_rf k 28) = (0, 6) := sf_10_28_all k (iz_sh_lt h (by decide)) h
theorem sf_10_29_all : ∀ k, k < 120 → iz_sh k = (10 + 3, 48) → iz_sh (iz_rf k 29) = (1, 64) := by decide +kernel
theorem sf_10_29 {k : Nat} (h : iz_sh k = (10 + 3, 48)) : iz_sh (iz_rf k 29) = (1, 64) := sf_10_29_all k (iz_sh_lt h (by decide)) h
theorem sf_10_30_all : ∀ k, k < 120 → iz_sh k = (10 + 3, 48) → iz_sh (iz_rf k 30) = (0, 64) := by decide +kernel
theorem sf_10_30 {k : Nat} (h : iz_sh k = (10 + 3, 48)) : iz_sh (iz_rf k 30) = (0, 64) := sf_10_30_all k (iz_sh_lt h (by decide)) h
theorem sf_10_31_all : ∀ k, k < 120 → iz_sh k = (10 + 3, 48) → iz_sh (iz_rf k 31) = (0, 6) := by decide +kernel
theorem sf_10_31 {k : Nat} (h : iz_sh k = (10 + 3, 48)) : iz_sh (iz_rf k 31) = (0, 6) := sf_10_31_all k (iz_sh_lt h (by decide)) h
theorem sf_10_33_all : ∀ k, k < 120 → iz_sh k = (10 + 3, 48) → iz_sh (iz_rf k 33) = (0, 6) := by decide +kernel
theorem sf_10_33 {k : Nat} (h : iz_sh k = (10 + 3, 48)) : iz_sh (iz_rf k 33) = (0, 6) := sf_10_33_all k (iz_sh_lt h (by decide)) h
theorem sf_10_34_all : ∀ k, k < 120 → iz_sh k = (10 + 3, 48) → iz_sh (iz_rf k 34) = (0, 6) := by decide +kernel
theorem sf_10_34 {k : Nat} (h : iz_sh k = (10 + 3, 48)) : iz_sh (iz_rf k 34) = (0, 6) := sf_10_34_all k (iz_sh_lt h (by decide)) h
theorem sf_10_36_all : ∀ k, k < 120 → iz_sh k = (10 + 3, 48) → iz_sh (iz_rf k 36) = (0, 256) := by decide +kernel
theorem sf_10_36 {k : Nat} (h : iz_sh k = (10 + 3, 48)) : iz_sh (iz_rf k 36) = (0, 256) := sf_10_36_all k (iz_sh_lt h (by decide)) h
theorem sf_10_37_all : ∀ k, k < 120 → iz_sh k = (10 + 3, 48) → iz_sh (iz_rf k 37) = (0, 96) := by decide +kernel
theorem sf_10_37 {k : Nat} (h : iz_sh k = (10 + 3, 48)) : iz_sh (iz_rf k 37) = (0, 96) := sf_10_37_all k (iz_sh_lt h (by decide)) h
theorem sf_10_38_all : ∀ k, k < 120 → iz_sh k = (10 + 3, 48) → iz_sh (iz_rf k 38) = (0, 320) := by decide +kernel
theorem sf_10_38 {k : Nat} (h : iz_sh k = (10 + 3, 48)) : iz_sh (iz_rf k 38) = (0, 320) := sf_10_38_all k (iz_sh_lt h (by decide)) h
theorem sf_10_41_all : ∀ k, k < 120 → iz_sh k = (10 + 3, 48) → iz_sh (iz_rf k 41) = (0, 4) := by decide +kernel
theorem sf_10_41 {k : Nat} (h : iz_sh k = (10 + 3, 48)) : iz_sh (iz_rf k 41) = (0, 4) := sf_10_41_all k (iz_sh_lt h (by decide)) h
theorem sf_10_42_all : ∀ k, k < 120 → iz_sh k = (10 + 3, 48) → iz_sh (iz_rf k 42) = (0, 4) := by decide +kernel
theorem sf_10_42 {k : Nat} (h : iz_sh k = (10 + 3, 48)) : iz_sh (iz_rf k 42) = (0, 4) := sf_10_42_all k (iz_sh_lt h (by decide)) h
theorem sf_10_43_all : ∀ k, k < 120 → iz_sh k = (10 + 3, 48) → iz_sh (iz_rf k 43) = (0, 8) := by decide +kernel
theorem sf_10_43 {k : Nat} (h : iz_sh k = (10 + 3, 48)) : iz_sh (iz_rf k 43) = (0, 8) := sf_10_43_all k (iz_sh_lt h (by decide)) h
theorem sf_10_44_all : ∀ k, k < 120 → iz_sh k = (10 + 3, 48) → iz_sh (iz_rf k 44) = (0, 8) := by decide +kernel
theorem sf_10_44 {k : Nat} (h : iz_sh k = (10 + 3, 48)) : iz_sh (iz_rf k 44) = (0, 8) := sf_10_44_all k (iz_sh_lt h (by decide)) h
theorem sf_10_47_all : ∀ k, k < 120 → iz_sh k = (10 + 3, 48) → iz_sh (iz_rf k 47) = (0, 549) := by decide +kernel
theorem sf_10_47 {k : Nat} (h : iz_sh k = (10 + 3, 48)) : iz_sh (iz_rf k 47) = (0, 549) := sf_10_47_all k (iz_sh_lt h (by decide)) h
end
