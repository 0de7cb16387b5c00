section
-- ===== PART A: goes FIRST, ahead of the names: the tables' words, and 'selects' of the private methods out of them =====
/-- a private method of a class that the tables say can be made, by its rows of tables_1 -/
def lw_okq (q : MethodName × Nat) : Prop := (q.1.cls ≠ "java/lang/invoke/MethodHandle" ∧ q.1.cls ≠ "java/lang/invoke/VarHandle") ∧ Cond.instantiable q.1.cls q.2 ∈ tables_1 ∧ Cond.privateMethod q.1 ∈ tables_1 ∧ Cond.instanceMethod q.1 ∈ tables_1
theorem lw_p0 : lw_okq (⟨"SquareGrounds", "found", "(I)I"⟩, 10) := ⟨⟨by decide +kernel, by decide +kernel⟩, List.mem_of_getElem? (i := 13) (by decide +kernel), List.mem_of_getElem? (i := 265) (by decide +kernel), List.mem_of_getElem? (i := 266) (by decide +kernel)⟩
theorem lw_p1 : lw_okq (⟨"SquareGrounds$Ground", "glue", "(III)V"⟩, 6) := ⟨⟨by decide +kernel, by decide +kernel⟩, List.mem_of_getElem? (i := 24) (by decide +kernel), List.mem_of_getElem? (i := 321) (by decide +kernel), List.mem_of_getElem? (i := 322) (by decide +kernel)⟩
theorem lw_p2 : lw_okq (⟨"SquareGrounds$Naming", "rowFrom", "(LSquareGrounds$Ground;I)J"⟩, 5) := ⟨⟨by decide +kernel, by decide +kernel⟩, List.mem_of_getElem? (i := 94) (by decide +kernel), List.mem_of_getElem? (i := 354) (by decide +kernel), List.mem_of_getElem? (i := 355) (by decide +kernel)⟩
theorem lw_p3 : lw_okq (⟨"SquareGrounds$Naming", "number", "(I)I"⟩, 5) := ⟨⟨by decide +kernel, by decide +kernel⟩, List.mem_of_getElem? (i := 94) (by decide +kernel), List.mem_of_getElem? (i := 358) (by decide +kernel), List.mem_of_getElem? (i := 359) (by decide +kernel)⟩
theorem lw_p4 : lw_okq (⟨"SquareGrounds$Corners", "bendFrom", "(LSquareGrounds$Ground;I)I"⟩, 7) := ⟨⟨by decide +kernel, by decide +kernel⟩, List.mem_of_getElem? (i := 61) (by decide +kernel), List.mem_of_getElem? (i := 366) (by decide +kernel), List.mem_of_getElem? (i := 367) (by decide +kernel)⟩
theorem lw_p5 : lw_okq (⟨"SquareGrounds$Corners", "note", "(I)V"⟩, 7) := ⟨⟨by decide +kernel, by decide +kernel⟩, List.mem_of_getElem? (i := 61) (by decide +kernel), List.mem_of_getElem? (i := 374) (by decide +kernel), List.mem_of_getElem? (i := 375) (by decide +kernel)⟩
theorem lw_p6 : lw_okq (⟨"SquareGrounds$Ground", "slideOnce", "([I[I)V"⟩, 6) := ⟨⟨by decide +kernel, by decide +kernel⟩, List.mem_of_getElem? (i := 24) (by decide +kernel), List.mem_of_getElem? (i := 442) (by decide +kernel), List.mem_of_getElem? (i := 443) (by decide +kernel)⟩
theorem lw_p7 : lw_okq (⟨"SquareGrounds$Ground", "quarterBack", "()V"⟩, 6) := ⟨⟨by decide +kernel, by decide +kernel⟩, List.mem_of_getElem? (i := 24) (by decide +kernel), List.mem_of_getElem? (i := 475) (by decide +kernel), List.mem_of_getElem? (i := 476) (by decide +kernel)⟩
theorem lw_p8 : lw_okq (⟨"SquareGrounds$Cylinders", "partInRings", "(LSquareGrounds$Ground;)V"⟩, 7) := ⟨⟨by decide +kernel, by decide +kernel⟩, List.mem_of_getElem? (i := 119) (by decide +kernel), List.mem_of_getElem? (i := 488) (by decide +kernel), List.mem_of_getElem? (i := 489) (by decide +kernel)⟩
theorem lw_p9 : lw_okq (⟨"SquareGrounds$Cylinders", "liesFlatBelow", "(LSquareGrounds$Ground;I)Z"⟩, 7) := ⟨⟨by decide +kernel, by decide +kernel⟩, List.mem_of_getElem? (i := 119) (by decide +kernel), List.mem_of_getElem? (i := 492) (by decide +kernel), List.mem_of_getElem? (i := 493) (by decide +kernel)⟩
theorem lw_p10 : lw_okq (⟨"SquareGrounds$Cylinders", "join", "(III)V"⟩, 7) := ⟨⟨by decide +kernel, by decide +kernel⟩, List.mem_of_getElem? (i := 119) (by decide +kernel), List.mem_of_getElem? (i := 496) (by decide +kernel), List.mem_of_getElem? (i := 497) (by decide +kernel)⟩
theorem lw_p11 : lw_okq (⟨"SquareGrounds$Cylinders", "list", "(LSquareGrounds$Ground;)V"⟩, 7) := ⟨⟨by decide +kernel, by decide +kernel⟩, List.mem_of_getElem? (i := 119) (by decide +kernel), List.mem_of_getElem? (i := 502) (by decide +kernel), List.mem_of_getElem? (i := 503) (by decide +kernel)⟩
theorem lw_p12 : lw_okq (⟨"SquareGrounds$Cylinders", "ringsIn", "(II)I"⟩, 7) := ⟨⟨by decide +kernel, by decide +kernel⟩, List.mem_of_getElem? (i := 119) (by decide +kernel), List.mem_of_getElem? (i := 507) (by decide +kernel), List.mem_of_getElem? (i := 508) (by decide +kernel)⟩
theorem lw_p13 : lw_okq (⟨"SquareGrounds", "refusedReach", "(I)I"⟩, 10) := ⟨⟨by decide +kernel, by decide +kernel⟩, List.mem_of_getElem? (i := 13) (by decide +kernel), List.mem_of_getElem? (i := 534) (by decide +kernel), List.mem_of_getElem? (i := 535) (by decide +kernel)⟩
theorem lw_p14 : lw_okq (⟨"SquareGrounds$Reach", "numberOrNew", "()I"⟩, 8) := ⟨⟨by decide +kernel, by decide +kernel⟩, List.mem_of_getElem? (i := 153) (by decide +kernel), List.mem_of_getElem? (i := 549) (by decide +kernel), List.mem_of_getElem? (i := 550) (by decide +kernel)⟩
theorem lw_p15 : lw_okq (⟨"SquareGrounds", "selvesOf", "(LSquareGrounds$Ground;)I"⟩, 10) := ⟨⟨by decide +kernel, by decide +kernel⟩, List.mem_of_getElem? (i := 13) (by decide +kernel), List.mem_of_getElem? (i := 563) (by decide +kernel), List.mem_of_getElem? (i := 564) (by decide +kernel)⟩
def lw_privs_1 : List (MethodName × Nat) := [(⟨"SquareGrounds", "found", "(I)I"⟩, 10), (⟨"SquareGrounds$Ground", "glue", "(III)V"⟩, 6), (⟨"SquareGrounds$Naming", "rowFrom", "(LSquareGrounds$Ground;I)J"⟩, 5), (⟨"SquareGrounds$Naming", "number", "(I)I"⟩, 5), (⟨"SquareGrounds$Corners", "bendFrom", "(LSquareGrounds$Ground;I)I"⟩, 7), (⟨"SquareGrounds$Corners", "note", "(I)V"⟩, 7), (⟨"SquareGrounds$Ground", "slideOnce", "([I[I)V"⟩, 6), (⟨"SquareGrounds$Ground", "quarterBack", "()V"⟩, 6), (⟨"SquareGrounds$Cylinders", "partInRings", "(LSquareGrounds$Ground;)V"⟩, 7), (⟨"SquareGrounds$Cylinders", "liesFlatBelow", "(LSquareGrounds$Ground;I)Z"⟩, 7), (⟨"SquareGrounds$Cylinders", "join", "(III)V"⟩, 7), (⟨"SquareGrounds$Cylinders", "list", "(LSquareGrounds$Ground;)V"⟩, 7), (⟨"SquareGrounds$Cylinders", "ringsIn", "(II)I"⟩, 7), (⟨"SquareGrounds", "refusedReach", "(I)I"⟩, 10), (⟨"SquareGrounds$Reach", "numberOrNew", "()I"⟩, 8), (⟨"SquareGrounds", "selvesOf", "(LSquareGrounds$Ground;)I"⟩, 10)]
theorem lw_r1 : ∀ q ∈ lw_privs_1, lw_okq q := List.forall_mem_cons.mpr ⟨lw_p0, List.forall_mem_cons.mpr ⟨lw_p1, List.forall_mem_cons.mpr ⟨lw_p2, List.forall_mem_cons.mpr ⟨lw_p3, List.forall_mem_cons.mpr ⟨lw_p4, List.forall_mem_cons.mpr ⟨lw_p5, List.forall_mem_cons.mpr ⟨lw_p6, List.forall_mem_cons.mpr ⟨lw_p7, List.forall_mem_cons.mpr ⟨lw_p8, List.forall_mem_cons.mpr ⟨lw_p9, List.forall_mem_cons.mpr ⟨lw_p10, List.forall_mem_cons.mpr ⟨lw_p11, List.forall_mem_cons.mpr ⟨lw_p12, List.forall_mem_cons.mpr ⟨lw_p13, List.forall_mem_cons.mpr ⟨lw_p14, List.forall_mem_cons.mpr ⟨lw_p15, fun _ h => absurd h List.not_mem_nil⟩⟩⟩⟩⟩⟩⟩⟩⟩⟩⟩⟩⟩⟩⟩⟩
theorem lw_p16 : lw_okq (⟨"SquareGrounds", "cylindersOf", "(LSquareGrounds$Ground;)I"⟩, 10) := ⟨⟨by decide +kernel, by decide +kernel⟩, List.mem_of_getElem? (i := 13) (by decide +kernel), List.mem_of_getElem? (i := 567) (by decide +kernel), List.mem_of_getElem? (i := 568) (by decide +kernel)⟩
theorem lw_p17 : lw_okq (⟨"SquareGrounds$Reach", "roundFrom", "(I)I"⟩, 8) := ⟨⟨by decide +kernel, by decide +kernel⟩, List.mem_of_getElem? (i := 153) (by decide +kernel), List.mem_of_getElem? (i := 579) (by decide +kernel), List.mem_of_getElem? (i := 580) (by decide +kernel)⟩
theorem lw_p18 : lw_okq (⟨"SquareGrounds", "sharesInReach", "()J"⟩, 10) := ⟨⟨by decide +kernel, by decide +kernel⟩, List.mem_of_getElem? (i := 13) (by decide +kernel), List.mem_of_getElem? (i := 595) (by decide +kernel), List.mem_of_getElem? (i := 596) (by decide +kernel)⟩
theorem lw_p19 : lw_okq (⟨"SquareGrounds", "sheetsThere", "()I"⟩, 10) := ⟨⟨by decide +kernel, by decide +kernel⟩, List.mem_of_getElem? (i := 13) (by decide +kernel), List.mem_of_getElem? (i := 622) (by decide +kernel), List.mem_of_getElem? (i := 623) (by decide +kernel)⟩
theorem lw_p20 : lw_okq (⟨"SquareGrounds", "groundsThere", "(Z)I"⟩, 10) := ⟨⟨by decide +kernel, by decide +kernel⟩, List.mem_of_getElem? (i := 13) (by decide +kernel), List.mem_of_getElem? (i := 626) (by decide +kernel), List.mem_of_getElem? (i := 627) (by decide +kernel)⟩
theorem lw_p21 : lw_okq (⟨"SquareGroundsModel", "meets", "(I)I"⟩, 30) := ⟨⟨by decide +kernel, by decide +kernel⟩, List.mem_of_getElem? (i := 653) (by decide +kernel), List.mem_of_getElem? (i := 760) (by decide +kernel), List.mem_of_getElem? (i := 761) (by decide +kernel)⟩
theorem lw_p22 : lw_okq (⟨"SquareGroundsModel", "looked", "(I)I"⟩, 30) := ⟨⟨by decide +kernel, by decide +kernel⟩, List.mem_of_getElem? (i := 653) (by decide +kernel), List.mem_of_getElem? (i := 768) (by decide +kernel), List.mem_of_getElem? (i := 769) (by decide +kernel)⟩
theorem lw_p23 : lw_okq (⟨"SquareGroundsModel", "isWhole", "(II)Z"⟩, 30) := ⟨⟨by decide +kernel, by decide +kernel⟩, List.mem_of_getElem? (i := 653) (by decide +kernel), List.mem_of_getElem? (i := 787) (by decide +kernel), List.mem_of_getElem? (i := 788) (by decide +kernel)⟩
theorem lw_p24 : lw_okq (⟨"SquareGroundsModel", "numbered", "(I)I"⟩, 30) := ⟨⟨by decide +kernel, by decide +kernel⟩, List.mem_of_getElem? (i := 653) (by decide +kernel), List.mem_of_getElem? (i := 791) (by decide +kernel), List.mem_of_getElem? (i := 792) (by decide +kernel)⟩
theorem lw_p25 : lw_okq (⟨"SquareGroundsModel", "keep", "(I)I"⟩, 30) := ⟨⟨by decide +kernel, by decide +kernel⟩, List.mem_of_getElem? (i := 653) (by decide +kernel), List.mem_of_getElem? (i := 795) (by decide +kernel), List.mem_of_getElem? (i := 796) (by decide +kernel)⟩
theorem lw_p26 : lw_okq (⟨"SquareGroundsModel", "askedFor", "(I)I"⟩, 30) := ⟨⟨by decide +kernel, by decide +kernel⟩, List.mem_of_getElem? (i := 653) (by decide +kernel), List.mem_of_getElem? (i := 803) (by decide +kernel), List.mem_of_getElem? (i := 804) (by decide +kernel)⟩
theorem lw_p27 : lw_okq (⟨"SquareGroundsModel", "load", "(I)V"⟩, 30) := ⟨⟨by decide +kernel, by decide +kernel⟩, List.mem_of_getElem? (i := 653) (by decide +kernel), List.mem_of_getElem? (i := 807) (by decide +kernel), List.mem_of_getElem? (i := 808) (by decide +kernel)⟩
theorem lw_p28 : lw_okq (⟨"SquareGroundsModel", "setBack", "()V"⟩, 30) := ⟨⟨by decide +kernel, by decide +kernel⟩, List.mem_of_getElem? (i := 653) (by decide +kernel), List.mem_of_getElem? (i := 811) (by decide +kernel), List.mem_of_getElem? (i := 812) (by decide +kernel)⟩
theorem lw_p29 : lw_okq (⟨"SquareGroundsModel", "tells", "(I)I"⟩, 30) := ⟨⟨by decide +kernel, by decide +kernel⟩, List.mem_of_getElem? (i := 653) (by decide +kernel), List.mem_of_getElem? (i := 823) (by decide +kernel), List.mem_of_getElem? (i := 824) (by decide +kernel)⟩
theorem lw_p30 : lw_okq (⟨"SquareGroundsModel", "setName", "()V"⟩, 30) := ⟨⟨by decide +kernel, by decide +kernel⟩, List.mem_of_getElem? (i := 653) (by decide +kernel), List.mem_of_getElem? (i := 827) (by decide +kernel), List.mem_of_getElem? (i := 828) (by decide +kernel)⟩
theorem lw_p31 : lw_okq (⟨"SquareGroundsModel", "against", "()I"⟩, 30) := ⟨⟨by decide +kernel, by decide +kernel⟩, List.mem_of_getElem? (i := 653) (by decide +kernel), List.mem_of_getElem? (i := 831) (by decide +kernel), List.mem_of_getElem? (i := 832) (by decide +kernel)⟩
def lw_privs_2 : List (MethodName × Nat) := [(⟨"SquareGrounds", "cylindersOf", "(LSquareGrounds$Ground;)I"⟩, 10), (⟨"SquareGrounds$Reach", "roundFrom", "(I)I"⟩, 8), (⟨"SquareGrounds", "sharesInReach", "()J"⟩, 10), (⟨"SquareGrounds", "sheetsThere", "()I"⟩, 10), (⟨"SquareGrounds", "groundsThere", "(Z)I"⟩, 10), (⟨"SquareGroundsModel", "meets", "(I)I"⟩, 30), (⟨"SquareGroundsModel", "looked", "(I)I"⟩, 30), (⟨"SquareGroundsModel", "isWhole", "(II)Z"⟩, 30), (⟨"SquareGroundsModel", "numbered", "(I)I"⟩, 30), (⟨"SquareGroundsModel", "keep", "(I)I"⟩, 30), (⟨"SquareGroundsModel", "askedFor", "(I)I"⟩, 30), (⟨"SquareGroundsModel", "load", "(I)V"⟩, 30), (⟨"SquareGroundsModel", "setBack", "()V"⟩, 30), (⟨"SquareGroundsModel", "tells", "(I)I"⟩, 30), (⟨"SquareGroundsModel", "setName", "()V"⟩, 30), (⟨"SquareGroundsModel", "against", "()I"⟩, 30)]
theorem lw_r2 : ∀ q ∈ lw_privs_2, lw_okq q := List.forall_mem_cons.mpr ⟨lw_p16, List.forall_mem_cons.mpr ⟨lw_p17, List.forall_mem_cons.mpr ⟨lw_p18, List.forall_mem_cons.mpr ⟨lw_p19, List.forall_mem_cons.mpr ⟨lw_p20, List.forall_mem_cons.mpr ⟨lw_p21, List.forall_mem_cons.mpr ⟨lw_p22, List.forall_mem_cons.mpr ⟨lw_p23, List.forall_mem_cons.mpr ⟨lw_p24, List.forall_mem_cons.mpr ⟨lw_p25, List.forall_mem_cons.mpr ⟨lw_p26, List.forall_mem_cons.mpr ⟨lw_p27, List.forall_mem_cons.mpr ⟨lw_p28, List.forall_mem_cons.mpr ⟨lw_p29, List.forall_mem_cons.mpr ⟨lw_p30, List.forall_mem_cons.mpr ⟨lw_p31, fun _ h => absurd h List.not_mem_nil⟩⟩⟩⟩⟩⟩⟩⟩⟩⟩⟩⟩⟩⟩⟩⟩
theorem lw_p32 : lw_okq (⟨"SquareGroundsModel", "kindOf", "()I"⟩, 30) := ⟨⟨by decide +kernel, by decide +kernel⟩, List.mem_of_getElem? (i := 653) (by decide +kernel), List.mem_of_getElem? (i := 835) (by decide +kernel), List.mem_of_getElem? (i := 836) (by decide +kernel)⟩
theorem lw_p33 : lw_okq (⟨"SquareGroundsModel", "corners", "(I)I"⟩, 30) := ⟨⟨by decide +kernel, by decide +kernel⟩, List.mem_of_getElem? (i := 653) (by decide +kernel), List.mem_of_getElem? (i := 839) (by decide +kernel), List.mem_of_getElem? (i := 840) (by decide +kernel)⟩
theorem lw_p34 : lw_okq (⟨"SquareGroundsModel", "isFirst", "(I)Z"⟩, 30) := ⟨⟨by decide +kernel, by decide +kernel⟩, List.mem_of_getElem? (i := 653) (by decide +kernel), List.mem_of_getElem? (i := 843) (by decide +kernel), List.mem_of_getElem? (i := 844) (by decide +kernel)⟩
theorem lw_p35 : lw_okq (⟨"SquareGroundsModel", "around", "(I)I"⟩, 30) := ⟨⟨by decide +kernel, by decide +kernel⟩, List.mem_of_getElem? (i := 653) (by decide +kernel), List.mem_of_getElem? (i := 847) (by decide +kernel), List.mem_of_getElem? (i := 848) (by decide +kernel)⟩
theorem lw_p36 : lw_okq (⟨"SquareGroundsModel", "bendAt", "(I)I"⟩, 30) := ⟨⟨by decide +kernel, by decide +kernel⟩, List.mem_of_getElem? (i := 653) (by decide +kernel), List.mem_of_getElem? (i := 851) (by decide +kernel), List.mem_of_getElem? (i := 852) (by decide +kernel)⟩
theorem lw_p37 : lw_okq (⟨"SquareGroundsModel", "ringOf", "(I)I"⟩, 30) := ⟨⟨by decide +kernel, by decide +kernel⟩, List.mem_of_getElem? (i := 653) (by decide +kernel), List.mem_of_getElem? (i := 859) (by decide +kernel), List.mem_of_getElem? (i := 860) (by decide +kernel)⟩
theorem lw_p38 : lw_okq (⟨"SquareGroundsModel", "otherName", "(I)I"⟩, 30) := ⟨⟨by decide +kernel, by decide +kernel⟩, List.mem_of_getElem? (i := 653) (by decide +kernel), List.mem_of_getElem? (i := 879) (by decide +kernel), List.mem_of_getElem? (i := 880) (by decide +kernel)⟩
theorem lw_p39 : lw_okq (⟨"SquareGroundsModel", "isOther", "()Z"⟩, 30) := ⟨⟨by decide +kernel, by decide +kernel⟩, List.mem_of_getElem? (i := 653) (by decide +kernel), List.mem_of_getElem? (i := 883) (by decide +kernel), List.mem_of_getElem? (i := 884) (by decide +kernel)⟩
theorem lw_p40 : lw_okq (⟨"SquareGroundsModel", "shearBy", "(I)V"⟩, 30) := ⟨⟨by decide +kernel, by decide +kernel⟩, List.mem_of_getElem? (i := 653) (by decide +kernel), List.mem_of_getElem? (i := 895) (by decide +kernel), List.mem_of_getElem? (i := 896) (by decide +kernel)⟩
theorem lw_p41 : lw_okq (⟨"SquareGroundsModel", "shearOnce", "(Z)V"⟩, 30) := ⟨⟨by decide +kernel, by decide +kernel⟩, List.mem_of_getElem? (i := 653) (by decide +kernel), List.mem_of_getElem? (i := 899) (by decide +kernel), List.mem_of_getElem? (i := 900) (by decide +kernel)⟩
theorem lw_p42 : lw_okq (⟨"SquareGroundsModel", "turnOnce", "(Z)V"⟩, 30) := ⟨⟨by decide +kernel, by decide +kernel⟩, List.mem_of_getElem? (i := 653) (by decide +kernel), List.mem_of_getElem? (i := 907) (by decide +kernel), List.mem_of_getElem? (i := 908) (by decide +kernel)⟩
theorem lw_p43 : lw_okq (⟨"SquareGroundsModel", "seeIn", "(II)V"⟩, 30) := ⟨⟨by decide +kernel, by decide +kernel⟩, List.mem_of_getElem? (i := 653) (by decide +kernel), List.mem_of_getElem? (i := 918) (by decide +kernel), List.mem_of_getElem? (i := 919) (by decide +kernel)⟩
theorem lw_p44 : lw_okq (⟨"SquareGroundsModel", "setCylinders", "()I"⟩, 30) := ⟨⟨by decide +kernel, by decide +kernel⟩, List.mem_of_getElem? (i := 653) (by decide +kernel), List.mem_of_getElem? (i := 926) (by decide +kernel), List.mem_of_getElem? (i := 927) (by decide +kernel)⟩
theorem lw_p45 : lw_okq (⟨"SquareGroundsModel", "joins", "(II)Z"⟩, 30) := ⟨⟨by decide +kernel, by decide +kernel⟩, List.mem_of_getElem? (i := 653) (by decide +kernel), List.mem_of_getElem? (i := 930) (by decide +kernel), List.mem_of_getElem? (i := 931) (by decide +kernel)⟩
theorem lw_p46 : lw_okq (⟨"SquareGroundsModel", "isSmooth", "(I)Z"⟩, 30) := ⟨⟨by decide +kernel, by decide +kernel⟩, List.mem_of_getElem? (i := 653) (by decide +kernel), List.mem_of_getElem? (i := 934) (by decide +kernel), List.mem_of_getElem? (i := 935) (by decide +kernel)⟩
theorem lw_p47 : lw_okq (⟨"SquareGroundsModel", "sizeOf", "(I)I"⟩, 30) := ⟨⟨by decide +kernel, by decide +kernel⟩, List.mem_of_getElem? (i := 653) (by decide +kernel), List.mem_of_getElem? (i := 942) (by decide +kernel), List.mem_of_getElem? (i := 943) (by decide +kernel)⟩
def lw_privs_3 : List (MethodName × Nat) := [(⟨"SquareGroundsModel", "kindOf", "()I"⟩, 30), (⟨"SquareGroundsModel", "corners", "(I)I"⟩, 30), (⟨"SquareGroundsModel", "isFirst", "(I)Z"⟩, 30), (⟨"SquareGroundsModel", "around", "(I)I"⟩, 30), (⟨"SquareGroundsModel", "bendAt", "(I)I"⟩, 30), (⟨"SquareGroundsModel", "ringOf", "(I)I"⟩, 30), (⟨"SquareGroundsModel", "otherName", "(I)I"⟩, 30), (⟨"SquareGroundsModel", "isOther", "()Z"⟩, 30), (⟨"SquareGroundsModel", "shearBy", "(I)V"⟩, 30), (⟨"SquareGroundsModel", "shearOnce", "(Z)V"⟩, 30), (⟨"SquareGroundsModel", "turnOnce", "(Z)V"⟩, 30), (⟨"SquareGroundsModel", "seeIn", "(II)V"⟩, 30), (⟨"SquareGroundsModel", "setCylinders", "()I"⟩, 30), (⟨"SquareGroundsModel", "joins", "(II)Z"⟩, 30), (⟨"SquareGroundsModel", "isSmooth", "(I)Z"⟩, 30), (⟨"SquareGroundsModel", "sizeOf", "(I)I"⟩, 30)]
theorem lw_r3 : ∀ q ∈ lw_privs_3, lw_okq q := List.forall_mem_cons.mpr ⟨lw_p32, List.forall_mem_cons.mpr ⟨lw_p33, List.forall_mem_cons.mpr ⟨lw_p34, List.forall_mem_cons.mpr ⟨lw_p35, List.forall_mem_cons.mpr ⟨lw_p36, List.forall_mem_cons.mpr ⟨lw_p37, List.forall_mem_cons.mpr ⟨lw_p38, List.forall_mem_cons.mpr ⟨lw_p39, List.forall_mem_cons.mpr ⟨lw_p40, List.forall_mem_cons.mpr ⟨lw_p41, List.forall_mem_cons.mpr ⟨lw_p42, List.forall_mem_cons.mpr ⟨lw_p43, List.forall_mem_cons.mpr ⟨lw_p44, List.forall_mem_cons.mpr ⟨lw_p45, List.forall_mem_cons.mpr ⟨lw_p46, List.forall_mem_cons.mpr ⟨lw_p47, fun _ h => absurd h List.not_mem_nil⟩⟩⟩⟩⟩⟩⟩⟩⟩⟩⟩⟩⟩⟩⟩⟩
theorem lw_p48 : lw_okq (⟨"SquareGroundsModel", "shareOf", "()I"⟩, 30) := ⟨⟨by decide +kernel, by decide +kernel⟩, List.mem_of_getElem? (i := 653) (by decide +kernel), List.mem_of_getElem? (i := 950) (by decide +kernel), List.mem_of_getElem? (i := 951) (by decide +kernel)⟩
theorem lw_p49 : lw_okq (⟨"SquareGroundsModel", "tell", "(JJ)I"⟩, 30) := ⟨⟨by decide +kernel, by decide +kernel⟩, List.mem_of_getElem? (i := 653) (by decide +kernel), List.mem_of_getElem? (i := 955) (by decide +kernel), List.mem_of_getElem? (i := 956) (by decide +kernel)⟩
theorem lw_p50 : lw_okq (⟨"SquareGroundsModel", "askedReach", "(I)I"⟩, 30) := ⟨⟨by decide +kernel, by decide +kernel⟩, List.mem_of_getElem? (i := 653) (by decide +kernel), List.mem_of_getElem? (i := 963) (by decide +kernel), List.mem_of_getElem? (i := 964) (by decide +kernel)⟩
theorem lw_p51 : lw_okq (⟨"SquareGroundsModel", "setReach", "()I"⟩, 30) := ⟨⟨by decide +kernel, by decide +kernel⟩, List.mem_of_getElem? (i := 653) (by decide +kernel), List.mem_of_getElem? (i := 967) (by decide +kernel), List.mem_of_getElem? (i := 968) (by decide +kernel)⟩
theorem lw_p52 : lw_okq (⟨"SquareGroundsModel", "found", "()I"⟩, 30) := ⟨⟨by decide +kernel, by decide +kernel⟩, List.mem_of_getElem? (i := 653) (by decide +kernel), List.mem_of_getElem? (i := 971) (by decide +kernel), List.mem_of_getElem? (i := 972) (by decide +kernel)⟩
theorem lw_p53 : lw_okq (⟨"SquareGroundsModel", "loadName", "(I)V"⟩, 30) := ⟨⟨by decide +kernel, by decide +kernel⟩, List.mem_of_getElem? (i := 653) (by decide +kernel), List.mem_of_getElem? (i := 975) (by decide +kernel), List.mem_of_getElem? (i := 976) (by decide +kernel)⟩
theorem lw_p54 : lw_okq (⟨"SquareGroundsModel", "roundOf", "(I)I"⟩, 30) := ⟨⟨by decide +kernel, by decide +kernel⟩, List.mem_of_getElem? (i := 653) (by decide +kernel), List.mem_of_getElem? (i := 987) (by decide +kernel), List.mem_of_getElem? (i := 988) (by decide +kernel)⟩
theorem lw_p55 : lw_okq (⟨"SquareGroundsModel", "allShares", "()J"⟩, 30) := ⟨⟨by decide +kernel, by decide +kernel⟩, List.mem_of_getElem? (i := 653) (by decide +kernel), List.mem_of_getElem? (i := 999) (by decide +kernel), List.mem_of_getElem? (i := 1000) (by decide +kernel)⟩
def lw_privs_4 : List (MethodName × Nat) := [(⟨"SquareGroundsModel", "shareOf", "()I"⟩, 30), (⟨"SquareGroundsModel", "tell", "(JJ)I"⟩, 30), (⟨"SquareGroundsModel", "askedReach", "(I)I"⟩, 30), (⟨"SquareGroundsModel", "setReach", "()I"⟩, 30), (⟨"SquareGroundsModel", "found", "()I"⟩, 30), (⟨"SquareGroundsModel", "loadName", "(I)V"⟩, 30), (⟨"SquareGroundsModel", "roundOf", "(I)I"⟩, 30), (⟨"SquareGroundsModel", "allShares", "()J"⟩, 30)]
theorem lw_r4 : ∀ q ∈ lw_privs_4, lw_okq q := List.forall_mem_cons.mpr ⟨lw_p48, List.forall_mem_cons.mpr ⟨lw_p49, List.forall_mem_cons.mpr ⟨lw_p50, List.forall_mem_cons.mpr ⟨lw_p51, List.forall_mem_cons.mpr ⟨lw_p52, List.forall_mem_cons.mpr ⟨lw_p53, List.forall_mem_cons.mpr ⟨lw_p54, List.forall_mem_cons.mpr ⟨lw_p55, fun _ h => absurd h List.not_mem_nil⟩⟩⟩⟩⟩⟩⟩⟩
def lw_privs : List (MethodName × Nat) := lw_privs_1 ++ (lw_privs_2 ++ (lw_privs_3 ++ (lw_privs_4)))
def lw_tbl : List Cond := k2_sels lw_privs ++ tables_1
theorem lw_privs_ok : ∀ q ∈ lw_privs, lw_okq q := by
  show ∀ q ∈ lw_privs_1 ++ (lw_privs_2 ++ (lw_privs_3 ++ (lw_privs_4))), lw_okq q
  exact List.forall_mem_append.mpr ⟨lw_r1, List.forall_mem_append.mpr ⟨lw_r2, List.forall_mem_append.mpr ⟨lw_r3, lw_r4⟩⟩⟩
end
section
def RX0 : String := "SquareGrounds$Corners"
def TX0 : u_T := fun k => match k with
  | 0 => ("SquareGrounds$Corners", "bendAt", "[I", true)
  | 1 => ("SquareGrounds$Corners", "all", "I", false)
  | 2 => ("SquareGrounds$Corners", "bent", "I", false)
  | 3 => ("SquareGrounds$Corners", "sumOfBends", "I", false)
  | 4 => ("SquareGrounds$Corners", "leastBend", "I", false)
  | 5 => ("SquareGrounds$Corners", "mostBend", "I", false)
  | _ => ("SquareGrounds$Corners", "wholeParts", "J", false)
def tyX0 : Nat → FieldType := fun k => match k with
  | 0 => .array .int
  | 1 => .int
  | 2 => .int
  | 3 => .int
  | 4 => .int
  | 5 => .int
  | _ => .long
abbrev wsX00 : List Cond := u_ws RX0 TX0 7
theorem nmX0 : ∀ a, a < 7 → ∀ b, b < 7 → a ≠ b → (TX0 a).2.1 ≠ (TX0 b).2.1 := by decide +kernel
theorem tyX0_ok : ∀ k, k < 7 → parseFieldDescriptor (TX0 k).2.2.1 = some (tyX0 k) := by decide +kernel
abbrev cX0_init : ByteArray := prog_2_method_1_code
def yX0_init : MethodName := ⟨RX0, "<init>", "()V"⟩
abbrev cX0_look : ByteArray := prog_2_method_2_code
def yX0_look : MethodName := ⟨RX0, "look", "(LSquareGrounds$Ground;)V"⟩
abbrev cX0_bendFrom : ByteArray := prog_2_method_3_code
def yX0_bendFrom : MethodName := ⟨RX0, "bendFrom", "(LSquareGrounds$Ground;I)I"⟩
abbrev cX0_note : ByteArray := prog_2_method_4_code
def yX0_note : MethodName := ⟨RX0, "note", "(I)V"⟩
abbrev cX0_kind : ByteArray := prog_2_method_5_code
def yX0_kind : MethodName := ⟨RX0, "kind", "()I"⟩
abbrev cX0_bentSquares : ByteArray := prog_2_method_6_code
def yX0_bentSquares : MethodName := ⟨RX0, "bentSquares", "()I"⟩
abbrev cX0_fact : ByteArray := prog_2_method_7_code
def yX0_fact : MethodName := ⟨RX0, "fact", "(I)I"⟩
def RX1 : String := "SquareGrounds$Cylinders"
def TX1 : u_T := fun k => match k with
  | 0 => ("SquareGrounds$Cylinders", "corners", "LSquareGrounds$Corners;", true)
  | 1 => ("SquareGrounds$Cylinders", "ringOf", "[I", true)
  | 2 => ("SquareGrounds$Cylinders", "cylinderOf", "[I", true)
  | 3 => ("SquareGrounds$Cylinders", "size", "I", false)
  | 4 => ("SquareGrounds$Cylinders", "around", "[I", true)
  | 5 => ("SquareGrounds$Cylinders", "high", "[I", true)
  | _ => ("SquareGrounds$Cylinders", "least", "[I", true)
def tyX1 : Nat → FieldType := fun k => match k with
  | 0 => .object "SquareGrounds$Corners"
  | 1 => .array .int
  | 2 => .array .int
  | 3 => .int
  | 4 => .array .int
  | 5 => .array .int
  | _ => .array .int
abbrev wsX10 : List Cond := u_ws RX1 TX1 7
theorem nmX1 : ∀ a, a < 7 → ∀ b, b < 7 → a ≠ b → (TX1 a).2.1 ≠ (TX1 b).2.1 := by decide +kernel
theorem tyX1_ok : ∀ k, k < 7 → parseFieldDescriptor (TX1 k).2.2.1 = some (tyX1 k) := by decide +kernel
abbrev cX1_init : ByteArray := prog_3_method_1_code
def yX1_init : MethodName := ⟨RX1, "<init>", "()V"⟩
abbrev cX1_look : ByteArray := prog_3_method_2_code
def yX1_look : MethodName := ⟨RX1, "look", "(LSquareGrounds$Ground;)V"⟩
abbrev cX1_partInRings : ByteArray := prog_3_method_3_code
def yX1_partInRings : MethodName := ⟨RX1, "partInRings", "(LSquareGrounds$Ground;)V"⟩
abbrev cX1_liesFlatBelow : ByteArray := prog_3_method_4_code
def yX1_liesFlatBelow : MethodName := ⟨RX1, "liesFlatBelow", "(LSquareGrounds$Ground;I)Z"⟩
abbrev cX1_join : ByteArray := prog_3_method_5_code
def yX1_join : MethodName := ⟨RX1, "join", "(III)V"⟩
abbrev cX1_list : ByteArray := prog_3_method_6_code
def yX1_list : MethodName := ⟨RX1, "list", "(LSquareGrounds$Ground;)V"⟩
abbrev cX1_ringsIn : ByteArray := prog_3_method_7_code
def yX1_ringsIn : MethodName := ⟨RX1, "ringsIn", "(II)I"⟩
abbrev cX1_wholeParts : ByteArray := prog_3_method_8_code
def yX1_wholeParts : MethodName := ⟨RX1, "wholeParts", "()J"⟩
def RX2 : String := "SquareGrounds$Fraction"
def TX2 : u_T := fun k => match k with
  | 0 => ("SquareGrounds$Fraction", "over", "J", false)
  | _ => ("SquareGrounds$Fraction", "under", "J", false)
def tyX2 : Nat → FieldType := fun k => match k with
  | 0 => .long
  | _ => .long
abbrev wsX20 : List Cond := u_ws RX2 TX2 2
theorem nmX2 : ∀ a, a < 2 → ∀ b, b < 2 → a ≠ b → (TX2 a).2.1 ≠ (TX2 b).2.1 := by decide +kernel
theorem tyX2_ok : ∀ k, k < 2 → parseFieldDescriptor (TX2 k).2.2.1 = some (tyX2 k) := by decide +kernel
abbrev cX2_init : ByteArray := prog_4_method_1_code
def yX2_init : MethodName := ⟨RX2, "<init>", "()V"⟩
abbrev cX2_tell : ByteArray := prog_4_method_2_code
def yX2_tell : MethodName := ⟨RX2, "tell", "(JJ)V"⟩
def RX3 : String := "SquareGrounds$Ground"
def TX3 : u_T := fun k => match k with
  | 0 => ("SquareGrounds$Ground", "n", "I", false)
  | 1 => ("SquareGrounds$Ground", "right", "[I", false)
  | 2 => ("SquareGrounds$Ground", "up", "[I", false)
  | 3 => ("SquareGrounds$Ground", "left", "[I", false)
  | 4 => ("SquareGrounds$Ground", "down", "[I", false)
  | _ => ("SquareGrounds$Ground", "spare", "[I", false)
def tyX3 : Nat → FieldType := fun k => match k with
  | 0 => .int
  | 1 => .array .int
  | 2 => .array .int
  | 3 => .array .int
  | 4 => .array .int
  | _ => .array .int
abbrev wsX30 : List Cond := u_ws RX3 TX3 6
theorem nmX3 : ∀ a, a < 6 → ∀ b, b < 6 → a ≠ b → (TX3 a).2.1 ≠ (TX3 b).2.1 := by decide +kernel
theorem tyX3_ok : ∀ k, k < 6 → parseFieldDescriptor (TX3 k).2.2.1 = some (tyX3 k) := by decide +kernel
abbrev cX3_init : ByteArray := prog_5_method_1_code
def yX3_init : MethodName := ⟨RX3, "<init>", "()V"⟩
abbrev cX3_isMissing : ByteArray := prog_5_method_2_code
def yX3_isMissing : MethodName := ⟨RX3, "isMissing", "()Z"⟩
abbrev cX3_vanish : ByteArray := prog_5_method_3_code
def yX3_vanish : MethodName := ⟨RX3, "vanish", "()V"⟩
abbrev cX3_has : ByteArray := prog_5_method_4_code
def yX3_has : MethodName := ⟨RX3, "has", "(I)Z"⟩
abbrev cX3_layOut : ByteArray := prog_5_method_5_code
def yX3_layOut : MethodName := ⟨RX3, "layOut", "(LSquareGrounds$Sheet;LSquareGrounds$Sheet;)V"⟩
abbrev cX3_unfold : ByteArray := prog_5_method_6_code
def yX3_unfold : MethodName := ⟨RX3, "unfold", "(IJ)V"⟩
abbrev cX3_become : ByteArray := prog_5_method_7_code
def yX3_become : MethodName := ⟨RX3, "become", "(LSquareGrounds$Ground;)V"⟩
abbrev cX3_glue : ByteArray := prog_5_method_8_code
def yX3_glue : MethodName := ⟨RX3, "glue", "(III)V"⟩
abbrev cX3_slide : ByteArray := prog_5_method_9_code
def yX3_slide : MethodName := ⟨RX3, "slide", "(I)V"⟩
abbrev cX3_slideOnce : ByteArray := prog_5_method_10_code
def yX3_slideOnce : MethodName := ⟨RX3, "slideOnce", "([I[I)V"⟩
abbrev cX3_quarter : ByteArray := prog_5_method_11_code
def yX3_quarter : MethodName := ⟨RX3, "quarter", "()V"⟩
abbrev cX3_quarterBack : ByteArray := prog_5_method_12_code
def yX3_quarterBack : MethodName := ⟨RX3, "quarterBack", "()V"⟩
abbrev cX3_tilt : ByteArray := prog_5_method_13_code
def yX3_tilt : MethodName := ⟨RX3, "tilt", "(II)V"⟩
abbrev cX3_ringLength : ByteArray := prog_5_method_14_code
def yX3_ringLength : MethodName := ⟨RX3, "ringLength", "(I)I"⟩
abbrev cX3_aroundCorner : ByteArray := prog_5_method_15_code
def yX3_aroundCorner : MethodName := ⟨RX3, "aroundCorner", "(I)I"⟩
abbrev cX3_mixInto : ByteArray := prog_5_method_16_code
def yX3_mixInto : MethodName := ⟨RX3, "mixInto", "(J)J"⟩
def RX4 : String := "SquareGrounds$Naming"
def TX4 : u_T := fun k => match k with
  | 0 => ("SquareGrounds$Naming", "numberAt", "[I", true)
  | 1 => ("SquareGrounds$Naming", "squareOf", "[I", true)
  | 2 => ("SquareGrounds$Naming", "given", "I", false)
  | 3 => ("SquareGrounds$Naming", "least", "J", false)
  | _ => ("SquareGrounds$Naming", "selves", "I", false)
def tyX4 : Nat → FieldType := fun k => match k with
  | 0 => .array .int
  | 1 => .array .int
  | 2 => .int
  | 3 => .long
  | _ => .int
abbrev wsX40 : List Cond := u_ws RX4 TX4 5
theorem nmX4 : ∀ a, a < 5 → ∀ b, b < 5 → a ≠ b → (TX4 a).2.1 ≠ (TX4 b).2.1 := by decide +kernel
theorem tyX4_ok : ∀ k, k < 5 → parseFieldDescriptor (TX4 k).2.2.1 = some (tyX4 k) := by decide +kernel
abbrev cX4_init : ByteArray := prog_6_method_1_code
def yX4_init : MethodName := ⟨RX4, "<init>", "()V"⟩
abbrev cX4_look : ByteArray := prog_6_method_2_code
def yX4_look : MethodName := ⟨RX4, "look", "(LSquareGrounds$Ground;)V"⟩
abbrev cX4_rowFrom : ByteArray := prog_6_method_3_code
def yX4_rowFrom : MethodName := ⟨RX4, "rowFrom", "(LSquareGrounds$Ground;I)J"⟩
abbrev cX4_number : ByteArray := prog_6_method_4_code
def yX4_number : MethodName := ⟨RX4, "number", "(I)I"⟩
def RX5 : String := "SquareGrounds$Reach"
def TX5 : u_T := fun k => match k with
  | 0 => ("SquareGrounds$Reach", "names", "[J", true)
  | 1 => ("SquareGrounds$Reach", "sheared", "[I", true)
  | 2 => ("SquareGrounds$Reach", "turned", "[I", true)
  | 3 => ("SquareGrounds$Reach", "step", "LSquareGrounds$Ground;", true)
  | 4 => ("SquareGrounds$Reach", "naming", "LSquareGrounds$Naming;", true)
  | 5 => ("SquareGrounds$Reach", "n", "I", false)
  | 6 => ("SquareGrounds$Reach", "size", "I", false)
  | _ => ("SquareGrounds$Reach", "spent", "Z", false)
def tyX5 : Nat → FieldType := fun k => match k with
  | 0 => .array .long
  | 1 => .array .int
  | 2 => .array .int
  | 3 => .object "SquareGrounds$Ground"
  | 4 => .object "SquareGrounds$Naming"
  | 5 => .int
  | 6 => .int
  | _ => .boolean
abbrev wsX50 : List Cond := u_ws RX5 TX5 8
theorem nmX5 : ∀ a, a < 8 → ∀ b, b < 8 → a ≠ b → (TX5 a).2.1 ≠ (TX5 b).2.1 := by decide +kernel
theorem tyX5_ok : ∀ k, k < 8 → parseFieldDescriptor (TX5 k).2.2.1 = some (tyX5 k) := by decide +kernel
abbrev cX5_init : ByteArray := prog_7_method_1_code
def yX5_init : MethodName := ⟨RX5, "<init>", "()V"⟩
abbrev cX5_fill : ByteArray := prog_7_method_2_code
def yX5_fill : MethodName := ⟨RX5, "fill", "(LSquareGrounds$Ground;)V"⟩
abbrev cX5_numberOrNew : ByteArray := prog_7_method_3_code
def yX5_numberOrNew : MethodName := ⟨RX5, "numberOrNew", "()I"⟩
abbrev cX5_numberOf : ByteArray := prog_7_method_4_code
def yX5_numberOf : MethodName := ⟨RX5, "numberOf", "(J)I"⟩
abbrev cX5_rounds : ByteArray := prog_7_method_5_code
def yX5_rounds : MethodName := ⟨RX5, "rounds", "()I"⟩
abbrev cX5_roundLength : ByteArray := prog_7_method_6_code
def yX5_roundLength : MethodName := ⟨RX5, "roundLength", "(I)I"⟩
abbrev cX5_roundFrom : ByteArray := prog_7_method_7_code
def yX5_roundFrom : MethodName := ⟨RX5, "roundFrom", "(I)I"⟩
def RX6 : String := "SquareGrounds$Sheet"
def TX6 : u_T := fun k => match k with
  | 0 => ("SquareGrounds$Sheet", "size", "I", false)
  | _ => ("SquareGrounds$Sheet", "bytes", "[B", true)
def tyX6 : Nat → FieldType := fun k => match k with
  | 0 => .int
  | _ => .array .byte
abbrev wsX60 : List Cond := u_ws RX6 TX6 2
theorem nmX6 : ∀ a, a < 2 → ∀ b, b < 2 → a ≠ b → (TX6 a).2.1 ≠ (TX6 b).2.1 := by decide +kernel
theorem tyX6_ok : ∀ k, k < 2 → parseFieldDescriptor (TX6 k).2.2.1 = some (tyX6 k) := by decide +kernel
abbrev cX6_init : ByteArray := prog_8_method_1_code
def yX6_init : MethodName := ⟨RX6, "<init>", "()V"⟩
abbrev cX6_isMissing : ByteArray := prog_8_method_2_code
def yX6_isMissing : MethodName := ⟨RX6, "isMissing", "()Z"⟩
abbrev cX6_vanish : ByteArray := prog_8_method_3_code
def yX6_vanish : MethodName := ⟨RX6, "vanish", "()V"⟩
abbrev cX6_clear : ByteArray := prog_8_method_4_code
def yX6_clear : MethodName := ⟨RX6, "clear", "(I)V"⟩
abbrev cX6_has : ByteArray := prog_8_method_5_code
def yX6_has : MethodName := ⟨RX6, "has", "(II)Z"⟩
abbrev cX6_hasEachOnce : ByteArray := prog_8_method_6_code
def yX6_hasEachOnce : MethodName := ⟨RX6, "hasEachOnce", "()Z"⟩
abbrev cX6_mixInto : ByteArray := prog_8_method_7_code
def yX6_mixInto : MethodName := ⟨RX6, "mixInto", "(J)J"⟩
def RX7 : String := "SquareGrounds"
def TX7 : u_T := fun k => match k with
  | 0 => ("SquareGrounds", "sheets", "[LSquareGrounds$Sheet;", true)
  | 1 => ("SquareGrounds", "grounds", "[LSquareGrounds$Ground;", true)
  | 2 => ("SquareGrounds", "seen", "LSquareGrounds$Ground;", true)
  | 3 => ("SquareGrounds", "corners", "LSquareGrounds$Corners;", true)
  | 4 => ("SquareGrounds", "naming", "LSquareGrounds$Naming;", true)
  | 5 => ("SquareGrounds", "lying", "LSquareGrounds$Cylinders;", true)
  | 6 => ("SquareGrounds", "orbit", "LSquareGrounds$Reach;", true)
  | 7 => ("SquareGrounds", "fraction", "LSquareGrounds$Fraction;", true)
  | 8 => ("SquareGrounds", "timesFound", "[I", true)
  | _ => ("SquareGrounds", "latestFinding", "I", false)
def tyX7 : Nat → FieldType := fun k => match k with
  | 0 => .array (.object "SquareGrounds$Sheet")
  | 1 => .array (.object "SquareGrounds$Ground")
  | 2 => .object "SquareGrounds$Ground"
  | 3 => .object "SquareGrounds$Corners"
  | 4 => .object "SquareGrounds$Naming"
  | 5 => .object "SquareGrounds$Cylinders"
  | 6 => .object "SquareGrounds$Reach"
  | 7 => .object "SquareGrounds$Fraction"
  | 8 => .array .int
  | _ => .int
abbrev wsX70 : List Cond := u_ws RX7 TX7 10
theorem nmX7 : ∀ a, a < 10 → ∀ b, b < 10 → a ≠ b → (TX7 a).2.1 ≠ (TX7 b).2.1 := by decide +kernel
theorem tyX7_ok : ∀ k, k < 10 → parseFieldDescriptor (TX7 k).2.2.1 = some (tyX7 k) := by decide +kernel
abbrev cX7_init : ByteArray := prog_1_method_1_code
def yX7_init : MethodName := ⟨RX7, "<init>", "()V"⟩
abbrev cX7_sheet : ByteArray := prog_1_method_2_code
def yX7_sheet : MethodName := ⟨RX7, "sheet", "(II)I"⟩
abbrev cX7_lay : ByteArray := prog_1_method_3_code
def yX7_lay : MethodName := ⟨RX7, "lay", "(III)I"⟩
abbrev cX7_tear : ByteArray := prog_1_method_4_code
def yX7_tear : MethodName := ⟨RX7, "tear", "(I)I"⟩
abbrev cX7_copy : ByteArray := prog_1_method_5_code
def yX7_copy : MethodName := ⟨RX7, "copy", "(IIIII)I"⟩
abbrev cX7_ground : ByteArray := prog_1_method_6_code
def yX7_ground : MethodName := ⟨RX7, "ground", "(III)I"⟩
abbrev cX7_drop : ByteArray := prog_1_method_7_code
def yX7_drop : MethodName := ⟨RX7, "drop", "(I)I"⟩
abbrev cX7_twin : ByteArray := prog_1_method_8_code
def yX7_twin : MethodName := ⟨RX7, "twin", "(II)I"⟩
abbrev cX7_told : ByteArray := prog_1_method_9_code
def yX7_told : MethodName := ⟨RX7, "told", "(II)I"⟩
abbrev cX7_mark : ByteArray := prog_1_method_10_code
def yX7_mark : MethodName := ⟨RX7, "mark", "(II)I"⟩
abbrev cX7_next : ByteArray := prog_1_method_11_code
def yX7_next : MethodName := ⟨RX7, "next", "(IIZ)I"⟩
abbrev cX7_bend : ByteArray := prog_1_method_12_code
def yX7_bend : MethodName := ⟨RX7, "bend", "(II)I"⟩
abbrev cX7_name : ByteArray := prog_1_method_13_code
def yX7_name : MethodName := ⟨RX7, "name", "(II)I"⟩
abbrev cX7_alike : ByteArray := prog_1_method_14_code
def yX7_alike : MethodName := ⟨RX7, "alike", "(II)I"⟩
abbrev cX7_mean : ByteArray := prog_1_method_15_code
def yX7_mean : MethodName := ⟨RX7, "mean", "(I)I"⟩
abbrev cX7_shear : ByteArray := prog_1_method_16_code
def yX7_shear : MethodName := ⟨RX7, "shear", "(II)I"⟩
abbrev cX7_turn : ByteArray := prog_1_method_17_code
def yX7_turn : MethodName := ⟨RX7, "turn", "(I)I"⟩
abbrev cX7_see : ByteArray := prog_1_method_18_code
def yX7_see : MethodName := ⟨RX7, "see", "(III)I"⟩
abbrev cX7_cylinders : ByteArray := prog_1_method_19_code
def yX7_cylinders : MethodName := ⟨RX7, "cylinders", "(III)I"⟩
abbrev cX7_cylinder : ByteArray := prog_1_method_20_code
def yX7_cylinder : MethodName := ⟨RX7, "cylinder", "(III)I"⟩
abbrev cX7_share : ByteArray := prog_1_method_21_code
def yX7_share : MethodName := ⟨RX7, "share", "(I)I"⟩
abbrev cX7_reach : ByteArray := prog_1_method_22_code
def yX7_reach : MethodName := ⟨RX7, "reach", "(I)I"⟩
abbrev cX7_reached : ByteArray := prog_1_method_23_code
def yX7_reached : MethodName := ⟨RX7, "reached", "(III)I"⟩
abbrev cX7_cusps : ByteArray := prog_1_method_24_code
def yX7_cusps : MethodName := ⟨RX7, "cusps", "(I)I"⟩
abbrev cX7_width : ByteArray := prog_1_method_25_code
def yX7_width : MethodName := ⟨RX7, "width", "(II)I"⟩
abbrev cX7_meanShare : ByteArray := prog_1_method_26_code
def yX7_meanShare : MethodName := ⟨RX7, "meanShare", "(I)I"⟩
abbrev cX7_twist : ByteArray := prog_1_method_27_code
def yX7_twist : MethodName := ⟨RX7, "twist", "(I)I"⟩
abbrev cX7_comes : ByteArray := prog_1_method_28_code
def yX7_comes : MethodName := ⟨RX7, "comes", "(II)I"⟩
abbrev cX7_upper : ByteArray := prog_1_method_29_code
def yX7_upper : MethodName := ⟨RX7, "upper", "()J"⟩
abbrev cX7_lower : ByteArray := prog_1_method_30_code
def yX7_lower : MethodName := ⟨RX7, "lower", "()J"⟩
abbrev cX7_count : ByteArray := prog_1_method_31_code
def yX7_count : MethodName := ⟨RX7, "count", "(I)I"⟩
abbrev cX7_finding : ByteArray := prog_1_method_32_code
def yX7_finding : MethodName := ⟨RX7, "finding", "()I"⟩
abbrev cX7_findings : ByteArray := prog_1_method_33_code
def yX7_findings : MethodName := ⟨RX7, "findings", "(I)I"⟩
abbrev cX7_digest : ByteArray := prog_1_method_34_code
def yX7_digest : MethodName := ⟨RX7, "digest", "()J"⟩
abbrev cX7_isSheetNumber : ByteArray := prog_1_method_35_code
def yX7_isSheetNumber : MethodName := ⟨RX7, "isSheetNumber", "(I)Z"⟩
abbrev cX7_isGroundNumber : ByteArray := prog_1_method_36_code
def yX7_isGroundNumber : MethodName := ⟨RX7, "isGroundNumber", "(I)Z"⟩
abbrev cX7_isSlope : ByteArray := prog_1_method_37_code
def yX7_isSlope : MethodName := ⟨RX7, "isSlope", "(II)Z"⟩
abbrev cX7_commonDivisor : ByteArray := prog_1_method_38_code
def yX7_commonDivisor : MethodName := ⟨RX7, "commonDivisor", "(JJ)J"⟩
abbrev cX7_place : ByteArray := prog_1_method_39_code
def yX7_place : MethodName := ⟨RX7, "place", "(JII)I"⟩
abbrev cX7_tellGround : ByteArray := prog_1_method_40_code
def yX7_tellGround : MethodName := ⟨RX7, "tellGround", "(LSquareGrounds$Sheet;LSquareGrounds$Sheet;)Z"⟩
abbrev cX7_hangTogether : ByteArray := prog_1_method_41_code
def yX7_hangTogether : MethodName := ⟨RX7, "hangTogether", "(LSquareGrounds$Sheet;LSquareGrounds$Sheet;)Z"⟩
abbrev cX7_found : ByteArray := prog_1_method_42_code
def yX7_found : MethodName := ⟨RX7, "found", "(I)I"⟩
abbrev cX7_refusedReach : ByteArray := prog_1_method_43_code
def yX7_refusedReach : MethodName := ⟨RX7, "refusedReach", "(I)I"⟩
abbrev cX7_selvesOf : ByteArray := prog_1_method_44_code
def yX7_selvesOf : MethodName := ⟨RX7, "selvesOf", "(LSquareGrounds$Ground;)I"⟩
abbrev cX7_cylindersOf : ByteArray := prog_1_method_45_code
def yX7_cylindersOf : MethodName := ⟨RX7, "cylindersOf", "(LSquareGrounds$Ground;)I"⟩
abbrev cX7_sharesInReach : ByteArray := prog_1_method_46_code
def yX7_sharesInReach : MethodName := ⟨RX7, "sharesInReach", "()J"⟩
abbrev cX7_sheetsThere : ByteArray := prog_1_method_47_code
def yX7_sheetsThere : MethodName := ⟨RX7, "sheetsThere", "()I"⟩
abbrev cX7_groundsThere : ByteArray := prog_1_method_48_code
def yX7_groundsThere : MethodName := ⟨RX7, "groundsThere", "(Z)I"⟩
def RX8 : String := "SquareGroundsModel"
def TX8 : u_T := fun k => match k with
  | 0 => ("SquareGroundsModel", "finding", "I", false)
  | 1 => ("SquareGroundsModel", "findings", "[I", true)
  | 2 => ("SquareGroundsModel", "sizes", "[I", true)
  | 3 => ("SquareGroundsModel", "sheets", "[I", true)
  | 4 => ("SquareGroundsModel", "moving", "[I", true)
  | 5 => ("SquareGroundsModel", "many", "I", false)
  | 6 => ("SquareGroundsModel", "right", "[I", true)
  | 7 => ("SquareGroundsModel", "up", "[I", true)
  | 8 => ("SquareGroundsModel", "left", "[I", true)
  | 9 => ("SquareGroundsModel", "down", "[I", true)
  | 10 => ("SquareGroundsModel", "squares", "[I", true)
  | 11 => ("SquareGroundsModel", "rights", "[I", true)
  | 12 => ("SquareGroundsModel", "ups", "[I", true)
  | 13 => ("SquareGroundsModel", "number", "[I", true)
  | 14 => ("SquareGroundsModel", "order", "[I", true)
  | 15 => ("SquareGroundsModel", "name", "[I", true)
  | 16 => ("SquareGroundsModel", "row", "[I", true)
  | 17 => ("SquareGroundsModel", "selves", "I", false)
  | 18 => ("SquareGroundsModel", "other", "[I", true)
  | 19 => ("SquareGroundsModel", "was", "[I", true)
  | 20 => ("SquareGroundsModel", "belongs", "[I", true)
  | 21 => ("SquareGroundsModel", "upper", "J", false)
  | 22 => ("SquareGroundsModel", "lower", "J", false)
  | 23 => ("SquareGroundsModel", "reached", "I", false)
  | 24 => ("SquareGroundsModel", "names", "[I", true)
  | 25 => ("SquareGroundsModel", "sheared", "[I", true)
  | 26 => ("SquareGroundsModel", "turned", "[I", true)
  | 27 => ("SquareGroundsModel", "selfs", "[I", true)
  | 28 => ("SquareGroundsModel", "rings", "[I", true)
  | _ => ("SquareGroundsModel", "shares", "[I", true)
def tyX8 : Nat → FieldType := fun k => match k with
  | 0 => .int
  | 1 => .array .int
  | 2 => .array .int
  | 3 => .array .int
  | 4 => .array .int
  | 5 => .int
  | 6 => .array .int
  | 7 => .array .int
  | 8 => .array .int
  | 9 => .array .int
  | 10 => .array .int
  | 11 => .array .int
  | 12 => .array .int
  | 13 => .array .int
  | 14 => .array .int
  | 15 => .array .int
  | 16 => .array .int
  | 17 => .int
  | 18 => .array .int
  | 19 => .array .int
  | 20 => .array .int
  | 21 => .long
  | 22 => .long
  | 23 => .int
  | 24 => .array .int
  | 25 => .array .int
  | 26 => .array .int
  | 27 => .array .int
  | 28 => .array .int
  | _ => .array .int
abbrev wsX80 : List Cond := u_ws RX8 TX8 30
theorem nmX8 : ∀ a, a < 30 → ∀ b, b < 30 → a ≠ b → (TX8 a).2.1 ≠ (TX8 b).2.1 := by decide +kernel
theorem tyX8_ok : ∀ k, k < 30 → parseFieldDescriptor (TX8 k).2.2.1 = some (tyX8 k) := by decide +kernel
abbrev cX8_init : ByteArray := prog_10_method_1_code
def yX8_init : MethodName := ⟨RX8, "<init>", "()V"⟩
abbrev cX8_in : ByteArray := prog_10_method_3_code
def yX8_in : MethodName := ⟨RX8, "in", "(III)Z"⟩
abbrev cX8_meets : ByteArray := prog_10_method_4_code
def yX8_meets : MethodName := ⟨RX8, "meets", "(I)I"⟩
abbrev cX8_isSheet : ByteArray := prog_10_method_5_code
def yX8_isSheet : MethodName := ⟨RX8, "isSheet", "(I)Z"⟩
abbrev cX8_looked : ByteArray := prog_10_method_6_code
def yX8_looked : MethodName := ⟨RX8, "looked", "(I)I"⟩
abbrev cX8_sheet : ByteArray := prog_10_method_7_code
def yX8_sheet : MethodName := ⟨RX8, "sheet", "(II)I"⟩
abbrev cX8_lay : ByteArray := prog_10_method_8_code
def yX8_lay : MethodName := ⟨RX8, "lay", "(III)I"⟩
abbrev cX8_tear : ByteArray := prog_10_method_9_code
def yX8_tear : MethodName := ⟨RX8, "tear", "(I)I"⟩
abbrev cX8_copy : ByteArray := prog_10_method_10_code
def yX8_copy : MethodName := ⟨RX8, "copy", "(IIIII)I"⟩
abbrev cX8_setBack : ByteArray := prog_10_method_11_code
def yX8_setBack : MethodName := ⟨RX8, "setBack", "()V"⟩
abbrev cX8_isNumber : ByteArray := prog_10_method_12_code
def yX8_isNumber : MethodName := ⟨RX8, "isNumber", "(I)Z"⟩
abbrev cX8_askedFor : ByteArray := prog_10_method_13_code
def yX8_askedFor : MethodName := ⟨RX8, "askedFor", "(I)I"⟩
abbrev cX8_load : ByteArray := prog_10_method_14_code
def yX8_load : MethodName := ⟨RX8, "load", "(I)V"⟩
abbrev cX8_keep : ByteArray := prog_10_method_15_code
def yX8_keep : MethodName := ⟨RX8, "keep", "(I)I"⟩
abbrev cX8_isWhole : ByteArray := prog_10_method_16_code
def yX8_isWhole : MethodName := ⟨RX8, "isWhole", "(II)Z"⟩
abbrev cX8_numbered : ByteArray := prog_10_method_17_code
def yX8_numbered : MethodName := ⟨RX8, "numbered", "(I)I"⟩
abbrev cX8_ground : ByteArray := prog_10_method_18_code
def yX8_ground : MethodName := ⟨RX8, "ground", "(III)I"⟩
abbrev cX8_drop : ByteArray := prog_10_method_19_code
def yX8_drop : MethodName := ⟨RX8, "drop", "(I)I"⟩
abbrev cX8_twin : ByteArray := prog_10_method_20_code
def yX8_twin : MethodName := ⟨RX8, "twin", "(II)I"⟩
abbrev cX8_around : ByteArray := prog_10_method_21_code
def yX8_around : MethodName := ⟨RX8, "around", "(I)I"⟩
abbrev cX8_bendAt : ByteArray := prog_10_method_22_code
def yX8_bendAt : MethodName := ⟨RX8, "bendAt", "(I)I"⟩
abbrev cX8_isFirst : ByteArray := prog_10_method_23_code
def yX8_isFirst : MethodName := ⟨RX8, "isFirst", "(I)Z"⟩
abbrev cX8_corners : ByteArray := prog_10_method_24_code
def yX8_corners : MethodName := ⟨RX8, "corners", "(I)I"⟩
abbrev cX8_kindOf : ByteArray := prog_10_method_25_code
def yX8_kindOf : MethodName := ⟨RX8, "kindOf", "()I"⟩
abbrev cX8_setName : ByteArray := prog_10_method_26_code
def yX8_setName : MethodName := ⟨RX8, "setName", "()V"⟩
abbrev cX8_against : ByteArray := prog_10_method_27_code
def yX8_against : MethodName := ⟨RX8, "against", "()I"⟩
abbrev cX8_tells : ByteArray := prog_10_method_28_code
def yX8_tells : MethodName := ⟨RX8, "tells", "(I)I"⟩
abbrev cX8_told : ByteArray := prog_10_method_29_code
def yX8_told : MethodName := ⟨RX8, "told", "(II)I"⟩
abbrev cX8_ringOf : ByteArray := prog_10_method_30_code
def yX8_ringOf : MethodName := ⟨RX8, "ringOf", "(I)I"⟩
abbrev cX8_mark : ByteArray := prog_10_method_31_code
def yX8_mark : MethodName := ⟨RX8, "mark", "(II)I"⟩
abbrev cX8_next : ByteArray := prog_10_method_32_code
def yX8_next : MethodName := ⟨RX8, "next", "(IIZ)I"⟩
abbrev cX8_bend : ByteArray := prog_10_method_33_code
def yX8_bend : MethodName := ⟨RX8, "bend", "(II)I"⟩
abbrev cX8_name : ByteArray := prog_10_method_34_code
def yX8_name : MethodName := ⟨RX8, "name", "(II)I"⟩
abbrev cX8_otherName : ByteArray := prog_10_method_35_code
def yX8_otherName : MethodName := ⟨RX8, "otherName", "(I)I"⟩
abbrev cX8_isOther : ByteArray := prog_10_method_36_code
def yX8_isOther : MethodName := ⟨RX8, "isOther", "()Z"⟩
abbrev cX8_alike : ByteArray := prog_10_method_37_code
def yX8_alike : MethodName := ⟨RX8, "alike", "(II)I"⟩
abbrev cX8_mean : ByteArray := prog_10_method_38_code
def yX8_mean : MethodName := ⟨RX8, "mean", "(I)I"⟩
abbrev cX8_shearOnce : ByteArray := prog_10_method_39_code
def yX8_shearOnce : MethodName := ⟨RX8, "shearOnce", "(Z)V"⟩
abbrev cX8_shearBy : ByteArray := prog_10_method_40_code
def yX8_shearBy : MethodName := ⟨RX8, "shearBy", "(I)V"⟩
abbrev cX8_turnOnce : ByteArray := prog_10_method_41_code
def yX8_turnOnce : MethodName := ⟨RX8, "turnOnce", "(Z)V"⟩
abbrev cX8_shear : ByteArray := prog_10_method_42_code
def yX8_shear : MethodName := ⟨RX8, "shear", "(II)I"⟩
abbrev cX8_turn : ByteArray := prog_10_method_43_code
def yX8_turn : MethodName := ⟨RX8, "turn", "(I)I"⟩
abbrev cX8_isSlope : ByteArray := prog_10_method_44_code
def yX8_isSlope : MethodName := ⟨RX8, "isSlope", "(II)Z"⟩
abbrev cX8_seeIn : ByteArray := prog_10_method_45_code
def yX8_seeIn : MethodName := ⟨RX8, "seeIn", "(II)V"⟩
abbrev cX8_see : ByteArray := prog_10_method_46_code
def yX8_see : MethodName := ⟨RX8, "see", "(III)I"⟩
abbrev cX8_setCylinders : ByteArray := prog_10_method_47_code
def yX8_setCylinders : MethodName := ⟨RX8, "setCylinders", "()I"⟩
abbrev cX8_joins : ByteArray := prog_10_method_48_code
def yX8_joins : MethodName := ⟨RX8, "joins", "(II)Z"⟩
abbrev cX8_isSmooth : ByteArray := prog_10_method_49_code
def yX8_isSmooth : MethodName := ⟨RX8, "isSmooth", "(I)Z"⟩
abbrev cX8_sizeOf : ByteArray := prog_10_method_50_code
def yX8_sizeOf : MethodName := ⟨RX8, "sizeOf", "(I)I"⟩
abbrev cX8_cylinders : ByteArray := prog_10_method_51_code
def yX8_cylinders : MethodName := ⟨RX8, "cylinders", "(III)I"⟩
abbrev cX8_cylinder : ByteArray := prog_10_method_52_code
def yX8_cylinder : MethodName := ⟨RX8, "cylinder", "(III)I"⟩
abbrev cX8_shareOf : ByteArray := prog_10_method_53_code
def yX8_shareOf : MethodName := ⟨RX8, "shareOf", "()I"⟩
abbrev cX8_tell : ByteArray := prog_10_method_54_code
def yX8_tell : MethodName := ⟨RX8, "tell", "(JJ)I"⟩
abbrev cX8_share : ByteArray := prog_10_method_55_code
def yX8_share : MethodName := ⟨RX8, "share", "(I)I"⟩
abbrev cX8_loadName : ByteArray := prog_10_method_56_code
def yX8_loadName : MethodName := ⟨RX8, "loadName", "(I)V"⟩
abbrev cX8_found : ByteArray := prog_10_method_57_code
def yX8_found : MethodName := ⟨RX8, "found", "()I"⟩
abbrev cX8_setReach : ByteArray := prog_10_method_58_code
def yX8_setReach : MethodName := ⟨RX8, "setReach", "()I"⟩
abbrev cX8_askedReach : ByteArray := prog_10_method_59_code
def yX8_askedReach : MethodName := ⟨RX8, "askedReach", "(I)I"⟩
abbrev cX8_reach : ByteArray := prog_10_method_60_code
def yX8_reach : MethodName := ⟨RX8, "reach", "(I)I"⟩
abbrev cX8_reached : ByteArray := prog_10_method_61_code
def yX8_reached : MethodName := ⟨RX8, "reached", "(III)I"⟩
abbrev cX8_roundOf : ByteArray := prog_10_method_62_code
def yX8_roundOf : MethodName := ⟨RX8, "roundOf", "(I)I"⟩
abbrev cX8_cusps : ByteArray := prog_10_method_63_code
def yX8_cusps : MethodName := ⟨RX8, "cusps", "(I)I"⟩
abbrev cX8_width : ByteArray := prog_10_method_64_code
def yX8_width : MethodName := ⟨RX8, "width", "(II)I"⟩
abbrev cX8_allShares : ByteArray := prog_10_method_65_code
def yX8_allShares : MethodName := ⟨RX8, "allShares", "()J"⟩
abbrev cX8_meanShare : ByteArray := prog_10_method_66_code
def yX8_meanShare : MethodName := ⟨RX8, "meanShare", "(I)I"⟩
abbrev cX8_twist : ByteArray := prog_10_method_67_code
def yX8_twist : MethodName := ⟨RX8, "twist", "(I)I"⟩
abbrev cX8_comes : ByteArray := prog_10_method_68_code
def yX8_comes : MethodName := ⟨RX8, "comes", "(II)I"⟩
abbrev cX8_upper : ByteArray := prog_10_method_69_code
def yX8_upper : MethodName := ⟨RX8, "upper", "()J"⟩
abbrev cX8_lower : ByteArray := prog_10_method_70_code
def yX8_lower : MethodName := ⟨RX8, "lower", "()J"⟩
abbrev cX8_count : ByteArray := prog_10_method_71_code
def yX8_count : MethodName := ⟨RX8, "count", "(I)I"⟩
abbrev cX8_finding : ByteArray := prog_10_method_72_code
def yX8_finding : MethodName := ⟨RX8, "finding", "()I"⟩
abbrev cX8_findings : ByteArray := prog_10_method_73_code
def yX8_findings : MethodName := ⟨RX8, "findings", "(I)I"⟩
abbrev cX8_digest : ByteArray := prog_10_method_74_code
def yX8_digest : MethodName := ⟨RX8, "digest", "()J"⟩
def RJ9 : String := "java/lang/Math"
def TJ9 : u_T := fun k => match k with
  | _ => ("", "", "", false)
def tyJ9 : Nat → FieldType := fun k => match k with
  | _ => .int
abbrev wsJ90 : List Cond := u_ws RJ9 TJ9 0
theorem nmJ9 : ∀ a, a < 0 → ∀ b, b < 0 → a ≠ b → (TJ9 a).2.1 ≠ (TJ9 b).2.1 := by decide +kernel
theorem tyJ9_ok : ∀ k, k < 0 → parseFieldDescriptor (TJ9 k).2.2.1 = some (tyJ9 k) := by decide +kernel
abbrev cJ9_floorDiv_7cf53 : ByteArray := prog_11_method_47_code
def yJ9_floorDiv_7cf53 : MethodName := ⟨RJ9, "floorDiv", "(II)I"⟩
abbrev cJ9_abs_0f7a4 : ByteArray := prog_11_method_59_code
def yJ9_abs_0f7a4 : MethodName := ⟨RJ9, "abs", "(I)I"⟩
abbrev cJ9_max_7cf53 : ByteArray := prog_11_method_65_code
def yJ9_max_7cf53 : MethodName := ⟨RJ9, "max", "(II)I"⟩
abbrev cJ9_min_7cf53 : ByteArray := prog_11_method_69_code
def yJ9_min_7cf53 : MethodName := ⟨RJ9, "min", "(II)I"⟩
def RJ10 : String := "java/lang/System"
def TJ10 : u_T := fun k => match k with
  | _ => ("", "", "", false)
def tyJ10 : Nat → FieldType := fun k => match k with
  | _ => .int
abbrev wsJ100 : List Cond := u_ws RJ10 TJ10 0
theorem nmJ10 : ∀ a, a < 0 → ∀ b, b < 0 → a ≠ b → (TJ10 a).2.1 ≠ (TJ10 b).2.1 := by decide +kernel
theorem tyJ10_ok : ∀ k, k < 0 → parseFieldDescriptor (TJ10 k).2.2.1 = some (tyJ10 k) := by decide +kernel
def RL : String := "SquareGroundsLaw"
abbrev cL_law : ByteArray := code
def yL_law : MethodName := ⟨RL, "law", "([I)Z"⟩
abbrev vwCl : List vw_C := [(RX0, TX0, 7), (RX1, TX1, 7), (RX2, TX2, 2), (RX3, TX3, 6), (RX4, TX4, 5), (RX5, TX5, 8), (RX6, TX6, 2), (RX7, TX7, 10), (RX8, TX8, 30)]
end
section
/-! the method table: name, code, locals, answer, class, kind (0 static, 1 virtual, 2 constructor), parameters, room -/
abbrev mRow : Type := MethodName × ByteArray × Nat × Option FieldType × Nat × Nat × Nat × Room
def mTab_0 : List mRow := [(yX0_init, cX0_init, 1, none, 0, 2, 0, { frames := 1, cells := 1, slots := 8, locals := 20 }),
  (yX0_look, cX0_look, 3, none, 0, 1, 1, { frames := 2, cells := 0, slots := 0, locals := 46 }),
  (yX0_bendFrom, cX0_bendFrom, 6, (some .int), 0, 1, 2, { frames := 1, cells := 0, slots := 0, locals := 21 }),
  (yX0_note, cX0_note, 2, none, 0, 1, 1, { frames := 1, cells := 0, slots := 0, locals := 21 }),
  (yX0_kind, cX0_kind, 1, (some .int), 0, 1, 0, { frames := 0, cells := 0, slots := 0, locals := 0 }),
  (yX0_bentSquares, cX0_bentSquares, 1, (some .int), 0, 1, 0, { frames := 0, cells := 0, slots := 0, locals := 0 }),
  (yX0_fact, cX0_fact, 2, (some .int), 0, 1, 1, { frames := 1, cells := 0, slots := 0, locals := 20 }),
  (yX1_init, cX1_init, 1, none, 1, 2, 0, { frames := 2, cells := 7, slots := 55, locals := 40 }),
  (yX1_look, cX1_look, 3, none, 1, 1, 1, { frames := 3, cells := 0, slots := 0, locals := 68 }),
  (yX1_partInRings, cX1_partInRings, 5, none, 1, 1, 1, { frames := 0, cells := 0, slots := 0, locals := 0 }),
  (yX1_liesFlatBelow, cX1_liesFlatBelow, 4, (some .boolean), 1, 1, 2, { frames := 0, cells := 0, slots := 0, locals := 0 }),
  (yX1_join, cX1_join, 7, none, 1, 1, 3, { frames := 1, cells := 0, slots := 0, locals := 21 }),
  (yX1_list, cX1_list, 3, none, 1, 1, 1, { frames := 1, cells := 0, slots := 0, locals := 24 }),
  (yX1_ringsIn, cX1_ringsIn, 5, (some .int), 1, 1, 2, { frames := 0, cells := 0, slots := 0, locals := 0 }),
  (yX1_wholeParts, cX1_wholeParts, 4, (some .long), 1, 1, 0, { frames := 0, cells := 0, slots := 0, locals := 0 }),
  (yX2_init, cX2_init, 1, none, 2, 2, 0, { frames := 1, cells := 0, slots := 0, locals := 20 })]
def mTab_1 : List mRow := [(yX2_tell, cX2_tell, 7, none, 2, 1, 2, { frames := 1, cells := 0, slots := 0, locals := 26 }),
  (yX3_init, cX3_init, 1, none, 3, 2, 0, { frames := 1, cells := 5, slots := 40, locals := 20 }),
  (yX3_isMissing, cX3_isMissing, 1, (some .boolean), 3, 1, 0, { frames := 0, cells := 0, slots := 0, locals := 0 }),
  (yX3_vanish, cX3_vanish, 1, none, 3, 1, 0, { frames := 0, cells := 0, slots := 0, locals := 0 }),
  (yX3_has, cX3_has, 2, (some .boolean), 3, 1, 1, { frames := 0, cells := 0, slots := 0, locals := 0 }),
  (yX3_layOut, cX3_layOut, 4, none, 3, 1, 2, { frames := 1, cells := 0, slots := 0, locals := 23 }),
  (yX3_unfold, cX3_unfold, 5, none, 3, 1, 2, { frames := 1, cells := 0, slots := 0, locals := 23 }),
  (yX3_become, cX3_become, 3, none, 3, 1, 1, { frames := 1, cells := 0, slots := 0, locals := 23 }),
  (yX3_glue, cX3_glue, 4, none, 3, 1, 3, { frames := 0, cells := 0, slots := 0, locals := 0 }),
  (yX3_slide, cX3_slide, 3, none, 3, 1, 1, { frames := 1, cells := 0, slots := 0, locals := 24 }),
  (yX3_slideOnce, cX3_slideOnce, 5, none, 3, 1, 2, { frames := 0, cells := 0, slots := 0, locals := 0 }),
  (yX3_quarter, cX3_quarter, 2, none, 3, 1, 0, { frames := 0, cells := 0, slots := 0, locals := 0 }),
  (yX3_quarterBack, cX3_quarterBack, 2, none, 3, 1, 0, { frames := 0, cells := 0, slots := 0, locals := 0 }),
  (yX3_tilt, cX3_tilt, 6, none, 3, 1, 2, { frames := 2, cells := 0, slots := 0, locals := 46 }),
  (yX3_ringLength, cX3_ringLength, 4, (some .int), 3, 1, 1, { frames := 0, cells := 0, slots := 0, locals := 0 }),
  (yX3_aroundCorner, cX3_aroundCorner, 2, (some .int), 3, 1, 1, { frames := 0, cells := 0, slots := 0, locals := 0 })]
def mTab_2 : List mRow := [(yX3_mixInto, cX3_mixInto, 4, (some .long), 3, 1, 1, { frames := 0, cells := 0, slots := 0, locals := 0 }),
  (yX4_init, cX4_init, 1, none, 4, 2, 0, { frames := 1, cells := 2, slots := 16, locals := 20 }),
  (yX4_look, cX4_look, 5, none, 4, 1, 1, { frames := 2, cells := 0, slots := 0, locals := 49 }),
  (yX4_rowFrom, cX4_rowFrom, 9, (some .long), 4, 1, 2, { frames := 1, cells := 0, slots := 0, locals := 21 }),
  (yX4_number, cX4_number, 2, (some .int), 4, 1, 1, { frames := 0, cells := 0, slots := 0, locals := 0 }),
  (yX5_init, cX5_init, 1, none, 5, 2, 0, { frames := 2, cells := 12, slots := 1567, locals := 40 }),
  (yX5_fill, cX5_fill, 3, none, 5, 1, 1, { frames := 4, cells := 0, slots := 0, locals := 94 }),
  (yX5_numberOrNew, cX5_numberOrNew, 2, (some .int), 5, 1, 0, { frames := 3, cells := 0, slots := 0, locals := 73 }),
  (yX5_numberOf, cX5_numberOf, 4, (some .int), 5, 1, 1, { frames := 0, cells := 0, slots := 0, locals := 0 }),
  (yX5_rounds, cX5_rounds, 3, (some .int), 5, 1, 0, { frames := 1, cells := 0, slots := 0, locals := 23 }),
  (yX5_roundLength, cX5_roundLength, 5, (some .int), 5, 1, 1, { frames := 1, cells := 0, slots := 0, locals := 23 }),
  (yX5_roundFrom, cX5_roundFrom, 4, (some .int), 5, 1, 1, { frames := 0, cells := 0, slots := 0, locals := 0 }),
  (yX6_init, cX6_init, 1, none, 6, 2, 0, { frames := 1, cells := 1, slots := 8, locals := 20 }),
  (yX6_isMissing, cX6_isMissing, 1, (some .boolean), 6, 1, 0, { frames := 0, cells := 0, slots := 0, locals := 0 }),
  (yX6_vanish, cX6_vanish, 1, none, 6, 1, 0, { frames := 0, cells := 0, slots := 0, locals := 0 }),
  (yX6_clear, cX6_clear, 3, none, 6, 1, 1, { frames := 0, cells := 0, slots := 0, locals := 0 })]
def mTab_3 : List mRow := [(yX6_has, cX6_has, 3, (some .boolean), 6, 1, 2, { frames := 0, cells := 0, slots := 0, locals := 0 }),
  (yX6_hasEachOnce, cX6_hasEachOnce, 3, (some .boolean), 6, 1, 0, { frames := 0, cells := 0, slots := 0, locals := 0 }),
  (yX6_mixInto, cX6_mixInto, 4, (some .long), 6, 1, 1, { frames := 0, cells := 0, slots := 0, locals := 0 }),
  (yX7_init, cX7_init, 2, none, 7, 2, 0, { frames := 3, cells := 104, slots := 2241, locals := 60 }),
  (yX7_sheet, cX7_sheet, 3, (some .int), 7, 1, 2, { frames := 1, cells := 0, slots := 0, locals := 22 }),
  (yX7_lay, cX7_lay, 6, (some .int), 7, 1, 3, { frames := 1, cells := 0, slots := 0, locals := 21 }),
  (yX7_tear, cX7_tear, 2, (some .int), 7, 1, 1, { frames := 1, cells := 0, slots := 0, locals := 21 }),
  (yX7_copy, cX7_copy, 8, (some .int), 7, 1, 5, { frames := 1, cells := 0, slots := 0, locals := 60 }),
  (yX7_ground, cX7_ground, 6, (some .int), 7, 1, 3, { frames := 2, cells := 0, slots := 0, locals := 46 }),
  (yX7_drop, cX7_drop, 2, (some .int), 7, 1, 1, { frames := 1, cells := 0, slots := 0, locals := 21 }),
  (yX7_twin, cX7_twin, 3, (some .int), 7, 1, 2, { frames := 2, cells := 0, slots := 0, locals := 45 }),
  (yX7_told, cX7_told, 4, (some .int), 7, 1, 2, { frames := 3, cells := 0, slots := 0, locals := 73 }),
  (yX7_mark, cX7_mark, 4, (some .int), 7, 1, 2, { frames := 3, cells := 0, slots := 0, locals := 68 }),
  (yX7_next, cX7_next, 5, (some .int), 7, 1, 3, { frames := 1, cells := 0, slots := 0, locals := 21 }),
  (yX7_bend, cX7_bend, 4, (some .int), 7, 1, 2, { frames := 3, cells := 0, slots := 0, locals := 68 }),
  (yX7_name, cX7_name, 4, (some .int), 7, 1, 2, { frames := 3, cells := 0, slots := 0, locals := 73 })]
def mTab_4 : List mRow := [(yX7_alike, cX7_alike, 7, (some .int), 7, 1, 2, { frames := 3, cells := 0, slots := 0, locals := 73 }),
  (yX7_mean, cX7_mean, 2, (some .int), 7, 1, 1, { frames := 3, cells := 0, slots := 0, locals := 68 }),
  (yX7_shear, cX7_shear, 3, (some .int), 7, 1, 2, { frames := 2, cells := 0, slots := 0, locals := 46 }),
  (yX7_turn, cX7_turn, 2, (some .int), 7, 1, 1, { frames := 1, cells := 0, slots := 0, locals := 21 }),
  (yX7_see, cX7_see, 4, (some .int), 7, 1, 3, { frames := 3, cells := 0, slots := 0, locals := 71 }),
  (yX7_cylinders, cX7_cylinders, 4, (some .int), 7, 1, 3, { frames := 4, cells := 0, slots := 0, locals := 90 }),
  (yX7_cylinder, cX7_cylinder, 4, (some .int), 7, 1, 3, { frames := 4, cells := 0, slots := 0, locals := 90 }),
  (yX7_share, cX7_share, 2, (some .int), 7, 1, 1, { frames := 4, cells := 0, slots := 0, locals := 90 }),
  (yX7_reach, cX7_reach, 3, (some .int), 7, 1, 1, { frames := 6, cells := 0, slots := 0, locals := 137 }),
  (yX7_reached, cX7_reached, 5, (some .int), 7, 1, 3, { frames := 6, cells := 0, slots := 0, locals := 137 }),
  (yX7_cusps, cX7_cusps, 3, (some .int), 7, 1, 1, { frames := 6, cells := 0, slots := 0, locals := 137 }),
  (yX7_width, cX7_width, 5, (some .int), 7, 1, 2, { frames := 6, cells := 0, slots := 0, locals := 137 }),
  (yX7_meanShare, cX7_meanShare, 3, (some .int), 7, 1, 1, { frames := 6, cells := 0, slots := 0, locals := 137 }),
  (yX7_twist, cX7_twist, 5, (some .int), 7, 1, 1, { frames := 6, cells := 0, slots := 0, locals := 137 }),
  (yX7_comes, cX7_comes, 5, (some .int), 7, 1, 2, { frames := 6, cells := 0, slots := 0, locals := 137 }),
  (yX7_upper, cX7_upper, 1, (some .long), 7, 1, 0, { frames := 0, cells := 0, slots := 0, locals := 0 })]
def mTab_5 : List mRow := [(yX7_lower, cX7_lower, 1, (some .long), 7, 1, 0, { frames := 0, cells := 0, slots := 0, locals := 0 }),
  (yX7_count, cX7_count, 2, (some .int), 7, 1, 1, { frames := 2, cells := 0, slots := 0, locals := 43 }),
  (yX7_finding, cX7_finding, 1, (some .int), 7, 1, 0, { frames := 0, cells := 0, slots := 0, locals := 0 }),
  (yX7_findings, cX7_findings, 2, (some .int), 7, 1, 1, { frames := 0, cells := 0, slots := 0, locals := 0 }),
  (yX7_digest, cX7_digest, 4, (some .long), 7, 1, 0, { frames := 1, cells := 0, slots := 0, locals := 23 }),
  (yX7_isSheetNumber, cX7_isSheetNumber, 1, (some .boolean), 7, 0, 1, { frames := 0, cells := 0, slots := 0, locals := 0 }),
  (yX7_isGroundNumber, cX7_isGroundNumber, 1, (some .boolean), 7, 0, 1, { frames := 0, cells := 0, slots := 0, locals := 0 }),
  (yX7_isSlope, cX7_isSlope, 2, (some .boolean), 7, 0, 2, { frames := 1, cells := 0, slots := 0, locals := 26 }),
  (yX7_commonDivisor, cX7_commonDivisor, 7, (some .long), 7, 0, 2, { frames := 0, cells := 0, slots := 0, locals := 0 }),
  (yX7_place, cX7_place, 4, (some .int), 7, 0, 3, { frames := 0, cells := 0, slots := 0, locals := 0 }),
  (yX7_tellGround, cX7_tellGround, 2, (some .boolean), 7, 0, 2, { frames := 1, cells := 0, slots := 0, locals := 24 }),
  (yX7_hangTogether, cX7_hangTogether, 5, (some .boolean), 7, 0, 2, { frames := 0, cells := 0, slots := 0, locals := 0 }),
  (yX7_found, cX7_found, 2, (some .int), 7, 1, 1, { frames := 0, cells := 0, slots := 0, locals := 0 }),
  (yX7_refusedReach, cX7_refusedReach, 2, (some .int), 7, 1, 1, { frames := 5, cells := 0, slots := 0, locals := 116 }),
  (yX7_selvesOf, cX7_selvesOf, 2, (some .int), 7, 1, 1, { frames := 3, cells := 0, slots := 0, locals := 73 }),
  (yX7_cylindersOf, cX7_cylindersOf, 2, (some .int), 7, 1, 1, { frames := 4, cells := 0, slots := 0, locals := 90 })]
def mTab_6 : List mRow := [(yX7_sharesInReach, cX7_sharesInReach, 4, (some .long), 7, 1, 0, { frames := 4, cells := 0, slots := 0, locals := 90 }),
  (yX7_sheetsThere, cX7_sheetsThere, 3, (some .int), 7, 1, 0, { frames := 1, cells := 0, slots := 0, locals := 20 }),
  (yX7_groundsThere, cX7_groundsThere, 4, (some .int), 7, 1, 1, { frames := 1, cells := 0, slots := 0, locals := 20 }),
  (yX8_init, cX8_init, 2, none, 8, 2, 0, { frames := 1, cells := 24, slots := 10832, locals := 20 }),
  (yX8_in, cX8_in, 3, (some .boolean), 8, 0, 3, { frames := 0, cells := 0, slots := 0, locals := 0 }),
  (yX8_meets, cX8_meets, 2, (some .int), 8, 1, 1, { frames := 0, cells := 0, slots := 0, locals := 0 }),
  (yX8_isSheet, cX8_isSheet, 1, (some .boolean), 8, 0, 1, { frames := 1, cells := 0, slots := 0, locals := 22 }),
  (yX8_looked, cX8_looked, 2, (some .int), 8, 1, 1, { frames := 2, cells := 0, slots := 0, locals := 42 }),
  (yX8_sheet, cX8_sheet, 4, (some .int), 8, 1, 2, { frames := 2, cells := 0, slots := 0, locals := 42 }),
  (yX8_lay, cX8_lay, 6, (some .int), 8, 1, 3, { frames := 3, cells := 0, slots := 0, locals := 63 }),
  (yX8_tear, cX8_tear, 3, (some .int), 8, 1, 1, { frames := 3, cells := 0, slots := 0, locals := 63 }),
  (yX8_copy, cX8_copy, 7, (some .int), 8, 1, 5, { frames := 2, cells := 0, slots := 0, locals := 42 }),
  (yX8_setBack, cX8_setBack, 2, none, 8, 1, 0, { frames := 0, cells := 0, slots := 0, locals := 0 }),
  (yX8_isNumber, cX8_isNumber, 1, (some .boolean), 8, 0, 1, { frames := 1, cells := 0, slots := 0, locals := 22 }),
  (yX8_askedFor, cX8_askedFor, 2, (some .int), 8, 1, 1, { frames := 2, cells := 0, slots := 0, locals := 43 }),
  (yX8_load, cX8_load, 3, none, 8, 1, 1, { frames := 1, cells := 0, slots := 0, locals := 21 })]
def mTab_7 : List mRow := [(yX8_keep, cX8_keep, 3, (some .int), 8, 1, 1, { frames := 0, cells := 0, slots := 0, locals := 0 }),
  (yX8_isWhole, cX8_isWhole, 6, (some .boolean), 8, 1, 2, { frames := 1, cells := 0, slots := 0, locals := 22 }),
  (yX8_numbered, cX8_numbered, 6, (some .int), 8, 1, 1, { frames := 0, cells := 0, slots := 0, locals := 0 }),
  (yX8_ground, cX8_ground, 6, (some .int), 8, 1, 3, { frames := 2, cells := 0, slots := 0, locals := 47 }),
  (yX8_drop, cX8_drop, 3, (some .int), 8, 1, 1, { frames := 3, cells := 0, slots := 0, locals := 64 }),
  (yX8_twin, cX8_twin, 4, (some .int), 8, 1, 2, { frames := 3, cells := 0, slots := 0, locals := 64 }),
  (yX8_around, cX8_around, 2, (some .int), 8, 1, 1, { frames := 0, cells := 0, slots := 0, locals := 0 }),
  (yX8_bendAt, cX8_bendAt, 4, (some .int), 8, 1, 1, { frames := 1, cells := 0, slots := 0, locals := 21 }),
  (yX8_isFirst, cX8_isFirst, 4, (some .boolean), 8, 1, 1, { frames := 1, cells := 0, slots := 0, locals := 21 }),
  (yX8_corners, cX8_corners, 6, (some .int), 8, 1, 1, { frames := 2, cells := 0, slots := 0, locals := 44 }),
  (yX8_kindOf, cX8_kindOf, 2, (some .int), 8, 1, 0, { frames := 3, cells := 0, slots := 0, locals := 69 }),
  (yX8_setName, cX8_setName, 5, none, 8, 1, 0, { frames := 1, cells := 0, slots := 0, locals := 25 }),
  (yX8_against, cX8_against, 2, (some .int), 8, 1, 0, { frames := 0, cells := 0, slots := 0, locals := 0 }),
  (yX8_tells, cX8_tells, 2, (some .int), 8, 1, 1, { frames := 4, cells := 0, slots := 0, locals := 90 }),
  (yX8_told, cX8_told, 4, (some .int), 8, 1, 2, { frames := 5, cells := 0, slots := 0, locals := 111 }),
  (yX8_ringOf, cX8_ringOf, 4, (some .int), 8, 1, 1, { frames := 0, cells := 0, slots := 0, locals := 0 })]
def mTab_8 : List mRow := [(yX8_mark, cX8_mark, 4, (some .int), 8, 1, 2, { frames := 4, cells := 0, slots := 0, locals := 90 }),
  (yX8_next, cX8_next, 5, (some .int), 8, 1, 3, { frames := 3, cells := 0, slots := 0, locals := 64 }),
  (yX8_bend, cX8_bend, 4, (some .int), 8, 1, 2, { frames := 3, cells := 0, slots := 0, locals := 64 }),
  (yX8_name, cX8_name, 4, (some .int), 8, 1, 2, { frames := 3, cells := 0, slots := 0, locals := 64 }),
  (yX8_otherName, cX8_otherName, 3, (some .int), 8, 1, 1, { frames := 2, cells := 0, slots := 0, locals := 49 }),
  (yX8_isOther, cX8_isOther, 3, (some .boolean), 8, 1, 0, { frames := 0, cells := 0, slots := 0, locals := 0 }),
  (yX8_alike, cX8_alike, 4, (some .int), 8, 1, 2, { frames := 3, cells := 0, slots := 0, locals := 71 }),
  (yX8_mean, cX8_mean, 3, (some .int), 8, 1, 1, { frames := 3, cells := 0, slots := 0, locals := 69 }),
  (yX8_shearOnce, cX8_shearOnce, 3, none, 8, 1, 1, { frames := 1, cells := 0, slots := 0, locals := 21 }),
  (yX8_shearBy, cX8_shearBy, 3, none, 8, 1, 1, { frames := 2, cells := 0, slots := 0, locals := 43 }),
  (yX8_turnOnce, cX8_turnOnce, 3, none, 8, 1, 1, { frames := 1, cells := 0, slots := 0, locals := 21 }),
  (yX8_shear, cX8_shear, 4, (some .int), 8, 1, 2, { frames := 3, cells := 0, slots := 0, locals := 65 }),
  (yX8_turn, cX8_turn, 3, (some .int), 8, 1, 1, { frames := 3, cells := 0, slots := 0, locals := 64 }),
  (yX8_isSlope, cX8_isSlope, 5, (some .boolean), 8, 0, 2, { frames := 1, cells := 0, slots := 0, locals := 22 }),
  (yX8_seeIn, cX8_seeIn, 7, none, 8, 1, 2, { frames := 3, cells := 0, slots := 0, locals := 65 }),
  (yX8_see, cX8_see, 5, (some .int), 8, 1, 3, { frames := 4, cells := 0, slots := 0, locals := 91 })]
def mTab_9 : List mRow := [(yX8_setCylinders, cX8_setCylinders, 4, (some .int), 8, 1, 0, { frames := 3, cells := 0, slots := 0, locals := 67 }),
  (yX8_joins, cX8_joins, 5, (some .boolean), 8, 1, 2, { frames := 0, cells := 0, slots := 0, locals := 0 }),
  (yX8_isSmooth, cX8_isSmooth, 4, (some .boolean), 8, 1, 1, { frames := 2, cells := 0, slots := 0, locals := 44 }),
  (yX8_sizeOf, cX8_sizeOf, 4, (some .int), 8, 1, 1, { frames := 0, cells := 0, slots := 0, locals := 0 }),
  (yX8_cylinders, cX8_cylinders, 5, (some .int), 8, 1, 3, { frames := 4, cells := 0, slots := 0, locals := 91 }),
  (yX8_cylinder, cX8_cylinder, 9, (some .int), 8, 1, 3, { frames := 4, cells := 0, slots := 0, locals := 90 }),
  (yX8_shareOf, cX8_shareOf, 5, (some .int), 8, 1, 0, { frames := 4, cells := 0, slots := 0, locals := 90 }),
  (yX8_tell, cX8_tell, 11, (some .int), 8, 1, 2, { frames := 0, cells := 0, slots := 0, locals := 0 }),
  (yX8_share, cX8_share, 3, (some .int), 8, 1, 1, { frames := 5, cells := 0, slots := 0, locals := 114 }),
  (yX8_loadName, cX8_loadName, 3, none, 8, 1, 1, { frames := 1, cells := 0, slots := 0, locals := 21 }),
  (yX8_found, cX8_found, 4, (some .int), 8, 1, 0, { frames := 2, cells := 0, slots := 0, locals := 49 }),
  (yX8_setReach, cX8_setReach, 3, (some .int), 8, 1, 0, { frames := 5, cells := 0, slots := 0, locals := 114 }),
  (yX8_askedReach, cX8_askedReach, 3, (some .int), 8, 1, 1, { frames := 6, cells := 0, slots := 0, locals := 136 }),
  (yX8_reach, cX8_reach, 3, (some .int), 8, 1, 1, { frames := 7, cells := 0, slots := 0, locals := 158 }),
  (yX8_reached, cX8_reached, 5, (some .int), 8, 1, 3, { frames := 7, cells := 0, slots := 0, locals := 158 }),
  (yX8_roundOf, cX8_roundOf, 4, (some .int), 8, 1, 1, { frames := 0, cells := 0, slots := 0, locals := 0 })]
def mTab_10 : List mRow := [(yX8_cusps, cX8_cusps, 5, (some .int), 8, 1, 1, { frames := 7, cells := 0, slots := 0, locals := 158 }),
  (yX8_width, cX8_width, 7, (some .int), 8, 1, 2, { frames := 7, cells := 0, slots := 0, locals := 158 }),
  (yX8_allShares, cX8_allShares, 4, (some .long), 8, 1, 0, { frames := 0, cells := 0, slots := 0, locals := 0 }),
  (yX8_meanShare, cX8_meanShare, 3, (some .int), 8, 1, 1, { frames := 7, cells := 0, slots := 0, locals := 158 }),
  (yX8_twist, cX8_twist, 7, (some .int), 8, 1, 1, { frames := 6, cells := 0, slots := 0, locals := 136 }),
  (yX8_comes, cX8_comes, 7, (some .int), 8, 1, 2, { frames := 6, cells := 0, slots := 0, locals := 136 }),
  (yX8_upper, cX8_upper, 1, (some .long), 8, 1, 0, { frames := 0, cells := 0, slots := 0, locals := 0 }),
  (yX8_lower, cX8_lower, 1, (some .long), 8, 1, 0, { frames := 0, cells := 0, slots := 0, locals := 0 }),
  (yX8_count, cX8_count, 4, (some .int), 8, 1, 1, { frames := 1, cells := 0, slots := 0, locals := 22 }),
  (yX8_finding, cX8_finding, 1, (some .int), 8, 1, 0, { frames := 0, cells := 0, slots := 0, locals := 0 }),
  (yX8_findings, cX8_findings, 2, (some .int), 8, 1, 1, { frames := 1, cells := 0, slots := 0, locals := 22 }),
  (yX8_digest, cX8_digest, 5, (some .long), 8, 1, 0, { frames := 0, cells := 0, slots := 0, locals := 0 }),
  (yJ9_floorDiv_7cf53, cJ9_floorDiv_7cf53, 3, (some .int), 9, 0, 2, { frames := 0, cells := 0, slots := 0, locals := 0 }),
  (yJ9_abs_0f7a4, cJ9_abs_0f7a4, 1, (some .int), 9, 0, 1, { frames := 0, cells := 0, slots := 0, locals := 0 }),
  (yJ9_max_7cf53, cJ9_max_7cf53, 2, (some .int), 9, 0, 2, { frames := 0, cells := 0, slots := 0, locals := 0 }),
  (yJ9_min_7cf53, cJ9_min_7cf53, 2, (some .int), 9, 0, 2, { frames := 0, cells := 0, slots := 0, locals := 0 })]
def mTab_11 : List mRow := [(yL_law, cL_law, 4, (some .boolean), 11, 0, 1, { frames := 10, cells := 600000, slots := 7302250, locals := 370 })]
def mTabs : List (List mRow) := [mTab_0, mTab_1, mTab_2, mTab_3, mTab_4, mTab_5, mTab_6, mTab_7, mTab_8, mTab_9, mTab_10, mTab_11]
def mRow0 : mRow := (⟨"", "", ""⟩, ByteArray.empty, 0, none, 99, 99, 0, { frames := 0, cells := 0, slots := 0, locals := 0 })
def mAt (j : Nat) : mRow := ((mTabs.getD (j / 16) []).getD (j % 16) mRow0)
def mN : Nat := 177
def mLaw : Nat := 176
def mY (j : Nat) : MethodName := (mAt j).1
def mB (j : Nat) : ByteArray := (mAt j).2.1
def mL (j : Nat) : Nat := (mAt j).2.2.1
def mRt (j : Nat) : Option FieldType := (mAt j).2.2.2.1
def mO (j : Nat) : Nat := (mAt j).2.2.2.2.1
def mKd (j : Nat) : Nat := (mAt j).2.2.2.2.2.1
def mNp (j : Nat) : Nat := (mAt j).2.2.2.2.2.2.1
def mRm (j : Nat) : Room := (mAt j).2.2.2.2.2.2.2
def mRs : List String := [RX0, RX1, RX2, RX3, RX4, RX5, RX6, RX7, RX8, RJ9, RJ10, RL]
def mR (o : Nat) : String := mRs.getD o ""
/-! links: own class, pool number, target -/
def mFl : List (Nat × Nat × Nat × Nat) := [(0, 9, 0, 0), (0, 15, 0, 1), (0, 19, 0, 2), (0, 22, 0, 3), (0, 25, 0, 4), (0, 28, 0, 5), (0, 31, 0, 6), (0, 35, 3, 0), (1, 12, 1, 0), (1, 18, 1, 1), (1, 22, 1, 2), (1, 25, 1, 4), (1, 28, 1, 5), (1, 31, 1, 6), (1, 41, 3, 0), (1, 51, 3, 2), (1, 61, 3, 1), (1, 64, 0, 0), (1, 76, 1, 3), (2, 7, 2, 0), (2, 13, 2, 1), (3, 9, 3, 0), (3, 15, 3, 1), (3, 19, 3, 2), (3, 22, 3, 3), (3, 25, 3, 4), (3, 28, 3, 5), (3, 31, 6, 0), (3, 36, 6, 1), (4, 9, 4, 0), (4, 15, 4, 1), (4, 22, 4, 3), (4, 26, 4, 4), (4, 30, 3, 0), (4, 39, 4, 2), (4, 46, 3, 1), (4, 49, 3, 2), (5, 9, 5, 0), (5, 15, 5, 1), (5, 19, 5, 2), (5, 25, 5, 3), (5, 32, 5, 4), (5, 40, 5, 5), (5, 44, 3, 0), (5, 45, 5, 6), (5, 48, 4, 3), (5, 52, 5, 7), (6, 9, 6, 0), (6, 15, 6, 1), (7, 11, 7, 0), (7, 17, 7, 1), (7, 22, 7, 2), (7, 29, 7, 3), (7, 36, 7, 4), (7, 43, 7, 5), (7, 50, 7, 6), (7, 57, 7, 7), (7, 61, 7, 8), (7, 65, 7, 9), (7, 86, 6, 0), (7, 89, 6, 1), (7, 117, 3, 0), (7, 129, 4, 4), (7, 143, 0, 3), (7, 151, 3, 2), (7, 154, 3, 1), (7, 157, 0, 0), (7, 160, 4, 3), (7, 168, 0, 2), (7, 185, 1, 3), (7, 186, 1, 4), (7, 189, 1, 5), (7, 192, 1, 6), (7, 207, 5, 6), (7, 208, 5, 1), (7, 211, 5, 2), (7, 214, 5, 5), (7, 215, 5, 0), (7, 239, 0, 6), (7, 249, 2, 0), (7, 252, 2, 1), (7, 287, 5, 7), (8, 7, 8, 1), (8, 13, 8, 2), (8, 16, 8, 3), (8, 19, 8, 4), (8, 22, 8, 6), (8, 25, 8, 7), (8, 28, 8, 8), (8, 31, 8, 9), (8, 34, 8, 10), (8, 37, 8, 11), (8, 40, 8, 12), (8, 43, 8, 13), (8, 46, 8, 14), (8, 49, 8, 15), (8, 52, 8, 16), (8, 55, 8, 18), (8, 58, 8, 19), (8, 61, 8, 20), (8, 64, 8, 22), (8, 68, 8, 24), (8, 71, 8, 25), (8, 74, 8, 26), (8, 77, 8, 27), (8, 80, 8, 28), (8, 83, 8, 29), (8, 86, 8, 0), (8, 105, 8, 5), (8, 143, 8, 17), (8, 198, 8, 21), (8, 210, 8, 23)]
def mMl_0 : List (Nat × Nat × Nat × Nat × Nat × Nat) := [(0, 3, 1000, 0, 1, 65), (0, 40, 2, 0, 2, 125), (0, 44, 3, 0, 2, 133), (0, 48, 31, 0, 2, 129), (0, 52, 175, 0, 2, 137), (0, 58, 174, 0, 2, 140), (0, 64, 4, 0, 2, 149), (1, 3, 1000, 0, 1, 123), (1, 11, 0, 1, 1, 125), (1, 34, 1, 0, 3, 6), (1, 38, 9, 0, 3, 7), (1, 47, 10, 0, 3, 11), (1, 54, 11, 0, 3, 15), (1, 58, 12, 0, 3, 21), (1, 67, 175, 0, 3, 19), (1, 73, 174, 0, 3, 20)]
def mMl_1 : List (Nat × Nat × Nat × Nat × Nat × Nat) := [(1, 79, 30, 0, 3, 25), (1, 83, 13, 0, 3, 26), (2, 1, 1000, 0, 1, 199), (2, 16, 88, 1, 3, 48), (3, 3, 1000, 0, 1, 28), (3, 40, 24, 0, 2, 80), (3, 44, 89, 1, 3, 66), (3, 48, 26, 0, 2, 201), (3, 52, 172, 0, 2, 230), (3, 58, 25, 0, 2, 233), (3, 62, 28, 0, 2, 234), (4, 3, 1000, 0, 1, 98), (4, 35, 35, 0, 2, 113), (4, 42, 36, 0, 2, 117), (5, 3, 1000, 0, 1, 157), (5, 24, 17, 1, 1, 159)]
def mMl_2 : List (Nat × Nat × Nat × Nat × Nat × Nat) := [(5, 31, 33, 1, 1, 161), (5, 36, 34, 0, 3, 61), (5, 56, 22, 0, 3, 62), (5, 60, 25, 0, 3, 67), (5, 64, 39, 0, 3, 68), (5, 68, 27, 0, 3, 76), (5, 71, 40, 0, 3, 72), (5, 75, 43, 0, 3, 98), (6, 3, 1000, 0, 1, 213), (7, 1, 1000, 0, 1, 17), (7, 21, 17, 1, 1, 25), (7, 28, 0, 1, 1, 62), (7, 35, 33, 1, 1, 95), (7, 42, 7, 1, 1, 120), (7, 49, 37, 1, 1, 154), (7, 56, 15, 1, 1, 196)]
def mMl_3 : List (Nat × Nat × Nat × Nat × Nat × Nat) := [(7, 69, 44, 1, 1, 210), (7, 70, 85, 0, 2, 21), (7, 74, 92, 0, 2, 24), (7, 78, 47, 0, 2, 28), (7, 82, 45, 0, 2, 36), (7, 93, 46, 0, 2, 44), (7, 96, 48, 0, 2, 52), (7, 100, 1001, 0, 2, 56), (7, 106, 86, 0, 2, 63), (7, 109, 90, 0, 2, 66), (7, 113, 21, 0, 2, 76), (7, 120, 18, 0, 2, 88), (7, 121, 19, 0, 2, 92), (7, 122, 23, 0, 2, 100), (7, 126, 34, 0, 2, 108), (7, 132, 1, 0, 2, 121)]
def mMl_4 : List (Nat × Nat × Nat × Nat × Nat × Nat) := [(7, 133, 6, 0, 2, 145), (7, 136, 4, 0, 2, 157), (7, 140, 30, 0, 2, 158), (7, 146, 5, 0, 2, 162), (7, 149, 20, 0, 2, 170), (7, 164, 89, 0, 2, 182), (7, 171, 25, 0, 2, 197), (7, 174, 27, 0, 2, 209), (7, 177, 87, 0, 2, 217), (7, 180, 29, 0, 2, 226), (7, 184, 8, 0, 3, 2), (7, 194, 14, 0, 3, 38), (7, 200, 16, 0, 3, 44), (7, 204, 93, 0, 3, 53), (7, 219, 22, 0, 3, 81), (7, 223, 94, 0, 3, 82)]
def mMl_5 : List (Nat × Nat × Nat × Nat × Nat × Nat) := [(7, 227, 95, 0, 3, 86), (7, 230, 41, 0, 3, 94), (7, 233, 42, 0, 3, 106), (7, 236, 96, 0, 3, 114), (7, 245, 40, 0, 3, 128), (7, 255, 97, 0, 3, 141), (7, 258, 98, 0, 3, 145), (7, 264, 32, 0, 3, 162), (7, 268, 50, 0, 3, 167), (7, 269, 173, 0, 2, 220), (7, 274, 88, 0, 2, 223), (7, 278, 49, 0, 2, 69), (7, 281, 91, 0, 2, 73), (7, 284, 38, 0, 3, 57), (8, 1, 1000, 0, 3, 177), (8, 90, 100, 0, 4, 36)]
def mMl_6 : List (Nat × Nat × Nat × Nat × Nat × Nat) := [(8, 94, 102, 0, 4, 33), (8, 98, 101, 0, 4, 39), (8, 102, 103, 0, 4, 47), (8, 108, 109, 0, 4, 63), (8, 111, 111, 0, 4, 86), (8, 115, 108, 0, 4, 90), (8, 118, 113, 0, 4, 66), (8, 122, 114, 0, 4, 70), (8, 125, 112, 0, 4, 74), (8, 128, 110, 0, 4, 82), (8, 131, 118, 0, 4, 126), (8, 134, 120, 0, 4, 122), (8, 137, 119, 0, 4, 130), (8, 140, 121, 0, 4, 118), (8, 146, 124, 0, 4, 110), (8, 150, 123, 0, 4, 106)]
def mMl_7 : List (Nat × Nat × Nat × Nat × Nat × Nat) := [(8, 153, 122, 0, 4, 114), (8, 156, 125, 0, 4, 102), (8, 159, 127, 0, 4, 138), (8, 162, 132, 0, 4, 158), (8, 165, 133, 0, 4, 162), (8, 169, 136, 0, 4, 178), (8, 173, 137, 0, 4, 174), (8, 176, 138, 0, 4, 186), (8, 179, 141, 0, 4, 194), (8, 182, 142, 0, 4, 197), (8, 186, 145, 0, 4, 209), (8, 189, 146, 0, 4, 213), (8, 192, 144, 0, 4, 205), (8, 195, 147, 0, 4, 221), (8, 201, 150, 0, 4, 229), (8, 206, 151, 0, 4, 234)]
def mMl_8 : List (Nat × Nat × Nat × Nat × Nat × Nat) := [(8, 213, 154, 0, 5, 10), (8, 216, 153, 0, 5, 14), (8, 219, 155, 0, 5, 6), (8, 222, 156, 0, 5, 2), (8, 225, 159, 0, 5, 26), (8, 228, 162, 0, 5, 38), (11, 9, 51, 0, 1, 14), (11, 12, 99, 0, 3, 174), (11, 13, 52, 0, 2, 17), (11, 17, 104, 0, 4, 29), (11, 18, 53, 0, 2, 32), (11, 22, 105, 0, 4, 43), (11, 23, 54, 0, 2, 40), (11, 27, 106, 0, 4, 51), (11, 28, 55, 0, 2, 48), (11, 32, 107, 0, 4, 55)]
def mMl_9 : List (Nat × Nat × Nat × Nat × Nat × Nat) := [(11, 33, 56, 0, 2, 59), (11, 36, 115, 0, 4, 59), (11, 37, 57, 0, 2, 84), (11, 40, 116, 0, 4, 78), (11, 41, 58, 0, 2, 96), (11, 44, 117, 0, 4, 94), (11, 45, 59, 0, 2, 104), (11, 48, 126, 0, 4, 98), (11, 49, 60, 0, 2, 153), (11, 52, 128, 0, 4, 134), (11, 53, 61, 0, 2, 166), (11, 57, 129, 0, 4, 142), (11, 58, 62, 0, 2, 174), (11, 61, 130, 0, 4, 146), (11, 62, 63, 0, 2, 178), (11, 65, 131, 0, 4, 150)]
def mMl_10 : List (Nat × Nat × Nat × Nat × Nat × Nat) := [(11, 66, 64, 0, 2, 185), (11, 69, 134, 0, 4, 154), (11, 70, 65, 0, 2, 189), (11, 73, 135, 0, 4, 166), (11, 74, 66, 0, 2, 193), (11, 77, 139, 0, 4, 170), (11, 78, 67, 0, 2, 205), (11, 81, 140, 0, 4, 182), (11, 82, 68, 0, 2, 213), (11, 85, 143, 0, 4, 190), (11, 86, 69, 0, 2, 238), (11, 89, 148, 0, 4, 201), (11, 90, 70, 0, 3, 30), (11, 93, 149, 0, 4, 217), (11, 94, 71, 0, 3, 34), (11, 97, 152, 0, 4, 225)]
def mMl_11 : List (Nat × Nat × Nat × Nat × Nat × Nat) := [(11, 98, 72, 0, 3, 49), (11, 101, 157, 0, 4, 238), (11, 102, 73, 0, 3, 77), (11, 105, 158, 0, 5, 18), (11, 106, 74, 0, 3, 90), (11, 109, 160, 0, 5, 22), (11, 110, 75, 0, 3, 102), (11, 113, 161, 0, 5, 30), (11, 114, 76, 0, 3, 110), (11, 117, 163, 0, 5, 34), (11, 118, 77, 0, 3, 118), (11, 121, 164, 0, 5, 42), (11, 122, 78, 0, 3, 124), (11, 125, 165, 0, 5, 48), (11, 126, 79, 0, 3, 129), (11, 130, 166, 0, 5, 52)]
def mMl_12 : List (Nat × Nat × Nat × Nat × Nat × Nat) := [(11, 131, 80, 0, 3, 133), (11, 134, 167, 0, 5, 56), (11, 135, 81, 0, 3, 137), (11, 138, 168, 0, 5, 60), (11, 139, 82, 0, 3, 149), (11, 143, 169, 0, 5, 64), (11, 144, 83, 0, 3, 153), (11, 147, 170, 0, 5, 68), (11, 148, 84, 0, 3, 157), (11, 151, 171, 0, 5, 72)]
def mMl : List (Nat × Nat × Nat × Nat × Nat × Nat) := mMl_0 ++ mMl_1 ++ mMl_2 ++ mMl_3 ++ mMl_4 ++ mMl_5 ++ mMl_6 ++ mMl_7 ++ mMl_8 ++ mMl_9 ++ mMl_10 ++ mMl_11 ++ mMl_12
def mKl : List (Nat × Nat × Int64) := [(3, 65, 31), (4, 20, 9223372036854775807), (6, 19, 31), (7, 198, 840), (7, 241, 12), (7, 243, 10080), (7, 262, 17), (8, 204, 840), (8, 232, 12), (8, 234, 10080), (8, 236, 17), (8, 238, 31)]
def mCl : List (Nat × Nat × Nat) := [(1, 9, 0), (5, 22, 3), (5, 29, 4), (7, 9, 6), (7, 15, 3), (7, 26, 0), (7, 33, 4), (7, 40, 1), (7, 47, 5), (7, 54, 2), (11, 7, 7), (11, 10, 8)]
def mGl : List (Nat × Nat) := [(0, 61), (1, 86)]
def mF (o i : Nat) : Option (Nat × Nat) := (mFl.find? (fun e => e.1 == o && e.2.1 == i)).map (fun e => e.2.2)
def mM (o i : Nat) : Option (Nat × Nat) := (mMl.find? (fun e => e.1 == o && e.2.1 == i)).map (fun e => (e.2.2.1, e.2.2.2.1))
def mK (o i : Nat) : Option Int64 := (mKl.find? (fun e => e.1 == o && e.2.1 == i)).map (fun e => e.2.2)
def mC (o i : Nat) : Option Nat := (mCl.find? (fun e => e.1 == o && e.2.1 == i)).map (fun e => e.2.2)
def mTys : List (Nat → FieldType) := [tyX0, tyX1, tyX2, tyX3, tyX4, tyX5, tyX6, tyX7, tyX8]
def mTy (ci k : Nat) : FieldType := (mTys.getD ci (fun _ => .int)) k
/-- 0 int, 1 long, 2 reference, 3 boolean -/
def mKi (ci k : Nat) : Nat := match mTy ci k with
  | .int => 0
  | .long => 1
  | .boolean => 3
  | .object _ => 2
  | .array _ => 2
  | _ => 9
def mG : List Cond := lw_tbl.filter goodWord
def mNestQ : Cond → Bool
  | .fieldLinkNest .. => true
  | .methodLinkNest .. => true
  | _ => false
def mNest : List Cond := lw_tbl.filter mNestQ
def mChF (e : Nat × Nat × Nat × Nat) : Bool := match vwCl[e.2.2.1]? with
  | some (_, T, N) => decide (e.2.2.2 < N) && decide (Cond.fieldLink (mR e.1) e.2.1 (T e.2.2.2).1 (T e.2.2.2).2.1 (T e.2.2.2).2.2.1 ∈ mG)
  | none => false
theorem mChF_ok : mFl.all mChF = true := by decide +kernel
def mSub (t : Nat) : List Cond := match t with
  | 0 => k2_sels lw_privs
  | 1 => tables_1_1
  | 2 => tables_1_2
  | 3 => tables_1_3
  | 4 => tables_1_4
  | 5 => tables_1_5
  | _ => []
theorem mSub_in (t : Nat) {w : Cond} (h : w ∈ mSub t) : w ∈ lw_tbl := by
  unfold mSub at h
  unfold lw_tbl tables_1
  split at h
  · exact List.mem_append_left _ h
  · exact List.mem_append_right _ (List.mem_append_left _ h)
  · exact List.mem_append_right _ (List.mem_append_right _ (List.mem_append_left _ h))
  · exact List.mem_append_right _ (List.mem_append_right _ (List.mem_append_right _ (List.mem_append_left _ h)))
  · exact List.mem_append_right _ (List.mem_append_right _ (List.mem_append_right _ (List.mem_append_right _ (List.mem_append_left _ h))))
  · exact List.mem_append_right _ (List.mem_append_right _ (List.mem_append_right _ (List.mem_append_right _ (List.mem_append_right _ h))))
  · exact absurd h List.not_mem_nil
def mIs (t p : Nat) (w : Cond) : Bool := decide ((mSub t)[p]? = some w)
theorem mIs_in {t p : Nat} {w : Cond} (h : mIs t p w = true) : w ∈ lw_tbl := mSub_in t (List.mem_of_getElem? (of_decide_eq_true h))
theorem mIs_G {t p : Nat} {w : Cond} (h : mIs t p w = true) (g : goodWord w = true) : w ∈ mG := List.mem_filter.mpr ⟨mIs_in h, g⟩
def mChM (e : Nat × Nat × Nat × Nat × Nat × Nat) : Bool := if e.2.2.1 = 1000 then e.2.2.2.1 == 0 && mIs e.2.2.2.2.1 e.2.2.2.2.2 (Cond.methodLink (mR e.1) e.2.1 objectInit) else if e.2.2.1 = 1001 then e.2.2.2.1 == 0 && mIs e.2.2.2.2.1 e.2.2.2.2.2 (Cond.methodLink (mR e.1) e.2.1 arraycopyName) else decide (e.2.2.1 < mN) && (if e.2.2.2.1 = 0 then mIs e.2.2.2.2.1 e.2.2.2.2.2 (Cond.methodLink (mR e.1) e.2.1 (mY e.2.2.1)) else mIs e.2.2.2.2.1 e.2.2.2.2.2 (Cond.methodLinkNest (mR e.1) e.2.1 (mY e.2.2.1) "SquareGrounds"))
theorem mChM_0 : mMl_0.all mChM = true := by decide +kernel
theorem mChM_1 : mMl_1.all mChM = true := by decide +kernel
theorem mChM_2 : mMl_2.all mChM = true := by decide +kernel
theorem mChM_3 : mMl_3.all mChM = true := by decide +kernel
theorem mChM_4 : mMl_4.all mChM = true := by decide +kernel
theorem mChM_5 : mMl_5.all mChM = true := by decide +kernel
theorem mChM_6 : mMl_6.all mChM = true := by decide +kernel
theorem mChM_7 : mMl_7.all mChM = true := by decide +kernel
theorem mChM_8 : mMl_8.all mChM = true := by decide +kernel
theorem mChM_9 : mMl_9.all mChM = true := by decide +kernel
theorem mChM_10 : mMl_10.all mChM = true := by decide +kernel
theorem mChM_11 : mMl_11.all mChM = true := by decide +kernel
theorem mChM_12 : mMl_12.all mChM = true := by decide +kernel
theorem mChM_ok : mMl.all mChM = true := by
  unfold mMl
  simp only [List.all_append, Bool.and_eq_true]
  exact ⟨⟨⟨⟨⟨⟨⟨⟨⟨⟨⟨⟨mChM_0, mChM_1⟩, mChM_2⟩, mChM_3⟩, mChM_4⟩, mChM_5⟩, mChM_6⟩, mChM_7⟩, mChM_8⟩, mChM_9⟩, mChM_10⟩, mChM_11⟩, mChM_12⟩
theorem mChK_ok : mKl.all (fun e => decide (Cond.constantLong (mR e.1) e.2.1 e.2.2 ∈ mG)) = true := by decide +kernel
theorem mChC_ok : mCl.all (fun e => match vwCl[e.2.2]? with
  | some (C, _, N) => decide (Cond.classLink (mR e.1) e.2.1 C ∈ mG) && decide (Cond.instantiable C N ∈ mG) && decide (Cond.initialized C ∈ mG)
  | none => false) = true := by decide +kernel
theorem mChG_ok : mGl.all (fun e => decide (Cond.fieldLinkNest (mR e.1) e.2 "SquareGrounds" "PART_OF_WHOLE" "[I" "SquareGrounds" ∈ mNest)) = true := by decide +kernel
theorem mChU_0 : (u_ws RX0 TX0 7).all (fun w => decide (w ∈ mG)) = true := by decide +kernel
theorem mChU_1 : (u_ws RX1 TX1 7).all (fun w => decide (w ∈ mG)) = true := by decide +kernel
theorem mChU_2 : (u_ws RX2 TX2 2).all (fun w => decide (w ∈ mG)) = true := by decide +kernel
theorem mChU_3 : (u_ws RX3 TX3 6).all (fun w => decide (w ∈ mG)) = true := by decide +kernel
theorem mChU_4 : (u_ws RX4 TX4 5).all (fun w => decide (w ∈ mG)) = true := by decide +kernel
theorem mChU_5 : (u_ws RX5 TX5 8).all (fun w => decide (w ∈ mG)) = true := by decide +kernel
theorem mChU_6 : (u_ws RX6 TX6 2).all (fun w => decide (w ∈ mG)) = true := by decide +kernel
theorem mChU_7 : (u_ws RX7 TX7 10).all (fun w => decide (w ∈ mG)) = true := by decide +kernel
theorem mChU_8 : (u_ws RX8 TX8 30).all (fun w => decide (w ∈ mG)) = true := by decide +kernel
def mYp_0 : List (Nat × Nat × Nat × Nat × Nat × Nat) := [(1, 3, 1, 63, 9, 9), (1, 3, 2, 122, 2, 123), (1, 3, 2, 127, 0, 4), (1, 3, 2, 135, 0, 5), (1, 3, 2, 150, 2, 151), (1, 3, 2, 163, 2, 164), (1, 3, 2, 146, 2, 147), (1, 5, 1, 121, 9, 9), (1, 5, 3, 3, 3, 4), (1, 5, 3, 9, 0, 8), (1, 5, 3, 13, 0, 9), (1, 5, 3, 17, 0, 10), (1, 5, 3, 23, 0, 11), (1, 5, 3, 28, 0, 12), (1, 5, 3, 39, 3, 40), (1, 7, 1, 197, 9, 9)]
def mYp_1 : List (Nat × Nat × Nat × Nat × Nat × Nat) := [(1, 7, 3, 45, 3, 46), (1, 2, 1, 26, 9, 9), (1, 2, 2, 89, 2, 90), (1, 2, 2, 93, 2, 94), (1, 2, 2, 171, 2, 172), (1, 2, 2, 77, 2, 78), (1, 2, 3, 63, 3, 64), (1, 2, 2, 101, 2, 102), (1, 2, 2, 82, 0, 1), (1, 2, 2, 198, 2, 199), (1, 2, 2, 203, 0, 6), (1, 2, 2, 210, 2, 211), (1, 2, 2, 236, 0, 7), (1, 2, 2, 227, 2, 228), (1, 2, 2, 159, 2, 160), (1, 2, 2, 130, 2, 131)]
def mYp_2 : List (Nat × Nat × Nat × Nat × Nat × Nat) := [(1, 2, 3, 163, 3, 164), (1, 4, 1, 96, 9, 9), (1, 4, 2, 109, 2, 110), (1, 4, 2, 115, 0, 2), (1, 4, 2, 119, 0, 3), (1, 6, 1, 155, 9, 9), (1, 6, 3, 58, 3, 59), (1, 6, 3, 70, 0, 14), (1, 6, 3, 73, 3, 74), (1, 6, 3, 95, 3, 96), (1, 6, 3, 107, 3, 108), (1, 6, 3, 100, 0, 17), (1, 8, 1, 211, 9, 9), (1, 8, 2, 37, 2, 38), (1, 8, 2, 45, 2, 46), (1, 8, 2, 29, 2, 30)]
def mYp_3 : List (Nat × Nat × Nat × Nat × Nat × Nat) := [(1, 8, 2, 53, 2, 54), (1, 8, 2, 70, 2, 71), (1, 8, 3, 168, 3, 169), (1, 1, 1, 15, 9, 9), (1, 1, 2, 18, 2, 19), (1, 1, 2, 33, 2, 34), (1, 1, 2, 41, 2, 42), (1, 1, 2, 49, 2, 50), (1, 1, 2, 60, 2, 61), (1, 1, 2, 85, 2, 86), (1, 1, 2, 97, 2, 98), (1, 1, 2, 105, 2, 106), (1, 1, 2, 154, 2, 155), (1, 1, 2, 167, 2, 168), (1, 1, 2, 175, 2, 176), (1, 1, 2, 179, 2, 180)]
def mYp_4 : List (Nat × Nat × Nat × Nat × Nat × Nat) := [(1, 1, 2, 186, 2, 187), (1, 1, 2, 190, 2, 191), (1, 1, 2, 194, 2, 195), (1, 1, 2, 206, 2, 207), (1, 1, 2, 214, 2, 215), (1, 1, 2, 239, 3, 0), (1, 1, 3, 31, 3, 32), (1, 1, 3, 35, 3, 36), (1, 1, 3, 50, 3, 51), (1, 1, 3, 78, 3, 79), (1, 1, 3, 91, 3, 92), (1, 1, 3, 103, 3, 104), (1, 1, 3, 111, 3, 112), (1, 1, 3, 119, 3, 120), (1, 1, 3, 125, 3, 126), (1, 1, 3, 130, 3, 131)]
def mYp_5 : List (Nat × Nat × Nat × Nat × Nat × Nat) := [(1, 1, 3, 134, 3, 135), (1, 1, 3, 138, 3, 139), (1, 1, 3, 150, 3, 151), (1, 1, 3, 154, 3, 155), (1, 1, 3, 158, 3, 159), (1, 1, 2, 22, 9, 9), (1, 1, 2, 64, 9, 9), (1, 1, 2, 218, 9, 9), (1, 1, 2, 224, 9, 9), (1, 1, 2, 183, 9, 9), (1, 1, 2, 67, 9, 9), (1, 1, 2, 74, 9, 9), (1, 1, 2, 26, 0, 0), (1, 1, 3, 55, 0, 13), (1, 1, 3, 84, 0, 15), (1, 1, 3, 88, 0, 16)]
def mYp_6 : List (Nat × Nat × Nat × Nat × Nat × Nat) := [(1, 1, 3, 116, 0, 18), (1, 1, 3, 143, 0, 19), (1, 1, 3, 147, 0, 20), (1, 9, 3, 175, 9, 9), (1, 9, 4, 37, 9, 9), (1, 9, 4, 41, 0, 21), (1, 9, 4, 34, 9, 9), (1, 9, 4, 49, 0, 22), (1, 9, 4, 30, 4, 31), (1, 9, 4, 44, 4, 45), (1, 9, 4, 52, 4, 53), (1, 9, 4, 56, 4, 57), (1, 9, 4, 92, 0, 28), (1, 9, 4, 64, 9, 9), (1, 9, 4, 84, 0, 26), (1, 9, 4, 88, 0, 27)]
def mYp_7 : List (Nat × Nat × Nat × Nat × Nat × Nat) := [(1, 9, 4, 76, 0, 25), (1, 9, 4, 68, 0, 23), (1, 9, 4, 72, 0, 24), (1, 9, 4, 60, 4, 61), (1, 9, 4, 79, 4, 80), (1, 9, 4, 95, 4, 96), (1, 9, 4, 128, 0, 35), (1, 9, 4, 132, 0, 36), (1, 9, 4, 124, 0, 34), (1, 9, 4, 120, 0, 33), (1, 9, 4, 116, 0, 32), (1, 9, 4, 108, 0, 30), (1, 9, 4, 112, 0, 31), (1, 9, 4, 104, 0, 29), (1, 9, 4, 99, 4, 100), (1, 9, 4, 140, 0, 37)]
def mYp_8 : List (Nat × Nat × Nat × Nat × Nat × Nat) := [(1, 9, 4, 135, 4, 136), (1, 9, 4, 143, 4, 144), (1, 9, 4, 147, 4, 148), (1, 9, 4, 151, 4, 152), (1, 9, 4, 160, 0, 38), (1, 9, 4, 164, 0, 39), (1, 9, 4, 155, 4, 156), (1, 9, 4, 167, 4, 168), (1, 9, 4, 180, 0, 41), (1, 9, 4, 176, 0, 40), (1, 9, 4, 188, 0, 42), (1, 9, 4, 171, 4, 172), (1, 9, 4, 183, 4, 184), (1, 9, 4, 195, 9, 9), (1, 9, 4, 199, 0, 43), (1, 9, 4, 191, 4, 192)]
def mYp_9 : List (Nat × Nat × Nat × Nat × Nat × Nat) := [(1, 9, 4, 207, 0, 44), (1, 9, 4, 211, 0, 45), (1, 9, 4, 215, 0, 46), (1, 9, 4, 223, 0, 47), (1, 9, 4, 202, 4, 203), (1, 9, 4, 218, 4, 219), (1, 9, 4, 231, 0, 48), (1, 9, 4, 236, 0, 49), (1, 9, 4, 226, 4, 227), (1, 9, 5, 16, 0, 53), (1, 9, 5, 12, 0, 52), (1, 9, 5, 8, 0, 51), (1, 9, 5, 4, 0, 50), (1, 9, 4, 239, 5, 0), (1, 9, 5, 19, 5, 20), (1, 9, 5, 28, 0, 54)]
def mYp_10 : List (Nat × Nat × Nat × Nat × Nat × Nat) := [(1, 9, 5, 23, 5, 24), (1, 9, 5, 31, 5, 32), (1, 9, 5, 40, 0, 55), (1, 9, 5, 35, 5, 36), (1, 9, 5, 43, 5, 44), (1, 9, 5, 49, 5, 50), (1, 9, 5, 53, 5, 54), (1, 9, 5, 57, 5, 58), (1, 9, 5, 61, 5, 62), (1, 9, 5, 65, 5, 66), (1, 9, 5, 69, 5, 70), (1, 9, 5, 73, 5, 74), (1, 11, 2, 231, 9, 9), (1, 11, 2, 221, 9, 9), (1, 11, 2, 141, 9, 9), (1, 11, 2, 138, 9, 9)]
def mYp_11 : List (Nat × Nat × Nat × Nat × Nat × Nat) := [(9, 9, 9, 9, 9, 9)]
def mChY (j : Nat) (q : Nat × Nat × Nat × Nat × Nat × Nat) : Bool := plainFor (mY j) && decide ((mY j).cls ≠ "java/lang/invoke/MethodHandle") && decide ((mY j).cls ≠ "java/lang/invoke/VarHandle") && decide ((parseMethodDescriptor (mY j).desc).map (fun d => d.parameters.length) = some (mNp j)) && decide ((mY j).cls = mR (mO j)) && mIs q.1 q.2.1 (Cond.initialized (mY j).cls) && (match mKd j with
  | 0 => mIs q.2.2.1 q.2.2.2.1 (Cond.static (mY j))
  | 1 => mIs q.2.2.1 q.2.2.2.1 (Cond.instanceMethod (mY j)) && mIs q.2.2.2.2.1 q.2.2.2.2.2 (Cond.selects (mY j).cls (mY j) (mY j))
  | 2 => mIs q.2.2.1 q.2.2.2.1 (Cond.instanceMethod (mY j)) && decide ((mY j).name = "<init>") && decide (mRt j = none)
  | _ => false)
theorem mChY_0 : (mYp_0.zipIdx 0).all (fun e => e.2 == mLaw || mChY e.2 e.1) = true := by decide +kernel
theorem mChY_1 : (mYp_1.zipIdx 16).all (fun e => e.2 == mLaw || mChY e.2 e.1) = true := by decide +kernel
theorem mChY_2 : (mYp_2.zipIdx 32).all (fun e => e.2 == mLaw || mChY e.2 e.1) = true := by decide +kernel
theorem mChY_3 : (mYp_3.zipIdx 48).all (fun e => e.2 == mLaw || mChY e.2 e.1) = true := by decide +kernel
theorem mChY_4 : (mYp_4.zipIdx 64).all (fun e => e.2 == mLaw || mChY e.2 e.1) = true := by decide +kernel
theorem mChY_5 : (mYp_5.zipIdx 80).all (fun e => e.2 == mLaw || mChY e.2 e.1) = true := by decide +kernel
theorem mChY_6 : (mYp_6.zipIdx 96).all (fun e => e.2 == mLaw || mChY e.2 e.1) = true := by decide +kernel
theorem mChY_7 : (mYp_7.zipIdx 112).all (fun e => e.2 == mLaw || mChY e.2 e.1) = true := by decide +kernel
theorem mChY_8 : (mYp_8.zipIdx 128).all (fun e => e.2 == mLaw || mChY e.2 e.1) = true := by decide +kernel
theorem mChY_9 : (mYp_9.zipIdx 144).all (fun e => e.2 == mLaw || mChY e.2 e.1) = true := by decide +kernel
theorem mChY_10 : (mYp_10.zipIdx 160).all (fun e => e.2 == mLaw || mChY e.2 e.1) = true := by decide +kernel
theorem mChY_11 : (mYp_11.zipIdx 176).all (fun e => e.2 == mLaw || mChY e.2 e.1) = true := by decide +kernel
end
section
set_option maxRecDepth 100000 in
theorem mCd_0 : Cond.code (mY 0) (mB 0) (mL 0) (mRt 0) ∈ tables_1 := List.mem_append_left _ (List.mem_of_getElem? (i := 64) rfl)
set_option maxRecDepth 100000 in
theorem mCd_1 : Cond.code (mY 1) (mB 1) (mL 1) (mRt 1) ∈ tables_1 := List.mem_append_right _ (List.mem_append_left _ (List.mem_of_getElem? (i := 124) rfl))
set_option maxRecDepth 100000 in
theorem mCd_2 : Cond.code (mY 2) (mB 2) (mL 2) (mRt 2) ∈ tables_1 := List.mem_append_right _ (List.mem_append_left _ (List.mem_of_getElem? (i := 128) rfl))
set_option maxRecDepth 100000 in
theorem mCd_3 : Cond.code (mY 3) (mB 3) (mL 3) (mRt 3) ∈ tables_1 := List.mem_append_right _ (List.mem_append_left _ (List.mem_of_getElem? (i := 136) rfl))
set_option maxRecDepth 100000 in
theorem mCd_4 : Cond.code (mY 4) (mB 4) (mL 4) (mRt 4) ∈ tables_1 := List.mem_append_right _ (List.mem_append_left _ (List.mem_of_getElem? (i := 152) rfl))
set_option maxRecDepth 100000 in
theorem mCd_5 : Cond.code (mY 5) (mB 5) (mL 5) (mRt 5) ∈ tables_1 := List.mem_append_right _ (List.mem_append_left _ (List.mem_of_getElem? (i := 165) rfl))
set_option maxRecDepth 100000 in
theorem mCd_6 : Cond.code (mY 6) (mB 6) (mL 6) (mRt 6) ∈ tables_1 := List.mem_append_right _ (List.mem_append_left _ (List.mem_of_getElem? (i := 148) rfl))
set_option maxRecDepth 100000 in
theorem mCd_7 : Cond.code (mY 7) (mB 7) (mL 7) (mRt 7) ∈ tables_1 := List.mem_append_left _ (List.mem_of_getElem? (i := 122) rfl)
set_option maxRecDepth 100000 in
theorem mCd_8 : Cond.code (mY 8) (mB 8) (mL 8) (mRt 8) ∈ tables_1 := List.mem_append_right _ (List.mem_append_right _ (List.mem_append_left _ (List.mem_of_getElem? (i := 5) rfl)))
set_option maxRecDepth 100000 in
theorem mCd_9 : Cond.code (mY 9) (mB 9) (mL 9) (mRt 9) ∈ tables_1 := List.mem_append_right _ (List.mem_append_right _ (List.mem_append_left _ (List.mem_of_getElem? (i := 10) rfl)))
set_option maxRecDepth 100000 in
theorem mCd_10 : Cond.code (mY 10) (mB 10) (mL 10) (mRt 10) ∈ tables_1 := List.mem_append_right _ (List.mem_append_right _ (List.mem_append_left _ (List.mem_of_getElem? (i := 14) rfl)))
set_option maxRecDepth 100000 in
theorem mCd_11 : Cond.code (mY 11) (mB 11) (mL 11) (mRt 11) ∈ tables_1 := List.mem_append_right _ (List.mem_append_right _ (List.mem_append_left _ (List.mem_of_getElem? (i := 18) rfl)))
set_option maxRecDepth 100000 in
theorem mCd_12 : Cond.code (mY 12) (mB 12) (mL 12) (mRt 12) ∈ tables_1 := List.mem_append_right _ (List.mem_append_right _ (List.mem_append_left _ (List.mem_of_getElem? (i := 24) rfl)))
set_option maxRecDepth 100000 in
theorem mCd_13 : Cond.code (mY 13) (mB 13) (mL 13) (mRt 13) ∈ tables_1 := List.mem_append_right _ (List.mem_append_right _ (List.mem_append_left _ (List.mem_of_getElem? (i := 29) rfl)))
set_option maxRecDepth 100000 in
theorem mCd_14 : Cond.code (mY 14) (mB 14) (mL 14) (mRt 14) ∈ tables_1 := List.mem_append_right _ (List.mem_append_right _ (List.mem_append_left _ (List.mem_of_getElem? (i := 41) rfl)))
set_option maxRecDepth 100000 in
theorem mCd_15 : Cond.code (mY 15) (mB 15) (mL 15) (mRt 15) ∈ tables_1 := List.mem_append_left _ (List.mem_of_getElem? (i := 198) rfl)
set_option maxRecDepth 100000 in
theorem mCd_16 : Cond.code (mY 16) (mB 16) (mL 16) (mRt 16) ∈ tables_1 := List.mem_append_right _ (List.mem_append_right _ (List.mem_append_left _ (List.mem_of_getElem? (i := 47) rfl)))
set_option maxRecDepth 100000 in
theorem mCd_17 : Cond.code (mY 17) (mB 17) (mL 17) (mRt 17) ∈ tables_1 := List.mem_append_left _ (List.mem_of_getElem? (i := 27) rfl)
set_option maxRecDepth 100000 in
theorem mCd_18 : Cond.code (mY 18) (mB 18) (mL 18) (mRt 18) ∈ tables_1 := List.mem_append_right _ (List.mem_append_left _ (List.mem_of_getElem? (i := 91) rfl))
set_option maxRecDepth 100000 in
theorem mCd_19 : Cond.code (mY 19) (mB 19) (mL 19) (mRt 19) ∈ tables_1 := List.mem_append_right _ (List.mem_append_left _ (List.mem_of_getElem? (i := 95) rfl))
set_option maxRecDepth 100000 in
theorem mCd_20 : Cond.code (mY 20) (mB 20) (mL 20) (mRt 20) ∈ tables_1 := List.mem_append_right _ (List.mem_append_left _ (List.mem_of_getElem? (i := 173) rfl))
set_option maxRecDepth 100000 in
theorem mCd_21 : Cond.code (mY 21) (mB 21) (mL 21) (mRt 21) ∈ tables_1 := List.mem_append_right _ (List.mem_append_left _ (List.mem_of_getElem? (i := 79) rfl))
set_option maxRecDepth 100000 in
theorem mCd_22 : Cond.code (mY 22) (mB 22) (mL 22) (mRt 22) ∈ tables_1 := List.mem_append_right _ (List.mem_append_right _ (List.mem_append_left _ (List.mem_of_getElem? (i := 65) rfl)))
set_option maxRecDepth 100000 in
theorem mCd_23 : Cond.code (mY 23) (mB 23) (mL 23) (mRt 23) ∈ tables_1 := List.mem_append_right _ (List.mem_append_left _ (List.mem_of_getElem? (i := 103) rfl))
set_option maxRecDepth 100000 in
theorem mCd_24 : Cond.code (mY 24) (mB 24) (mL 24) (mRt 24) ∈ tables_1 := List.mem_append_right _ (List.mem_append_left _ (List.mem_of_getElem? (i := 83) rfl))
set_option maxRecDepth 100000 in
theorem mCd_25 : Cond.code (mY 25) (mB 25) (mL 25) (mRt 25) ∈ tables_1 := List.mem_append_right _ (List.mem_append_left _ (List.mem_of_getElem? (i := 200) rfl))
set_option maxRecDepth 100000 in
theorem mCd_26 : Cond.code (mY 26) (mB 26) (mL 26) (mRt 26) ∈ tables_1 := List.mem_append_right _ (List.mem_append_left _ (List.mem_of_getElem? (i := 204) rfl))
set_option maxRecDepth 100000 in
theorem mCd_27 : Cond.code (mY 27) (mB 27) (mL 27) (mRt 27) ∈ tables_1 := List.mem_append_right _ (List.mem_append_left _ (List.mem_of_getElem? (i := 212) rfl))
set_option maxRecDepth 100000 in
theorem mCd_28 : Cond.code (mY 28) (mB 28) (mL 28) (mRt 28) ∈ tables_1 := List.mem_append_right _ (List.mem_append_left _ (List.mem_of_getElem? (i := 237) rfl))
set_option maxRecDepth 100000 in
theorem mCd_29 : Cond.code (mY 29) (mB 29) (mL 29) (mRt 29) ∈ tables_1 := List.mem_append_right _ (List.mem_append_left _ (List.mem_of_getElem? (i := 229) rfl))
set_option maxRecDepth 100000 in
theorem mCd_30 : Cond.code (mY 30) (mB 30) (mL 30) (mRt 30) ∈ tables_1 := List.mem_append_right _ (List.mem_append_left _ (List.mem_of_getElem? (i := 161) rfl))
set_option maxRecDepth 100000 in
theorem mCd_31 : Cond.code (mY 31) (mB 31) (mL 31) (mRt 31) ∈ tables_1 := List.mem_append_right _ (List.mem_append_left _ (List.mem_of_getElem? (i := 132) rfl))
set_option maxRecDepth 100000 in
theorem mCd_32 : Cond.code (mY 32) (mB 32) (mL 32) (mRt 32) ∈ tables_1 := List.mem_append_right _ (List.mem_append_right _ (List.mem_append_left _ (List.mem_of_getElem? (i := 165) rfl)))
set_option maxRecDepth 100000 in
theorem mCd_33 : Cond.code (mY 33) (mB 33) (mL 33) (mRt 33) ∈ tables_1 := List.mem_append_left _ (List.mem_of_getElem? (i := 97) rfl)
set_option maxRecDepth 100000 in
theorem mCd_34 : Cond.code (mY 34) (mB 34) (mL 34) (mRt 34) ∈ tables_1 := List.mem_append_right _ (List.mem_append_left _ (List.mem_of_getElem? (i := 111) rfl))
set_option maxRecDepth 100000 in
theorem mCd_35 : Cond.code (mY 35) (mB 35) (mL 35) (mRt 35) ∈ tables_1 := List.mem_append_right _ (List.mem_append_left _ (List.mem_of_getElem? (i := 116) rfl))
set_option maxRecDepth 100000 in
theorem mCd_36 : Cond.code (mY 36) (mB 36) (mL 36) (mRt 36) ∈ tables_1 := List.mem_append_right _ (List.mem_append_left _ (List.mem_of_getElem? (i := 120) rfl))
set_option maxRecDepth 100000 in
theorem mCd_37 : Cond.code (mY 37) (mB 37) (mL 37) (mRt 37) ∈ tables_1 := List.mem_append_left _ (List.mem_of_getElem? (i := 156) rfl)
set_option maxRecDepth 100000 in
theorem mCd_38 : Cond.code (mY 38) (mB 38) (mL 38) (mRt 38) ∈ tables_1 := List.mem_append_right _ (List.mem_append_right _ (List.mem_append_left _ (List.mem_of_getElem? (i := 60) rfl)))
set_option maxRecDepth 100000 in
theorem mCd_39 : Cond.code (mY 39) (mB 39) (mL 39) (mRt 39) ∈ tables_1 := List.mem_append_right _ (List.mem_append_right _ (List.mem_append_left _ (List.mem_of_getElem? (i := 71) rfl)))
set_option maxRecDepth 100000 in
theorem mCd_40 : Cond.code (mY 40) (mB 40) (mL 40) (mRt 40) ∈ tables_1 := List.mem_append_right _ (List.mem_append_right _ (List.mem_append_left _ (List.mem_of_getElem? (i := 75) rfl)))
set_option maxRecDepth 100000 in
theorem mCd_41 : Cond.code (mY 41) (mB 41) (mL 41) (mRt 41) ∈ tables_1 := List.mem_append_right _ (List.mem_append_right _ (List.mem_append_left _ (List.mem_of_getElem? (i := 97) rfl)))
set_option maxRecDepth 100000 in
theorem mCd_42 : Cond.code (mY 42) (mB 42) (mL 42) (mRt 42) ∈ tables_1 := List.mem_append_right _ (List.mem_append_right _ (List.mem_append_left _ (List.mem_of_getElem? (i := 109) rfl)))
set_option maxRecDepth 100000 in
theorem mCd_43 : Cond.code (mY 43) (mB 43) (mL 43) (mRt 43) ∈ tables_1 := List.mem_append_right _ (List.mem_append_right _ (List.mem_append_left _ (List.mem_of_getElem? (i := 101) rfl)))
set_option maxRecDepth 100000 in
theorem mCd_44 : Cond.code (mY 44) (mB 44) (mL 44) (mRt 44) ∈ tables_1 := List.mem_append_left _ (List.mem_of_getElem? (i := 212) rfl)
set_option maxRecDepth 100000 in
theorem mCd_45 : Cond.code (mY 45) (mB 45) (mL 45) (mRt 45) ∈ tables_1 := List.mem_append_right _ (List.mem_append_left _ (List.mem_of_getElem? (i := 39) rfl))
set_option maxRecDepth 100000 in
theorem mCd_46 : Cond.code (mY 46) (mB 46) (mL 46) (mRt 46) ∈ tables_1 := List.mem_append_right _ (List.mem_append_left _ (List.mem_of_getElem? (i := 47) rfl))
set_option maxRecDepth 100000 in
theorem mCd_47 : Cond.code (mY 47) (mB 47) (mL 47) (mRt 47) ∈ tables_1 := List.mem_append_right _ (List.mem_append_left _ (List.mem_of_getElem? (i := 31) rfl))
set_option maxRecDepth 100000 in
theorem mCd_48 : Cond.code (mY 48) (mB 48) (mL 48) (mRt 48) ∈ tables_1 := List.mem_append_right _ (List.mem_append_left _ (List.mem_of_getElem? (i := 55) rfl))
set_option maxRecDepth 100000 in
theorem mCd_49 : Cond.code (mY 49) (mB 49) (mL 49) (mRt 49) ∈ tables_1 := List.mem_append_right _ (List.mem_append_left _ (List.mem_of_getElem? (i := 72) rfl))
set_option maxRecDepth 100000 in
theorem mCd_50 : Cond.code (mY 50) (mB 50) (mL 50) (mRt 50) ∈ tables_1 := List.mem_append_right _ (List.mem_append_right _ (List.mem_append_left _ (List.mem_of_getElem? (i := 170) rfl)))
set_option maxRecDepth 100000 in
theorem mCd_51 : Cond.code (mY 51) (mB 51) (mL 51) (mRt 51) ∈ tables_1 := List.mem_append_left _ (List.mem_of_getElem? (i := 16) rfl)
set_option maxRecDepth 100000 in
theorem mCd_52 : Cond.code (mY 52) (mB 52) (mL 52) (mRt 52) ∈ tables_1 := List.mem_append_right _ (List.mem_append_left _ (List.mem_of_getElem? (i := 20) rfl))
set_option maxRecDepth 100000 in
theorem mCd_53 : Cond.code (mY 53) (mB 53) (mL 53) (mRt 53) ∈ tables_1 := List.mem_append_right _ (List.mem_append_left _ (List.mem_of_getElem? (i := 35) rfl))
set_option maxRecDepth 100000 in
theorem mCd_54 : Cond.code (mY 54) (mB 54) (mL 54) (mRt 54) ∈ tables_1 := List.mem_append_right _ (List.mem_append_left _ (List.mem_of_getElem? (i := 43) rfl))
set_option maxRecDepth 100000 in
theorem mCd_55 : Cond.code (mY 55) (mB 55) (mL 55) (mRt 55) ∈ tables_1 := List.mem_append_right _ (List.mem_append_left _ (List.mem_of_getElem? (i := 51) rfl))
set_option maxRecDepth 100000 in
theorem mCd_56 : Cond.code (mY 56) (mB 56) (mL 56) (mRt 56) ∈ tables_1 := List.mem_append_right _ (List.mem_append_left _ (List.mem_of_getElem? (i := 62) rfl))
set_option maxRecDepth 100000 in
theorem mCd_57 : Cond.code (mY 57) (mB 57) (mL 57) (mRt 57) ∈ tables_1 := List.mem_append_right _ (List.mem_append_left _ (List.mem_of_getElem? (i := 87) rfl))
set_option maxRecDepth 100000 in
theorem mCd_58 : Cond.code (mY 58) (mB 58) (mL 58) (mRt 58) ∈ tables_1 := List.mem_append_right _ (List.mem_append_left _ (List.mem_of_getElem? (i := 99) rfl))
set_option maxRecDepth 100000 in
theorem mCd_59 : Cond.code (mY 59) (mB 59) (mL 59) (mRt 59) ∈ tables_1 := List.mem_append_right _ (List.mem_append_left _ (List.mem_of_getElem? (i := 107) rfl))
set_option maxRecDepth 100000 in
theorem mCd_60 : Cond.code (mY 60) (mB 60) (mL 60) (mRt 60) ∈ tables_1 := List.mem_append_right _ (List.mem_append_left _ (List.mem_of_getElem? (i := 156) rfl))
set_option maxRecDepth 100000 in
theorem mCd_61 : Cond.code (mY 61) (mB 61) (mL 61) (mRt 61) ∈ tables_1 := List.mem_append_right _ (List.mem_append_left _ (List.mem_of_getElem? (i := 169) rfl))
set_option maxRecDepth 100000 in
theorem mCd_62 : Cond.code (mY 62) (mB 62) (mL 62) (mRt 62) ∈ tables_1 := List.mem_append_right _ (List.mem_append_left _ (List.mem_of_getElem? (i := 177) rfl))
set_option maxRecDepth 100000 in
theorem mCd_63 : Cond.code (mY 63) (mB 63) (mL 63) (mRt 63) ∈ tables_1 := List.mem_append_right _ (List.mem_append_left _ (List.mem_of_getElem? (i := 181) rfl))
set_option maxRecDepth 100000 in
theorem mCd_64 : Cond.code (mY 64) (mB 64) (mL 64) (mRt 64) ∈ tables_1 := List.mem_append_right _ (List.mem_append_left _ (List.mem_of_getElem? (i := 188) rfl))
set_option maxRecDepth 100000 in
theorem mCd_65 : Cond.code (mY 65) (mB 65) (mL 65) (mRt 65) ∈ tables_1 := List.mem_append_right _ (List.mem_append_left _ (List.mem_of_getElem? (i := 192) rfl))
set_option maxRecDepth 100000 in
theorem mCd_66 : Cond.code (mY 66) (mB 66) (mL 66) (mRt 66) ∈ tables_1 := List.mem_append_right _ (List.mem_append_left _ (List.mem_of_getElem? (i := 196) rfl))
set_option maxRecDepth 100000 in
theorem mCd_67 : Cond.code (mY 67) (mB 67) (mL 67) (mRt 67) ∈ tables_1 := List.mem_append_right _ (List.mem_append_left _ (List.mem_of_getElem? (i := 208) rfl))
set_option maxRecDepth 100000 in
theorem mCd_68 : Cond.code (mY 68) (mB 68) (mL 68) (mRt 68) ∈ tables_1 := List.mem_append_right _ (List.mem_append_left _ (List.mem_of_getElem? (i := 216) rfl))
set_option maxRecDepth 100000 in
theorem mCd_69 : Cond.code (mY 69) (mB 69) (mL 69) (mRt 69) ∈ tables_1 := List.mem_append_right _ (List.mem_append_right _ (List.mem_append_left _ (List.mem_of_getElem? (i := 1) rfl)))
set_option maxRecDepth 100000 in
theorem mCd_70 : Cond.code (mY 70) (mB 70) (mL 70) (mRt 70) ∈ tables_1 := List.mem_append_right _ (List.mem_append_right _ (List.mem_append_left _ (List.mem_of_getElem? (i := 33) rfl)))
set_option maxRecDepth 100000 in
theorem mCd_71 : Cond.code (mY 71) (mB 71) (mL 71) (mRt 71) ∈ tables_1 := List.mem_append_right _ (List.mem_append_right _ (List.mem_append_left _ (List.mem_of_getElem? (i := 37) rfl)))
set_option maxRecDepth 100000 in
theorem mCd_72 : Cond.code (mY 72) (mB 72) (mL 72) (mRt 72) ∈ tables_1 := List.mem_append_right _ (List.mem_append_right _ (List.mem_append_left _ (List.mem_of_getElem? (i := 52) rfl)))
set_option maxRecDepth 100000 in
theorem mCd_73 : Cond.code (mY 73) (mB 73) (mL 73) (mRt 73) ∈ tables_1 := List.mem_append_right _ (List.mem_append_right _ (List.mem_append_left _ (List.mem_of_getElem? (i := 80) rfl)))
set_option maxRecDepth 100000 in
theorem mCd_74 : Cond.code (mY 74) (mB 74) (mL 74) (mRt 74) ∈ tables_1 := List.mem_append_right _ (List.mem_append_right _ (List.mem_append_left _ (List.mem_of_getElem? (i := 93) rfl)))
set_option maxRecDepth 100000 in
theorem mCd_75 : Cond.code (mY 75) (mB 75) (mL 75) (mRt 75) ∈ tables_1 := List.mem_append_right _ (List.mem_append_right _ (List.mem_append_left _ (List.mem_of_getElem? (i := 105) rfl)))
set_option maxRecDepth 100000 in
theorem mCd_76 : Cond.code (mY 76) (mB 76) (mL 76) (mRt 76) ∈ tables_1 := List.mem_append_right _ (List.mem_append_right _ (List.mem_append_left _ (List.mem_of_getElem? (i := 113) rfl)))
set_option maxRecDepth 100000 in
theorem mCd_77 : Cond.code (mY 77) (mB 77) (mL 77) (mRt 77) ∈ tables_1 := List.mem_append_right _ (List.mem_append_right _ (List.mem_append_left _ (List.mem_of_getElem? (i := 121) rfl)))
set_option maxRecDepth 100000 in
theorem mCd_78 : Cond.code (mY 78) (mB 78) (mL 78) (mRt 78) ∈ tables_1 := List.mem_append_right _ (List.mem_append_right _ (List.mem_append_left _ (List.mem_of_getElem? (i := 127) rfl)))
set_option maxRecDepth 100000 in
theorem mCd_79 : Cond.code (mY 79) (mB 79) (mL 79) (mRt 79) ∈ tables_1 := List.mem_append_right _ (List.mem_append_right _ (List.mem_append_left _ (List.mem_of_getElem? (i := 132) rfl)))
set_option maxRecDepth 100000 in
theorem mCd_80 : Cond.code (mY 80) (mB 80) (mL 80) (mRt 80) ∈ tables_1 := List.mem_append_right _ (List.mem_append_right _ (List.mem_append_left _ (List.mem_of_getElem? (i := 136) rfl)))
set_option maxRecDepth 100000 in
theorem mCd_81 : Cond.code (mY 81) (mB 81) (mL 81) (mRt 81) ∈ tables_1 := List.mem_append_right _ (List.mem_append_right _ (List.mem_append_left _ (List.mem_of_getElem? (i := 140) rfl)))
set_option maxRecDepth 100000 in
theorem mCd_82 : Cond.code (mY 82) (mB 82) (mL 82) (mRt 82) ∈ tables_1 := List.mem_append_right _ (List.mem_append_right _ (List.mem_append_left _ (List.mem_of_getElem? (i := 152) rfl)))
set_option maxRecDepth 100000 in
theorem mCd_83 : Cond.code (mY 83) (mB 83) (mL 83) (mRt 83) ∈ tables_1 := List.mem_append_right _ (List.mem_append_right _ (List.mem_append_left _ (List.mem_of_getElem? (i := 156) rfl)))
set_option maxRecDepth 100000 in
theorem mCd_84 : Cond.code (mY 84) (mB 84) (mL 84) (mRt 84) ∈ tables_1 := List.mem_append_right _ (List.mem_append_right _ (List.mem_append_left _ (List.mem_of_getElem? (i := 160) rfl)))
set_option maxRecDepth 100000 in
theorem mCd_85 : Cond.code (mY 85) (mB 85) (mL 85) (mRt 85) ∈ tables_1 := List.mem_append_right _ (List.mem_append_left _ (List.mem_of_getElem? (i := 23) rfl))
set_option maxRecDepth 100000 in
theorem mCd_86 : Cond.code (mY 86) (mB 86) (mL 86) (mRt 86) ∈ tables_1 := List.mem_append_right _ (List.mem_append_left _ (List.mem_of_getElem? (i := 65) rfl))
set_option maxRecDepth 100000 in
theorem mCd_87 : Cond.code (mY 87) (mB 87) (mL 87) (mRt 87) ∈ tables_1 := List.mem_append_right _ (List.mem_append_left _ (List.mem_of_getElem? (i := 219) rfl))
set_option maxRecDepth 100000 in
theorem mCd_88 : Cond.code (mY 88) (mB 88) (mL 88) (mRt 88) ∈ tables_1 := List.mem_append_right _ (List.mem_append_left _ (List.mem_of_getElem? (i := 225) rfl))
set_option maxRecDepth 100000 in
theorem mCd_89 : Cond.code (mY 89) (mB 89) (mL 89) (mRt 89) ∈ tables_1 := List.mem_append_right _ (List.mem_append_left _ (List.mem_of_getElem? (i := 184) rfl))
set_option maxRecDepth 100000 in
theorem mCd_90 : Cond.code (mY 90) (mB 90) (mL 90) (mRt 90) ∈ tables_1 := List.mem_append_right _ (List.mem_append_left _ (List.mem_of_getElem? (i := 68) rfl))
set_option maxRecDepth 100000 in
theorem mCd_91 : Cond.code (mY 91) (mB 91) (mL 91) (mRt 91) ∈ tables_1 := List.mem_append_right _ (List.mem_append_left _ (List.mem_of_getElem? (i := 75) rfl))
set_option maxRecDepth 100000 in
theorem mCd_92 : Cond.code (mY 92) (mB 92) (mL 92) (mRt 92) ∈ tables_1 := List.mem_append_right _ (List.mem_append_left _ (List.mem_of_getElem? (i := 27) rfl))
set_option maxRecDepth 100000 in
theorem mCd_93 : Cond.code (mY 93) (mB 93) (mL 93) (mRt 93) ∈ tables_1 := List.mem_append_right _ (List.mem_append_right _ (List.mem_append_left _ (List.mem_of_getElem? (i := 56) rfl)))
set_option maxRecDepth 100000 in
theorem mCd_94 : Cond.code (mY 94) (mB 94) (mL 94) (mRt 94) ∈ tables_1 := List.mem_append_right _ (List.mem_append_right _ (List.mem_append_left _ (List.mem_of_getElem? (i := 85) rfl)))
set_option maxRecDepth 100000 in
theorem mCd_95 : Cond.code (mY 95) (mB 95) (mL 95) (mRt 95) ∈ tables_1 := List.mem_append_right _ (List.mem_append_right _ (List.mem_append_left _ (List.mem_of_getElem? (i := 89) rfl)))
set_option maxRecDepth 100000 in
theorem mCd_96 : Cond.code (mY 96) (mB 96) (mL 96) (mRt 96) ∈ tables_1 := List.mem_append_right _ (List.mem_append_right _ (List.mem_append_left _ (List.mem_of_getElem? (i := 117) rfl)))
set_option maxRecDepth 100000 in
theorem mCd_97 : Cond.code (mY 97) (mB 97) (mL 97) (mRt 97) ∈ tables_1 := List.mem_append_right _ (List.mem_append_right _ (List.mem_append_left _ (List.mem_of_getElem? (i := 144) rfl)))
set_option maxRecDepth 100000 in
theorem mCd_98 : Cond.code (mY 98) (mB 98) (mL 98) (mRt 98) ∈ tables_1 := List.mem_append_right _ (List.mem_append_right _ (List.mem_append_left _ (List.mem_of_getElem? (i := 148) rfl)))
set_option maxRecDepth 100000 in
theorem mCd_99 : Cond.code (mY 99) (mB 99) (mL 99) (mRt 99) ∈ tables_1 := List.mem_append_right _ (List.mem_append_right _ (List.mem_append_left _ (List.mem_of_getElem? (i := 176) rfl)))
set_option maxRecDepth 100000 in
theorem mCd_100 : Cond.code (mY 100) (mB 100) (mL 100) (mRt 100) ∈ tables_1 := List.mem_append_right _ (List.mem_append_right _ (List.mem_append_right _ (List.mem_append_left _ (List.mem_of_getElem? (i := 38) rfl))))
set_option maxRecDepth 100000 in
theorem mCd_101 : Cond.code (mY 101) (mB 101) (mL 101) (mRt 101) ∈ tables_1 := List.mem_append_right _ (List.mem_append_right _ (List.mem_append_right _ (List.mem_append_left _ (List.mem_of_getElem? (i := 42) rfl))))
set_option maxRecDepth 100000 in
theorem mCd_102 : Cond.code (mY 102) (mB 102) (mL 102) (mRt 102) ∈ tables_1 := List.mem_append_right _ (List.mem_append_right _ (List.mem_append_right _ (List.mem_append_left _ (List.mem_of_getElem? (i := 35) rfl))))
set_option maxRecDepth 100000 in
theorem mCd_103 : Cond.code (mY 103) (mB 103) (mL 103) (mRt 103) ∈ tables_1 := List.mem_append_right _ (List.mem_append_right _ (List.mem_append_right _ (List.mem_append_left _ (List.mem_of_getElem? (i := 50) rfl))))
set_option maxRecDepth 100000 in
theorem mCd_104 : Cond.code (mY 104) (mB 104) (mL 104) (mRt 104) ∈ tables_1 := List.mem_append_right _ (List.mem_append_right _ (List.mem_append_right _ (List.mem_append_left _ (List.mem_of_getElem? (i := 32) rfl))))
set_option maxRecDepth 100000 in
theorem mCd_105 : Cond.code (mY 105) (mB 105) (mL 105) (mRt 105) ∈ tables_1 := List.mem_append_right _ (List.mem_append_right _ (List.mem_append_right _ (List.mem_append_left _ (List.mem_of_getElem? (i := 46) rfl))))
set_option maxRecDepth 100000 in
theorem mCd_106 : Cond.code (mY 106) (mB 106) (mL 106) (mRt 106) ∈ tables_1 := List.mem_append_right _ (List.mem_append_right _ (List.mem_append_right _ (List.mem_append_left _ (List.mem_of_getElem? (i := 54) rfl))))
set_option maxRecDepth 100000 in
theorem mCd_107 : Cond.code (mY 107) (mB 107) (mL 107) (mRt 107) ∈ tables_1 := List.mem_append_right _ (List.mem_append_right _ (List.mem_append_right _ (List.mem_append_left _ (List.mem_of_getElem? (i := 58) rfl))))
set_option maxRecDepth 100000 in
theorem mCd_108 : Cond.code (mY 108) (mB 108) (mL 108) (mRt 108) ∈ tables_1 := List.mem_append_right _ (List.mem_append_right _ (List.mem_append_right _ (List.mem_append_left _ (List.mem_of_getElem? (i := 93) rfl))))
set_option maxRecDepth 100000 in
theorem mCd_109 : Cond.code (mY 109) (mB 109) (mL 109) (mRt 109) ∈ tables_1 := List.mem_append_right _ (List.mem_append_right _ (List.mem_append_right _ (List.mem_append_left _ (List.mem_of_getElem? (i := 65) rfl))))
set_option maxRecDepth 100000 in
theorem mCd_110 : Cond.code (mY 110) (mB 110) (mL 110) (mRt 110) ∈ tables_1 := List.mem_append_right _ (List.mem_append_right _ (List.mem_append_right _ (List.mem_append_left _ (List.mem_of_getElem? (i := 85) rfl))))
set_option maxRecDepth 100000 in
theorem mCd_111 : Cond.code (mY 111) (mB 111) (mL 111) (mRt 111) ∈ tables_1 := List.mem_append_right _ (List.mem_append_right _ (List.mem_append_right _ (List.mem_append_left _ (List.mem_of_getElem? (i := 89) rfl))))
set_option maxRecDepth 100000 in
theorem mCd_112 : Cond.code (mY 112) (mB 112) (mL 112) (mRt 112) ∈ tables_1 := List.mem_append_right _ (List.mem_append_right _ (List.mem_append_right _ (List.mem_append_left _ (List.mem_of_getElem? (i := 77) rfl))))
set_option maxRecDepth 100000 in
theorem mCd_113 : Cond.code (mY 113) (mB 113) (mL 113) (mRt 113) ∈ tables_1 := List.mem_append_right _ (List.mem_append_right _ (List.mem_append_right _ (List.mem_append_left _ (List.mem_of_getElem? (i := 69) rfl))))
set_option maxRecDepth 100000 in
theorem mCd_114 : Cond.code (mY 114) (mB 114) (mL 114) (mRt 114) ∈ tables_1 := List.mem_append_right _ (List.mem_append_right _ (List.mem_append_right _ (List.mem_append_left _ (List.mem_of_getElem? (i := 73) rfl))))
set_option maxRecDepth 100000 in
theorem mCd_115 : Cond.code (mY 115) (mB 115) (mL 115) (mRt 115) ∈ tables_1 := List.mem_append_right _ (List.mem_append_right _ (List.mem_append_right _ (List.mem_append_left _ (List.mem_of_getElem? (i := 62) rfl))))
set_option maxRecDepth 100000 in
theorem mCd_116 : Cond.code (mY 116) (mB 116) (mL 116) (mRt 116) ∈ tables_1 := List.mem_append_right _ (List.mem_append_right _ (List.mem_append_right _ (List.mem_append_left _ (List.mem_of_getElem? (i := 81) rfl))))
set_option maxRecDepth 100000 in
theorem mCd_117 : Cond.code (mY 117) (mB 117) (mL 117) (mRt 117) ∈ tables_1 := List.mem_append_right _ (List.mem_append_right _ (List.mem_append_right _ (List.mem_append_left _ (List.mem_of_getElem? (i := 97) rfl))))
set_option maxRecDepth 100000 in
theorem mCd_118 : Cond.code (mY 118) (mB 118) (mL 118) (mRt 118) ∈ tables_1 := List.mem_append_right _ (List.mem_append_right _ (List.mem_append_right _ (List.mem_append_left _ (List.mem_of_getElem? (i := 129) rfl))))
set_option maxRecDepth 100000 in
theorem mCd_119 : Cond.code (mY 119) (mB 119) (mL 119) (mRt 119) ∈ tables_1 := List.mem_append_right _ (List.mem_append_right _ (List.mem_append_right _ (List.mem_append_left _ (List.mem_of_getElem? (i := 133) rfl))))
set_option maxRecDepth 100000 in
theorem mCd_120 : Cond.code (mY 120) (mB 120) (mL 120) (mRt 120) ∈ tables_1 := List.mem_append_right _ (List.mem_append_right _ (List.mem_append_right _ (List.mem_append_left _ (List.mem_of_getElem? (i := 125) rfl))))
set_option maxRecDepth 100000 in
theorem mCd_121 : Cond.code (mY 121) (mB 121) (mL 121) (mRt 121) ∈ tables_1 := List.mem_append_right _ (List.mem_append_right _ (List.mem_append_right _ (List.mem_append_left _ (List.mem_of_getElem? (i := 121) rfl))))
set_option maxRecDepth 100000 in
theorem mCd_122 : Cond.code (mY 122) (mB 122) (mL 122) (mRt 122) ∈ tables_1 := List.mem_append_right _ (List.mem_append_right _ (List.mem_append_right _ (List.mem_append_left _ (List.mem_of_getElem? (i := 117) rfl))))
set_option maxRecDepth 100000 in
theorem mCd_123 : Cond.code (mY 123) (mB 123) (mL 123) (mRt 123) ∈ tables_1 := List.mem_append_right _ (List.mem_append_right _ (List.mem_append_right _ (List.mem_append_left _ (List.mem_of_getElem? (i := 109) rfl))))
set_option maxRecDepth 100000 in
theorem mCd_124 : Cond.code (mY 124) (mB 124) (mL 124) (mRt 124) ∈ tables_1 := List.mem_append_right _ (List.mem_append_right _ (List.mem_append_right _ (List.mem_append_left _ (List.mem_of_getElem? (i := 113) rfl))))
set_option maxRecDepth 100000 in
theorem mCd_125 : Cond.code (mY 125) (mB 125) (mL 125) (mRt 125) ∈ tables_1 := List.mem_append_right _ (List.mem_append_right _ (List.mem_append_right _ (List.mem_append_left _ (List.mem_of_getElem? (i := 105) rfl))))
set_option maxRecDepth 100000 in
theorem mCd_126 : Cond.code (mY 126) (mB 126) (mL 126) (mRt 126) ∈ tables_1 := List.mem_append_right _ (List.mem_append_right _ (List.mem_append_right _ (List.mem_append_left _ (List.mem_of_getElem? (i := 101) rfl))))
set_option maxRecDepth 100000 in
theorem mCd_127 : Cond.code (mY 127) (mB 127) (mL 127) (mRt 127) ∈ tables_1 := List.mem_append_right _ (List.mem_append_right _ (List.mem_append_right _ (List.mem_append_left _ (List.mem_of_getElem? (i := 141) rfl))))
set_option maxRecDepth 100000 in
theorem mCd_128 : Cond.code (mY 128) (mB 128) (mL 128) (mRt 128) ∈ tables_1 := List.mem_append_right _ (List.mem_append_right _ (List.mem_append_right _ (List.mem_append_left _ (List.mem_of_getElem? (i := 137) rfl))))
set_option maxRecDepth 100000 in
theorem mCd_129 : Cond.code (mY 129) (mB 129) (mL 129) (mRt 129) ∈ tables_1 := List.mem_append_right _ (List.mem_append_right _ (List.mem_append_right _ (List.mem_append_left _ (List.mem_of_getElem? (i := 145) rfl))))
set_option maxRecDepth 100000 in
theorem mCd_130 : Cond.code (mY 130) (mB 130) (mL 130) (mRt 130) ∈ tables_1 := List.mem_append_right _ (List.mem_append_right _ (List.mem_append_right _ (List.mem_append_left _ (List.mem_of_getElem? (i := 149) rfl))))
set_option maxRecDepth 100000 in
theorem mCd_131 : Cond.code (mY 131) (mB 131) (mL 131) (mRt 131) ∈ tables_1 := List.mem_append_right _ (List.mem_append_right _ (List.mem_append_right _ (List.mem_append_left _ (List.mem_of_getElem? (i := 153) rfl))))
set_option maxRecDepth 100000 in
theorem mCd_132 : Cond.code (mY 132) (mB 132) (mL 132) (mRt 132) ∈ tables_1 := List.mem_append_right _ (List.mem_append_right _ (List.mem_append_right _ (List.mem_append_left _ (List.mem_of_getElem? (i := 161) rfl))))
set_option maxRecDepth 100000 in
theorem mCd_133 : Cond.code (mY 133) (mB 133) (mL 133) (mRt 133) ∈ tables_1 := List.mem_append_right _ (List.mem_append_right _ (List.mem_append_right _ (List.mem_append_left _ (List.mem_of_getElem? (i := 165) rfl))))
set_option maxRecDepth 100000 in
theorem mCd_134 : Cond.code (mY 134) (mB 134) (mL 134) (mRt 134) ∈ tables_1 := List.mem_append_right _ (List.mem_append_right _ (List.mem_append_right _ (List.mem_append_left _ (List.mem_of_getElem? (i := 157) rfl))))
set_option maxRecDepth 100000 in
theorem mCd_135 : Cond.code (mY 135) (mB 135) (mL 135) (mRt 135) ∈ tables_1 := List.mem_append_right _ (List.mem_append_right _ (List.mem_append_right _ (List.mem_append_left _ (List.mem_of_getElem? (i := 169) rfl))))
set_option maxRecDepth 100000 in
theorem mCd_136 : Cond.code (mY 136) (mB 136) (mL 136) (mRt 136) ∈ tables_1 := List.mem_append_right _ (List.mem_append_right _ (List.mem_append_right _ (List.mem_append_left _ (List.mem_of_getElem? (i := 181) rfl))))
set_option maxRecDepth 100000 in
theorem mCd_137 : Cond.code (mY 137) (mB 137) (mL 137) (mRt 137) ∈ tables_1 := List.mem_append_right _ (List.mem_append_right _ (List.mem_append_right _ (List.mem_append_left _ (List.mem_of_getElem? (i := 177) rfl))))
set_option maxRecDepth 100000 in
theorem mCd_138 : Cond.code (mY 138) (mB 138) (mL 138) (mRt 138) ∈ tables_1 := List.mem_append_right _ (List.mem_append_right _ (List.mem_append_right _ (List.mem_append_left _ (List.mem_of_getElem? (i := 189) rfl))))
set_option maxRecDepth 100000 in
theorem mCd_139 : Cond.code (mY 139) (mB 139) (mL 139) (mRt 139) ∈ tables_1 := List.mem_append_right _ (List.mem_append_right _ (List.mem_append_right _ (List.mem_append_left _ (List.mem_of_getElem? (i := 173) rfl))))
set_option maxRecDepth 100000 in
theorem mCd_140 : Cond.code (mY 140) (mB 140) (mL 140) (mRt 140) ∈ tables_1 := List.mem_append_right _ (List.mem_append_right _ (List.mem_append_right _ (List.mem_append_left _ (List.mem_of_getElem? (i := 185) rfl))))
set_option maxRecDepth 100000 in
theorem mCd_141 : Cond.code (mY 141) (mB 141) (mL 141) (mRt 141) ∈ tables_1 := List.mem_append_right _ (List.mem_append_right _ (List.mem_append_right _ (List.mem_append_left _ (List.mem_of_getElem? (i := 196) rfl))))
set_option maxRecDepth 100000 in
theorem mCd_142 : Cond.code (mY 142) (mB 142) (mL 142) (mRt 142) ∈ tables_1 := List.mem_append_right _ (List.mem_append_right _ (List.mem_append_right _ (List.mem_append_left _ (List.mem_of_getElem? (i := 200) rfl))))
set_option maxRecDepth 100000 in
theorem mCd_143 : Cond.code (mY 143) (mB 143) (mL 143) (mRt 143) ∈ tables_1 := List.mem_append_right _ (List.mem_append_right _ (List.mem_append_right _ (List.mem_append_left _ (List.mem_of_getElem? (i := 193) rfl))))
set_option maxRecDepth 100000 in
theorem mCd_144 : Cond.code (mY 144) (mB 144) (mL 144) (mRt 144) ∈ tables_1 := List.mem_append_right _ (List.mem_append_right _ (List.mem_append_right _ (List.mem_append_left _ (List.mem_of_getElem? (i := 208) rfl))))
set_option maxRecDepth 100000 in
theorem mCd_145 : Cond.code (mY 145) (mB 145) (mL 145) (mRt 145) ∈ tables_1 := List.mem_append_right _ (List.mem_append_right _ (List.mem_append_right _ (List.mem_append_left _ (List.mem_of_getElem? (i := 212) rfl))))
set_option maxRecDepth 100000 in
theorem mCd_146 : Cond.code (mY 146) (mB 146) (mL 146) (mRt 146) ∈ tables_1 := List.mem_append_right _ (List.mem_append_right _ (List.mem_append_right _ (List.mem_append_left _ (List.mem_of_getElem? (i := 216) rfl))))
set_option maxRecDepth 100000 in
theorem mCd_147 : Cond.code (mY 147) (mB 147) (mL 147) (mRt 147) ∈ tables_1 := List.mem_append_right _ (List.mem_append_right _ (List.mem_append_right _ (List.mem_append_left _ (List.mem_of_getElem? (i := 224) rfl))))
set_option maxRecDepth 100000 in
theorem mCd_148 : Cond.code (mY 148) (mB 148) (mL 148) (mRt 148) ∈ tables_1 := List.mem_append_right _ (List.mem_append_right _ (List.mem_append_right _ (List.mem_append_left _ (List.mem_of_getElem? (i := 204) rfl))))
set_option maxRecDepth 100000 in
theorem mCd_149 : Cond.code (mY 149) (mB 149) (mL 149) (mRt 149) ∈ tables_1 := List.mem_append_right _ (List.mem_append_right _ (List.mem_append_right _ (List.mem_append_left _ (List.mem_of_getElem? (i := 220) rfl))))
set_option maxRecDepth 100000 in
theorem mCd_150 : Cond.code (mY 150) (mB 150) (mL 150) (mRt 150) ∈ tables_1 := List.mem_append_right _ (List.mem_append_right _ (List.mem_append_right _ (List.mem_append_left _ (List.mem_of_getElem? (i := 232) rfl))))
set_option maxRecDepth 100000 in
theorem mCd_151 : Cond.code (mY 151) (mB 151) (mL 151) (mRt 151) ∈ tables_1 := List.mem_append_right _ (List.mem_append_right _ (List.mem_append_right _ (List.mem_append_left _ (List.mem_of_getElem? (i := 237) rfl))))
set_option maxRecDepth 100000 in
theorem mCd_152 : Cond.code (mY 152) (mB 152) (mL 152) (mRt 152) ∈ tables_1 := List.mem_append_right _ (List.mem_append_right _ (List.mem_append_right _ (List.mem_append_left _ (List.mem_of_getElem? (i := 228) rfl))))
set_option maxRecDepth 100000 in
theorem mCd_153 : Cond.code (mY 153) (mB 153) (mL 153) (mRt 153) ∈ tables_1 := List.mem_append_right _ (List.mem_append_right _ (List.mem_append_right _ (List.mem_append_right _ (List.mem_of_getElem? (i := 17) rfl))))
set_option maxRecDepth 100000 in
theorem mCd_154 : Cond.code (mY 154) (mB 154) (mL 154) (mRt 154) ∈ tables_1 := List.mem_append_right _ (List.mem_append_right _ (List.mem_append_right _ (List.mem_append_right _ (List.mem_of_getElem? (i := 13) rfl))))
set_option maxRecDepth 100000 in
theorem mCd_155 : Cond.code (mY 155) (mB 155) (mL 155) (mRt 155) ∈ tables_1 := List.mem_append_right _ (List.mem_append_right _ (List.mem_append_right _ (List.mem_append_right _ (List.mem_of_getElem? (i := 9) rfl))))
set_option maxRecDepth 100000 in
theorem mCd_156 : Cond.code (mY 156) (mB 156) (mL 156) (mRt 156) ∈ tables_1 := List.mem_append_right _ (List.mem_append_right _ (List.mem_append_right _ (List.mem_append_right _ (List.mem_of_getElem? (i := 5) rfl))))
set_option maxRecDepth 100000 in
theorem mCd_157 : Cond.code (mY 157) (mB 157) (mL 157) (mRt 157) ∈ tables_1 := List.mem_append_right _ (List.mem_append_right _ (List.mem_append_right _ (List.mem_append_right _ (List.mem_of_getElem? (i := 1) rfl))))
set_option maxRecDepth 100000 in
theorem mCd_158 : Cond.code (mY 158) (mB 158) (mL 158) (mRt 158) ∈ tables_1 := List.mem_append_right _ (List.mem_append_right _ (List.mem_append_right _ (List.mem_append_right _ (List.mem_of_getElem? (i := 21) rfl))))
set_option maxRecDepth 100000 in
theorem mCd_159 : Cond.code (mY 159) (mB 159) (mL 159) (mRt 159) ∈ tables_1 := List.mem_append_right _ (List.mem_append_right _ (List.mem_append_right _ (List.mem_append_right _ (List.mem_of_getElem? (i := 29) rfl))))
set_option maxRecDepth 100000 in
theorem mCd_160 : Cond.code (mY 160) (mB 160) (mL 160) (mRt 160) ∈ tables_1 := List.mem_append_right _ (List.mem_append_right _ (List.mem_append_right _ (List.mem_append_right _ (List.mem_of_getElem? (i := 25) rfl))))
set_option maxRecDepth 100000 in
theorem mCd_161 : Cond.code (mY 161) (mB 161) (mL 161) (mRt 161) ∈ tables_1 := List.mem_append_right _ (List.mem_append_right _ (List.mem_append_right _ (List.mem_append_right _ (List.mem_of_getElem? (i := 33) rfl))))
set_option maxRecDepth 100000 in
theorem mCd_162 : Cond.code (mY 162) (mB 162) (mL 162) (mRt 162) ∈ tables_1 := List.mem_append_right _ (List.mem_append_right _ (List.mem_append_right _ (List.mem_append_right _ (List.mem_of_getElem? (i := 41) rfl))))
set_option maxRecDepth 100000 in
theorem mCd_163 : Cond.code (mY 163) (mB 163) (mL 163) (mRt 163) ∈ tables_1 := List.mem_append_right _ (List.mem_append_right _ (List.mem_append_right _ (List.mem_append_right _ (List.mem_of_getElem? (i := 37) rfl))))
set_option maxRecDepth 100000 in
theorem mCd_164 : Cond.code (mY 164) (mB 164) (mL 164) (mRt 164) ∈ tables_1 := List.mem_append_right _ (List.mem_append_right _ (List.mem_append_right _ (List.mem_append_right _ (List.mem_of_getElem? (i := 45) rfl))))
set_option maxRecDepth 100000 in
theorem mCd_165 : Cond.code (mY 165) (mB 165) (mL 165) (mRt 165) ∈ tables_1 := List.mem_append_right _ (List.mem_append_right _ (List.mem_append_right _ (List.mem_append_right _ (List.mem_of_getElem? (i := 51) rfl))))
set_option maxRecDepth 100000 in
theorem mCd_166 : Cond.code (mY 166) (mB 166) (mL 166) (mRt 166) ∈ tables_1 := List.mem_append_right _ (List.mem_append_right _ (List.mem_append_right _ (List.mem_append_right _ (List.mem_of_getElem? (i := 55) rfl))))
set_option maxRecDepth 100000 in
theorem mCd_167 : Cond.code (mY 167) (mB 167) (mL 167) (mRt 167) ∈ tables_1 := List.mem_append_right _ (List.mem_append_right _ (List.mem_append_right _ (List.mem_append_right _ (List.mem_of_getElem? (i := 59) rfl))))
set_option maxRecDepth 100000 in
theorem mCd_168 : Cond.code (mY 168) (mB 168) (mL 168) (mRt 168) ∈ tables_1 := List.mem_append_right _ (List.mem_append_right _ (List.mem_append_right _ (List.mem_append_right _ (List.mem_of_getElem? (i := 63) rfl))))
set_option maxRecDepth 100000 in
theorem mCd_169 : Cond.code (mY 169) (mB 169) (mL 169) (mRt 169) ∈ tables_1 := List.mem_append_right _ (List.mem_append_right _ (List.mem_append_right _ (List.mem_append_right _ (List.mem_of_getElem? (i := 67) rfl))))
set_option maxRecDepth 100000 in
theorem mCd_170 : Cond.code (mY 170) (mB 170) (mL 170) (mRt 170) ∈ tables_1 := List.mem_append_right _ (List.mem_append_right _ (List.mem_append_right _ (List.mem_append_right _ (List.mem_of_getElem? (i := 71) rfl))))
set_option maxRecDepth 100000 in
theorem mCd_171 : Cond.code (mY 171) (mB 171) (mL 171) (mRt 171) ∈ tables_1 := List.mem_append_right _ (List.mem_append_right _ (List.mem_append_right _ (List.mem_append_right _ (List.mem_of_getElem? (i := 75) rfl))))
set_option maxRecDepth 100000 in
theorem mCd_172 : Cond.code (mY 172) (mB 172) (mL 172) (mRt 172) ∈ tables_1 := List.mem_append_right _ (List.mem_append_left _ (List.mem_of_getElem? (i := 232) rfl))
set_option maxRecDepth 100000 in
theorem mCd_173 : Cond.code (mY 173) (mB 173) (mL 173) (mRt 173) ∈ tables_1 := List.mem_append_right _ (List.mem_append_left _ (List.mem_of_getElem? (i := 222) rfl))
set_option maxRecDepth 100000 in
theorem mCd_174 : Cond.code (mY 174) (mB 174) (mL 174) (mRt 174) ∈ tables_1 := List.mem_append_right _ (List.mem_append_left _ (List.mem_of_getElem? (i := 142) rfl))
set_option maxRecDepth 100000 in
theorem mCd_175 : Cond.code (mY 175) (mB 175) (mL 175) (mRt 175) ∈ tables_1 := List.mem_append_right _ (List.mem_append_left _ (List.mem_of_getElem? (i := 139) rfl))
theorem mCd : ∀ j, j < mN → j ≠ mLaw → Cond.code (mY j) (mB j) (mL j) (mRt j) ∈ mG := by
  have k : ∀ j, j < mN → j ≠ mLaw → Cond.code (mY j) (mB j) (mL j) (mRt j) ∈ tables_1 := fun j h h2 => match j, h, h2 with
    | 0, _, _ => mCd_0
    | 1, _, _ => mCd_1
    | 2, _, _ => mCd_2
    | 3, _, _ => mCd_3
    | 4, _, _ => mCd_4
    | 5, _, _ => mCd_5
    | 6, _, _ => mCd_6
    | 7, _, _ => mCd_7
    | 8, _, _ => mCd_8
    | 9, _, _ => mCd_9
    | 10, _, _ => mCd_10
    | 11, _, _ => mCd_11
    | 12, _, _ => mCd_12
    | 13, _, _ => mCd_13
    | 14, _, _ => mCd_14
    | 15, _, _ => mCd_15
    | 16, _, _ => mCd_16
    | 17, _, _ => mCd_17
    | 18, _, _ => mCd_18
    | 19, _, _ => mCd_19
    | 20, _, _ => mCd_20
    | 21, _, _ => mCd_21
    | 22, _, _ => mCd_22
    | 23, _, _ => mCd_23
    | 24, _, _ => mCd_24
    | 25, _, _ => mCd_25
    | 26, _, _ => mCd_26
    | 27, _, _ => mCd_27
    | 28, _, _ => mCd_28
    | 29, _, _ => mCd_29
    | 30, _, _ => mCd_30
    | 31, _, _ => mCd_31
    | 32, _, _ => mCd_32
    | 33, _, _ => mCd_33
    | 34, _, _ => mCd_34
    | 35, _, _ => mCd_35
    | 36, _, _ => mCd_36
    | 37, _, _ => mCd_37
    | 38, _, _ => mCd_38
    | 39, _, _ => mCd_39
    | 40, _, _ => mCd_40
    | 41, _, _ => mCd_41
    | 42, _, _ => mCd_42
    | 43, _, _ => mCd_43
    | 44, _, _ => mCd_44
    | 45, _, _ => mCd_45
    | 46, _, _ => mCd_46
    | 47, _, _ => mCd_47
    | 48, _, _ => mCd_48
    | 49, _, _ => mCd_49
    | 50, _, _ => mCd_50
    | 51, _, _ => mCd_51
    | 52, _, _ => mCd_52
    | 53, _, _ => mCd_53
    | 54, _, _ => mCd_54
    | 55, _, _ => mCd_55
    | 56, _, _ => mCd_56
    | 57, _, _ => mCd_57
    | 58, _, _ => mCd_58
    | 59, _, _ => mCd_59
    | 60, _, _ => mCd_60
    | 61, _, _ => mCd_61
    | 62, _, _ => mCd_62
    | 63, _, _ => mCd_63
    | 64, _, _ => mCd_64
    | 65, _, _ => mCd_65
    | 66, _, _ => mCd_66
    | 67, _, _ => mCd_67
    | 68, _, _ => mCd_68
    | 69, _, _ => mCd_69
    | 70, _, _ => mCd_70
    | 71, _, _ => mCd_71
    | 72, _, _ => mCd_72
    | 73, _, _ => mCd_73
    | 74, _, _ => mCd_74
    | 75, _, _ => mCd_75
    | 76, _, _ => mCd_76
    | 77, _, _ => mCd_77
    | 78, _, _ => mCd_78
    | 79, _, _ => mCd_79
    | 80, _, _ => mCd_80
    | 81, _, _ => mCd_81
    | 82, _, _ => mCd_82
    | 83, _, _ => mCd_83
    | 84, _, _ => mCd_84
    | 85, _, _ => mCd_85
    | 86, _, _ => mCd_86
    | 87, _, _ => mCd_87
    | 88, _, _ => mCd_88
    | 89, _, _ => mCd_89
    | 90, _, _ => mCd_90
    | 91, _, _ => mCd_91
    | 92, _, _ => mCd_92
    | 93, _, _ => mCd_93
    | 94, _, _ => mCd_94
    | 95, _, _ => mCd_95
    | 96, _, _ => mCd_96
    | 97, _, _ => mCd_97
    | 98, _, _ => mCd_98
    | 99, _, _ => mCd_99
    | 100, _, _ => mCd_100
    | 101, _, _ => mCd_101
    | 102, _, _ => mCd_102
    | 103, _, _ => mCd_103
    | 104, _, _ => mCd_104
    | 105, _, _ => mCd_105
    | 106, _, _ => mCd_106
    | 107, _, _ => mCd_107
    | 108, _, _ => mCd_108
    | 109, _, _ => mCd_109
    | 110, _, _ => mCd_110
    | 111, _, _ => mCd_111
    | 112, _, _ => mCd_112
    | 113, _, _ => mCd_113
    | 114, _, _ => mCd_114
    | 115, _, _ => mCd_115
    | 116, _, _ => mCd_116
    | 117, _, _ => mCd_117
    | 118, _, _ => mCd_118
    | 119, _, _ => mCd_119
    | 120, _, _ => mCd_120
    | 121, _, _ => mCd_121
    | 122, _, _ => mCd_122
    | 123, _, _ => mCd_123
    | 124, _, _ => mCd_124
    | 125, _, _ => mCd_125
    | 126, _, _ => mCd_126
    | 127, _, _ => mCd_127
    | 128, _, _ => mCd_128
    | 129, _, _ => mCd_129
    | 130, _, _ => mCd_130
    | 131, _, _ => mCd_131
    | 132, _, _ => mCd_132
    | 133, _, _ => mCd_133
    | 134, _, _ => mCd_134
    | 135, _, _ => mCd_135
    | 136, _, _ => mCd_136
    | 137, _, _ => mCd_137
    | 138, _, _ => mCd_138
    | 139, _, _ => mCd_139
    | 140, _, _ => mCd_140
    | 141, _, _ => mCd_141
    | 142, _, _ => mCd_142
    | 143, _, _ => mCd_143
    | 144, _, _ => mCd_144
    | 145, _, _ => mCd_145
    | 146, _, _ => mCd_146
    | 147, _, _ => mCd_147
    | 148, _, _ => mCd_148
    | 149, _, _ => mCd_149
    | 150, _, _ => mCd_150
    | 151, _, _ => mCd_151
    | 152, _, _ => mCd_152
    | 153, _, _ => mCd_153
    | 154, _, _ => mCd_154
    | 155, _, _ => mCd_155
    | 156, _, _ => mCd_156
    | 157, _, _ => mCd_157
    | 158, _, _ => mCd_158
    | 159, _, _ => mCd_159
    | 160, _, _ => mCd_160
    | 161, _, _ => mCd_161
    | 162, _, _ => mCd_162
    | 163, _, _ => mCd_163
    | 164, _, _ => mCd_164
    | 165, _, _ => mCd_165
    | 166, _, _ => mCd_166
    | 167, _, _ => mCd_167
    | 168, _, _ => mCd_168
    | 169, _, _ => mCd_169
    | 170, _, _ => mCd_170
    | 171, _, _ => mCd_171
    | 172, _, _ => mCd_172
    | 173, _, _ => mCd_173
    | 174, _, _ => mCd_174
    | 175, _, _ => mCd_175
    | 176, _, h2 => absurd rfl h2
    | j + 177, h, _ => absurd h (by simp [mN])
  exact fun j h h2 => List.mem_filter.mpr ⟨List.mem_append_right _ (k j h h2), rfl⟩
end
section
/-! a small machine: cells by number (0 the table of parts, 1 the script, then the world's), locals by place -/
abbrev mCell : Type := (Nat × vp_A) ⊕ (Nat × List Value)
abbrev mHeap : Type := List mCell
abbrev mLoc : Type := List (Option Value)
abbrev mFr : Type := Nat × mLoc × List Value × mHeap × Nat × Nat
abbrev mOut : Type := mFr ⊕ (Option Value ⊕ (Nat × List Value × List Value))
def mget (ls : mLoc) (i : Nat) : Option Value := (ls[i]?).getD none
def mkil (ls : mLoc) (i : Nat) : mLoc := match i with
  | 0 => ls
  | k + 1 => match ls[k]? with
    | some (some v) => if v.category = 2 then ls.set k none else ls
    | _ => ls
def mst (ls : mLoc) (i : Nat) (v : Value) : Option mLoc := if v.category = 2 then (if i + 1 < ls.length then some (((mkil ls i).set i (some v)).set (i + 1) none) else none) else (if i < ls.length then some ((mkil ls i).set i (some v)) else none)
def mok (k : Nat) (v : Value) : Bool := match k, v with
  | 0, .int _ => true
  | 1, .long _ => true
  | 2, .ref _ => true
  | _, _ => false
def mtg (pc : Nat) (off : Int) : Option Nat := if 0 ≤ (pc : Int) + off then some ((pc : Int) + off).toNat else none
def mnx (pc : Nat) (ls : mLoc) (st : List Value) (h : mHeap) (cu su : Nat) : Option mOut := some (.inl (pc, ls, st, h, cu, su))
def mload (kd k l len pc : Nat) (ls : mLoc) (st : List Value) (h : mHeap) (cu su : Nat) : Option mOut :=
  if len = l then (match mget ls k with
    | some v => if mok kd v = true then mnx (pc + l) ls (v :: st) h cu su else none
    | none => none) else none
def mstore (kd k l len pc : Nat) (ls : mLoc) (st : List Value) (h : mHeap) (cu su : Nat) : Option mOut :=
  if len = l then (match st with
    | v :: r => if mok kd v = true then (match mst ls k v with
        | some ls' => mnx (pc + l) ls' r h cu su
        | none => none) else none
    | [] => none) else none
def mpush (v : Value) (l len pc : Nat) (ls : mLoc) (st : List Value) (h : mHeap) (cu su : Nat) : Option mOut :=
  if len = l then mnx (pc + l) ls (v :: st) h cu su else none
def mbi (f : Int32 → Int32 → Option Int32) (len pc : Nat) (ls : mLoc) (st : List Value) (h : mHeap) (cu su : Nat) : Option mOut :=
  if len = 1 then (match st with
    | .int y :: .int x :: r => (match f x y with
      | some z => mnx (pc + 1) ls (.int z :: r) h cu su
      | none => none)
    | _ => none) else none
def mbl (f : Int64 → Int64 → Option Int64) (len pc : Nat) (ls : mLoc) (st : List Value) (h : mHeap) (cu su : Nat) : Option mOut :=
  if len = 1 then (match st with
    | .long y :: .long x :: r => (match f x y with
      | some z => mnx (pc + 1) ls (.long z :: r) h cu su
      | none => none)
    | _ => none) else none
def mbs (f : Int64 → Int32 → Int64) (len pc : Nat) (ls : mLoc) (st : List Value) (h : mHeap) (cu su : Nat) : Option mOut :=
  if len = 1 then (match st with
    | .int y :: .long x :: r => mnx (pc + 1) ls (.long (f x y) :: r) h cu su
    | _ => none) else none
def mui (f : Int32 → Value) (len pc : Nat) (ls : mLoc) (st : List Value) (h : mHeap) (cu su : Nat) : Option mOut :=
  if len = 1 then (match st with
    | .int x :: r => mnx (pc + 1) ls (f x :: r) h cu su
    | _ => none) else none
def mif1 (f : Int32 → Bool) (off : Int) (len pc : Nat) (ls : mLoc) (st : List Value) (h : mHeap) (cu su : Nat) : Option mOut :=
  if len = 3 then (match st with
    | .int x :: r => (match mtg pc off with
      | some t => mnx (if f x = true then t else pc + 3) ls r h cu su
      | none => none)
    | _ => none) else none
def mif2 (f : Int32 → Int32 → Bool) (off : Int) (len pc : Nat) (ls : mLoc) (st : List Value) (h : mHeap) (cu su : Nat) : Option mOut :=
  if len = 3 then (match st with
    | .int y :: .int x :: r => (match mtg pc off with
      | some t => mnx (if f x y = true then t else pc + 3) ls r h cu su
      | none => none)
    | _ => none) else none
/-- reads and writes of cells -/
def cFld (h : mHeap) (a ci k : Nat) : Option Value := match h[a]? with
  | some (.inr (c, fs)) => if c = ci then fs[k]? else none
  | _ => none
def cPut (h : mHeap) (a ci k : Nat) (v : Value) : Option mHeap := match h[a]? with
  | some (.inr (c, fs)) => if c = ci ∧ k < fs.length then some (h.set a (.inr (c, fs.set k v))) else none
  | _ => none
def cAldI (law : Bool) (h : mHeap) (a : Nat) (i : Int32) : Option Int32 := match h[a]? with
  | some (.inl (t, n, .inl f)) => if (i < 0 ∨ n ≤ i.toNatClampNeg) then none else if t = 0 ∨ (t = 5 ∧ a = 0) ∨ (t = 6 ∧ a = 1 ∧ law = true) then some (f i.toNatClampNeg) else none
  | _ => none
def cAstI (h : mHeap) (a : Nat) (i x : Int32) : Option mHeap := match h[a]? with
  | some (.inl (t, n, .inl f)) => if (i < 0 ∨ n ≤ i.toNatClampNeg) then none else if t = 0 then some (h.set a (.inl (0, n, .inl (upd f i.toNatClampNeg x)))) else none
  | _ => none
def cAldB (h : mHeap) (a : Nat) (i : Int32) : Option Int32 := match h[a]? with
  | some (.inl (t, n, .inl f)) => if (i < 0 ∨ n ≤ i.toNatClampNeg) then none else if t = 1 then some (f i.toNatClampNeg) else none
  | _ => none
def cAstB (h : mHeap) (a : Nat) (i x : Int32) : Option mHeap := match h[a]? with
  | some (.inl (t, n, .inl f)) => if (i < 0 ∨ n ≤ i.toNatClampNeg) then none else if t = 1 then some (h.set a (.inl (1, n, .inl (upd f i.toNatClampNeg (vp_nar .byte x))))) else none
  | _ => none
def cAldL (h : mHeap) (a : Nat) (i : Int32) : Option Int64 := match h[a]? with
  | some (.inl (t, n, .inr (.inl f))) => if (i < 0 ∨ n ≤ i.toNatClampNeg) then none else if t = 2 then some (f i.toNatClampNeg) else none
  | _ => none
def cAstL (h : mHeap) (a : Nat) (i : Int32) (x : Int64) : Option mHeap := match h[a]? with
  | some (.inl (t, n, .inr (.inl f))) => if (i < 0 ∨ n ≤ i.toNatClampNeg) then none else if t = 2 then some (h.set a (.inl (2, n, .inr (.inl (vp_updL f i.toNatClampNeg x))))) else none
  | _ => none
def cAldR (h : mHeap) (a : Nat) (i : Int32) : Option Nat := match h[a]? with
  | some (.inl (t, n, .inr (.inr (.inr (.inr f))))) => if (i < 0 ∨ n ≤ i.toNatClampNeg) then none else if t = 3 ∨ t = 4 then f i.toNatClampNeg else none
  | _ => none
/-- class number of what an array of references holds -/
def cElt (t : Nat) : Nat := if t = 3 then 6 else 3
def cAstR (h : mHeap) (a : Nat) (i : Int32) (b : Nat) : Option mHeap := match h[a]?, h[b]? with
  | some (.inl (t, n, .inr (.inr (.inr (.inr f))))), some (.inr (c, _)) => if (i < 0 ∨ n ≤ i.toNatClampNeg) then none else if (t = 3 ∨ t = 4) ∧ c = cElt t then some (h.set a (.inl (t, n, .inr (.inr (.inr (.inr (va_up f i.toNatClampNeg (some b)))))))) else none
  | _, _ => none
def cLen (law : Bool) (h : mHeap) (a : Nat) : Option Int32 := match h[a]? with
  | some (.inl (t, n, _)) => if t = 6 ∧ a = 1 ∧ law = true then some (Int32.ofNat n) else none
  | _ => none
def cCpy (h : mHeap) (a b : Nat) (sp dp n : Int32) : Option mHeap := match h[a]?, h[b]? with
  | some (.inl (t0, n0, .inl f)), some (.inl (t1, n1, .inl g)) =>
    if t0 = 1 ∧ t1 = 1 ∧ ¬ sp < 0 ∧ ¬ dp < 0 ∧ ¬ n < 0 ∧ sp.toNatClampNeg + n.toNatClampNeg ≤ n0 ∧ dp.toNatClampNeg + n.toNatClampNeg ≤ n1 ∧ (∀ i, i < n.toNatClampNeg → fits .byte (.int (f (sp.toNatClampNeg + i))) = true)
    then some (h.set b (.inl (1, n1, .inl (va_cpy f g sp.toNatClampNeg dp.toNatClampNeg n.toNatClampNeg)))) else none
  | _, _ => none
/-- every number of a cell that stands in a value, a cell, the locals, the stack is below n -/
def wV (n : Nat) : Value → Bool
  | .ref k => decide (k < n)
  | _ => true
def wC (n : Nat) : mCell → Bool
  | .inl (_, m, .inr (.inr (.inr (.inr f)))) => (List.range m).all (fun i => match f i with
    | some k => decide (k < n)
    | none => true)
  | .inl _ => true
  | .inr (_, fs) => fs.all (wV n)
def wLS (n : Nat) (ls : mLoc) (st : List Value) : Bool := ls.all (fun v => match v with
  | some v => wV n v
  | none => true) && st.all (wV n)
def wH (h : mHeap) : Bool := h.all (wC h.length)
def mZero (ci : Nat) : List Value := match vwCl[ci]? with
  | some (_, _, N) => (List.range N).map (fun k => defaultValue (mTy ci k))
  | none => []
def mNew (j : Nat) (c : mCell) (n l pc : Nat) (ls : mLoc) (st : List Value) (h : mHeap) (cu su : Nat) : Option mOut :=
  if cu + 1 ≤ (mRm j).cells ∧ su + n ≤ (mRm j).slots ∧ wLS h.length ls st = true ∧ wH h = true ∧ 2 ≤ h.length then some (.inl (pc + l, ls, .ref h.length :: st, h ++ [c], cu + 1, su + n)) else none
def mArr (a : ArrayType) (n : Nat) : Option mCell := match a with
  | .int => some (.inl (0, n, .inl (fun _ => 0)))
  | .byte => some (.inl (1, n, .inl (fun _ => 0)))
  | .long => some (.inl (2, n, .inr (.inl (fun _ => 0))))
  | _ => none
def mCat (st : List Value) : Nat := (st.map fun v => v.category).sum
/-- what a call asks of the two methods' rooms -/
def mRoomOk (j j' cu su : Nat) : Bool := decide ((mRm j').frames + 1 ≤ (mRm j).frames ∧ 8 + (mL j' + 11) + (mRm j').locals ≤ (mRm j).locals ∧ cu + (mRm j').cells ≤ (mRm j).cells ∧ su + (mRm j').slots ≤ (mRm j).slots)
def mCall (j kd idx len pc : Nat) (ls : mLoc) (st : List Value) (h : mHeap) (cu su : Nat) : Option mOut :=
  if len = 3 then (match mM (mO j) idx with
    | some (j', _) =>
      if j' = 1000 then (match kd, st with
        | 2, .ref _ :: r => if 1 ≤ (mRm j).frames ∧ mCat r + 12 ≤ (mRm j).locals then mnx (pc + 3) ls r h cu su else none
        | _, _ => none)
      else if j' = 1001 then (match kd, st with
        | 0, .int n :: .int dp :: .ref b :: .int sp :: .ref a :: r => if 1 ≤ (mRm j).frames ∧ mCat r + (nativeFrameWords "java/lang/System" "arraycopy" 5 + 11) ≤ (mRm j).locals then (match cCpy h a b sp dp n with
            | some h' => mnx (pc + 3) ls r h' cu su
            | none => none) else none
        | _, _ => none)
      else if mKd j' = kd ∧ mNp j' ≤ st.length ∧ mRoomOk j j' cu su = true ∧ j' < mN ∧ j' ≠ mLaw ∧ ((mRm j').cells = 0 ∨ wLS h.length ls (st.drop (mNp j')) = true) then
        (match kd with
          | 0 => if mCat (st.drop (mNp j')) ≤ 8 then some (.inr (.inr (j', (st.take (mNp j')).reverse, st.drop (mNp j')))) else none
          | _ => (match st.drop (mNp j') with
            | .ref b :: r => (match h[b]? with
              | some (.inr (c, _)) => if c = mO j' ∧ mCat r ≤ 8 then some (.inr (.inr (j', .ref b :: (st.take (mNp j')).reverse, r))) else none
              | _ => none)
            | _ => none))
      else none
    | none => none) else none
def mFin (j ci k : Nat) : Bool := match vwCl[ci]? with
  | some (_, T, _) => !(T k).2.2.2 || (decide (mKd j = 2) && decide (mO j = ci))
  | none => false
def mPutF (j idx len pc : Nat) (ls : mLoc) (st : List Value) (h : mHeap) (cu su : Nat) : Option mOut :=
  if len = 3 then (match mF (mO j) idx, st with
    | some (ci, k), v :: .ref a :: r =>
      if ((mKi ci k = 3 ∧ mok 0 v = true ∧ narrow .boolean v = v ∧ fits .boolean v = true) ∨ (mKi ci k < 3 ∧ mok (mKi ci k) v = true)) ∧ mFin j ci k = true then
        (match cPut h a ci k v with
            | some h' => mnx (pc + 3) ls r h' cu su
            | none => none) else none
    | _, _ => none) else none
def mGetF (j idx len pc : Nat) (ls : mLoc) (st : List Value) (h : mHeap) (cu su : Nat) : Option mOut :=
  if len = 3 then (match mF (mO j) idx, st with
    | some (ci, k), .ref a :: r => (match cFld h a ci k with
      | some v => if mok (if mKi ci k = 3 then 0 else mKi ci k) v = true then mnx (pc + 3) ls (v :: r) h cu su else none
      | none => none)
    | _, _ => none) else none
def mTab (d lo hi : Int) (offs : Array Int) (pc : Nat) (ls : mLoc) (st : List Value) (h : mHeap) (cu su : Nat) : Option mOut := match st with
  | .int x :: r => (match (if x.toInt < lo ∨ hi < x.toInt then some d else offs[(x.toInt - lo).toNat]?) with
    | some o => (match mtg pc o with
      | some t => mnx t ls r h cu su
      | none => none)
    | none => none)
  | _ => none
def mRet (j len : Nat) (st : List Value) : Option mOut :=
  if len = 1 then (match mRt j, st with
    | some .int, [.int v] => some (.inr (.inl (some (.int v))))
    | some .boolean, [.int v] => if narrow .boolean (.int v) = .int v then some (.inr (.inl (some (.int v)))) else none
    | _, _ => none) else none
def mx (j : Nat) (i : Instr) (len pc : Nat) (ls : mLoc) (st : List Value) (h : mHeap) (cu su : Nat) : Option mOut := match i with
  | .aload k => mload 2 k 2 len pc ls st h cu su
  | .aload_n k => mload 2 k 1 len pc ls st h cu su
  | .iload k => mload 0 k 2 len pc ls st h cu su
  | .iload_n k => mload 0 k 1 len pc ls st h cu su
  | .lload k => mload 1 k 2 len pc ls st h cu su
  | .lload_n k => mload 1 k 1 len pc ls st h cu su
  | .astore k => mstore 2 k 2 len pc ls st h cu su
  | .astore_n k => mstore 2 k 1 len pc ls st h cu su
  | .istore k => mstore 0 k 2 len pc ls st h cu su
  | .istore_n k => mstore 0 k 1 len pc ls st h cu su
  | .lstore k => mstore 1 k 2 len pc ls st h cu su
  | .lstore_n k => mstore 1 k 1 len pc ls st h cu su
  | .iconst n => mpush (.int (Int32.ofInt n)) 1 len pc ls st h cu su
  | .bipush n => mpush (.int (Int8.ofInt n).toInt32) 2 len pc ls st h cu su
  | .sipush n => mpush (.int (Int16.ofInt n).toInt32) 3 len pc ls st h cu su
  | .lconst n => mpush (.long (Int64.ofNat (n : Nat))) 1 len pc ls st h cu su
  | .ldc2_w k => (match mK (mO j) k with
    | some v => mpush (.long v) 3 len pc ls st h cu su
    | none => none)
  | .getstatic k => if mGl.contains (mO j, k) = true then mpush (.ref 0) 3 len pc ls st h cu su else none
  | .iadd => mbi (fun x y => some (x + y)) len pc ls st h cu su
  | .isub => mbi (fun x y => some (x - y)) len pc ls st h cu su
  | .imul => mbi (fun x y => some (x * y)) len pc ls st h cu su
  | .idiv => mbi (fun x y => if y = 0 then none else some (x / y)) len pc ls st h cu su
  | .irem => mbi (fun x y => if y = 0 then none else some (x - x / y * y)) len pc ls st h cu su
  | .iand => mbi (fun x y => some (x &&& y)) len pc ls st h cu su
  | .ior => mbi (fun x y => some (x ||| y)) len pc ls st h cu su
  | .ixor => mbi (fun x y => some (x ^^^ y)) len pc ls st h cu su
  | .ishl => mbi (fun x y => some (x <<< (y &&& 31))) len pc ls st h cu su
  | .ishr => mbi (fun x y => some (x >>> (y &&& 31))) len pc ls st h cu su
  | .ladd => mbl (fun x y => some (x + y)) len pc ls st h cu su
  | .lmul => mbl (fun x y => some (x * y)) len pc ls st h cu su
  | .ldiv => mbl (fun x y => if y = 0 then none else some (x / y)) len pc ls st h cu su
  | .lrem => mbl (fun x y => if y = 0 then none else some (x - x / y * y)) len pc ls st h cu su
  | .lor => mbl (fun x y => some (x ||| y)) len pc ls st h cu su
  | .lshl => mbs (fun x y => x <<< (y.toInt64 &&& 63)) len pc ls st h cu su
  | .lshr => mbs (fun x y => x >>> (y.toInt64 &&& 63)) len pc ls st h cu su
  | .ineg => mui (fun x => .int (-x)) len pc ls st h cu su
  | .i2b => mui (fun x => .int x.toInt8.toInt32) len pc ls st h cu su
  | .i2l => mui (fun x => .long x.toInt64) len pc ls st h cu su
  | .l2i => if len = 1 then (match st with
    | .long x :: r => mnx (pc + 1) ls (.int x.toInt32 :: r) h cu su
    | _ => none) else none
  | .lcmp => if len = 1 then (match st with
    | .long y :: .long x :: r => mnx (pc + 1) ls (.int (lg_cmp x y) :: r) h cu su
    | _ => none) else none
  | .iinc k n => if len = 3 then (match mget ls k with
    | some (.int x) => (match mst ls k (.int (x + Int32.ofInt n)) with
      | some ls' => mnx (pc + 3) ls' st h cu su
      | none => none)
    | _ => none) else none
  | .goto o => if len = 3 then (match mtg pc o with
    | some t => mnx t ls st h cu su
    | none => none) else none
  | .ifCond .eq o => mif1 (fun x => decide (x = 0)) o len pc ls st h cu su
  | .ifCond .ne o => mif1 (fun x => decide (¬ x = 0)) o len pc ls st h cu su
  | .ifCond .lt o => mif1 (fun x => decide (x < 0)) o len pc ls st h cu su
  | .ifCond .ge o => mif1 (fun x => decide (0 ≤ x)) o len pc ls st h cu su
  | .ifCond .gt o => mif1 (fun x => decide (0 < x)) o len pc ls st h cu su
  | .ifCond .le o => mif1 (fun x => decide (x ≤ 0)) o len pc ls st h cu su
  | .if_icmp .eq o => mif2 (fun x y => decide (x = y)) o len pc ls st h cu su
  | .if_icmp .ne o => mif2 (fun x y => decide (¬ x = y)) o len pc ls st h cu su
  | .if_icmp .lt o => mif2 (fun x y => decide (x < y)) o len pc ls st h cu su
  | .if_icmp .ge o => mif2 (fun x y => decide (y ≤ x)) o len pc ls st h cu su
  | .if_icmp .gt o => mif2 (fun x y => decide (y < x)) o len pc ls st h cu su
  | .if_icmp .le o => mif2 (fun x y => decide (x ≤ y)) o len pc ls st h cu su
  | .dup => if len = 1 then (match st with
    | v :: r => if v.category = 1 then mnx (pc + 1) ls (v :: v :: r) h cu su else none
    | _ => none) else none
  | .dup2 => if len = 1 then (match st with
    | v :: w :: r => if v.category = 1 ∧ w.category = 1 then mnx (pc + 1) ls (v :: w :: v :: w :: r) h cu su else none
    | _ => none) else none
  | .getfield k => mGetF j k len pc ls st h cu su
  | .putfield k => mPutF j k len pc ls st h cu su
  | .iaload => if len = 1 then (match st with
    | .int i :: .ref a :: r => (match cAldI (j == mLaw) h a i with
      | some x => mnx (pc + 1) ls (.int x :: r) h cu su
      | none => none)
    | _ => none) else none
  | .iastore => if len = 1 then (match st with
    | .int x :: .int i :: .ref a :: r => (match cAstI h a i x with
      | some h' => mnx (pc + 1) ls r h' cu su
      | none => none)
    | _ => none) else none
  | .baload => if len = 1 then (match st with
    | .int i :: .ref a :: r => (match cAldB h a i with
      | some x => mnx (pc + 1) ls (.int x :: r) h cu su
      | none => none)
    | _ => none) else none
  | .bastore => if len = 1 then (match st with
    | .int x :: .int i :: .ref a :: r => (match cAstB h a i x with
      | some h' => mnx (pc + 1) ls r h' cu su
      | none => none)
    | _ => none) else none
  | .laload => if len = 1 then (match st with
    | .int i :: .ref a :: r => (match cAldL h a i with
      | some x => mnx (pc + 1) ls (.long x :: r) h cu su
      | none => none)
    | _ => none) else none
  | .lastore => if len = 1 then (match st with
    | .long x :: .int i :: .ref a :: r => (match cAstL h a i x with
      | some h' => mnx (pc + 1) ls r h' cu su
      | none => none)
    | _ => none) else none
  | .aaload => if len = 1 then (match st with
    | .int i :: .ref a :: r => (match cAldR h a i with
      | some x => mnx (pc + 1) ls (.ref x :: r) h cu su
      | none => none)
    | _ => none) else none
  | .aastore => if len = 1 then (match st with
    | .ref x :: .int i :: .ref a :: r => (match cAstR h a i x with
      | some h' => mnx (pc + 1) ls r h' cu su
      | none => none)
    | _ => none) else none
  | .arraylength => if len = 1 then (match st with
    | .ref a :: r => (match cLen (j == mLaw) h a with
      | some x => mnx (pc + 1) ls (.int x :: r) h cu su
      | none => none)
    | _ => none) else none
  | .newarray a => if len = 2 then (match st with
    | .int n :: r => if n < 0 ∨ 600000 < n.toNatClampNeg then none else (match mArr a n.toNatClampNeg with
      | some c => mNew j c n.toNatClampNeg 2 pc ls r h cu su
      | none => none)
    | _ => none) else none
  | .anewarray k => if len = 3 then (match mC (mO j) k, st with
    | some ci, .int n :: r => if n < 0 ∨ 600000 < n.toNatClampNeg ∨ ¬ (ci = 6 ∨ ci = 3) then none else mNew j (.inl (if ci = 6 then 3 else 4, n.toNatClampNeg, .inr (.inr (.inr (.inr (fun _ => none)))))) n.toNatClampNeg 3 pc ls r h cu su
    | _, _ => none) else none
  | .new k => if len = 3 then (match mC (mO j) k with
    | some ci => (match vwCl[ci]? with
      | some (_, _, N) => mNew j (.inr (ci, mZero ci)) N 3 pc ls st h cu su
      | none => none)
    | none => none) else none
  | .invokestatic k => mCall j 0 k len pc ls st h cu su
  | .invokevirtual k => mCall j 1 k len pc ls st h cu su
  | .invokespecial k => mCall j 2 k len pc ls st h cu su
  | .tableswitch d lo hi offs => mTab d lo hi offs pc ls st h cu su
  | .ireturn => mRet j len st
  | .lreturn => if len = 1 then (match mRt j, st with
    | some .long, [.long v] => some (.inr (.inl (some (.long v))))
    | _, _ => none) else none
  | .return_ => if len = 1 then (match mRt j, st with
    | none, [] => some (.inr (.inl none))
    | _, _ => none) else none
  | _ => none
/-- a method's locals at its entry -/
def mArg : List Value → mLoc
  | [] => []
  | v :: r => if v.category = 2 then some v :: none :: mArg r else some v :: mArg r
def mEnt (j : Nat) (vs : List Value) : mLoc := mArg vs ++ List.replicate (mL j - (mArg vs).length) none
def mAns (r : Option Value) (rest : List Value) : List Value := r.toList ++ rest
def run : Nat → Nat → Nat → mLoc → List Value → mHeap → Nat → Nat → Option (Option Value × mHeap)
  | 0, _, _, _, _, _, _, _ => none
  | n + 1, j, pc, ls, st, h, cu, su => match decode (mB j) pc with
    | .ok (i, len) => (match mx j i len pc ls st h cu su with
      | some (.inl (pc', ls', st', h', cu', su')) => run n j pc' ls' st' h' cu' su'
      | some (.inr (.inl v)) => some (v, h)
      | some (.inr (.inr (j', as, rest))) => if (mArg as).length ≤ mL j' then (match run n j' 0 (mEnt j' as) [] h 0 0 with
        | some (v, h') => run n j (pc + 3) ls (mAns v rest) h' (cu + (mRm j').cells) (su + (mRm j').slots)
        | none => none) else none
      | none => none)
    | _ => none
end
section
/-! the small machine's cells as the kit's world -/
def trV (ad : Nat → Nat) : Value → Value
  | .ref k => .ref (ad k)
  | v => v
def trA (ad : Nat → Nat) : vp_A → vp_A
  | (n, .inr (.inr (.inr (.inr f)))) => (n, .inr (.inr (.inr (.inr (fun i => if i < n then (f i).map ad else none)))))
  | a => a
def trE (ad : Nat → Nat) (cT : Nat → ClassId) : mCell → va_E
  | .inl (t, a) => .inl (cT t, trA ad a)
  | .inr (ci, fs) => .inr (ci, fs.map (trV ad))
def mW (ad : Nat → Nat) (cT : Nat → ClassId) (h : mHeap) : va_W := (h.drop 2).mapIdx (fun k c => (ad (k + 2), trE ad cT c))
theorem mW_at {ad : Nat → Nat} {cT : Nat → ClassId} {h : mHeap} (k : Nat) : (mW ad cT h)[k]? = (h[k + 2]?).map (fun c => (ad (k + 2), trE ad cT c)) := by
  unfold mW
  rw [List.getElem?_mapIdx, List.getElem?_drop, Nat.add_comm 2 k]
theorem mW_get {ad : Nat → Nat} {cT : Nat → ClassId} {h : mHeap} {a : Nat} {c : mCell} (ha : 2 ≤ a) (hc : h[a]? = some c) : (mW ad cT h)[a - 2]? = some (ad a, trE ad cT c) := by
  rw [mW_at, Nat.sub_add_cancel ha, hc]
  rfl
theorem mW_set {ad : Nat → Nat} {cT : Nat → ClassId} {h : mHeap} {a : Nat} {c : mCell} (ha : 2 ≤ a) : mW ad cT (h.set a c) = (mW ad cT h).set (a - 2) (ad a, trE ad cT c) := by
  apply List.ext_getElem?
  intro k
  rw [mW_at, List.getElem?_set, List.getElem?_set, mW_at]
  by_cases hk : a = k + 2
  · subst hk
    have e : k + 2 - 2 = k := by omega
    simp only [e, if_true]
    have hl : (mW ad cT h).length = h.length - 2 := by simp [mW]
    by_cases hh : k + 2 < h.length
    · rw [if_pos hh, if_pos (by omega)]
      rfl
    · rw [if_neg hh, if_neg (by omega)]
      rfl
  · have hk2 : ¬ a - 2 = k := by omega
    rw [if_neg hk, if_neg hk2]
theorem trV_cat (ad : Nat → Nat) (v : Value) : (trV ad v).category = v.category := by cases v <;> rfl
theorem trV_same {ad ad' : Nat → Nat} {n : Nat} (hh : ∀ k, k < n → ad' k = ad k) {v : Value} (hv : wV n v = true) : trV ad' v = trV ad v := by
  cases v with
  | ref k => simp only [wV, decide_eq_true_eq] at hv; simp only [trV, hh k hv]
  | _ => rfl
theorem trVs_same {ad ad' : Nat → Nat} {n : Nat} (hh : ∀ k, k < n → ad' k = ad k) {vs : List Value} (hv : vs.all (wV n) = true) : vs.map (trV ad') = vs.map (trV ad) :=
  List.map_congr_left (fun v h => trV_same hh (List.all_eq_true.mp hv v h))
theorem trE_same {ad ad' : Nat → Nat} {cT : Nat → ClassId} {n : Nat} (hh : ∀ k, k < n → ad' k = ad k) {c : mCell} (hc : wC n c = true) : trE ad' cT c = trE ad cT c := by
  match c, hc with
  | .inr (ci, fs), hc => simp only [trE]; rw [trVs_same hh hc]
  | .inl (t, m, .inl f), _ => rfl
  | .inl (t, m, .inr (.inl f)), _ => rfl
  | .inl (t, m, .inr (.inr (.inl f))), _ => rfl
  | .inl (t, m, .inr (.inr (.inr (.inl f)))), _ => rfl
  | .inl (t, m, .inr (.inr (.inr (.inr f)))), hc =>
    simp only [trE, trA]
    congr 7
    funext i
    by_cases hi : i < m
    · rw [if_pos hi, if_pos hi]
      have h1 := List.all_eq_true.mp hc i (List.mem_range.mpr hi)
      cases hf : f i with
      | none => rfl
      | some k =>
        rw [hf] at h1
        simp only [decide_eq_true_eq] at h1
        simp only [Option.map_some, hh k h1]
    · rw [if_neg hi, if_neg hi]
theorem mW_push {ad ad' : Nat → Nat} {cT : Nat → ClassId} {h : mHeap} {q : Nat} {c : mCell} (h2 : 2 ≤ h.length) (hh : ∀ k, k < h.length → ad' k = ad k) (hq : ad' h.length = q) (hw : wH h = true) : mW ad' cT (h ++ [c]) = mW ad cT h ++ [(q, trE ad' cT c)] := by
  have hl : (mW ad cT h).length = h.length - 2 := by simp [mW]
  apply List.ext_getElem?
  intro k
  rw [mW_at]
  by_cases hk : k + 2 < h.length
  · rw [List.getElem?_append_left hk, List.getElem?_append_left (by omega), mW_at]
    cases hc : h[k + 2]? with
    | none => rfl
    | some d =>
      simp only [Option.map_some]
      rw [hh _ hk, trE_same hh (List.all_eq_true.mp hw d (List.mem_of_getElem? hc))]
  · rw [List.getElem?_append_right (by omega), List.getElem?_append_right (by omega), hl]
    by_cases hk2 : k + 2 = h.length
    · have e1 : k + 2 - h.length = 0 := by omega
      have e2 : k - (h.length - 2) = 0 := by omega
      rw [e1, e2, hk2, hq]
      rfl
    · have e1 : k + 2 - h.length = (k + 1 - h.length) + 1 := by omega
      have e2 : k - (h.length - 2) = (k + 1 - h.length) + 1 := by omega
      rw [e1, e2]
      rfl
/-- the locals -/
def lvl (ad : Nat → Nat) : Nat → mLoc → List (Nat × Value)
  | _, [] => []
  | i, some v :: r => (i, trV ad v) :: lvl ad (i + 1) r
  | i, none :: r => lvl ad (i + 1) r
theorem lvl_of {ad : Nat → Nat} : ∀ (ls : mLoc) (i : Nat) {q : Nat × Value}, q ∈ lvl ad i ls → ∃ (k : Nat) (v : Value), q = (i + k, trV ad v) ∧ ls[k]? = some (some v)
  | [], _, _, h => by simp [lvl] at h
  | some v :: r, i, q, h => by
    simp only [lvl, List.mem_cons] at h
    rcases h with h | h
    · exact ⟨0, v, h, rfl⟩
    · obtain ⟨k, w, e, hk⟩ := lvl_of r (i + 1) h
      exact ⟨k + 1, w, by rw [e]; simp; omega, by simpa using hk⟩
  | none :: r, i, q, h => by
    simp only [lvl] at h
    obtain ⟨k, w, e, hk⟩ := lvl_of r (i + 1) h
    exact ⟨k + 1, w, by rw [e]; simp; omega, by simpa using hk⟩
theorem lvl_in {ad : Nat → Nat} : ∀ (ls : mLoc) (i k : Nat) {v : Value}, ls[k]? = some (some v) → (i + k, trV ad v) ∈ lvl ad i ls
  | [], _, _, _, h => by simp at h
  | some w :: r, i, 0, v, h => by
    simp only [List.getElem?_cons_zero, Option.some.injEq] at h
    subst h
    simp [lvl]
  | none :: r, i, 0, v, h => by simp at h
  | some w :: r, i, k + 1, v, h => by
    simp only [List.getElem?_cons_succ] at h
    have := lvl_in (ad := ad) r (i + 1) k h
    simp only [lvl, List.mem_cons]
    exact Or.inr (by rw [show i + (k + 1) = i + 1 + k by omega]; exact this)
  | none :: r, i, k + 1, v, h => by
    simp only [List.getElem?_cons_succ] at h
    have := lvl_in (ad := ad) r (i + 1) k h
    simp only [lvl]
    rw [show i + (k + 1) = i + 1 + k by omega]
    exact this
def mHs (LS : Array Slot) (n : Nat) (ad : Nat → Nat) (ls : mLoc) : Prop := ls.length = n ∧ lv_has LS n (lvl ad 0 ls)
theorem mHs.at {LS : Array Slot} {n : Nat} {ad : Nat → Nat} {ls : mLoc} (h : mHs LS n ad ls) {k : Nat} {v : Value} (hk : mget ls k = some v) : LS[k]? = some (.val (trV ad v)) := by
  have h1 : ls[k]? = some (some v) := by
    unfold mget at hk
    cases hl : ls[k]? with
    | none => rw [hl] at hk; cases hk
    | some x => rw [hl] at hk; simp at hk; rw [hk]
  have h2 := h.2.2.2 _ (lvl_in ls 0 k h1)
  simpa using h2
theorem mHs.of {LS : Array Slot} {n : Nat} {ad : Nat → Nat} {ls : mLoc} {lv : List (Nat × Value)} (h : lv_has LS n lv) (hl : ls.length = n) (hin : ∀ (k : Nat) (v : Value), ls[k]? = some (some v) → (k, trV ad v) ∈ lv) : mHs LS n ad ls := by
  refine ⟨hl, h.1, h.2.1, fun q hq => ?_⟩
  obtain ⟨k, v, e, hk⟩ := lvl_of ls 0 hq
  rw [e, Nat.zero_add]
  exact h.2.2 _ (hin k v hk)
theorem mkil_len (ls : mLoc) (i : Nat) : (mkil ls i).length = ls.length := by
  unfold mkil
  split
  · rfl
  · split
    · split <;> simp
    · rfl
theorem mkil_at {ls : mLoc} {i k : Nat} {v : Value} (h : (mkil ls i)[k]? = some (some v)) : ls[k]? = some (some v) ∧ ¬ (k + 1 = i ∧ v.category = 2) := by
  unfold mkil at h
  split at h
  · exact ⟨h, by omega⟩
  · rename_i k0
    split at h
    · rename_i w hw
      split at h
      · rename_i hcat
        rw [List.getElem?_set] at h
        by_cases e : k0 = k
        · rw [if_pos e] at h
          split at h <;> cases h
        · rw [if_neg e] at h
          exact ⟨h, by omega⟩
      · rename_i hcat
        refine ⟨h, fun q => ?_⟩
        have e : k0 = k := by omega
        subst e
        rw [hw] at h
        cases h
        exact hcat q.2
    · rename_i hno
      refine ⟨h, fun q => ?_⟩
      have e : k0 = k := by omega
      subst e
      exact hno _ h
theorem mst_1 {LS LS' : Array Slot} {n i : Nat} {ad : Nat → Nat} {ls ls' : mLoc} {v : Value} (hH : mHs LS n ad ls) (hm : mst ls i v = some ls') (hc : ¬ v.category = 2)
    (h : lv_has LS' n ((i, trV ad v) :: (lvl ad 0 ls).filter (fun q => !(q.1 == i) && !(q.1 + 1 == i && q.2.category == 2)))) : mHs LS' n ad ls' := by
  unfold mst at hm
  rw [if_neg hc] at hm
  split at hm
  · rename_i hi
    cases hm
    refine mHs.of h (by rw [List.length_set, mkil_len]; exact hH.1) (fun k w hk => ?_)
    rw [List.getElem?_set] at hk
    by_cases e : i = k
    · subst e
      rw [if_pos rfl, if_pos (by rw [mkil_len]; exact hi)] at hk
      cases hk
      exact List.mem_cons_self
    · rw [if_neg e] at hk
      obtain ⟨h1, h2⟩ := mkil_at hk
      refine List.mem_cons_of_mem _ (List.mem_filter.mpr ⟨by have := lvl_in (ad := ad) ls 0 k h1; simpa using this, ?_⟩)
      simp only [Bool.and_eq_true, Bool.not_eq_true', beq_eq_false_iff_ne, ne_eq, Bool.and_eq_false_iff, trV_cat]
      exact ⟨fun z => e z.symm, by
        by_cases z : k + 1 = i
        · exact Or.inr (fun y => h2 ⟨z, y⟩)
        · exact Or.inl z⟩
  · cases hm
theorem mst_2 {LS LS' : Array Slot} {n i : Nat} {ad : Nat → Nat} {ls ls' : mLoc} {v : Value} (hH : mHs LS n ad ls) (hm : mst ls i v = some ls') (hc : v.category = 2)
    (h : lv_has LS' n ((i, trV ad v) :: (lvl ad 0 ls).filter (fun q => !(q.1 == i) && (!(q.1 == i + 1) && !(q.1 + 1 == i && q.2.category == 2))))) : mHs LS' n ad ls' := by
  unfold mst at hm
  rw [if_pos hc] at hm
  split at hm
  · rename_i hi
    cases hm
    refine mHs.of h (by rw [List.length_set, List.length_set, mkil_len]; exact hH.1) (fun k w hk => ?_)
    rw [List.getElem?_set] at hk
    by_cases e1 : i + 1 = k
    · rw [if_pos e1] at hk
      split at hk <;> cases hk
    · rw [if_neg e1, List.getElem?_set] at hk
      by_cases e : i = k
      · subst e
        rw [if_pos rfl, if_pos (by rw [mkil_len]; omega)] at hk
        cases hk
        exact List.mem_cons_self
      · rw [if_neg e] at hk
        obtain ⟨h1, h2⟩ := mkil_at hk
        refine List.mem_cons_of_mem _ (List.mem_filter.mpr ⟨by have := lvl_in (ad := ad) ls 0 k h1; simpa using this, ?_⟩)
        simp only [Bool.and_eq_true, Bool.not_eq_true', beq_eq_false_iff_ne, ne_eq, Bool.and_eq_false_iff, trV_cat]
        exact ⟨fun z => e z.symm, fun z => e1 z.symm, by
          by_cases z : k + 1 = i
          · exact Or.inr (fun y => h2 ⟨z, y⟩)
          · exact Or.inl z⟩
  · cases hm
theorem mst_lt1 {n i : Nat} {ls ls' : mLoc} {v : Value} (hl : ls.length = n) (hm : mst ls i v = some ls') : i < n := by
  unfold mst at hm
  split at hm
  · split at hm
    · omega
    · cases hm
  · split at hm
    · omega
    · cases hm
theorem mst_lt2 {n i : Nat} {ls ls' : mLoc} {v : Value} (hl : ls.length = n) (hm : mst ls i v = some ls') (hc : v.category = 2) : i + 1 < n := by
  unfold mst at hm
  rw [if_pos hc] at hm
  split at hm
  · omega
  · cases hm
theorem mHs.same {LS : Array Slot} {n k : Nat} {ad ad' : Nat → Nat} {ls : mLoc} (h : mHs LS n ad ls) (hh : ∀ i, i < k → ad' i = ad i) (hw : ls.all (fun v => match v with
  | some v => wV k v
  | none => true) = true) : mHs LS n ad' ls := by
  refine ⟨h.1, h.2.1, h.2.2.1, fun q hq => ?_⟩
  obtain ⟨i, v, e, hi⟩ := lvl_of ls 0 hq
  have h1 := List.all_eq_true.mp hw _ (List.mem_of_getElem? hi)
  rw [e, trV_same hh h1]
  exact h.2.2.2 _ (lvl_in ls 0 i hi)
end
section
/-! each instruction of the small machine is the machine's -/
def mTyl (cT : Nat → ClassId) : List (ClassId × FieldType) := [(cT 0, .int), (cT 1, .byte), (cT 2, .long), (cT 3, .object RX6), (cT 4, .object RX3)]
def mPart : Nat → Int32 := fun k => ([0, 840, 420, 280, 210, 168, 140, 120, 105] : List Int32).getD k 0
def mE (cT dC : Nat → ClassId) (dI : Nat → Nat → Nat) (t : Nat) (A : Nat → Prop) (U : State) : Prop :=
  va_K (dC, dI) vwCl (mTyl cT) U ∧ (∀ w ∈ mNest, va_Nw w U) ∧ (va_AO RX6 U ∧ va_AO RX3 U) ∧ va_Z "SquareGrounds" "PART_OF_WHOLE" "[I" (.ref t) A U U.heap ∧ va_T .int t 9 (fun k => .int (mPart k)) A U U.heap
def mCx (cT dC : Nat → ClassId) (dI : Nat → Nat → Nat) (t b L : Nat) (xs : Nat → Int32) (A : Nat → Prop) (j : Nat) (p : Program) (s : State) (m : MethodId) (meth : Method) (c : Code) (args : Array Value) : Prop :=
  p.tables.exec = Jvm.exec ∧ c.code = mB j ∧ c.maxLocals = mL j ∧ s.vm.findClass (mR (mO j)) = some m.cls ∧ (∀ w ∈ mG, w.before args s = true) ∧ mE cT dC dI t A s ∧ (∀ q, s.heap.size ≤ q → A q) ∧ (mKd j = 2 → meth.name = "<init>") ∧ (j = mLaw → va_X b L xs s s.heap ∧ b < s.heap.size ∧ ¬ A b)
def mI (cT dC : Nat → ClassId) (dI : Nat → Nat → Nat) (t b L : Nat) (xs : Nat → Int32) (A : Nat → Prop) (s : State) (ad : Nat → Nat) (h : mHeap) (H : Heap) (locs : List Loc) : Prop :=
  ad 0 = t ∧ ad 1 = b ∧ h[0]? = some (.inl (5, 9, .inl mPart)) ∧ h[1]? = some (.inl (6, L, .inl xs)) ∧ va_P (dC, dI) vwCl (mW ad cT h) H ∧ va_D A (mW ad cT h) ∧ va_S A s.heap H locs
theorem mok_0 {v : Value} (h : mok 0 v = true) : ∃ x, v = .int x := by cases v <;> first | exact ⟨_, rfl⟩ | (simp [mok] at h)
theorem mok_1 {v : Value} (h : mok 1 v = true) : ∃ x, v = .long x := by cases v <;> first | exact ⟨_, rfl⟩ | (simp [mok] at h)
theorem mok_2 {v : Value} (h : mok 2 v = true) : ∃ x, v = .ref x := by cases v <;> first | exact ⟨_, rfl⟩ | (simp [mok] at h)
theorem mtg_ok {pc t : Nat} {off : Int} (h : mtg pc off = some t) : (pc : Int) + off = (t : Int) := by
  unfold mtg at h
  split at h
  · cases h; omega
  · cases h
section INV
variable {len pc : Nat} {ls : mLoc} {st : List Value} {h : mHeap} {cu su : Nat} {F : mFr}
theorem mload_inv {kd k l : Nat} (hx : mload kd k l len pc ls st h cu su = some (.inl F)) : len = l ∧ ∃ v, mget ls k = some v ∧ mok kd v = true ∧ F = (pc + l, ls, v :: st, h, cu, su) := by
  unfold mload mnx at hx
  repeat' split at hx
  all_goals first | (cases hx; done) | (cases hx; exact ⟨by assumption, _, by assumption, by assumption, rfl⟩)
theorem mstore_inv {kd k l : Nat} (hx : mstore kd k l len pc ls st h cu su = some (.inl F)) : len = l ∧ ∃ v r ls', st = v :: r ∧ mok kd v = true ∧ mst ls k v = some ls' ∧ F = (pc + l, ls', r, h, cu, su) := by
  unfold mstore mnx at hx
  repeat' split at hx
  all_goals first | (cases hx; done) | (cases hx; exact ⟨by assumption, _, _, _, rfl, by assumption, by assumption, rfl⟩)
theorem mpush_inv {v : Value} {l : Nat} (hx : mpush v l len pc ls st h cu su = some (.inl F)) : len = l ∧ F = (pc + l, ls, v :: st, h, cu, su) := by
  unfold mpush mnx at hx
  repeat' split at hx
  all_goals first | (cases hx; done) | (cases hx; exact ⟨by assumption, rfl⟩)
theorem mbi_inv {f : Int32 → Int32 → Option Int32} (hx : mbi f len pc ls st h cu su = some (.inl F)) : len = 1 ∧ ∃ x y r z, st = .int y :: .int x :: r ∧ f x y = some z ∧ F = (pc + 1, ls, .int z :: r, h, cu, su) := by
  unfold mbi mnx at hx
  repeat' split at hx
  all_goals first | (cases hx; done) | (cases hx; exact ⟨by assumption, _, _, _, _, rfl, by assumption, rfl⟩)
theorem mbl_inv {f : Int64 → Int64 → Option Int64} (hx : mbl f len pc ls st h cu su = some (.inl F)) : len = 1 ∧ ∃ x y r z, st = .long y :: .long x :: r ∧ f x y = some z ∧ F = (pc + 1, ls, .long z :: r, h, cu, su) := by
  unfold mbl mnx at hx
  repeat' split at hx
  all_goals first | (cases hx; done) | (cases hx; exact ⟨by assumption, _, _, _, _, rfl, by assumption, rfl⟩)
theorem mbs_inv {f : Int64 → Int32 → Int64} (hx : mbs f len pc ls st h cu su = some (.inl F)) : len = 1 ∧ ∃ x y r, st = .int y :: .long x :: r ∧ F = (pc + 1, ls, .long (f x y) :: r, h, cu, su) := by
  unfold mbs mnx at hx
  repeat' split at hx
  all_goals first | (cases hx; done) | (cases hx; exact ⟨by assumption, _, _, _, rfl, rfl⟩)
theorem mui_inv {f : Int32 → Value} (hx : mui f len pc ls st h cu su = some (.inl F)) : len = 1 ∧ ∃ x r, st = .int x :: r ∧ F = (pc + 1, ls, f x :: r, h, cu, su) := by
  unfold mui mnx at hx
  repeat' split at hx
  all_goals first | (cases hx; done) | (cases hx; exact ⟨by assumption, _, _, rfl, rfl⟩)
theorem mif1_inv {f : Int32 → Bool} {off : Int} (hx : mif1 f off len pc ls st h cu su = some (.inl F)) : len = 3 ∧ ∃ x r t, st = .int x :: r ∧ mtg pc off = some t ∧ F = (if f x = true then t else pc + 3, ls, r, h, cu, su) := by
  unfold mif1 mnx at hx
  split at hx
  · split at hx
    · split at hx
      · simp only [Option.some.injEq, Sum.inl.injEq] at hx
        exact ⟨by assumption, _, _, _, rfl, by assumption, hx.symm⟩
      · cases hx
    · cases hx
  · cases hx
theorem mif2_inv {f : Int32 → Int32 → Bool} {off : Int} (hx : mif2 f off len pc ls st h cu su = some (.inl F)) : len = 3 ∧ ∃ x y r t, st = .int y :: .int x :: r ∧ mtg pc off = some t ∧ F = (if f x y = true then t else pc + 3, ls, r, h, cu, su) := by
  unfold mif2 mnx at hx
  split at hx
  · split at hx
    · split at hx
      · simp only [Option.some.injEq, Sum.inl.injEq] at hx
        exact ⟨by assumption, _, _, _, _, rfl, by assumption, hx.symm⟩
      · cases hx
    · cases hx
  · cases hx
theorem mGetF_inv {j idx : Nat} (hx : mGetF j idx len pc ls st h cu su = some (.inl F)) : len = 3 ∧ ∃ ci k a r v, mF (mO j) idx = some (ci, k) ∧ st = .ref a :: r ∧ cFld h a ci k = some v ∧ F = (pc + 3, ls, v :: r, h, cu, su) := by
  unfold mGetF mnx at hx
  split at hx
  · split at hx
    · split at hx
      · generalize (if mKi _ _ = 3 then 0 else mKi _ _) = z at hx
        split at hx
        · cases hx
          exact ⟨by assumption, _, _, _, _, _, by assumption, rfl, by assumption, rfl⟩
        · cases hx
      · cases hx
    · cases hx
  · cases hx
theorem cFld_inv {a ci k : Nat} {v : Value} (hx : cFld h a ci k = some v) : ∃ fs, h[a]? = some (.inr (ci, fs)) ∧ fs[k]? = some v := by
  unfold cFld at hx
  split at hx
  · split at hx
    · rename_i e; subst e; exact ⟨_, by assumption, hx⟩
    · cases hx
  · cases hx
theorem cPut_inv {a ci k : Nat} {v : Value} {h' : mHeap} (hx : cPut h a ci k v = some h') : ∃ fs, h[a]? = some (.inr (ci, fs)) ∧ k < fs.length ∧ h' = h.set a (.inr (ci, fs.set k v)) := by
  unfold cPut at hx
  split at hx
  · split at hx
    · rename_i e; obtain ⟨e, e2⟩ := e; subst e; cases hx; exact ⟨_, by assumption, e2, rfl⟩
    · cases hx
  · cases hx
theorem mPutF_inv {j idx : Nat} (hx : mPutF j idx len pc ls st h cu su = some (.inl F)) : len = 3 ∧ ∃ ci k a r v h', mF (mO j) idx = some (ci, k) ∧ st = v :: .ref a :: r ∧ (((mKi ci k = 3 ∧ mok 0 v = true ∧ narrow .boolean v = v ∧ fits .boolean v = true) ∨ (mKi ci k < 3 ∧ mok (mKi ci k) v = true)) ∧ mFin j ci k = true) ∧ cPut h a ci k v = some h' ∧ F = (pc + 3, ls, r, h', cu, su) := by
  unfold mPutF mnx at hx
  split at hx
  · split at hx
    · split at hx
      · split at hx
        · cases hx
          exact ⟨by assumption, _, _, _, _, _, _, by assumption, rfl, by assumption, by assumption, rfl⟩
        · cases hx
      · cases hx
    · cases hx
  · cases hx
theorem mTab_inv {d lo hi : Int} {offs : Array Int} (hx : mTab d lo hi offs pc ls st h cu su = some (.inl F)) : ∃ x r o t, st = .int x :: r ∧ (if x.toInt < lo ∨ hi < x.toInt then some d else offs[(x.toInt - lo).toNat]?) = some o ∧ mtg pc o = some t ∧ F = (t, ls, r, h, cu, su) := by
  unfold mTab mnx at hx
  split at hx
  · split at hx
    · split at hx
      · cases hx
        exact ⟨_, _, _, _, rfl, by assumption, by assumption, rfl⟩
      · cases hx
    · cases hx
  · cases hx
theorem mNew_inv {j n l : Nat} {c : mCell} (hx : mNew j c n l pc ls st h cu su = some (.inl F)) : (cu + 1 ≤ (mRm j).cells ∧ su + n ≤ (mRm j).slots ∧ wLS h.length ls st = true ∧ wH h = true ∧ 2 ≤ h.length) ∧ F = (pc + l, ls, .ref h.length :: st, h ++ [c], cu + 1, su + n) := by
  unfold mNew at hx
  split at hx
  · cases hx; exact ⟨by assumption, rfl⟩
  · cases hx
end INV
theorem find_ok {α : Type} {P : α → Bool} {l : List α} {x : α} (h : l.find? P = some x) : x ∈ l ∧ P x = true := ⟨List.mem_of_find?_eq_some h, List.find?_some h⟩
theorem mF_ok {o i ci k : Nat} (h : mF o i = some (ci, k)) : ∃ C T N, vwCl[ci]? = some (C, T, N) ∧ k < N ∧ Cond.fieldLink (mR o) i (T k).1 (T k).2.1 (T k).2.2.1 ∈ mG := by
  unfold mF at h
  cases hf : mFl.find? (fun e => e.1 == o && e.2.1 == i) with
  | none => rw [hf] at h; cases h
  | some e =>
    rw [hf] at h
    obtain ⟨h1, h2⟩ := find_ok hf
    simp only [Option.map_some, Option.some.injEq] at h
    simp only [Bool.and_eq_true, beq_iff_eq] at h2
    have h3 := List.all_eq_true.mp mChF_ok e h1
    unfold mChF at h3
    rw [h2.1, h2.2, h] at h3
    dsimp only at h3
    cases hv : vwCl[ci]? with
    | none => rw [hv] at h3; cases h3
    | some q =>
      obtain ⟨C, T, N⟩ := q
      rw [hv] at h3
      simp only [Bool.and_eq_true, decide_eq_true_eq] at h3
      exact ⟨C, T, N, rfl, h3.1, h3.2⟩
theorem mK_ok {o i : Nat} {v : Int64} (h : mK o i = some v) : Cond.constantLong (mR o) i v ∈ mG := by
  unfold mK at h
  cases hf : mKl.find? (fun e => e.1 == o && e.2.1 == i) with
  | none => rw [hf] at h; cases h
  | some e =>
    rw [hf] at h
    obtain ⟨h1, h2⟩ := find_ok hf
    simp only [Option.map_some, Option.some.injEq] at h
    simp only [Bool.and_eq_true, beq_iff_eq] at h2
    have h3 := List.all_eq_true.mp mChK_ok e h1
    rw [h2.1, h2.2, h] at h3
    exact of_decide_eq_true h3
theorem mC_ok {o i ci : Nat} (h : mC o i = some ci) : ∃ C T N, vwCl[ci]? = some (C, T, N) ∧ Cond.classLink (mR o) i C ∈ mG ∧ Cond.instantiable C N ∈ mG ∧ Cond.initialized C ∈ mG := by
  unfold mC at h
  cases hf : mCl.find? (fun e => e.1 == o && e.2.1 == i) with
  | none => rw [hf] at h; cases h
  | some e =>
    rw [hf] at h
    obtain ⟨h1, h2⟩ := find_ok hf
    simp only [Option.map_some, Option.some.injEq] at h
    simp only [Bool.and_eq_true, beq_iff_eq] at h2
    have h3 := List.all_eq_true.mp mChC_ok e h1
    rw [h2.1, h2.2, h] at h3
    cases hv : vwCl[ci]? with
    | none => rw [hv] at h3; cases h3
    | some q =>
      obtain ⟨C, T, N⟩ := q
      rw [hv] at h3
      simp only [Bool.and_eq_true, decide_eq_true_eq] at h3
      exact ⟨C, T, N, rfl, h3.1.1, h3.1.2, h3.2⟩
theorem mU_ok {ci : Nat} {C : String} {T : u_T} {N : Nat} (h : vwCl[ci]? = some (C, T, N)) : (∀ w ∈ u_ws C T N, w ∈ mG) ∧ (∀ k, k < N → parseFieldDescriptor (T k).2.2.1 = some (mTy ci k)) ∧ (∀ a, a < N → ∀ b, b < N → a ≠ b → (T a).2.1 ≠ (T b).2.1) := by
  have key : ∀ {C : String} {T : u_T} {N : Nat}, (u_ws C T N).all (fun w => decide (w ∈ mG)) = true → ∀ w ∈ u_ws C T N, w ∈ mG := fun h w hw => of_decide_eq_true (List.all_eq_true.mp h w hw)
  match ci, h with
  | 0, h => cases h; exact ⟨key mChU_0, tyX0_ok, nmX0⟩
  | 1, h => cases h; exact ⟨key mChU_1, tyX1_ok, nmX1⟩
  | 2, h => cases h; exact ⟨key mChU_2, tyX2_ok, nmX2⟩
  | 3, h => cases h; exact ⟨key mChU_3, tyX3_ok, nmX3⟩
  | 4, h => cases h; exact ⟨key mChU_4, tyX4_ok, nmX4⟩
  | 5, h => cases h; exact ⟨key mChU_5, tyX5_ok, nmX5⟩
  | 6, h => cases h; exact ⟨key mChU_6, tyX6_ok, nmX6⟩
  | 7, h => cases h; exact ⟨key mChU_7, tyX7_ok, nmX7⟩
  | 8, h => cases h; exact ⟨key mChU_8, tyX8_ok, nmX8⟩
  | n + 9, h => simp [vwCl] at h
theorem put_ok {ad : Nat → Nat} {ci k : Nat} {v : Value} (h : (mKi ci k = 3 ∧ mok 0 v = true ∧ narrow .boolean v = v ∧ fits .boolean v = true) ∨ (mKi ci k < 3 ∧ mok (mKi ci k) v = true)) : narrow (mTy ci k) (trV ad v) = trV ad v ∧ fits (mTy ci k) (trV ad v) = true := by
  rcases h with ⟨h1, h2, h3, h4⟩ | ⟨h1, h2⟩
  · obtain ⟨x, rfl⟩ := mok_0 h2
    unfold mKi at h1
    cases ht : mTy ci k with
    | boolean => exact ⟨h3, h4⟩
    | _ => rw [ht] at h1; simp at h1
  · unfold mKi at h1 h2
    cases ht : mTy ci k with
    | int =>
      rw [ht] at h2
      obtain ⟨x, rfl⟩ := mok_0 h2
      exact ⟨rfl, rfl⟩
    | long =>
      rw [ht] at h2
      obtain ⟨x, rfl⟩ := mok_1 h2
      exact ⟨rfl, rfl⟩
    | object C =>
      rw [ht] at h2
      obtain ⟨x, rfl⟩ := mok_2 h2
      exact ⟨rfl, rfl⟩
    | array C =>
      rw [ht] at h2
      obtain ⟨x, rfl⟩ := mok_2 h2
      exact ⟨rfl, rfl⟩
    | _ => rw [ht] at h1; simp at h1
theorem mT_own {ci k : Nat} {C : String} {T : u_T} {N : Nat} (h : vwCl[ci]? = some (C, T, N)) (hk : k < N) : (T k).1 = mR ci := by
  have a0 : ∀ k, k < 7 → (TX0 k).1 = mR 0 := by decide +kernel
  have a1 : ∀ k, k < 7 → (TX1 k).1 = mR 1 := by decide +kernel
  have a2 : ∀ k, k < 2 → (TX2 k).1 = mR 2 := by decide +kernel
  have a3 : ∀ k, k < 6 → (TX3 k).1 = mR 3 := by decide +kernel
  have a4 : ∀ k, k < 5 → (TX4 k).1 = mR 4 := by decide +kernel
  have a5 : ∀ k, k < 8 → (TX5 k).1 = mR 5 := by decide +kernel
  have a6 : ∀ k, k < 2 → (TX6 k).1 = mR 6 := by decide +kernel
  have a7 : ∀ k, k < 10 → (TX7 k).1 = mR 7 := by decide +kernel
  have a8 : ∀ k, k < 30 → (TX8 k).1 = mR 8 := by decide +kernel
  match ci, h with
  | 0, h => cases h; exact a0 k hk
  | 1, h => cases h; exact a1 k hk
  | 2, h => cases h; exact a2 k hk
  | 3, h => cases h; exact a3 k hk
  | 4, h => cases h; exact a4 k hk
  | 5, h => cases h; exact a5 k hk
  | 6, h => cases h; exact a6 k hk
  | 7, h => cases h; exact a7 k hk
  | 8, h => cases h; exact a8 k hk
  | n + 9, h => simp [vwCl] at h
theorem arrI_in : Cond.arrayClass .int ∈ mG := by decide +kernel
theorem arrB_in : Cond.arrayClass .byte ∈ mG := by decide +kernel
theorem arrL_in : Cond.arrayClass .long ∈ mG := by decide +kernel
theorem cpyN_in : Cond.native arraycopyName ∈ mG := by decide +kernel
theorem cpyS_in : Cond.static arraycopyName ∈ mG := by decide +kernel
theorem cpyI_in : Cond.initialized "java/lang/System" ∈ mG := by decide +kernel
theorem objI_in : Cond.instanceMethod objectInit ∈ mG := by decide +kernel
theorem objC_in : Cond.code objectInit ⟨#[0xb1]⟩ 1 none ∈ mG := by decide +kernel
theorem zero_ok {ci : Nat} {C : String} {T : u_T} {N : Nat} (h : vwCl[ci]? = some (C, T, N)) (ad : Nat → Nat) : ∀ k, k < N → defaultValue (mTy ci k) = vp_V ((mZero ci).map (trV ad)) k := by
  intro k hk
  unfold vp_V mZero
  rw [h]
  simp only [List.map_map, List.getD_eq_getElem?_getD, List.getElem?_map, List.getElem?_range hk, Option.map_some, Option.getD_some, Function.comp]
  cases mTy ci k <;> rfl
theorem mM_ok {o i j' ne : Nat} (h : mM o i = some (j', ne)) : (j' = 1000 → Cond.methodLink (mR o) i objectInit ∈ mG) ∧ (j' = 1001 → Cond.methodLink (mR o) i arraycopyName ∈ mG) ∧ (j' ≠ 1000 → j' ≠ 1001 → (ne = 0 → Cond.methodLink (mR o) i (mY j') ∈ mG) ∧ (ne ≠ 0 → Cond.methodLinkNest (mR o) i (mY j') "SquareGrounds" ∈ mNest)) := by
  unfold mM at h
  cases hf : mMl.find? (fun e => e.1 == o && e.2.1 == i) with
  | none => rw [hf] at h; cases h
  | some e =>
    rw [hf] at h
    obtain ⟨h1, h2⟩ := find_ok hf
    simp only [Option.map_some, Option.some.injEq, Prod.mk.injEq] at h
    simp only [Bool.and_eq_true, beq_iff_eq] at h2
    have h3 := List.all_eq_true.mp mChM_ok e h1
    unfold mChM at h3
    rw [h2.1, h2.2, h.1, h.2] at h3
    refine ⟨fun q => ?_, fun q => ?_, fun q1 q2 => ⟨fun q => ?_, fun q => ?_⟩⟩
    · rw [if_pos q] at h3
      simp only [Bool.and_eq_true] at h3
      exact mIs_G h3.2 rfl
    · rw [if_neg (by omega), if_pos q] at h3
      simp only [Bool.and_eq_true] at h3
      exact mIs_G h3.2 rfl
    · rw [if_neg q1, if_neg q2, if_pos q] at h3
      simp only [Bool.and_eq_true] at h3
      exact mIs_G h3.2 rfl
    · rw [if_neg q1, if_neg q2, if_neg q] at h3
      simp only [Bool.and_eq_true] at h3
      exact List.mem_filter.mpr ⟨mIs_in h3.2, rfl⟩
end
section
section NX
variable {p : Program} {l : Launch} {e : Env} {s : State} {m : MethodId} {args : Array Value} {below : List Frame} {meth : Method} {c : Code} {Q : State → Prop} {A : Nat → Prop} {cT dC : Nat → ClassId} {dI : Nat → Nat → Nat} {t b L : Nat} {xs : Nat → Int32} {j : Nat}
theorem mI_ge2 {ad : Nat → Nat} {h : mHeap} {H : Heap} {locs : List Loc} (I : mI cT dC dI t b L xs A s ad h H locs) {a : Nat} {x : mCell} (hx : h[a]? = some x) (h5 : x ≠ .inl (5, 9, .inl mPart)) (h6 : x ≠ .inl (6, L, .inl xs)) : 2 ≤ a := by
  obtain ⟨-, -, i0, i1, -⟩ := I
  match a, hx with
  | 0, hx => rw [i0] at hx; exact absurd (Option.some.inj hx).symm h5
  | 1, hx => rw [i1] at hx; exact absurd (Option.some.inj hx).symm h6
  | n + 2, _ => omega
theorem mI_ge2r {ad : Nat → Nat} {h : mHeap} {H : Heap} {locs : List Loc} (I : mI cT dC dI t b L xs A s ad h H locs) {a : Nat} {x : Nat × List Value} (hx : h[a]? = some (.inr x)) : 2 ≤ a := mI_ge2 I hx (fun h => by cases h) (fun h => by cases h)
theorem mI_ge2l {ad : Nat → Nat} {h : mHeap} {H : Heap} {locs : List Loc} (I : mI cT dC dI t b L xs A s ad h H locs) {a k : Nat} {x : vp_A} (hx : h[a]? = some (.inl (k, x))) (h5 : k ≠ 5) (h6 : k ≠ 6) : 2 ≤ a := mI_ge2 I hx (fun h => by cases h; exact h5 rfl) (fun h => by cases h; exact h6 rfl)
theorem mI_set {ad : Nat → Nat} {h : mHeap} {H H1 : Heap} {locs locs1 : List Loc} (I : mI cT dC dI t b L xs A s ad h H locs) {a : Nat} {x : mCell} (ha : 2 ≤ a) (hP : va_P (dC, dI) vwCl ((mW ad cT h).set (a - 2) (ad a, trE ad cT x)) H1) (hD : va_D A ((mW ad cT h).set (a - 2) (ad a, trE ad cT x))) (hS : va_S A s.heap H1 locs1) : mI cT dC dI t b L xs A s ad (h.set a x) H1 locs1 := by
  obtain ⟨i1, i2, i3, i4, -, -, -⟩ := I
  rw [← mW_set ha] at hP hD
  exact ⟨i1, i2, by rw [List.getElem?_set_ne (by omega)]; exact i3, by rw [List.getElem?_set_ne (by omega)]; exact i4, hP, hD, hS⟩
def adP (ad : Nat → Nat) (n q : Nat) : Nat → Nat := fun k => if k = n then q else ad k
theorem adP_lt {ad : Nat → Nat} {n q k : Nat} (h : k < n) : adP ad n q k = ad k := if_neg (by omega)
theorem adP_at {ad : Nat → Nat} {n q : Nat} : adP ad n q n = q := if_pos rfl
theorem mI_push {ad : Nat → Nat} {h : mHeap} {H H1 : Heap} {locs locs1 : List Loc} (I : mI cT dC dI t b L xs A s ad h H locs) (h2 : 2 ≤ h.length) (hw : wH h = true) {q : Nat} {x : mCell} {ex : va_E} (he : trE (adP ad h.length q) cT x = ex) (hP : va_P (dC, dI) vwCl (mW ad cT h ++ [(q, ex)]) H1) (hD : va_D A (mW ad cT h ++ [(q, ex)])) (hS : va_S A s.heap H1 locs1) : mI cT dC dI t b L xs A s (adP ad h.length q) (h ++ [x]) H1 locs1 := by
  obtain ⟨i1, i2, i3, i4, -, -, -⟩ := I
  rw [← he, ← mW_push h2 (fun k hk => adP_lt hk) adP_at hw] at hP hD
  exact ⟨by rw [adP_lt (by omega)]; exact i1, by rw [adP_lt (by omega)]; exact i2, by rw [List.getElem?_append_left (by omega)]; exact i3, by rw [List.getElem?_append_left (by omega)]; exact i4, hP, hD, hS⟩
theorem cA_eq {tys : List (ClassId × FieldType)} {cA cB : ClassId} {ty : FieldType} {k : Nat} (hK : va_K (dC, dI) vwCl tys s) (hk : tys[k]? = some (cB, ty)) (hK2 : va_K (dC, dI) vwCl (tys ++ [(cA, ty)]) s) : cA = cB := by
  have h1 := (hK.2 k _ hk).2
  have h2 := (hK2.2 tys.length (cA, ty) (by simp)).2
  have key : ∀ {c : ClassId}, va_RA s c ty → s.vm.findClass ("[" ++ ty.toString) = some c := by
    intro c h
    cases ty with
    | object C => obtain ⟨_, _, _, _, _, h4⟩ := h; exact h4
    | _ => exact h
  exact Option.some.inj ((key h2).symm.trans (key h1))
/-- one step that isn't a call nor an end -/
def mKt (l : Launch) (e : Env) (below : List Frame) (Q : State → Prop) (cT dC : Nat → ClassId) (dI : Nat → Nat → Nat) (t b L : Nat) (xs : Nat → Int32) (A : Nat → Prop) (j : Nat) (p : Program) (s : State) (m : MethodId) (meth : Method) (c : Code) (args : Array Value) (ad : Nat → Nat) (n : Nat) (F : mFr) : Prop :=
  ∀ (ad' : Nat → Nat) (H' : Heap) (locs' : List Loc) (LS' : Array Slot), (∀ k, k < n → ad' k = ad k) → ((mRm j).cells = 0 → ad' = ad) → mI cT dC dI t b L xs A s ad' F.2.2.2.1 H' locs' → mHs LS' (mL j) ad' F.2.1 → F.2.2.2.2.1 ≤ (mRm j).cells → F.2.2.2.2.2 ≤ (mRm j).slots → W p l e (mRm j) s m args below meth c H' locs' F.2.2.2.2.1 F.2.2.2.2.2 Q (F0 m F.1 LS' (F.2.2.1.map (trV ad')))
theorem mKt.go {ad : Nat → Nat} {n : Nat} {F : mFr} (K : mKt l e below Q cT dC dI t b L xs A j p s m meth c args ad n F) {H' : Heap} {locs' : List Loc} {LS' : Array Slot} (I : mI cT dC dI t b L xs A s ad F.2.2.2.1 H' locs') (hL : mHs LS' (mL j) ad F.2.1) (hc : F.2.2.2.2.1 ≤ (mRm j).cells) (hs : F.2.2.2.2.2 ≤ (mRm j).slots) : W p l e (mRm j) s m args below meth c H' locs' F.2.2.2.2.1 F.2.2.2.2.2 Q (F0 m F.1 LS' (F.2.2.1.map (trV ad))) := K ad H' locs' LS' (fun _ _ => rfl) (fun _ => rfl) I hL hc hs
set_option maxHeartbeats 4000000 in
theorem mc_next (C : mCx cT dC dI t b L xs A j p s m meth c args) {ad : Nat → Nat} {h : mHeap} {H : Heap} {locs : List Loc} (I : mI cT dC dI t b L xs A s ad h H locs) {ls : mLoc} {LS : Array Slot} (hL : mHs LS (mL j) ad ls) {kd idx len pc : Nat} {st : List Value} {cu su : Nat} (hcu : cu ≤ (mRm j).cells) (hsu : su ≤ (mRm j).slots) (hd : (kd = 0 ∧ decode (mB j) pc = .ok (.invokestatic idx, len)) ∨ kd = 1 ∨ (kd = 2 ∧ decode (mB j) pc = .ok (.invokespecial idx, len))) {F : mFr} (hx : mCall j kd idx len pc ls st h cu su = some (.inl F))
    (K : mKt l e below Q cT dC dI t b L xs A j p s m meth c args ad h.length F) : W p l e (mRm j) s m args below meth c H locs cu su Q (F0 m pc LS (st.map (trV ad))) := by
  obtain ⟨hxc, hb, hml, hown, hts, ⟨hK, hne, hao, hZ, hT⟩, hA, hini, hlaw⟩ := C
  have I0 := I
  obtain ⟨ia0, ia1, ih0, ih1, hP, hD, hS⟩ := I
  unfold mCall mnx at hx
  split at hx
  · rename_i e1
    subst e1
    split at hx
    · rename_i j' ne hm
      split at hx
      · rename_i hj
        split at hx
        · rename_i a r
          split at hx
          · rename_i hr
            cases hx
            rcases hd with ⟨z, -⟩ | z | ⟨-, hd⟩
            · cases z
            · cases z
            · refine W.objInit hxc hb hown (hts _ ((mM_ok hm).1 hj)) (hts _ objI_in) (hts _ objC_in) rfl (by rw [hml]; exact hL.2.1) rfl hd hr.1 ?_ (K.go I0 hL hcu hsu)
              have hr2 := hr.2
              unfold mCat at hr2
              show 2 * 0 + _ + 12 ≤ _
              rw [List.map_map]
              have : ((fun v => Value.category v) ∘ trV ad) = fun v => v.category := by funext v; exact trV_cat ad v
              rw [this]
              omega
          · cases hx
        · cases hx
      · split at hx
        · rename_i hj
          split at hx
          · rename_i n dp b0 sp a r
            split at hx
            · rename_i hr
              split at hx
              · rename_i h' hc
                cases hx
                rcases hd with ⟨-, hd⟩ | z | ⟨z, -⟩
                · unfold cCpy at hc
                  split at hc
                  · rename_i t0 n0 f t1 n1 g hh0 hh1
                    split at hc
                    · rename_i hq
                      obtain ⟨rfl, rfl, q1, q2, q3, q4, q5, q6⟩ := hq
                      cases hc
                      have ha := mI_ge2l I0 hh0 (by omega) (by omega)
                      have hb0 := mI_ge2l I0 hh1 (by omega) (by omega)
                      refine va_copyi hxc hb (by rw [hml]; exact hL.2.1.symm) hown (hts _ ((mM_ok hm).2.1 hj)) (hts _ cpyN_in) (hts _ cpyS_in) (hts _ cpyI_in) hK hP hD hS (a - 2) (b0 - 2) 1 1 (ty := .byte) (mW_get ha hh0) (mW_get hb0 hh1) rfl rfl rfl q1 q2 q3 q4 q5 q6 hr.1 ?_ hd (fun H1 locs1 q1 q2 q3 => K.go (mI_set I0 hb0 q1 q2 q3) hL hcu hsu)
                      have hr2 := hr.2
                      unfold mCat at hr2
                      rw [List.map_map]
                      have : ((fun v => Value.category v) ∘ trV ad) = fun v => v.category := by funext v; exact trV_cat ad v
                      rw [this]
                      exact hr2
                    · cases hc
                  · cases hc
                · cases z
                · cases z
              · cases hx
            · cases hx
          · cases hx
        · split at hx
          · split at hx
            · split at hx <;> cases hx
            · split at hx
              · split at hx
                · split at hx <;> cases hx
                · cases hx
              · cases hx
          · cases hx
    · cases hx
  · cases hx
set_option maxHeartbeats 4000000 in
theorem mx_next (C : mCx cT dC dI t b L xs A j p s m meth c args) {ad : Nat → Nat} {h : mHeap} {H : Heap} {locs : List Loc} (I : mI cT dC dI t b L xs A s ad h H locs) {ls : mLoc} {LS : Array Slot} (hL : mHs LS (mL j) ad ls) {i : Instr} {len pc : Nat} {st : List Value} {cu su : Nat} (hcu : cu ≤ (mRm j).cells) (hsu : su ≤ (mRm j).slots) (hd : decode (mB j) pc = .ok (i, len)) {F : mFr} (hx : mx j i len pc ls st h cu su = some (.inl F))
    (K : mKt l e below Q cT dC dI t b L xs A j p s m meth c args ad h.length F) : W p l e (mRm j) s m args below meth c H locs cu su Q (F0 m pc LS (st.map (trV ad))) := by
  obtain ⟨hxc, hb, hml, hown, hts, ⟨hK, hne, hao, hZ, hT⟩, hA, hini, hlaw⟩ := C
  have I0 := I
  obtain ⟨ia0, ia1, ih0, ih1, hP, hD, hS⟩ := I
  cases i
  case aload k =>
    obtain ⟨rfl, v, ev, eo, rfl⟩ := mload_inv hx
    obtain ⟨x, rfl⟩ := mok_2 eo
    exact lv_aload hxc hb hd (hL.at ev) (K.go I0 hL hcu hsu)
  case aload_n k =>
    obtain ⟨rfl, v, ev, eo, rfl⟩ := mload_inv hx
    obtain ⟨x, rfl⟩ := mok_2 eo
    exact lv_aload_n hxc hb hd rfl (hL.at ev) (K.go I0 hL hcu hsu)
  case iload k =>
    obtain ⟨rfl, v, ev, eo, rfl⟩ := mload_inv hx
    obtain ⟨x, rfl⟩ := mok_0 eo
    exact lv_iload hxc hb hd (hL.at ev) (K.go I0 hL hcu hsu)
  case iload_n k =>
    obtain ⟨rfl, v, ev, eo, rfl⟩ := mload_inv hx
    obtain ⟨x, rfl⟩ := mok_0 eo
    exact lv_iload_n hxc hb hd rfl (hL.at ev) (K.go I0 hL hcu hsu)
  case lload k =>
    obtain ⟨rfl, v, ev, eo, rfl⟩ := mload_inv hx
    obtain ⟨x, rfl⟩ := mok_1 eo
    exact lv_lload hxc hb hd (hL.at ev) (K.go I0 hL hcu hsu)
  case lload_n k =>
    obtain ⟨rfl, v, ev, eo, rfl⟩ := mload_inv hx
    obtain ⟨x, rfl⟩ := mok_1 eo
    exact lv_lload_n hxc hb hd rfl (hL.at ev) (K.go I0 hL hcu hsu)
  case astore k =>
    obtain ⟨rfl, v, r, ls', rfl, eo, em, rfl⟩ := mstore_inv hx
    obtain ⟨x, rfl⟩ := mok_2 eo
    exact lv_astore hxc hb hd hL.2 (mst_lt1 hL.1 em) rfl (fun LS' hLS => K.go I0 (mst_1 hL em (by simp [Value.category]) hLS) hcu hsu)
  case astore_n k =>
    obtain ⟨rfl, v, r, ls', rfl, eo, em, rfl⟩ := mstore_inv hx
    obtain ⟨x, rfl⟩ := mok_2 eo
    exact lv_astore_n hxc hb hd rfl hL.2 (mst_lt1 hL.1 em) rfl (fun LS' hLS => K.go I0 (mst_1 hL em (by simp [Value.category]) hLS) hcu hsu)
  case istore k =>
    obtain ⟨rfl, v, r, ls', rfl, eo, em, rfl⟩ := mstore_inv hx
    obtain ⟨x, rfl⟩ := mok_0 eo
    exact lv_istore hxc hb hd hL.2 (mst_lt1 hL.1 em) rfl (fun LS' hLS => K.go I0 (mst_1 hL em (by simp [Value.category]) hLS) hcu hsu)
  case istore_n k =>
    obtain ⟨rfl, v, r, ls', rfl, eo, em, rfl⟩ := mstore_inv hx
    obtain ⟨x, rfl⟩ := mok_0 eo
    exact lv_istore_n hxc hb hd rfl hL.2 (mst_lt1 hL.1 em) rfl (fun LS' hLS => K.go I0 (mst_1 hL em (by simp [Value.category]) hLS) hcu hsu)
  case lstore k =>
    obtain ⟨rfl, v, r, ls', rfl, eo, em, rfl⟩ := mstore_inv hx
    obtain ⟨x, rfl⟩ := mok_1 eo
    exact lv_lstore hxc hb hd hL.2 (mst_lt2 hL.1 em rfl) rfl (fun LS' hLS => K.go I0 (mst_2 hL em rfl hLS) hcu hsu)
  case lstore_n k =>
    obtain ⟨rfl, v, r, ls', rfl, eo, em, rfl⟩ := mstore_inv hx
    obtain ⟨x, rfl⟩ := mok_1 eo
    exact lv_lstore_n hxc hb hd rfl hL.2 (mst_lt2 hL.1 em rfl) rfl (fun LS' hLS => K.go I0 (mst_2 hL em rfl hLS) hcu hsu)
  case iconst n =>
    obtain ⟨rfl, rfl⟩ := mpush_inv hx
    exact lv_iconst hxc hb hd rfl (K.go I0 hL hcu hsu)
  case bipush n =>
    obtain ⟨rfl, rfl⟩ := mpush_inv hx
    exact lv_bipush hxc hb hd rfl (K.go I0 hL hcu hsu)
  case sipush n =>
    obtain ⟨rfl, rfl⟩ := mpush_inv hx
    exact lv_sipush hxc hb hd rfl (K.go I0 hL hcu hsu)
  case lconst n =>
    obtain ⟨rfl, rfl⟩ := mpush_inv hx
    exact lv_lconst hxc hb hd rfl (K.go I0 hL hcu hsu)
  case ldc2_w k =>
    simp only [mx] at hx
    split at hx
    · rename_i v hv
      obtain ⟨rfl, rfl⟩ := mpush_inv hx
      exact lv_ldc2 hxc hb hown (hts _ (mK_ok hv)) hd (K.go I0 hL hcu hsu)
    · cases hx
  case getstatic k =>
    simp only [mx] at hx
    split at hx
    · rename_i hg
      obtain ⟨rfl, rfl⟩ := mpush_inv hx
      have hm : (mO j, k) ∈ mGl := List.contains_iff_mem.mp hg
      have hw := hne _ (of_decide_eq_true (List.all_eq_true.mp mChG_ok _ hm))
      have k1 := K.go (H' := H) (locs' := locs) (LS' := LS) I0 hL hcu hsu
      simp only [List.map_cons, trV, ia0] at k1
      exact va_getsN hxc hb hZ hS hown (va_Nw.use rfl hw) (fun _ h => h) hd k1
    · cases hx
  case iadd =>
    simp only [mx] at hx
    obtain ⟨rfl, x, y, r, z, rfl, ez, rfl⟩ := mbi_inv hx
    cases ez
    exact lv_iadd hxc hb hd (K.go I0 hL hcu hsu)
  case isub =>
    simp only [mx] at hx
    obtain ⟨rfl, x, y, r, z, rfl, ez, rfl⟩ := mbi_inv hx
    cases ez
    exact lv_isub hxc hb hd (K.go I0 hL hcu hsu)
  case imul =>
    simp only [mx] at hx
    obtain ⟨rfl, x, y, r, z, rfl, ez, rfl⟩ := mbi_inv hx
    cases ez
    exact lv_imul hxc hb hd (K.go I0 hL hcu hsu)
  case iand =>
    simp only [mx] at hx
    obtain ⟨rfl, x, y, r, z, rfl, ez, rfl⟩ := mbi_inv hx
    cases ez
    exact lv_iand hxc hb hd (K.go I0 hL hcu hsu)
  case ior =>
    simp only [mx] at hx
    obtain ⟨rfl, x, y, r, z, rfl, ez, rfl⟩ := mbi_inv hx
    cases ez
    exact lv_ior hxc hb hd (K.go I0 hL hcu hsu)
  case ixor =>
    simp only [mx] at hx
    obtain ⟨rfl, x, y, r, z, rfl, ez, rfl⟩ := mbi_inv hx
    cases ez
    exact lv_ixor hxc hb hd (K.go I0 hL hcu hsu)
  case ishl =>
    simp only [mx] at hx
    obtain ⟨rfl, x, y, r, z, rfl, ez, rfl⟩ := mbi_inv hx
    cases ez
    exact lv_ishl hxc hb hd (K.go I0 hL hcu hsu)
  case ishr =>
    simp only [mx] at hx
    obtain ⟨rfl, x, y, r, z, rfl, ez, rfl⟩ := mbi_inv hx
    cases ez
    exact lv_ishr hxc hb hd (K.go I0 hL hcu hsu)
  case idiv =>
    simp only [mx] at hx
    obtain ⟨rfl, x, y, r, z, rfl, ez, rfl⟩ := mbi_inv hx
    split at ez
    · cases ez
    · rename_i hy
      cases ez
      exact lv_idiv hxc hb hd hy (K.go I0 hL hcu hsu)
  case irem =>
    simp only [mx] at hx
    obtain ⟨rfl, x, y, r, z, rfl, ez, rfl⟩ := mbi_inv hx
    split at ez
    · cases ez
    · rename_i hy
      cases ez
      exact lv_irem hxc hb hd hy (K.go I0 hL hcu hsu)
  case ladd =>
    simp only [mx] at hx
    obtain ⟨rfl, x, y, r, z, rfl, ez, rfl⟩ := mbl_inv hx
    cases ez
    exact lv_ladd hxc hb hd (K.go I0 hL hcu hsu)
  case lmul =>
    simp only [mx] at hx
    obtain ⟨rfl, x, y, r, z, rfl, ez, rfl⟩ := mbl_inv hx
    cases ez
    exact lv_lmul hxc hb hd (K.go I0 hL hcu hsu)
  case lor =>
    simp only [mx] at hx
    obtain ⟨rfl, x, y, r, z, rfl, ez, rfl⟩ := mbl_inv hx
    cases ez
    exact lv_lor hxc hb hd (K.go I0 hL hcu hsu)
  case ldiv =>
    simp only [mx] at hx
    obtain ⟨rfl, x, y, r, z, rfl, ez, rfl⟩ := mbl_inv hx
    split at ez
    · cases ez
    · rename_i hy
      cases ez
      exact lv_ldiv hxc hb hd hy (K.go I0 hL hcu hsu)
  case lrem =>
    simp only [mx] at hx
    obtain ⟨rfl, x, y, r, z, rfl, ez, rfl⟩ := mbl_inv hx
    split at ez
    · cases ez
    · rename_i hy
      cases ez
      exact lv_lrem hxc hb hd hy (K.go I0 hL hcu hsu)
  case lshl =>
    simp only [mx] at hx
    obtain ⟨rfl, x, y, r, rfl, rfl⟩ := mbs_inv hx
    exact lv_lshl hxc hb hd rfl (K.go I0 hL hcu hsu)
  case lshr =>
    simp only [mx] at hx
    obtain ⟨rfl, x, y, r, rfl, rfl⟩ := mbs_inv hx
    exact lv_lshr hxc hb hd rfl (K.go I0 hL hcu hsu)
  case ineg =>
    simp only [mx] at hx
    obtain ⟨rfl, x, r, rfl, rfl⟩ := mui_inv hx
    exact lv_ineg hxc hb hd (K.go I0 hL hcu hsu)
  case i2b =>
    simp only [mx] at hx
    obtain ⟨rfl, x, r, rfl, rfl⟩ := mui_inv hx
    exact lv_i2b hxc hb hd rfl (K.go I0 hL hcu hsu)
  case i2l =>
    simp only [mx] at hx
    obtain ⟨rfl, x, r, rfl, rfl⟩ := mui_inv hx
    exact lv_i2l hxc hb hd rfl (K.go I0 hL hcu hsu)
  case l2i =>
    simp only [mx, mnx] at hx
    split at hx
    · rename_i e1
      subst e1
      split at hx
      · cases hx
        exact lv_l2i hxc hb hd rfl (K.go I0 hL hcu hsu)
      · cases hx
    · cases hx
  case lcmp =>
    simp only [mx, mnx] at hx
    split at hx
    · rename_i e1
      subst e1
      split at hx
      · cases hx
        exact W.lcmp hxc hb hd (K.go I0 hL hcu hsu)
      · cases hx
    · cases hx
  case iinc k n =>
    simp only [mx, mnx] at hx
    split at hx
    · rename_i e1
      subst e1
      split at hx
      · rename_i x hg
        split at hx
        · rename_i ls' em
          cases hx
          have h1 : ls[k]? = some (some (.int x)) := by
            unfold mget at hg
            cases hl : ls[k]? with
            | none => rw [hl] at hg; cases hg
            | some y => rw [hl] at hg; simp at hg; rw [hg]
          have h2 := lvl_in (ad := ad) ls 0 k h1
          rw [Nat.zero_add] at h2
          obtain ⟨q, hq⟩ := List.getElem?_of_mem h2
          exact lv_iinc hxc hb hd hL.2 (k := q) hq rfl (mst_lt1 hL.1 em) rfl (fun LS' hLS => K.go I0 (mst_1 hL em (by simp [Value.category]) hLS) hcu hsu)
        · cases hx
      · cases hx
    · cases hx
  case goto o =>
    simp only [mx, mnx] at hx
    split at hx
    · rename_i e1
      subst e1
      split at hx
      · rename_i t0 ht
        cases hx
        exact lv_goto hxc hb hd (mtg_ok ht) (K.go I0 hL hcu hsu)
      · cases hx
    · cases hx
  case ifCond cd o =>
    cases cd
    case eq =>
      simp only [mx] at hx
      obtain ⟨rfl, x, r, t0, rfl, ht, rfl⟩ := mif1_inv hx
      exact lv_if_eq hxc hb hd (mtg_ok ht) (fun hc => by have k := K.go (H' := H) (locs' := locs) I0 hL hcu hsu; simp only [decide_eq_true_eq, if_pos hc] at k; exact k) (fun hc => by have k := K.go (H' := H) (locs' := locs) I0 hL hcu hsu; simp only [decide_eq_true_eq, if_neg hc] at k; exact k)
    case ne =>
      simp only [mx] at hx
      obtain ⟨rfl, x, r, t0, rfl, ht, rfl⟩ := mif1_inv hx
      exact lv_if_ne hxc hb hd (mtg_ok ht) (fun hc => by have k := K.go (H' := H) (locs' := locs) I0 hL hcu hsu; simp only [decide_eq_true_eq, if_pos hc] at k; exact k) (fun hc => by have k := K.go (H' := H) (locs' := locs) I0 hL hcu hsu; simp only [decide_eq_true_eq, if_neg (not_not_intro hc)] at k; exact k)
    case lt =>
      simp only [mx] at hx
      obtain ⟨rfl, x, r, t0, rfl, ht, rfl⟩ := mif1_inv hx
      exact lv_if_lt hxc hb hd (mtg_ok ht) (fun hc => by have k := K.go (H' := H) (locs' := locs) I0 hL hcu hsu; simp only [decide_eq_true_eq, if_pos hc] at k; exact k) (fun hc => by have k := K.go (H' := H) (locs' := locs) I0 hL hcu hsu; simp only [decide_eq_true_eq, if_neg hc] at k; exact k)
    case ge =>
      simp only [mx] at hx
      obtain ⟨rfl, x, r, t0, rfl, ht, rfl⟩ := mif1_inv hx
      exact lv_if_ge hxc hb hd (mtg_ok ht) (fun hc => by have k := K.go (H' := H) (locs' := locs) I0 hL hcu hsu; simp only [decide_eq_true_eq, if_pos hc] at k; exact k) (fun hc => by have k := K.go (H' := H) (locs' := locs) I0 hL hcu hsu; simp only [decide_eq_true_eq, if_neg hc] at k; exact k)
    case gt =>
      simp only [mx] at hx
      obtain ⟨rfl, x, r, t0, rfl, ht, rfl⟩ := mif1_inv hx
      exact lv_if_gt hxc hb hd (mtg_ok ht) (fun hc => by have k := K.go (H' := H) (locs' := locs) I0 hL hcu hsu; simp only [decide_eq_true_eq, if_pos hc] at k; exact k) (fun hc => by have k := K.go (H' := H) (locs' := locs) I0 hL hcu hsu; simp only [decide_eq_true_eq, if_neg hc] at k; exact k)
    case le =>
      simp only [mx] at hx
      obtain ⟨rfl, x, r, t0, rfl, ht, rfl⟩ := mif1_inv hx
      exact lv_if_le hxc hb hd (mtg_ok ht) (fun hc => by have k := K.go (H' := H) (locs' := locs) I0 hL hcu hsu; simp only [decide_eq_true_eq, if_pos hc] at k; exact k) (fun hc => by have k := K.go (H' := H) (locs' := locs) I0 hL hcu hsu; simp only [decide_eq_true_eq, if_neg hc] at k; exact k)
  case if_icmp cd o =>
    cases cd
    case eq =>
      simp only [mx] at hx
      obtain ⟨rfl, x, y, r, t0, rfl, ht, rfl⟩ := mif2_inv hx
      exact lv_icmp_eq hxc hb hd (mtg_ok ht) (fun hc => by have k := K.go (H' := H) (locs' := locs) I0 hL hcu hsu; simp only [decide_eq_true_eq, if_pos hc] at k; exact k) (fun hc => by have k := K.go (H' := H) (locs' := locs) I0 hL hcu hsu; simp only [decide_eq_true_eq, if_neg hc] at k; exact k)
    case ne =>
      simp only [mx] at hx
      obtain ⟨rfl, x, y, r, t0, rfl, ht, rfl⟩ := mif2_inv hx
      exact lv_icmp_ne hxc hb hd (mtg_ok ht) (fun hc => by have k := K.go (H' := H) (locs' := locs) I0 hL hcu hsu; simp only [decide_eq_true_eq, if_pos hc] at k; exact k) (fun hc => by have k := K.go (H' := H) (locs' := locs) I0 hL hcu hsu; simp only [decide_eq_true_eq, if_neg (not_not_intro hc)] at k; exact k)
    case lt =>
      simp only [mx] at hx
      obtain ⟨rfl, x, y, r, t0, rfl, ht, rfl⟩ := mif2_inv hx
      exact lv_icmp_lt hxc hb hd (mtg_ok ht) (fun hc => by have k := K.go (H' := H) (locs' := locs) I0 hL hcu hsu; simp only [decide_eq_true_eq, if_pos hc] at k; exact k) (fun hc => by have k := K.go (H' := H) (locs' := locs) I0 hL hcu hsu; simp only [decide_eq_true_eq, if_neg hc] at k; exact k)
    case ge =>
      simp only [mx] at hx
      obtain ⟨rfl, x, y, r, t0, rfl, ht, rfl⟩ := mif2_inv hx
      exact lv_icmp_ge hxc hb hd (mtg_ok ht) (fun hc => by have k := K.go (H' := H) (locs' := locs) I0 hL hcu hsu; simp only [decide_eq_true_eq, if_pos hc] at k; exact k) (fun hc => by have k := K.go (H' := H) (locs' := locs) I0 hL hcu hsu; simp only [decide_eq_true_eq, if_neg hc] at k; exact k)
    case gt =>
      simp only [mx] at hx
      obtain ⟨rfl, x, y, r, t0, rfl, ht, rfl⟩ := mif2_inv hx
      exact lv_icmp_gt hxc hb hd (mtg_ok ht) (fun hc => by have k := K.go (H' := H) (locs' := locs) I0 hL hcu hsu; simp only [decide_eq_true_eq, if_pos hc] at k; exact k) (fun hc => by have k := K.go (H' := H) (locs' := locs) I0 hL hcu hsu; simp only [decide_eq_true_eq, if_neg hc] at k; exact k)
    case le =>
      simp only [mx] at hx
      obtain ⟨rfl, x, y, r, t0, rfl, ht, rfl⟩ := mif2_inv hx
      exact lv_icmp_le hxc hb hd (mtg_ok ht) (fun hc => by have k := K.go (H' := H) (locs' := locs) I0 hL hcu hsu; simp only [decide_eq_true_eq, if_pos hc] at k; exact k) (fun hc => by have k := K.go (H' := H) (locs' := locs) I0 hL hcu hsu; simp only [decide_eq_true_eq, if_neg hc] at k; exact k)
  case dup =>
    simp only [mx, mnx] at hx
    split at hx
    · rename_i e1
      subst e1
      split at hx
      · split at hx
        · rename_i hc
          cases hx
          exact lv_dup hxc hb hd (by rw [trV_cat]; exact hc) (K.go I0 hL hcu hsu)
        · cases hx
      · cases hx
    · cases hx
  case dup2 =>
    simp only [mx, mnx] at hx
    split at hx
    · rename_i e1
      subst e1
      split at hx
      · split at hx
        · rename_i hc
          cases hx
          exact lv_dup2_11 hxc hb hd (by rw [trV_cat]; exact hc.1) (by rw [trV_cat]; exact hc.2) (K.go I0 hL hcu hsu)
        · cases hx
      · cases hx
    · cases hx
  case getfield k =>
    simp only [mx] at hx
    obtain ⟨rfl, ci, k1, a, r, v, hf, rfl, hc, rfl⟩ := mGetF_inv hx
    obtain ⟨fs, h1, h2⟩ := cFld_inv hc
    obtain ⟨C, T, N, hv, hk, hlk⟩ := mF_ok hf
    have ha := mI_ge2r I0 h1
    exact va_get hxc hb hts (mU_ok hv).1 hown hK hP (a - 2) (mW_get ha h1) hv k1 hk (hts _ hlk) (fun _ h => h) (v := trV ad v) (by rw [List.getElem?_map, h2]; rfl) hd (K.go I0 hL hcu hsu)
  case putfield k =>
    simp only [mx] at hx
    obtain ⟨rfl, ci, k1, a, r, v, h', hf, rfl, ⟨hok, hfin⟩, hc, rfl⟩ := mPutF_inv hx
    obtain ⟨fs, h1, h2, rfl⟩ := cPut_inv hc
    obtain ⟨C, T, N, hv, hk, hlk⟩ := mF_ok hf
    have ha := mI_ge2r I0 h1
    obtain ⟨hn, hfit⟩ := put_ok (ad := ad) hok
    obtain ⟨u1, u2, u3⟩ := mU_ok hv
    have hset : trE ad cT (.inr (ci, fs.set k1 v)) = .inr (ci, (fs.map (trV ad)).set k1 (trV ad v)) := by
      simp only [trE]
      rw [List.map_set]
    unfold mFin at hfin
    rw [hv] at hfin
    simp only [Bool.or_eq_true, Bool.not_eq_true', Bool.and_eq_true, decide_eq_true_eq] at hfin
    by_cases hf2 : (T k1).2.2.2 = false
    · refine va_put hxc hb hts u1 (mTy ci) u2 u3 hown hK hP hD hS (a - 2) (mW_get ha h1) hv k1 hk (hts _ hlk) (fun _ h => h) hf2 (ty := mTy ci k1) (v := trV ad v) (u2 k1 hk) hn hfit (by rw [List.length_map]; exact h2) hd (fun H1 locs1 q1 q2 q3 => ?_)
      rw [← hset] at q1 q2
      exact K.go (mI_set I0 ha q1 q2 q3) hL hcu hsu
    · rcases hfin with hfin | hfin
      · exact absurd hfin hf2
      · have hci : (T k1).1 = mR (mO j) := by
          rw [hfin.2]
          exact mT_own hv hk
        refine va_putF hxc hb hts u1 (mTy ci) u2 u3 hown hK hP hD hS (a - 2) (mW_get ha h1) hv k1 hk (hts _ hlk) (fun _ h => h) (by simpa using hf2) (hini hfin.1) hci (ty := mTy ci k1) (v := trV ad v) (u2 k1 hk) hn hfit (by rw [List.length_map]; exact h2) hd (fun H1 locs1 q1 q2 q3 => ?_)
        rw [← hset] at q1 q2
        exact K.go (mI_set I0 ha q1 q2 q3) hL hcu hsu
  case iaload =>
    simp only [mx, mnx] at hx
    split at hx
    · rename_i e1
      subst e1
      split at hx
      · rename_i i a r
        split at hx
        · rename_i x hc
          cases hx
          unfold cAldI at hc
          split at hc
          · rename_i t0 n f hh
            split at hc
            · cases hc
            · rename_i hin
              split at hc
              · rename_i ht
                cases hc
                by_cases h5 : t0 = 0
                · subst h5
                  have ha := mI_ge2l I0 hh (by omega) (by omega)
                  exact va_iald hxc hb hK hP (a - 2) 0 (mW_get ha hh) rfl hin hd (K.go I0 hL hcu hsu)
                · rcases ht with ht | ⟨ht, rfl⟩ | ⟨ht, rfl, hj⟩
                  · exact absurd ht h5
                  · rw [ih0] at hh
                    cases hh
                    have k1 := K.go (H' := H) (locs' := locs) (LS' := LS) I0 hL hcu hsu
                    simp only [List.map_cons, trV] at k1 ⊢
                    rw [ia0]
                    exact va_ti hxc hb hT hS hin rfl hd k1
                  · rw [ih1] at hh
                    cases hh
                    obtain ⟨g1, g2, g3⟩ := hlaw (by simpa using hj)
                    have k1 := K.go (H' := H) (locs' := locs) (LS' := LS) I0 hL hcu hsu
                    simp only [List.map_cons, trV] at k1 ⊢
                    rw [ia1]
                    exact va_sld hxc hb g1 g2 g3 hS hin hd k1
              · cases hc
          · cases hc
        · cases hx
      · cases hx
    · cases hx
  case iastore =>
    simp only [mx, mnx] at hx
    split at hx
    · rename_i e1
      subst e1
      split at hx
      · rename_i x i a r
        split at hx
        · rename_i h' hc
          cases hx
          unfold cAstI at hc
          split at hc
          · rename_i t0 n f hh
            split at hc
            · cases hc
            · rename_i hin
              split at hc
              · rename_i ht
                subst ht
                cases hc
                have ha := mI_ge2l I0 hh (by omega) (by omega)
                exact va_iast hxc hb hK hP hD hS (a - 2) 0 (mW_get ha hh) rfl hin hd (fun H1 locs1 q1 q2 q3 => K.go (mI_set I0 ha q1 q2 q3) hL hcu hsu)
              · cases hc
          · cases hc
        · cases hx
      · cases hx
    · cases hx
  case baload =>
    simp only [mx, mnx] at hx
    split at hx
    · rename_i e1
      subst e1
      split at hx
      · rename_i i a r
        split at hx
        · rename_i x hc
          cases hx
          unfold cAldB at hc
          split at hc
          · rename_i t0 n f hh
            split at hc
            · cases hc
            · rename_i hin
              split at hc
              · rename_i ht
                subst ht
                cases hc
                have ha := mI_ge2l I0 hh (by omega) (by omega)
                exact va_bald hxc hb hK hP (a - 2) 1 (mW_get ha hh) rfl hin hd (K.go I0 hL hcu hsu)
              · cases hc
          · cases hc
        · cases hx
      · cases hx
    · cases hx
  case bastore =>
    simp only [mx, mnx] at hx
    split at hx
    · rename_i e1
      subst e1
      split at hx
      · rename_i x i a r
        split at hx
        · rename_i h' hc
          cases hx
          unfold cAstB at hc
          split at hc
          · rename_i t0 n f hh
            split at hc
            · cases hc
            · rename_i hin
              split at hc
              · rename_i ht
                subst ht
                cases hc
                have ha := mI_ge2l I0 hh (by omega) (by omega)
                exact va_bast hxc hb hK hP hD hS (a - 2) 1 (mW_get ha hh) rfl hin hd (fun H1 locs1 q1 q2 q3 => K.go (mI_set I0 ha q1 q2 q3) hL hcu hsu)
              · cases hc
          · cases hc
        · cases hx
      · cases hx
    · cases hx
  case laload =>
    simp only [mx, mnx] at hx
    split at hx
    · rename_i e1
      subst e1
      split at hx
      · rename_i i a r
        split at hx
        · rename_i x hc
          cases hx
          unfold cAldL at hc
          split at hc
          · rename_i t0 n f hh
            split at hc
            · cases hc
            · rename_i hin
              split at hc
              · rename_i ht
                subst ht
                cases hc
                have ha := mI_ge2l I0 hh (by omega) (by omega)
                exact va_lald hxc hb hK hP (a - 2) 2 (mW_get ha hh) rfl hin hd (K.go I0 hL hcu hsu)
              · cases hc
          · cases hc
        · cases hx
      · cases hx
    · cases hx
  case lastore =>
    simp only [mx, mnx] at hx
    split at hx
    · rename_i e1
      subst e1
      split at hx
      · rename_i x i a r
        split at hx
        · rename_i h' hc
          cases hx
          unfold cAstL at hc
          split at hc
          · rename_i t0 n f hh
            split at hc
            · cases hc
            · rename_i hin
              split at hc
              · rename_i ht
                subst ht
                cases hc
                have ha := mI_ge2l I0 hh (by omega) (by omega)
                exact va_last hxc hb hK hP hD hS (a - 2) 2 (mW_get ha hh) rfl hin hd (fun H1 locs1 q1 q2 q3 => K.go (mI_set I0 ha q1 q2 q3) hL hcu hsu)
              · cases hc
          · cases hc
        · cases hx
      · cases hx
    · cases hx
  case aaload =>
    simp only [mx, mnx] at hx
    split at hx
    · rename_i e1
      subst e1
      split at hx
      · rename_i i a r
        split at hx
        · rename_i x hc
          cases hx
          unfold cAldR at hc
          split at hc
          · rename_i t0 n f hh
            split at hc
            · cases hc
            · rename_i hin
              split at hc
              · rename_i ht
                have ha := mI_ge2l I0 hh (by omega) (by omega)
                have hlt : i.toNatClampNeg < n := by
                  rcases Nat.lt_or_ge i.toNatClampNeg n with z | z
                  · exact z
                  · exact absurd (Or.inr z) hin
                have k1 := K.go (H' := H) (locs' := locs) (LS' := LS) I0 hL hcu hsu
                simp only [List.map_cons, trV] at k1 ⊢
                have key : ∀ {C : String}, (mTyl cT)[t0]? = some (cT t0, .object C) → W p l e (mRm j) s m args below meth c H locs cu su Q (F0 m pc LS (.int i :: .ref (ad a) :: r.map (trV ad))) := fun ht0 =>
                  va_aldq hxc hb hK hP (a - 2) t0 (mW_get ha hh) ht0 hin hd (by
                    rw [if_pos hlt, hc]
                    exact k1)
                rcases ht with rfl | rfl
                · exact key rfl
                · exact key rfl
              · cases hc
          · cases hc
        · cases hx
      · cases hx
    · cases hx
  case aastore =>
    simp only [mx, mnx] at hx
    split at hx
    · rename_i e1
      subst e1
      split at hx
      · rename_i x i a r
        split at hx
        · rename_i h' hc
          cases hx
          unfold cAstR at hc
          split at hc
          · rename_i t0 n f ci vs hh hh2
            split at hc
            · cases hc
            · rename_i hin
              split at hc
              · rename_i ht
                cases hc
                have ha := mI_ge2l I0 hh (by omega) (by omega)
                have hax := mI_ge2r I0 hh2
                have hlt : i.toNatClampNeg < n := by
                  rcases Nat.lt_or_ge i.toNatClampNeg n with z | z
                  · exact z
                  · exact absurd (Or.inr z) hin
                have hup : trE ad cT (.inl (t0, n, .inr (.inr (.inr (.inr (va_up f i.toNatClampNeg (some x))))))) = .inl (cT t0, n, .inr (.inr (.inr (.inr (va_up (fun i => if i < n then (f i).map ad else none) i.toNatClampNeg (some (ad x))))))) := by
                  simp only [trE, trA]
                  congr 7
                  funext q
                  unfold va_up
                  by_cases hq : q = i.toNatClampNeg
                  · rw [if_pos hq, if_pos hq, if_pos (by omega)]
                    rfl
                  · rw [if_neg hq, if_neg hq]
                obtain ⟨h34, hce⟩ := ht
                rcases h34 with rfl | rfl
                · subst hce
                  exact va_astq hxc hb hK hP hD hS (a - 2) 3 (x - 2) 6 (r := (RX6, TX6, 2)) (mW_get ha hh) rfl (mW_get hax hh2) rfl hin hd (fun H1 locs1 q1 q2 q3 => K.go (mI_set I0 ha (by rw [hup]; exact q1) (by rw [hup]; exact q2) q3) hL hcu hsu)
                · subst hce
                  exact va_astq hxc hb hK hP hD hS (a - 2) 4 (x - 2) 3 (r := (RX3, TX3, 6)) (mW_get ha hh) rfl (mW_get hax hh2) rfl hin hd (fun H1 locs1 q1 q2 q3 => K.go (mI_set I0 ha (by rw [hup]; exact q1) (by rw [hup]; exact q2) q3) hL hcu hsu)
              · cases hc
          · cases hc
        · cases hx
      · cases hx
    · cases hx
  case arraylength =>
    simp only [mx, mnx] at hx
    split at hx
    · rename_i e1
      subst e1
      split at hx
      · rename_i a r
        split at hx
        · rename_i x hc
          cases hx
          unfold cLen at hc
          split at hc
          · rename_i t0 n f hh
            split at hc
            · rename_i ht
              obtain ⟨rfl, rfl, hj⟩ := ht
              rw [ih1] at hh
              cases hh
              cases hc
              obtain ⟨g1, g2, g3⟩ := hlaw (by simpa using hj)
              have k1 := K.go (H' := H) (locs' := locs) (LS' := LS) I0 hL hcu hsu
              simp only [List.map_cons, trV] at k1 ⊢
              rw [ia1]
              exact va_slen hxc hb g1 g2 g3 hS hd k1
            · cases hc
          · cases hc
        · cases hx
      · cases hx
    · cases hx
  case tableswitch d lo hi offs =>
    simp only [mx] at hx
    obtain ⟨x, r, o, t0, rfl, ho, ht, rfl⟩ := mTab_inv hx
    by_cases hc : x.toInt < lo ∨ hi < x.toInt
    · rw [if_pos hc] at ho
      cases ho
      exact lv_tableOut hxc hb hd hc (mtg_ok ht) (K.go I0 hL hcu hsu)
    · rw [if_neg hc] at ho
      exact lv_tableIn hxc hb hd (fun z => hc (Or.inl z)) (fun z => hc (Or.inr z)) ho (mtg_ok ht) (K.go I0 hL hcu hsu)
  case newarray a =>
    simp only [mx] at hx
    split at hx
    · rename_i e1
      subst e1
      split at hx
      · rename_i n r
        split at hx
        · cases hx
        · rename_i hn
          have hn0 : ¬ n < 0 := fun z => hn (Or.inl z)
          have hn1 : n.toNatClampNeg ≤ 600000 := Nat.le_of_not_lt (fun z => hn (Or.inr z))
          split at hx
          · rename_i x hm
            obtain ⟨⟨g1, g2, g3, g4, g5⟩, rfl⟩ := mNew_inv hx
            simp only [wLS, Bool.and_eq_true] at g3
            have fin : ∀ {q : Nat} {H1 : Heap} {ex : va_E}, trE (adP ad h.length q) cT x = ex → va_P (dC, dI) vwCl (mW ad cT h ++ [(q, ex)]) H1 → va_D A (mW ad cT h ++ [(q, ex)]) → va_S A s.heap H1 locs → W p l e (mRm j) s m args below meth c H1 locs (cu + 1) (su + n.toNatClampNeg) Q (F0 m (pc + 2) LS (.ref q :: r.map (trV ad))) := by
              intro q H1 ex he q1 q2 q3
              have k1 := K (adP ad h.length q) H1 locs LS (fun k hk => adP_lt hk) (fun z => by omega) (mI_push I0 g5 g4 he q1 q2 q3) (hL.same (fun k hk => adP_lt hk) g3.1) g1 g2
              simp only [List.map_cons, trV, adP_at] at k1
              rw [trVs_same (fun k hk => adP_lt hk) g3.2] at k1
              exact k1
            unfold mArr at hm
            split at hm
            · cases hm
              refine va_newa (atype := .int) (ty := .int) hxc hb (hts _ arrI_in) rfl hK hP hD hS hA (a0 := (n.toNatClampNeg, .inl (fun _ => 0))) (fun _ => rfl) hn0 rfl (by show n.toNatClampNeg * 4 ≤ 536870912; omega) g1 g2 hd (fun q cA H1 k1 k2 k3 k4 => ?_)
              have e1 := cA_eq hK (k := 0) rfl k1
              subst e1
              exact fin rfl k2 k3 k4
            · cases hm
              refine va_newa (atype := .byte) (ty := .byte) hxc hb (hts _ arrB_in) rfl hK hP hD hS hA (a0 := (n.toNatClampNeg, .inl (fun _ => 0))) (fun _ => rfl) hn0 rfl (by show n.toNatClampNeg * 1 ≤ 536870912; omega) g1 g2 hd (fun q cA H1 k1 k2 k3 k4 => ?_)
              have e1 := cA_eq hK (k := 1) rfl k1
              subst e1
              exact fin rfl k2 k3 k4
            · cases hm
              refine va_newa (atype := .long) (ty := .long) hxc hb (hts _ arrL_in) rfl hK hP hD hS hA (a0 := (n.toNatClampNeg, .inr (.inl (fun _ => 0)))) (fun _ => rfl) hn0 rfl (by show n.toNatClampNeg * 8 ≤ 536870912; omega) g1 g2 hd (fun q cA H1 k1 k2 k3 k4 => ?_)
              have e1 := cA_eq hK (k := 2) rfl k1
              subst e1
              exact fin rfl k2 k3 k4
            · cases hm
          · cases hx
      · cases hx
    · cases hx
  case anewarray k =>
    simp only [mx] at hx
    split at hx
    · rename_i e1
      subst e1
      split at hx
      · rename_i ci n r hci
        split at hx
        · cases hx
        · rename_i hn
          have hn0 : ¬ n < 0 := fun z => hn (Or.inl z)
          have hn1 : n.toNatClampNeg ≤ 600000 := Nat.le_of_not_lt (fun z => hn (Or.inr (Or.inl z)))
          have hn2 : ci = 6 ∨ ci = 3 := Classical.not_not.mp (fun z => hn (Or.inr (Or.inr z)))
          obtain ⟨⟨g1, g2, g3, g4, g5⟩, rfl⟩ := mNew_inv hx
          simp only [wLS, Bool.and_eq_true] at g3
          obtain ⟨C, T, N, hv, hcl, -, -⟩ := mC_ok hci
          have fin : ∀ {q : Nat} {H1 : Heap} {ex : va_E}, trE (adP ad h.length q) cT (.inl (if ci = 6 then 3 else 4, n.toNatClampNeg, .inr (.inr (.inr (.inr (fun _ => none)))))) = ex → va_P (dC, dI) vwCl (mW ad cT h ++ [(q, ex)]) H1 → va_D A (mW ad cT h ++ [(q, ex)]) → va_S A s.heap H1 locs → W p l e (mRm j) s m args below meth c H1 locs (cu + 1) (su + n.toNatClampNeg) Q (F0 m (pc + 3) LS (.ref q :: r.map (trV ad))) := by
            intro q H1 ex he q1 q2 q3
            have k1 := K (adP ad h.length q) H1 locs LS (fun k hk => adP_lt hk) (fun z => by omega) (mI_push I0 g5 g4 he q1 q2 q3) (hL.same (fun k hk => adP_lt hk) g3.1) g1 g2
            simp only [List.map_cons, trV, adP_at] at k1
            rw [trVs_same (fun k hk => adP_lt hk) g3.2] at k1
            exact k1
          have emp : ∀ (n : Nat) (ad : Nat → Nat), (fun i => if i < n then (none : Option Nat).map ad else none) = fun _ => none := fun n ad => by funext i; simp
          rcases hn2 with rfl | rfl
          · cases hv
            refine va_newq hxc hb hown (hts _ hcl) hao.1 hK hP hD hS hA hn0 rfl (by omega) g1 g2 hd (fun q cA H1 k1 k2 k3 k4 => ?_)
            have e1 := cA_eq hK (k := 3) rfl k1
            subst e1
            exact fin (by simp only [trE, trA, emp]; rfl) k2 k3 k4
          · cases hv
            refine va_newq hxc hb hown (hts _ hcl) hao.2 hK hP hD hS hA hn0 rfl (by omega) g1 g2 hd (fun q cA H1 k1 k2 k3 k4 => ?_)
            have e1 := cA_eq hK (k := 4) rfl k1
            subst e1
            exact fin (by simp only [trE, trA, emp]; rfl) k2 k3 k4
      · cases hx
    · cases hx
  case new k =>
    simp only [mx] at hx
    split at hx
    · rename_i e1
      subst e1
      split at hx
      · rename_i ci hci
        split at hx
        · rename_i C0 T0 N hv0
          obtain ⟨⟨g1, g2, g3, g4, g5⟩, rfl⟩ := mNew_inv hx
          simp only [wLS, Bool.and_eq_true] at g3
          obtain ⟨C, T, N', hv, hcl, hin2, hin3⟩ := mC_ok hci
          cases hv0.symm.trans hv
          obtain ⟨u1, u2, u3⟩ := mU_ok hv
          refine va_new hxc hb hts u1 (mTy ci) u2 hown (hts _ hcl) (hts _ hin2) (hts _ hin3) hK hP hD hS hA hv (fs := (mZero ci).map (trV ad)) (zero_ok hv ad) g1 g2 hd (fun q H1 k2 k3 k4 => ?_)
          have hz : (mZero ci).all (wV 0) = true := by
            refine List.all_eq_true.mpr (fun x hx => ?_)
            unfold mZero at hx
            rw [hv] at hx
            obtain ⟨y, -, rfl⟩ := List.mem_map.mp hx
            cases mTy ci y <;> rfl
          have he : trE (adP ad h.length q) cT (.inr (ci, mZero ci)) = .inr (ci, (mZero ci).map (trV ad)) := by
            simp only [trE]
            rw [trVs_same (ad := ad) (n := 0) (fun k hk => by omega) hz]
          have k1 := K (adP ad h.length q) H1 locs LS (fun k hk => adP_lt hk) (fun z => by omega) (mI_push I0 g5 g4 he k2 k3 k4) (hL.same (fun k hk => adP_lt hk) g3.1) g1 g2
          simp only [List.map_cons, trV, adP_at] at k1
          rw [trVs_same (fun k hk => adP_lt hk) g3.2] at k1
          exact k1
        · cases hx
      · cases hx
    · cases hx
  case invokestatic k => exact mc_next ⟨hxc, hb, hml, hown, hts, ⟨hK, hne, hao, hZ, hT⟩, hA, hini, hlaw⟩ I0 hL hcu hsu (Or.inl ⟨rfl, hd⟩) hx K
  case invokevirtual k => exact mc_next ⟨hxc, hb, hml, hown, hts, ⟨hK, hne, hao, hZ, hT⟩, hA, hini, hlaw⟩ I0 hL hcu hsu (Or.inr (Or.inl rfl)) hx K
  case invokespecial k => exact mc_next ⟨hxc, hb, hml, hown, hts, ⟨hK, hne, hao, hZ, hT⟩, hA, hini, hlaw⟩ I0 hL hcu hsu (Or.inr (Or.inr ⟨rfl, hd⟩)) hx K
  case ireturn =>
    simp only [mx, mRet] at hx
    split at hx
    · split at hx
      · cases hx
      · split at hx <;> cases hx
      · cases hx
    · cases hx
  case lreturn =>
    simp only [mx] at hx
    split at hx
    · split at hx <;> cases hx
    · cases hx
  case return_ =>
    simp only [mx] at hx
    split at hx
    · split at hx <;> cases hx
    · cases hx
  all_goals (simp only [mx] at hx; cases hx)
end NX
end
section
theorem zip_all {α : Type} (P : α × Nat → Bool) : ∀ (l : List α) (k : Nat), (l.zipIdx k).all P = true → ∀ (r : Nat) (h : r < l.length), P (l[r], k + r) = true
  | [], _, _, _, h => absurd h (Nat.not_lt_zero _)
  | a :: l, k, hp, 0, h => by
    rw [List.zipIdx_cons, List.all_cons, Bool.and_eq_true] at hp
    exact hp.1
  | a :: l, k, hp, r + 1, h => by
    rw [List.zipIdx_cons, List.all_cons, Bool.and_eq_true] at hp
    have := zip_all P l (k + 1) hp.2 r (by simpa using h)
    rw [show k + (r + 1) = k + 1 + r by omega]
    exact this
theorem mYk {j : Nat} (h : j < mN) (hl : j ≠ mLaw) : ∃ q, mChY j q = true := by
  have key : ∀ (l : List (Nat × Nat × Nat × Nat × Nat × Nat)) (k : Nat), (l.zipIdx k).all (fun e => e.2 == mLaw || mChY e.2 e.1) = true → k ≤ j → j < k + l.length → ∃ q, mChY j q = true := by
    intro l k hp h1 h2
    have h3 := zip_all _ l k hp (j - k) (by omega)
    have e : k + (j - k) = j := by omega
    rw [e] at h3
    simp only [Bool.or_eq_true, beq_iff_eq] at h3
    rcases h3 with h3 | h3
    · exact absurd h3 hl
    · exact ⟨_, h3⟩
  unfold mN at h
  rcases Nat.lt_or_ge j 16 with h0 | h0
  · exact key mYp_0 0 mChY_0 (by omega) (by show j < 0 + 16; omega)
  rcases Nat.lt_or_ge j 32 with h1 | h1
  · exact key mYp_1 16 mChY_1 (by omega) (by show j < 16 + 16; omega)
  rcases Nat.lt_or_ge j 48 with h2 | h2
  · exact key mYp_2 32 mChY_2 (by omega) (by show j < 32 + 16; omega)
  rcases Nat.lt_or_ge j 64 with h3 | h3
  · exact key mYp_3 48 mChY_3 (by omega) (by show j < 48 + 16; omega)
  rcases Nat.lt_or_ge j 80 with h4 | h4
  · exact key mYp_4 64 mChY_4 (by omega) (by show j < 64 + 16; omega)
  rcases Nat.lt_or_ge j 96 with h5 | h5
  · exact key mYp_5 80 mChY_5 (by omega) (by show j < 80 + 16; omega)
  rcases Nat.lt_or_ge j 112 with h6 | h6
  · exact key mYp_6 96 mChY_6 (by omega) (by show j < 96 + 16; omega)
  rcases Nat.lt_or_ge j 128 with h7 | h7
  · exact key mYp_7 112 mChY_7 (by omega) (by show j < 112 + 16; omega)
  rcases Nat.lt_or_ge j 144 with h8 | h8
  · exact key mYp_8 128 mChY_8 (by omega) (by show j < 128 + 16; omega)
  rcases Nat.lt_or_ge j 160 with h9 | h9
  · exact key mYp_9 144 mChY_9 (by omega) (by show j < 144 + 16; omega)
  rcases Nat.lt_or_ge j 176 with h10 | h10
  · exact key mYp_10 160 mChY_10 (by omega) (by show j < 160 + 16; omega)
  rcases Nat.lt_or_ge j 177 with h11 | h11
  · exact key mYp_11 176 mChY_11 (by omega) (by show j < 176 + 1; omega)
  omega
theorem mY_ok {j : Nat} (h : j < mN) (hl : j ≠ mLaw) : plainFor (mY j) = true ∧ ((mY j).cls ≠ "java/lang/invoke/MethodHandle" ∧ (mY j).cls ≠ "java/lang/invoke/VarHandle" ∧ (parseMethodDescriptor (mY j).desc).map (fun d => d.parameters.length) = some (mNp j)) ∧ (mY j).cls = mR (mO j) ∧ Cond.initialized (mY j).cls ∈ mG ∧ (mKd j = 0 → Cond.static (mY j) ∈ mG) ∧ (mKd j = 1 → Cond.instanceMethod (mY j) ∈ mG ∧ Cond.selects (mY j).cls (mY j) (mY j) ∈ mG) ∧ (mKd j = 2 → Cond.instanceMethod (mY j) ∈ mG ∧ (mY j).name = "<init>" ∧ mRt j = none) := by
  obtain ⟨q, hq⟩ := mYk h hl
  unfold mChY at hq
  simp only [Bool.and_eq_true, decide_eq_true_eq] at hq
  obtain ⟨⟨⟨⟨⟨⟨q1, q2⟩, q3⟩, q4⟩, q5⟩, q6⟩, q7⟩ := hq
  refine ⟨q1, ⟨q2, q3, q4⟩, q5, mIs_G q6 rfl, fun e => ?_, fun e => ?_, fun e => ?_⟩
  · rw [e] at q7
    exact mIs_G q7 rfl
  · rw [e] at q7
    simp only [Bool.and_eq_true] at q7
    exact ⟨mIs_G q7.1 rfl, mIs_G q7.2 rfl⟩
  · rw [e] at q7
    simp only [Bool.and_eq_true, decide_eq_true_eq] at q7
    exact ⟨mIs_G q7.1.1 rfl, q7.1.2, q7.2⟩
theorem mG_good {w : Cond} (h : w ∈ mG) : (w.onTables && w.keeps) = true ∨ ∃ ty, w = .arrayClass ty := good_of_word (List.mem_filter.mp h).2
def mWs (j : Nat) : List Cond := Cond.code (mY j) (mB j) (mL j) (mRt j) :: mG
theorem mWs_in {j : Nat} (h : j < mN) (hl : j ≠ mLaw) : GoodIn mG (mWs j) := by
  intro w hw
  rcases List.mem_cons.mp hw with rfl | hw
  · exact ⟨mCd j h hl, mG_good (mCd j h hl)⟩
  · exact ⟨hw, mG_good hw⟩
theorem mMet_of {l : Launch} {y : MethodName} {ws' : List Cond} {rm : Room} {Pc : Array Value → State → Prop} {Qc : Array Value → State → Outcome → State → Prop} {mc ms : Nat} {free : Addr → Prop} {cc : ByteArray} {maxL : Nat} {ret : Option FieldType}
    (hy : plainFor y = true)
    (body : ∀ p e s m args below meth c s₁, BodyLoose p l y (headSpec (Cond.code y cc maxL ret :: ws') rm) cc maxL ret e s m args below meth c s₁ → c.maxLocals = maxL → Pc args s → W p l e rm s m args below meth c s.heap [] 0 0 (MQ below Qc args s mc ms free) (entryFrame m args maxL)) : Met l y (Cond.code y cc maxL ret :: ws') rm Pc Qc mc ms free := by
  refine MetFree.of_bodySF (code := cc) (maxLocals := maxL) (ret := ret) hy (fun args s m h hn => ?_) (fun p e s m args below meth c s₁ B hml hP _ => ?_)
  · obtain ⟨meth, c, h1, h2, h3, h4, h5, h6, -, -⟩ := Cond.code_spec hn (atoms_spec (ws := Cond.code y cc maxL ret :: ws') h _ List.mem_cons_self)
    exact ⟨meth, c, h1, h2, h3, h4, h5, h6⟩
  · obtain ⟨t, a1, o, b1, b2, b3⟩ := body p e s m args below meth c s₁ B hml hP s₁ (by rw [B.state]; rfl) (Stand.of_body B)
    exact ⟨t, o, a1, b1, b2, b3.1, b3.2⟩
theorem mArg_len (ad : Nat → Nat) : ∀ (as : List Value), (lg_sl (as.map (trV ad))).length = (mArg as).length
  | [] => rfl
  | v :: r => by
    have ih := mArg_len ad r
    unfold lg_sl at ih ⊢
    simp only [List.map_cons, List.flatMap_cons, List.length_append, mArg, trV_cat]
    rw [ih]
    split <;> simp <;> omega
theorem mArg_in (ad : Nat → Nat) : ∀ (as : List Value) (i k : Nat) {v : Value}, (mArg as)[k]? = some (some v) → (i + k, trV ad v) ∈ lv_args i (as.map (trV ad))
  | [], _, _, _, h => by simp [mArg] at h
  | w :: r, i, k, v, h => by
    simp only [List.map_cons, lv_args, trV_cat, List.mem_cons]
    unfold mArg at h
    by_cases hc : w.category = 2
    · rw [if_pos hc] at h ⊢
      match k, h with
      | 0, h => simp at h; subst h; exact Or.inl rfl
      | 1, h => simp at h
      | k + 2, h =>
        have h1 : (mArg r)[k]? = some (some v) := by simpa using h
        have := mArg_in ad r (i + 2) k h1
        exact Or.inr (by rw [show i + (k + 2) = i + 2 + k by omega]; exact this)
    · rw [if_neg hc] at h ⊢
      match k, h with
      | 0, h => simp at h; subst h; exact Or.inl rfl
      | k + 1, h =>
        have h1 : (mArg r)[k]? = some (some v) := by simpa using h
        have := mArg_in ad r (i + 1) k h1
        exact Or.inr (by rw [show i + (k + 1) = i + 1 + k by omega]; exact this)
theorem mEnt_has (ad : Nat → Nat) {j : Nat} {as : List Value} (h : (mArg as).length ≤ mL j) : mHs ((lg_sl (as.map (trV ad)) ++ List.replicate (mL j - (lg_sl (as.map (trV ad))).length) Slot.unset).toArray) (mL j) ad (mEnt j as) := by
  refine mHs.of (lv_entry (as.map (trV ad)) (n := mL j) (by rw [mArg_len]; exact h)) (by unfold mEnt; rw [List.length_append, List.length_replicate]; omega) (fun k v hk => ?_)
  unfold mEnt at hk
  by_cases hl : k < (mArg as).length
  · rw [List.getElem?_append_left hl] at hk
    have := mArg_in ad as 0 k hk
    simpa using this
  · rw [List.getElem?_append_right (by omega)] at hk
    have := List.eq_of_mem_replicate (List.mem_of_getElem? hk)
    cases this
section LEN
variable {j : Nat} {i : Instr} {len pc : Nat} {ls : mLoc} {st : List Value} {h : mHeap} {cu su : Nat}
theorem cPut_len {a ci k : Nat} {v : Value} {h' : mHeap} (hx : cPut h a ci k v = some h') : h'.length = h.length := by
  obtain ⟨_, -, -, rfl⟩ := cPut_inv hx
  simp
theorem cAstI_len {a : Nat} {i x : Int32} {h' : mHeap} (hx : cAstI h a i x = some h') : h'.length = h.length := by
  unfold cAstI at hx
  repeat' split at hx
  all_goals first | (cases hx; done) | (cases hx; simp)
theorem cAstB_len {a : Nat} {i x : Int32} {h' : mHeap} (hx : cAstB h a i x = some h') : h'.length = h.length := by
  unfold cAstB at hx
  repeat' split at hx
  all_goals first | (cases hx; done) | (cases hx; simp)
theorem cAstL_len {a : Nat} {i : Int32} {x : Int64} {h' : mHeap} (hx : cAstL h a i x = some h') : h'.length = h.length := by
  unfold cAstL at hx
  repeat' split at hx
  all_goals first | (cases hx; done) | (cases hx; simp)
theorem cAstR_len {a b : Nat} {i : Int32} {h' : mHeap} (hx : cAstR h a i b = some h') : h'.length = h.length := by
  unfold cAstR at hx
  repeat' split at hx
  all_goals first | (cases hx; done) | (cases hx; simp)
theorem cCpy_len {a b : Nat} {sp dp n : Int32} {h' : mHeap} (hx : cCpy h a b sp dp n = some h') : h'.length = h.length := by
  unfold cCpy at hx
  split at hx
  · split at hx
    · cases hx; simp
    · cases hx
  · cases hx
end LEN
end
section
section SND
variable {j : Nat} {i : Instr} {len pc : Nat} {ls : mLoc} {st : List Value} {h : mHeap} {cu su : Nat}
set_option maxHeartbeats 4000000 in
theorem mCall_len {kd idx : Nat} {F : mFr} (hx : mCall j kd idx len pc ls st h cu su = some (.inl F)) : h.length ≤ F.2.2.2.1.length := by
  unfold mCall mnx at hx
  split at hx
  · split at hx
    · split at hx
      · split at hx
        · split at hx
          · cases hx; exact Nat.le_refl _
          · cases hx
        · cases hx
      · split at hx
        · split at hx
          · split at hx
            · split at hx
              · rename_i hc; cases hx; exact Nat.le_of_eq (cCpy_len hc).symm
              · cases hx
            · cases hx
          · cases hx
        · split at hx
          · split at hx
            · split at hx <;> cases hx
            · split at hx
              · split at hx
                · split at hx <;> cases hx
                · cases hx
              · cases hx
          · cases hx
    · cases hx
  · cases hx
set_option maxHeartbeats 4000000 in
theorem mx_len {F : mFr} (hx : mx j i len pc ls st h cu su = some (.inl F)) : h.length ≤ F.2.2.2.1.length := by
  cases i
  case putfield k =>
    simp only [mx] at hx
    obtain ⟨-, ci, k1, a, r, v, h', -, -, -, hc, rfl⟩ := mPutF_inv hx
    exact Nat.le_of_eq (cPut_len hc).symm
  case getfield k =>
    simp only [mx] at hx
    obtain ⟨-, ci, k1, a, r, v, -, -, -, rfl⟩ := mGetF_inv hx
    exact Nat.le_refl _
  case invokestatic k => exact mCall_len hx
  case invokevirtual k => exact mCall_len (pc := pc) hx
  case invokespecial k => exact mCall_len hx
  case tableswitch d lo hi offs =>
    simp only [mx] at hx
    obtain ⟨_, _, _, _, -, -, -, rfl⟩ := mTab_inv hx
    exact Nat.le_refl _
  case ifCond cd o =>
    cases cd <;> (simp only [mx] at hx; obtain ⟨-, _, _, _, -, -, rfl⟩ := mif1_inv hx; exact Nat.le_refl _)
  case if_icmp cd o =>
    cases cd <;> (simp only [mx] at hx; obtain ⟨-, _, _, _, _, -, -, rfl⟩ := mif2_inv hx; exact Nat.le_refl _)
  case iastore =>
    simp only [mx, mnx] at hx
    repeat' split at hx
    all_goals first | (cases hx; done) | (rename_i hc; cases hx; exact Nat.le_of_eq (cAstI_len hc).symm)
  case bastore =>
    simp only [mx, mnx] at hx
    repeat' split at hx
    all_goals first | (cases hx; done) | (rename_i hc; cases hx; exact Nat.le_of_eq (cAstB_len hc).symm)
  case lastore =>
    simp only [mx, mnx] at hx
    repeat' split at hx
    all_goals first | (cases hx; done) | (rename_i hc; cases hx; exact Nat.le_of_eq (cAstL_len hc).symm)
  case aastore =>
    simp only [mx, mnx] at hx
    repeat' split at hx
    all_goals first | (cases hx; done) | (rename_i hc; cases hx; exact Nat.le_of_eq (cAstR_len hc).symm)
  case newarray a =>
    simp only [mx] at hx
    repeat' split at hx
    all_goals first | (cases hx; done) | (obtain ⟨-, rfl⟩ := mNew_inv hx; simp)
  case anewarray a =>
    simp only [mx] at hx
    split at hx
    · split at hx
      · split at hx
        · cases hx
        · obtain ⟨-, rfl⟩ := mNew_inv hx; simp
      · cases hx
    · cases hx
  case new a =>
    simp only [mx] at hx
    repeat' split at hx
    all_goals first | (cases hx; done) | (obtain ⟨-, rfl⟩ := mNew_inv hx; simp)
  case ireturn =>
    simp only [mx, mRet] at hx
    repeat' split at hx
    all_goals (cases hx)
  all_goals (simp only [mx, mload, mstore, mpush, mbi, mbl, mbs, mui, mnx] at hx)
  all_goals (repeat' split at hx)
  all_goals first | (cases hx; done) | (cases hx; exact Nat.le_refl _)
/-- how a method ends -/
def mRe (j pc : Nat) (r : Option Value) : Prop := match r with
  | some (.int v) => decode (mB j) pc = .ok (.ireturn, 1) ∧ (mRt j = some .int ∨ (mRt j = some .boolean ∧ narrow .boolean (.int v) = .int v))
  | some (.long _) => decode (mB j) pc = .ok (.lreturn, 1) ∧ mRt j = some .long
  | none => decode (mB j) pc = .ok (.return_, 1) ∧ mRt j = none
  | _ => False
set_option maxHeartbeats 4000000 in
theorem mCall_ret {kd idx : Nat} {r : Option Value} (hx : mCall j kd idx len pc ls st h cu su = some (.inr (.inl r))) : False := by
  unfold mCall mnx at hx
  split at hx
  · split at hx
    · split at hx
      · split at hx
        · split at hx <;> cases hx
        · cases hx
      · split at hx
        · split at hx
          · split at hx
            · split at hx <;> cases hx
            · cases hx
          · cases hx
        · split at hx
          · split at hx
            · split at hx <;> cases hx
            · split at hx
              · split at hx
                · split at hx <;> cases hx
                · cases hx
              · cases hx
          · cases hx
    · cases hx
  · cases hx
set_option maxHeartbeats 4000000 in
theorem mx_ret {r : Option Value} (hd : decode (mB j) pc = .ok (i, len)) (hx : mx j i len pc ls st h cu su = some (.inr (.inl r))) : mRe j pc r ∧ st = r.toList := by
  cases i
  case ireturn =>
    simp only [mx, mRet] at hx
    split at hx
    · rename_i e; subst e
      split at hx
      · rename_i hr; cases hx; exact ⟨⟨hd, Or.inl hr⟩, rfl⟩
      · rename_i hr
        split at hx
        · rename_i hn; cases hx; exact ⟨⟨hd, Or.inr ⟨hr, hn⟩⟩, rfl⟩
        · cases hx
      · cases hx
    · cases hx
  case lreturn =>
    simp only [mx] at hx
    split at hx
    · rename_i e; subst e
      split at hx
      · rename_i hr; cases hx; exact ⟨⟨hd, hr⟩, rfl⟩
      · cases hx
    · cases hx
  case return_ =>
    simp only [mx] at hx
    split at hx
    · rename_i e; subst e
      split at hx
      · rename_i hr; cases hx; exact ⟨⟨hd, hr⟩, rfl⟩
      · cases hx
    · cases hx
  case invokestatic k => exact (mCall_ret hx).elim
  case invokevirtual k => exact (mCall_ret (pc := pc) hx).elim
  case invokespecial k => exact (mCall_ret hx).elim
  case ifCond cd o =>
    cases cd
    all_goals (simp only [mx, mif1, mnx] at hx)
    all_goals (split at hx)
    all_goals first | (cases hx; done) | (split at hx)
    all_goals first | (cases hx; done) | (split at hx)
    all_goals cases hx
  case if_icmp cd o =>
    cases cd
    all_goals (simp only [mx, mif2, mnx] at hx)
    all_goals (split at hx)
    all_goals first | (cases hx; done) | (split at hx)
    all_goals first | (cases hx; done) | (split at hx)
    all_goals cases hx
  case tableswitch d lo hi offs =>
    simp only [mx, mTab, mnx] at hx
    split at hx
    · split at hx
      · split at hx <;> cases hx
      · cases hx
    · cases hx
  all_goals (simp only [mx, mload, mstore, mpush, mbi, mbl, mbs, mui, mnx, mGetF, mPutF, mNew] at hx)
  all_goals (repeat' split at hx)
  all_goals (cases hx)
set_option maxHeartbeats 4000000 in
theorem mCall_call {kd idx j' : Nat} {as rest : List Value} (hx : mCall j kd idx len pc ls st h cu su = some (.inr (.inr (j', as, rest)))) : len = 3 ∧ ∃ ne, mM (mO j) idx = some (j', ne) ∧ j' ≠ 1000 ∧ j' ≠ 1001 ∧ (mKd j' = kd ∧ mNp j' ≤ st.length ∧ mRoomOk j j' cu su = true ∧ j' < mN ∧ j' ≠ mLaw ∧ ((mRm j').cells = 0 ∨ wLS h.length ls (st.drop (mNp j')) = true)) ∧ mCat rest ≤ 8 ∧ ((kd = 0 ∧ as = (st.take (mNp j')).reverse ∧ rest = st.drop (mNp j')) ∨ (kd ≠ 0 ∧ ∃ b fs, st.drop (mNp j') = .ref b :: rest ∧ h[b]? = some (.inr (mO j', fs)) ∧ as = .ref b :: (st.take (mNp j')).reverse)) := by
  unfold mCall mnx at hx
  split at hx
  · rename_i e1
    split at hx
    · rename_i j1 ne hm
      split at hx
      · split at hx
        · split at hx <;> cases hx
        · cases hx
      · rename_i n1
        split at hx
        · split at hx
          · split at hx
            · split at hx <;> cases hx
            · cases hx
          · cases hx
        · rename_i n2
          split at hx
          · rename_i hc
            split at hx
            · split at hx
              · rename_i h8
                cases hx
                exact ⟨e1, ne, hm, n1, n2, hc, h8, Or.inl ⟨rfl, rfl, rfl⟩⟩
              · cases hx
            · rename_i hk0
              split at hx
              · rename_i b r hdr
                split at hx
                · rename_i c fs hb
                  split at hx
                  · rename_i h8
                    cases hx
                    obtain ⟨h8, h9⟩ := h8
                    subst h8
                    exact ⟨e1, ne, hm, n1, n2, hc, h9, Or.inr ⟨fun z => hk0 z, b, fs, hdr, hb, rfl⟩⟩
                  · cases hx
                · cases hx
              · cases hx
          · cases hx
    · cases hx
  · cases hx
set_option maxHeartbeats 4000000 in
theorem mx_call {j' : Nat} {as rest : List Value} (hx : mx j i len pc ls st h cu su = some (.inr (.inr (j', as, rest)))) : ∃ kd idx, ((kd = 0 ∧ i = .invokestatic idx) ∨ (kd = 1 ∧ i = .invokevirtual idx) ∨ (kd = 2 ∧ i = .invokespecial idx)) ∧ mCall j kd idx len pc ls st h cu su = some (.inr (.inr (j', as, rest))) := by
  cases i
  case invokestatic k => exact ⟨0, k, Or.inl ⟨rfl, rfl⟩, hx⟩
  case invokevirtual k => exact ⟨1, k, Or.inr (Or.inl ⟨rfl, rfl⟩), hx⟩
  case invokespecial k => exact ⟨2, k, Or.inr (Or.inr ⟨rfl, rfl⟩), hx⟩
  case ifCond cd o =>
    cases cd
    all_goals (simp only [mx, mif1, mnx] at hx)
    all_goals (split at hx)
    all_goals first | (cases hx; done) | (split at hx)
    all_goals first | (cases hx; done) | (split at hx)
    all_goals cases hx
  case if_icmp cd o =>
    cases cd
    all_goals (simp only [mx, mif2, mnx] at hx)
    all_goals (split at hx)
    all_goals first | (cases hx; done) | (split at hx)
    all_goals first | (cases hx; done) | (split at hx)
    all_goals cases hx
  case tableswitch d lo hi offs =>
    simp only [mx, mTab, mnx] at hx
    split at hx
    · split at hx
      · split at hx <;> cases hx
      · cases hx
    · cases hx
  all_goals (simp only [mx, mload, mstore, mpush, mbi, mbl, mbs, mui, mnx, mGetF, mPutF, mNew, mRet] at hx)
  all_goals (repeat' split at hx)
  all_goals (cases hx)
end SND
end
section
theorem run_len : ∀ (n : Nat) {j pc : Nat} {ls : mLoc} {st : List Value} {h : mHeap} {cu su : Nat} {r : Option Value} {h' : mHeap}, run n j pc ls st h cu su = some (r, h') → h.length ≤ h'.length := by
  intro n
  induction n with
  | zero => intro j pc ls st h cu su r h' hr; cases hr
  | succ n IH =>
    intro j pc ls st h cu su r h' hr
    unfold run at hr
    split at hr
    · split at hr
      · rename_i hx
        exact Nat.le_trans (mx_len hx) (IH hr)
      · cases hr; exact Nat.le_refl _
      · split at hr
        · split at hr
          · rename_i hr1
            exact Nat.le_trans (IH hr1) (IH hr)
          · cases hr
        · cases hr
      · cases hr
    · cases hr
theorem run_noref : ∀ (n : Nat) {j pc : Nat} {ls : mLoc} {st : List Value} {h : mHeap} {cu su k : Nat} {h' : mHeap}, run n j pc ls st h cu su ≠ some (some (.ref k), h') := by
  intro n
  induction n with
  | zero => intro j pc ls st h cu su r h' hr; cases hr
  | succ n IH =>
    intro j pc ls st h cu su r h' hr
    unfold run at hr
    split at hr
    · rename_i hd
      split at hr
      · exact IH hr
      · rename_i hx
        cases hr
        exact (mx_ret hd hx).1
      · split at hr
        · split at hr
          · exact IH hr
          · cases hr
        · cases hr
      · cases hr
    · cases hr
theorem mR_vw {o : Nat} {q : vw_C} (h : vwCl[o]? = some q) : q.1 = mR o := by
  match o, h with
  | 0, h => cases h; rfl
  | 1, h => cases h; rfl
  | 2, h => cases h; rfl
  | 3, h => cases h; rfl
  | 4, h => cases h; rfl
  | 5, h => cases h; rfl
  | 6, h => cases h; rfl
  | 7, h => cases h; rfl
  | 8, h => cases h; rfl
  | n + 9, h => simp [vwCl] at h
end
section
section MAIN
variable {cT dC : Nat → ClassId} {dI : Nat → Nat → Nat}
theorem mE.call {t : Nat} {A : Nat → Prop} {U : State} (g : JFrame) (mk : MethodId) (a : Array Value) (h : mE cT dC dI t A U) : mE cT dC dI t A (U.calling g mk a) := by
  obtain ⟨h1, h2, ⟨h3, h4⟩, h5, h6⟩ := h
  refine ⟨va_K.moved (u := U) (U := U.calling g mk a) (Vm.Alike.refl U.vm) h1, fun w hw => ?_, ⟨va_AO.moved (u := U) (U := U.calling g mk a) (Vm.Alike.refl U.vm) h3, va_AO.moved (u := U) (U := U.calling g mk a) (Vm.Alike.refl U.vm) h4⟩, va_Z.moved (u := U) (U := U.calling g mk a) (Vm.Alike.refl U.vm) h5, va_T.moved (u := U) (U := U.calling g mk a) (Vm.Alike.refl U.vm) h6⟩
  have h7 := h2 w hw
  have h8 := (List.mem_filter.mp hw).2
  cases w <;> first | exact va_Nw.same (u := U) (U := U.calling g mk a) rfl rfl h7 | cases h8
theorem mE.warm {t : Nat} {A B : Nat → Prop} {s U : State} {H : Heap} {locs : List Loc} (hU : U.heap = H) (hW : s.WarmedH U.vm) (hS : va_S A s.heap H locs) (hAB : ∀ q, B q → A q) (h : mE cT dC dI t A s) : mE cT dC dI t B U := by
  obtain ⟨h1, h2, ⟨h3, h4⟩, h5, h6⟩ := h
  refine ⟨va_K.moved hW.alike h1, fun w hw => ?_, ⟨va_AO.moved hW.alike h3, va_AO.moved hW.alike h4⟩, ?_, ?_⟩
  · have h7 := h2 w hw
    have h8 := (List.mem_filter.mp hw).2
    cases w <;> first | exact va_Nw.warmF hW h7 | exact va_Nw.warmM hW h7 | cases h8
  · rw [hU]
    exact ((h5.kept (fun a ha hn => hS.2.1 a ha hn)).narrow hAB).moved hW.alike
  · rw [hU]
    exact ((h6.kept (fun a ha hn => hS.2.1 a ha hn)).narrow hAB).moved hW.alike
/-- a method's start and end, of the small machine's -/
def mPc (cT dC : Nat → ClassId) (dI : Nat → Nat → Nat) (t sz : Nat) (ad : Nat → Nat) (h : mHeap) (as : List Value) : Array Value → State → Prop :=
  va_Pc (as.map (trV ad)) (fun U => U.heap.size = sz ∧ va_P (dC, dI) vwCl (mW ad cT h) U.heap ∧ va_D (fun _ => True) (mW ad cT h) ∧ mE cT dC dI t (va_A (mW ad cT h) sz) U)
def mQc (cT dC : Nat → ClassId) (dI : Nat → Nat → Nat) (t b L : Nat) (xs : Nat → Int32) (sz j : Nat) (ad : Nat → Nat) (h : mHeap) (r : Option Value) (h' : mHeap) : Array Value → State → Outcome → State → Prop := fun _ st o u =>
  ∃ ad' : Nat → Nat, o = .returned r ∧ (∀ k, k < h.length → ad' k = ad k) ∧ ((mRm j).cells = 0 → ad' = ad) ∧ (ad' 0 = t ∧ ad' 1 = b ∧ h'[0]? = some (.inl (5, 9, .inl mPart)) ∧ h'[1]? = some (.inl (6, L, .inl xs))) ∧ va_P (dC, dI) vwCl (mW ad' cT h') u.heap ∧ va_D (va_A (mW ad cT h) sz) (mW ad' cT h') ∧ va_F (va_A (mW ad cT h) sz) st u
def mEn (l : Launch) (e : Env) (below : List Frame) (Q : State → Prop) (cT dC : Nat → ClassId) (dI : Nat → Nat → Nat) (t b L : Nat) (xs : Nat → Int32) (A : Nat → Prop) (j : Nat) (p : Program) (s : State) (m : MethodId) (meth : Method) (c : Code) (args : Array Value) (ad : Nat → Nat) (n : Nat) (r : Option Value) (h' : mHeap) : Prop :=
  ∀ (ad' : Nat → Nat) (H' : Heap) (locs' : List Loc) (LS' : Array Slot) (pc' cu' su' : Nat), (∀ k, k < n → ad' k = ad k) → ((mRm j).cells = 0 → ad' = ad) → mI cT dC dI t b L xs A s ad' h' H' locs' → cu' ≤ (mRm j).cells → su' ≤ (mRm j).slots → mRe j pc' r → W p l e (mRm j) s m args below meth c H' locs' cu' su' Q (F0 m pc' LS' r.toList)
def Sound (l : Launch) (n : Nat) : Prop := ∀ {j pc : Nat} {ls : mLoc} {st : List Value} {h : mHeap} {cu su : Nat} {r : Option Value} {h' : mHeap}, run n j pc ls st h cu su = some (r, h') → ∀ {cT dC : Nat → ClassId} {dI : Nat → Nat → Nat} {t b L : Nat} {xs : Nat → Int32} {A : Nat → Prop} {p : Program} {e : Env} {s : State} {m : MethodId} {args : Array Value} {below : List Frame} {meth : Method} {c : Code} {Q : State → Prop} {ad : Nat → Nat} {H : Heap} {locs : List Loc} {LS : Array Slot},
  mCx cT dC dI t b L xs A j p s m meth c args → mI cT dC dI t b L xs A s ad h H locs → mHs LS (mL j) ad ls → cu ≤ (mRm j).cells → su ≤ (mRm j).slots → mEn l e below Q cT dC dI t b L xs A j p s m meth c args ad h.length r h' → W p l e (mRm j) s m args below meth c H locs cu su Q (F0 m pc LS (st.map (trV ad)))
set_option maxHeartbeats 4000000 in
/-- what the small machine does of a method is the method's contract -/
theorem sound_met {l : Launch} {n : Nat} (IH : Sound l n) {j : Nat} (hj : j < mN) (hjl : j ≠ mLaw) {as : List Value} {h h' : mHeap} {r : Option Value} (hlen : (mArg as).length ≤ mL j) (hr : run n j 0 (mEnt j as) [] h 0 0 = some (r, h')) (t b L : Nat) (xs : Nat → Int32) (sz : Nat) (ad : Nat → Nat) (h0 : ad 0 = t ∧ ad 1 = b ∧ h[0]? = some (.inl (5, 9, .inl mPart)) ∧ h[1]? = some (.inl (6, L, .inl xs))) :
    Met l (mY j) (mWs j) (mRm j) (mPc cT dC dI t sz ad h as) (mQc cT dC dI t b L xs sz j ad h r h') (mRm j).cells (mRm j).slots (va_A (mW ad cT h) sz) := by
  obtain ⟨hpl, -, hcls, -, -, -, hinit⟩ := mY_ok hj hjl
  refine mMet_of hpl ?_
  intro p e s m args below meth c s₁ B hml hv
  obtain ⟨rfl, hsz, hP, hD0, hE⟩ := hv
  subst hsz
  have hx := B.exec
  have hb := B.bytes
  have hr0 := B.returns
  have hts : ∀ w ∈ mWs j, w.before (as.map (trV ad)).toArray s = true := atoms_spec (ws := mWs j) B.pre
  have hown : s.vm.findClass (mY j).cls = some m.cls := findClass_of_methodNamed B.named
  have hlocks := B.notSynchronized
  have hD := hD0.self (sz := s.heap.size)
  have hin : meth.name = (mY j).name := (name_of_methodNamed B.named B.method).1
  have C : mCx cT dC dI t b L xs (va_A (mW ad cT h) s.heap.size) j p s m meth c (as.map (trV ad)).toArray := ⟨hx, hb, hml, by rw [← hcls]; exact hown, fun w hw => hts w (List.mem_cons_of_mem _ hw), hE, fun q hq => Or.inr hq, fun hk => by rw [hin]; exact (hinit hk).2.1, fun z => absurd z hjl⟩
  rw [lg_entry_eq]
  refine IH hr C ⟨h0.1, h0.2.1, h0.2.2.1, h0.2.2.2, hP, hD, va_S.rf⟩ (mEnt_has ad hlen) (Nat.zero_le _) (Nat.zero_le _) ?_
  intro ad' H' locs' LS' pc' cu' su' ha hc I' h1 h2 hre
  obtain ⟨i1, i2, i3, i4, i5, i6, i7⟩ := I'
  refine W.widen h1 h2 ?_
  have fin : ∀ (v : State), v.heap = H' → mQc cT dC dI t b L xs s.heap.size j ad h r h' (as.map (trV ad)).toArray s (.returned r) v := fun v hv => ⟨ad', rfl, ha, hc, ⟨i1, i2, i3, i4⟩, by rw [hv]; exact i5, i6, i7.F hv⟩
  unfold mRe at hre
  split at hre
  · obtain ⟨q1, q2⟩ := hre
    rcases q2 with q2 | ⟨q2, q3⟩
    · exact W.iret hx hb (hr0.trans q2) (fun v hv _ => fin v hv) i7.2.2 q1
    · exact W.zret hx hb (hr0.trans q2) q3 (fun v hv _ => fin v hv) i7.2.2 q1
  · exact W.lret hx hb (hr0.trans hre.2) (fun v hv _ => fin v hv) i7.2.2 hre.1
  · exact W.vret hx hb (hr0.trans hre.2) (fun v hv _ => fin v hv) i7.2.2 hre.1
  · exact hre.elim
theorem mPc_blind {t sz : Nat} {ad : Nat → Nat} {h : mHeap} {as : List Value} : FrameBlind (mPc cT dC dI t sz ad h as) := fun a U g mk q => ⟨q.1, q.2.1, q.2.2.1, q.2.2.2.1, q.2.2.2.2.call g mk a⟩
theorem mA_in {A : Nat → Prop} {s : State} {ad : Nat → Nat} {h : mHeap} {H : Heap} {locs : List Loc} (hD : va_D A (mW ad cT h)) (hS : va_S A s.heap H locs) (hA : ∀ q, s.heap.size ≤ q → A q) : ∀ q, va_A (mW ad cT h) H.size q → A q := by
  intro q hq
  rcases hq with ⟨k, e, hk⟩ | hq
  · exact hD.2 k _ hk
  · exact hA q (Nat.le_trans hS.1 hq)
theorem mCat_tr (ad : Nat → Nat) (st : List Value) : ((st.map (trV ad)).map fun v => v.category).sum = mCat st := by
  unfold mCat
  rw [List.map_map]
  have : ((fun v => Value.category v) ∘ trV ad) = fun v => v.category := by funext v; exact trV_cat ad v
  rw [this]
set_option maxHeartbeats 4000000 in
theorem sound (l : Launch) : ∀ n, Sound l n := by
  intro n
  induction n with
  | zero => intro j pc ls st h cu su r h' hr; cases hr
  | succ n IH =>
    intro j pc ls st h cu su r h' hr cT dC dI t b L xs A p e s m args below meth c Q ad H locs LS C I hL hcu hsu hend
    unfold run at hr
    split at hr
    · rename_i i len hd
      split at hr
      · rename_i pc1 ls1 st1 h1 cu1 su1 hx
        refine mx_next C I hL hcu hsu hd hx ?_
        intro ad' H' locs' LS' ha hc I' hL' g1 g2
        refine IH hr C I' hL' g1 g2 ?_
        intro ad2 H2 locs2 LS2 pc2 cu2 su2 ha2 hc2 I2 k1 k2 hre
        have hlen := mx_len hx
        exact hend ad2 H2 locs2 LS2 pc2 cu2 su2 (fun k hk => (ha2 k (Nat.lt_of_lt_of_le hk hlen)).trans (ha k hk)) (fun z => (hc2 z).trans (hc z)) I2 k1 k2 hre
      · rename_i v hx
        cases hr
        obtain ⟨hre, rfl⟩ := mx_ret hd hx
        have e1 : r.toList.map (trV ad) = r.toList := by
          unfold mRe at hre
          split at hre
          · rfl
          · rfl
          · rfl
          · exact hre.elim
        rw [e1]
        exact hend ad H locs LS pc cu su (fun _ _ => rfl) (fun _ => rfl) I hcu hsu hre
      · rename_i j' as rest hx
        split at hr
        · rename_i hal
          split at hr
          · rename_i v h1 hr1
            obtain ⟨kd, idx, hki, hx⟩ := mx_call hx
            obtain ⟨rfl, ne, hm, n1, n2, ⟨hkd, hnp, hro, hjn, hjl, hw⟩, h8, has⟩ := mCall_call hx
            obtain ⟨-, hyd, hcls, hyi, hy0, hy1, hy2⟩ := mY_ok hjn hjl
            obtain ⟨-, -, m3⟩ := mM_ok hm
            obtain ⟨m4, m5⟩ := m3 n1 n2
            have C0 := C
            obtain ⟨hxc, hb, hml, hown, hts, hE, hA, hini, hlaw⟩ := C
            have I0 := I
            obtain ⟨ia0, ia1, ih0, ih1, hP, hD, hS⟩ := I
            have hMet := sound_met (cT := cT) (dC := dC) (dI := dI) IH hjn hjl hal hr1 t b L xs H.size ad ⟨ia0, ia1, ih0, ih1⟩
            have hAi := mA_in hD hS hA
            have hpre : ∀ U : State, U.heap = H → s.WarmedH U.vm → mPc cT dC dI t H.size ad h as (as.map (trV ad)).toArray U := fun U hU hW => ⟨rfl, by rw [hU], by rw [hU]; exact hP, hD.weaken (fun _ _ _ _ => trivial), mE.warm hU hW hS hAi hE⟩
            simp only [mRoomOk, decide_eq_true_eq] at hro
            obtain ⟨r1, r2, r3, r4⟩ := hro
            have hrest : mCat rest ≤ 8 := h8
            -- behind the call
            have after : va_Run p l e (mRm j) s m args below meth c H locs cu su (mRm j').cells (mRm j').slots (F0 m pc LS (st.map (trV ad))) (rest.map (trV ad)) (mQc cT dC dI t b L xs H.size j' ad h v h1 (as.map (trV ad)).toArray) (va_A (mW ad cT h) H.size) → W p l e (mRm j) s m args below meth c H locs cu su Q (F0 m pc LS (st.map (trV ad))) := by
              intro hrun T hT X
              obtain ⟨v1, st₀, u, T', Lx, k0, X', kL, k1, k2, ⟨ad', kv, ka, kc, k3, kP, kD, kF⟩, st2⟩ := hrun T hT X
              cases kv
              have hS' : va_S A s.heap T'.heap (locs ++ Lx) := by
                refine ⟨Nat.le_trans hS.1 (by rw [k1, ← k0]; exact kF.1), fun q q1 q2 => ?_, fun q hq => ?_⟩
                · rw [k1, kF.2 q (by rw [k0]; exact Nat.lt_of_lt_of_le q1 hS.1) (fun z => q2 (hAi q z)), k0]
                  exact hS.2.1 q q1 q2
                · rcases List.mem_append.mp hq with z | z
                  · exact hS.2.2 q z
                  · exact hAi _ (kL q z)
              have I1 : mI cT dC dI t b L xs A s ad' h1 T'.heap (locs ++ Lx) := ⟨k3.1, k3.2.1, k3.2.2.1, k3.2.2.2, by rw [k1]; exact kP, kD.weaken (fun _ q _ z => hAi q.1 z), hS'⟩
              have hsame : mHs LS (mL j) ad' ls ∧ rest.map (trV ad') = rest.map (trV ad) := by
                rcases hw with hw | hw
                · rw [kc hw]
                  exact ⟨hL, rfl⟩
                · simp only [wLS, Bool.and_eq_true] at hw
                  have hrw : rest.all (wV h.length) = true := by
                    rcases has with ⟨-, -, hz⟩ | ⟨-, b0, fs, hz, -, -⟩
                    · rw [hz]; exact hw.2
                    · rw [hz, List.all_cons, Bool.and_eq_true] at hw
                      exact hw.2.2
                  exact ⟨hL.same ka hw.1, trVs_same ka hrw⟩
              have e1 : (mAns v rest).map (trV ad') = v.toList ++ rest.map (trV ad) := by
                unfold mAns
                rw [List.map_append, hsame.2]
                congr 1
                have hv : ∀ x, v = some x → ∀ k, x ≠ .ref k := by
                  intro x hx2 k hk
                  subst hx2
                  subst hk
                  -- an answer is never a reference
                  have := kP
                  exact absurd hr1 (run_noref n)
                cases v with
                | none => rfl
                | some x => cases x <;> first | rfl | exact absurd rfl (hv _ rfl _)
              have hlen1 : h.length ≤ h1.length := run_len n hr1
              have goal := IH hr C0 I1 hsame.1 r3 r4 (Q := Q) (fun ad2 H2 locs2 LS2 pc2 cu2 su2 a2 c2 I2 q1 q2 hre => hend ad2 H2 locs2 LS2 pc2 cu2 su2 (fun k hk => (a2 k (Nat.lt_of_lt_of_le hk hlen1)).trans (ka k hk)) (fun z => by
                have z2 : (mRm j').cells = 0 := by omega
                rw [c2 z, kc z2]) I2 q1 q2 hre)
              rw [e1] at goal
              obtain ⟨t2, a1, b1⟩ := goal T' rfl X'
              exact ⟨t2, st2 t2 a1, b1⟩
            refine after ?_
            have hstk : st.map (trV ad) = ((st.take (mNp j')).map (trV ad)) ++ (st.drop (mNp j')).map (trV ad) := by rw [← List.map_append, List.take_append_drop]
            have hnl : (((st.take (mNp j')).reverse).map (trV ad)).length = mNp j' := by simp; omega
            have h8' : 2 * (F0 m pc LS (st.map (trV ad))).monitorRoom + ((rest.map (trV ad)).map fun v => v.category).sum ≤ 8 := lv_room (by rw [mCat_tr]; exact h8)
            rcases hki with ⟨rfl, rfl⟩ | ⟨rfl, rfl⟩ | ⟨rfl, rfl⟩
            · rcases has with ⟨-, rfl, rfl⟩ | ⟨z, -⟩
              · have hst : (F0 m pc LS (st.map (trV ad))).stack = (((st.take (mNp j')).reverse).map (trV ad)).reverse ++ (st.drop (mNp j')).map (trV ad) := by
                  show st.map (trV ad) = _
                  rw [hstk, List.map_reverse, List.reverse_reverse]
                by_cases hne : ne = 0
                · exact va_runS ⟨hxc, hb, hml, hown, hts⟩ hMet ⟨callB_of (mNp j') hts (mWs_in hjn hjl) rfl rfl rfl (hts _ hyi) (hts _ (m4 hne)) hyd ⟨r1, r2⟩, hts _ (hy0 hkd)⟩ ⟨mPc_blind, hpre⟩ rfl hnl hL.2.1 hst h8' hd ⟨r3, r4⟩
                · exact va_runSN ⟨hxc, hb, hml, hown, hts⟩ hMet ⟨va_cnB (mNp j') hts (mWs_in hjn hjl) rfl rfl rfl (hE.2.1 _ (m5 hne)) (hts _ hyi) hyd ⟨r1, r2⟩, hts _ (hy0 hkd), trivial⟩ ⟨mPc_blind, hpre⟩ rfl hnl hL.2.1 hst h8' hd ⟨r3, r4⟩
              · exact absurd rfl z
            · rcases has with ⟨z, -⟩ | ⟨-, b0, fs, hdr, hb0, rfl⟩
              · cases z
              · have hst : (F0 m pc LS (st.map (trV ad))).stack = (((st.take (mNp j')).reverse).map (trV ad)).reverse ++ .ref (ad b0) :: rest.map (trV ad) := by
                  show st.map (trV ad) = _
                  rw [hstk, List.map_reverse, List.reverse_reverse, hdr]
                  rfl
                have hge := mI_ge2r I0 hb0
                have hrv : ∃ cellB : Cell, H[ad b0]? = some cellB ∧ cellB.vm.isStatics = false ∧ s.vm.findClass (mY j').cls = some cellB.cls := by
                  have hat := mW_get (ad := ad) (cT := cT) hge hb0
                  have hvc : ∃ q, vwCl[mO j']? = some q ∧ q.1 = (mY j').cls := by
                    obtain ⟨r0, z1, -⟩ := hP _ _ hat
                    refine ⟨r0, z1, ?_⟩
                    rw [hcls]
                    exact mR_vw z1
                  obtain ⟨q, z1, z2⟩ := hvc
                  rw [← z2]
                  exact va_recv hE.1 hP z1 hat
                by_cases hne : ne = 0
                · exact va_runV ⟨hxc, hb, hml, hown, hts⟩ hMet ⟨callB_of (mNp j') hts (mWs_in hjn hjl) rfl rfl rfl (hts _ hyi) (hts _ (m4 hne)) hyd ⟨r1, r2⟩, hts _ (hy1 hkd).1, hts _ (hy1 hkd).2⟩ ⟨mPc_blind, hrv, hpre⟩ rfl hnl hL.2.1 hst h8' hd ⟨r3, r4⟩
                · exact va_runVN ⟨hxc, hb, hml, hown, hts⟩ hMet ⟨va_cnB (mNp j') hts (mWs_in hjn hjl) rfl rfl rfl (hE.2.1 _ (m5 hne)) (hts _ hyi) hyd ⟨r1, r2⟩, hts _ (hy1 hkd).1, hts _ (hy1 hkd).2⟩ ⟨mPc_blind, hrv, hpre⟩ rfl hnl hL.2.1 hst h8' hd ⟨r3, r4⟩
            · rcases has with ⟨z, -⟩ | ⟨-, b0, fs, hdr, hb0, rfl⟩
              · cases z
              · have hst : (F0 m pc LS (st.map (trV ad))).stack = (((st.take (mNp j')).reverse).map (trV ad)).reverse ++ .ref (ad b0) :: rest.map (trV ad) := by
                  show st.map (trV ad) = _
                  rw [hstk, List.map_reverse, List.reverse_reverse, hdr]
                  rfl
                obtain ⟨z1, z2, z3⟩ := hy2 hkd
                by_cases hne : ne = 0
                · have hcb := callB_of (R := mRm j) (own := mR (mO j)) (index := idx) (mNp j') hts (mWs_in hjn hjl) rfl rfl rfl (hts _ hyi) (hts _ (m4 hne)) hyd ⟨r1, r2⟩
                  rw [z3] at hcb
                  exact va_runI ⟨hxc, hb, hml, hown, hts⟩ hMet ⟨hcb, z2, hts _ z1⟩ ⟨mPc_blind, hpre⟩ rfl hnl hL.2.1 hst h8' hd ⟨r3, r4⟩
                · have hcb := va_cnB (R := mRm j) (own := mR (mO j)) (index := idx) (mNp j') hts (mWs_in hjn hjl) rfl rfl rfl (hE.2.1 _ (m5 hne)) (hts _ hyi) hyd ⟨r1, r2⟩
                  rw [z3] at hcb
                  exact va_runIN ⟨hxc, hb, hml, hown, hts⟩ hMet ⟨hcb, z2, hts _ z1⟩ ⟨mPc_blind, hpre⟩ rfl hnl hL.2.1 hst h8' hd ⟨r3, r4⟩
          · cases hr
        · cases hr
      · cases hr
    · cases hr
end MAIN
end
section
/-! THE CLAIM OUT OF ONE WALK OF THE LAW'S BODY. Your part is whole_start (and what it stands on); all else here is the same for every law, but numbers. -/
def R_law : String := "SquareGroundsLaw"
def lw_P (b : Addr) (xs : List Int32) (args : Array Value) (s : State) : Prop := args = #[.ref b] ∧ s.IntsAt b xs ∧ xs.length ≤ 3072 ∧ (Jvm.Cond.and given_1 narrow_1).before args s = true
def lw_Q (_ : Array Value) (s : State) (o : Outcome) (t : State) : Prop := o = .returned (some (.int 1)) ∧ Framed s o t [] 600000 7302250
def lw_Z (below : List Frame) (a : Array Value) (s : State) : State → Prop := fun t => ∃ o, t.status = .running ∧ Ended t below o ∧ lw_Q a s o t
/-- the law's own end, with 1 on the stack, nothing written that was there before, its room as the claim has it -/
theorem lw_ret {p : Program} {l : Launch} {e : Env} {s : State} {m : MethodId} {below : List Frame} {meth : Method} {c : Code} {b : Nat} (hx : p.tables.exec = Jvm.exec) (hb : c.code = code) (hr : meth.sig.returnType = ret) (hlocks : meth.locks = false) {pc : Nat} {H : Heap} {ls : Array Slot} (hdg : decode code pc = .ok (.ireturn, 1)) : W p l e room_1 s m #[Value.ref b] below meth c H [] 600000 7302250 (lw_Z below #[Value.ref b] s) (F0 m pc ls [.int 1]) := by
  intro T hT X
  obtain ⟨fs, hret, hrun, hended, hW, hframe⟩ := X.leave (v := some (.int 1)) (hlocks := hlocks) (fun h => by rw [hr] at h; cases h)
  have hmeth' : T.vm.method? m = some meth := X.method'
  refine ⟨T.setFrames fs, ?_, .returned (some (.int 1)), hrun, hended, rfl, ⟨_, rfl⟩, hW, hframe⟩
  jvm_step X.here [X.here.top, hx, hb, hdg, hmeth', hr, ret, narrow_b1]
  (try refine ⟨rfl, ?_⟩); (try refine ⟨rfl, ?_⟩)
  first | (intro acts; rw [hret _ acts rfl rfl rfl]) | rw [hret _ _ rfl rfl rfl]
  exact Steps.refl _
/-- what holds at the law's entry: the machine, the code, the tables' words (any of lw_tbl by 'hts w (by decide +kernel)'), the script of L ints xs at the cell b, what the Statement gives of the start (any of its parts by flat_of_before) -/
def lw_At (p : Program) (s : State) (m : MethodId) (meth : Method) (c : Code) (b L : Nat) (xs : Nat → Int32) : Prop :=
  p.tables.exec = Jvm.exec ∧ c.code = code ∧ meth.sig.returnType = ret ∧ c.maxLocals = 4 ∧ s.vm.findClass R_law = some m.cls ∧ (∀ w ∈ lw_tbl, w.before #[Value.ref b] s = true) ∧ va_X b L xs s s.heap ∧ b < s.heap.size ∧ meth.locks = false ∧ (Jvm.Cond.and given_1 narrow_1).before #[Value.ref b] s = true
def lawHeap (L : Nat) (xs : Nat → Int32) : mHeap := [.inl (5, 9, .inl mPart), .inl (6, L, .inl xs)]
/-- what is left, of the small machine alone -/
def LawPure : Prop := ∀ (L : Nat) (xs : Nat → Int32), L ≤ 3072 → ∃ (n : Nat) (h' : mHeap), run n mLaw 0 [some (.ref 1), none, none, none] [] (lawHeap L xs) 0 0 = some (some (.int 1), h')
theorem part_at : ∀ k, k < 9 → mPart k = ([0, 840, 420, 280, 210, 168, 140, 120, 105] : List Int32).getD k 0 := fun _ _ => rfl
set_option maxHeartbeats 4000000 in
set_option maxRecDepth 100000 in
theorem env_start {s : State} {b : Nat} (hts0 : ∀ w ∈ lw_tbl, w.before #[Value.ref b] s = true) (hgv : (Jvm.Cond.and given_1 narrow_1).before #[Value.ref b] s = true) : ∃ (cT dC : Nat → ClassId) (dI : Nat → Nat → Nat) (t : Nat), mE cT dC dI t (fun q : Nat => s.heap.size ≤ q) s := by
  have hts : ∀ w ∈ mG, w.before #[Value.ref b] s = true := fun w hw => hts0 w (List.mem_filter.mp hw).1
  have hs := flat_of_before _ hgv
  obtain ⟨dC, dI, hKc⟩ : ∃ (dC : Nat → ClassId) (dI : Nat → Nat → Nat), ∀ (k : Nat) (q : vw_C), vwCl[k]? = some q → u_Kn s q.1 q.2.1 q.2.2 (dC k) (dI k) := by
    have h : ∀ k : Nat, ∃ (c : ClassId) (i : Nat → Nat), ∀ q : vw_C, vwCl[k]? = some q → u_Kn s q.1 q.2.1 q.2.2 c i := by
      intro k
      cases hv : vwCl[k]? with
      | none => exact ⟨0, fun _ => 0, fun q hq => by cases hq⟩
      | some q =>
        obtain ⟨C, T, N⟩ := q
        have hin : (Cond.instantiable C N).before #[Value.ref b] s = true := by
          match k, hv with
          | 0, hv => cases hv; exact hts _ (by decide +kernel)
          | 1, hv => cases hv; exact hts _ (by decide +kernel)
          | 2, hv => cases hv; exact hts _ (by decide +kernel)
          | 3, hv => cases hv; exact hts _ (by decide +kernel)
          | 4, hv => cases hv; exact hts _ (by decide +kernel)
          | 5, hv => cases hv; exact hts _ (by decide +kernel)
          | 6, hv => cases hv; exact hts _ (by decide +kernel)
          | 7, hv => cases hv; exact hts _ (by decide +kernel)
          | 8, hv => cases hv; exact hts _ (by decide +kernel)
          | n + 9, hv => simp [vwCl] at hv
        obtain ⟨c, i, hk⟩ := u_known hts (mU_ok hv).1 hin
        exact ⟨c, i, fun q hq => by cases hq; exact hk⟩
    exact ⟨fun k => Classical.choose (h k), fun k => Classical.choose (Classical.choose_spec (h k)), fun k q hq => Classical.choose_spec (Classical.choose_spec (h k)) q hq⟩
  have harr : ∀ (ty : FieldType), (∀ C, ty ≠ .object C) → (Cond.arrayClass ty).before #[Value.ref b] s = true → ∃ cA : ClassId, ArrOfT s cA ty ∧ va_RA s cA ty := by
    intro ty hno h
    obtain ⟨cA, k, comp, h1, h2, h3⟩ := Cond.arrayClass_spec h
    refine ⟨cA, fun n z => ⟨fun k h => (by cases h), k, h2, comp, h3⟩, ?_⟩
    cases ty <;> first | exact absurd rfl (hno _) | exact h1
  have hobj : ∀ (C : String), (Cond.arrayOver (.object C)).before #[Value.ref b] s = true → ∃ cA : ClassId, ArrOfT s cA (.object C) ∧ va_RA s cA (.object C) := by
    intro C h
    obtain ⟨comp, cA, k, h1, h2, h3, h4, h5⟩ := Cond.arrayOver_spec h
    exact ⟨cA, fun n z => ⟨fun k h => (by cases h), k, h3, comp, h4⟩, k, comp, h3, h4, h1, h5⟩
  have ho6 : (Cond.arrayOver (.object RX6)).before #[Value.ref b] s = true := hts0 _ (by decide +kernel)
  have ho3 : (Cond.arrayOver (.object RX3)).before #[Value.ref b] s = true := hts0 _ (by decide +kernel)
  obtain ⟨c0, a0⟩ := harr .int (fun _ => by simp) (hts _ arrI_in)
  obtain ⟨c1, a1⟩ := harr .byte (fun _ => by simp) (hts _ arrB_in)
  obtain ⟨c2, a2⟩ := harr .long (fun _ => by simp) (hts _ arrL_in)
  obtain ⟨c3, a3⟩ := hobj RX6 ho6
  obtain ⟨c4, a4⟩ := hobj RX3 ho3
  have hA : ∀ a : Nat, a < s.heap.size → ¬ (fun q : Nat => s.heap.size ≤ q) a := fun a h1 h2 => Nat.not_le.mpr h1 h2
  have hlen := va_eqt (hs (Cond.eq (.length (.static "SquareGrounds" "PART_OF_WHOLE" "[I")) (.int 9)) (by decide +kernel))
  obtain ⟨t, ht1, ht2⟩ := va_Tof (N := 9) (f := fun k => .int (mPart k)) (by decide) (hs (Cond.arrayOf (.static "SquareGrounds" "PART_OF_WHOLE" "[I") .int) (by decide +kernel)) hlen (fun j hj => by
    have h9 : j = 0 ∨ j = 1 ∨ j = 2 ∨ j = 3 ∨ j = 4 ∨ j = 5 ∨ j = 6 ∨ j = 7 ∨ j = 8 := by omega
    rcases h9 with rfl | rfl | rfl | rfl | rfl | rfl | rfl | rfl | rfl
    · exact va_eqt (hs (Cond.eq (.elem (.static "SquareGrounds" "PART_OF_WHOLE" "[I") (.int 0)) (.int 0)) (by decide +kernel))
    · exact va_eqt (hs (Cond.eq (.elem (.static "SquareGrounds" "PART_OF_WHOLE" "[I") (.int 1)) (.int 840)) (by decide +kernel))
    · exact va_eqt (hs (Cond.eq (.elem (.static "SquareGrounds" "PART_OF_WHOLE" "[I") (.int 2)) (.int 420)) (by decide +kernel))
    · exact va_eqt (hs (Cond.eq (.elem (.static "SquareGrounds" "PART_OF_WHOLE" "[I") (.int 3)) (.int 280)) (by decide +kernel))
    · exact va_eqt (hs (Cond.eq (.elem (.static "SquareGrounds" "PART_OF_WHOLE" "[I") (.int 4)) (.int 210)) (by decide +kernel))
    · exact va_eqt (hs (Cond.eq (.elem (.static "SquareGrounds" "PART_OF_WHOLE" "[I") (.int 5)) (.int 168)) (by decide +kernel))
    · exact va_eqt (hs (Cond.eq (.elem (.static "SquareGrounds" "PART_OF_WHOLE" "[I") (.int 6)) (.int 140)) (by decide +kernel))
    · exact va_eqt (hs (Cond.eq (.elem (.static "SquareGrounds" "PART_OF_WHOLE" "[I") (.int 7)) (.int 120)) (by decide +kernel))
    · exact va_eqt (hs (Cond.eq (.elem (.static "SquareGrounds" "PART_OF_WHOLE" "[I") (.int 8)) (.int 105)) (by decide +kernel))) hA
  have hz := va_Zof (hts0 (Cond.laysStatic "SquareGrounds" "PART_OF_WHOLE" "[I") (by decide +kernel)) (hts0 (Cond.initialized "SquareGrounds") (by decide +kernel)) ht1 hA
  refine ⟨fun k => if k = 0 then c0 else if k = 1 then c1 else if k = 2 then c2 else if k = 3 then c3 else c4, dC, dI, t, ⟨hKc, ?_⟩, fun w hw => ?_, ⟨ho6, ho3⟩, hz, ht2⟩
  · intro k q hq
    match k, hq with
    | 0, hq => cases hq; exact a0
    | 1, hq => cases hq; exact a1
    | 2, hq => cases hq; exact a2
    | 3, hq => cases hq; exact a3
    | 4, hq => cases hq; exact a4
    | n + 5, hq => simp [mTyl] at hq
  · have h7 := hts0 w (List.mem_filter.mp hw).1
    have h8 := (List.mem_filter.mp hw).2
    cases w <;> first | exact va_Nw.of rfl h7 | cases h8
set_option maxHeartbeats 4000000 in
set_option maxRecDepth 100000 in
theorem start_of (hpure : LawPure) {p : Program} {e : Env} {s : State} {m : MethodId} {below : List Frame} {meth : Method} {c : Code} (l : Launch) {b L : Nat} {xs : Nat → Int32} (hL : L ≤ 3072) (C0 : lw_At p s m meth c b L xs) : W p l e room_1 s m #[Value.ref b] below meth c s.heap [] 0 0 (lw_Z below #[Value.ref b] s) (entryFrame m ([Value.ref b] : List Value).toArray 4) := by
  obtain ⟨hx, hb, hr, hml, hown, hts, hX, hbl, hlocks, hgv⟩ := C0
  obtain ⟨cT, dC, dI, t, hE⟩ := env_start hts hgv
  obtain ⟨n, h', hrun⟩ := hpure L xs hL
  have C : mCx cT dC dI t b L xs (fun q : Nat => s.heap.size ≤ q) mLaw p s m meth c #[Value.ref b] := ⟨hx, hb, hml, hown, fun w hw => hts w (List.mem_filter.mp hw).1, hE, fun _ h => h, fun z => absurd z (by decide +kernel), fun _ => ⟨hX, hbl, Nat.not_le.mpr hbl⟩⟩
  have key := mEnt_has (fun k => if k = 0 then t else b) (j := mLaw) (as := [.ref 1]) (by decide +kernel)
  rw [lg_entry_eq]
  refine sound l n hrun C (ad := fun k => if k = 0 then t else b) (locs := []) ⟨rfl, rfl, rfl, rfl, fun k q h => by simp [mW, lawHeap] at h, ⟨fun i j p q h => by simp [mW, lawHeap] at h, fun k q h => by simp [mW, lawHeap] at h⟩, va_S.rf⟩ key (Nat.zero_le _) (Nat.zero_le _) ?_
  intro ad' H' locs' LS' pc' cu' su' _ _ I' h1 h2 hre
  obtain ⟨q1, q2⟩ := hre
  refine va_forget (fun q hq => I'.2.2.2.2.2.2.2.2 q hq) ?_
  refine W.widen h1 h2 ?_
  exact lw_ret hx hb hr hlocks q1
end
section
/-! what a frame of the small machine comes to, without fuel -/
theorem run_succ : ∀ (n : Nat) {j pc : Nat} {ls : mLoc} {st : List Value} {h : mHeap} {cu su : Nat} {r : Option Value × mHeap}, run n j pc ls st h cu su = some r → run (n + 1) j pc ls st h cu su = some r := by
  intro n
  induction n with
  | zero => intro j pc ls st h cu su r hr; cases hr
  | succ n IH =>
    intro j pc ls st h cu su r hr
    unfold run at hr
    rw [run.eq_def]
    split at hr
    · rename_i hd
      split at hr
      · rename_i hx
        simp only [hd, hx]
        exact IH hr
      · rename_i hx
        simp only [hd, hx]
        exact hr
      · rename_i hx
        simp only [hd, hx]
        split at hr
        · rename_i hl
          rw [if_pos hl]
          split at hr
          · rename_i h1
            simp only [IH h1]
            exact IH hr
          · cases hr
        · cases hr
      · cases hr
    · cases hr
theorem run_le {n m : Nat} (h : n ≤ m) {j pc : Nat} {ls : mLoc} {st : List Value} {hp : mHeap} {cu su : Nat} {r : Option Value × mHeap} (hr : run n j pc ls st hp cu su = some r) : run m j pc ls st hp cu su = some r := by
  induction h with
  | refl => exact hr
  | step _ ih => exact run_succ _ ih
abbrev mR' : Type := Option (Option Value × mHeap)
noncomputable def D (j pc : Nat) (ls : mLoc) (st : List Value) (h : mHeap) (cu su : Nat) : mR' :=
  @dite mR' (∃ (r : Option Value × mHeap) (n : Nat), run n j pc ls st h cu su = some r) (Classical.propDecidable _) (fun hx => some (Classical.choose hx)) (fun _ => none)
section DEN
variable {j pc : Nat} {ls : mLoc} {st : List Value} {h : mHeap} {cu su : Nat}
theorem D_iff {r : Option Value × mHeap} : D j pc ls st h cu su = some r ↔ ∃ n, run n j pc ls st h cu su = some r := by
  unfold D
  by_cases hx : ∃ (r : Option Value × mHeap) (n : Nat), run n j pc ls st h cu su = some r
  · rw [dif_pos hx]
    obtain ⟨n1, h1⟩ := Classical.choose_spec hx
    constructor
    · intro hr
      cases hr
      exact ⟨n1, h1⟩
    · rintro ⟨n, hn⟩
      have a := run_le (Nat.le_max_left n n1) hn
      have b := run_le (Nat.le_max_right n n1) h1
      exact congrArg some (Option.some.inj (b.symm.trans a))
  · rw [dif_neg hx]
    constructor
    · intro hr; cases hr
    · rintro ⟨n, hn⟩
      exact absurd ⟨r, n, hn⟩ hx
theorem D_ext {j' pc' : Nat} {ls' : mLoc} {st' : List Value} {h' : mHeap} {cu' su' : Nat} {o : mR'} (hd : ∀ r, D j pc ls st h cu su = some r ↔ o = some r) : D j pc ls st h cu su = o := by
  cases ho : o with
  | none =>
    cases hD : D j pc ls st h cu su with
    | none => rfl
    | some r => have := (hd r).mp hD; rw [ho] at this; cases this
  | some r => exact (hd r).mpr ho
/-- one step -/
theorem D_next {i : Instr} {len : Nat} (hd : decode (mB j) pc = .ok (i, len)) {pc' : Nat} {ls' : mLoc} {st' : List Value} {h' : mHeap} {cu' su' : Nat} (hx : mx j i len pc ls st h cu su = some (.inl (pc', ls', st', h', cu', su'))) : D j pc ls st h cu su = D j pc' ls' st' h' cu' su' := by
  refine D_ext (j' := 0) (pc' := 0) (ls' := []) (st' := []) (h' := []) (cu' := 0) (su' := 0) (fun r => ?_)
  rw [D_iff, D_iff]
  have e : ∀ n, run (n + 1) j pc ls st h cu su = run n j pc' ls' st' h' cu' su' := by
    intro n
    rw [run.eq_def]
    simp only [hd, hx]
  constructor
  · rintro ⟨n, hn⟩
    cases n with
    | zero => cases hn
    | succ n => exact ⟨n, by rw [← e]; exact hn⟩
  · rintro ⟨n, hn⟩
    exact ⟨n + 1, by rw [e]; exact hn⟩
theorem D_none {i : Instr} {len : Nat} (hd : decode (mB j) pc = .ok (i, len)) (hx : mx j i len pc ls st h cu su = none) : D j pc ls st h cu su = none := by
  refine D_ext (j' := 0) (pc' := 0) (ls' := []) (st' := []) (h' := []) (cu' := 0) (su' := 0) (fun r => ?_)
  rw [D_iff]
  constructor
  · rintro ⟨n, hn⟩
    cases n with
    | zero => cases hn
    | succ n =>
      rw [run.eq_def] at hn
      simp only [hd, hx] at hn
      cases hn
  · intro hr; cases hr
theorem D_ret {i : Instr} {len : Nat} {v : Option Value} (hd : decode (mB j) pc = .ok (i, len)) (hx : mx j i len pc ls st h cu su = some (.inr (.inl v))) : D j pc ls st h cu su = some (v, h) := by
  rw [D_iff]
  refine ⟨1, ?_⟩
  rw [run.eq_def]
  simp only [hd, hx]
theorem D_call {i : Instr} {len j' : Nat} {as rest : List Value} (hd : decode (mB j) pc = .ok (i, len)) (hx : mx j i len pc ls st h cu su = some (.inr (.inr (j', as, rest)))) (hl : (mArg as).length ≤ mL j') : D j pc ls st h cu su = (D j' 0 (mEnt j' as) [] h 0 0).bind (fun q => D j (pc + 3) ls (mAns q.1 rest) q.2 (cu + (mRm j').cells) (su + (mRm j').slots)) := by
  refine D_ext (j' := 0) (pc' := 0) (ls' := []) (st' := []) (h' := []) (cu' := 0) (su' := 0) (fun r => ?_)
  rw [D_iff, Option.bind_eq_some_iff]
  have e : ∀ n, run (n + 1) j pc ls st h cu su = (run n j' 0 (mEnt j' as) [] h 0 0).bind (fun q => run n j (pc + 3) ls (mAns q.1 rest) q.2 (cu + (mRm j').cells) (su + (mRm j').slots)) := by
    intro n
    rw [run.eq_def]
    simp only [hd, hx, if_pos hl]
    cases run n j' 0 (mEnt j' as) [] h 0 0 with
    | none => rfl
    | some q => rfl
  constructor
  · rintro ⟨n, hn⟩
    cases n with
    | zero => cases hn
    | succ n =>
      rw [e, Option.bind_eq_some_iff] at hn
      obtain ⟨q, h1, h2⟩ := hn
      exact ⟨q, D_iff.mpr ⟨n, h1⟩, D_iff.mpr ⟨n, h2⟩⟩
  · rintro ⟨q, h1, h2⟩
    obtain ⟨n1, h1⟩ := D_iff.mp h1
    obtain ⟨n2, h2⟩ := D_iff.mp h2
    refine ⟨max n1 n2 + 1, ?_⟩
    rw [e, Option.bind_eq_some_iff]
    exact ⟨q, run_le (Nat.le_max_left n1 n2) h1, run_le (Nat.le_max_right n1 n2) h2⟩
end DEN
end
section
/-! equations of the denotation, an instruction each; methods that make no cells -/
noncomputable abbrev E (j pc : Nat) (ls : mLoc) (st : List Value) (h : mHeap) : mR' := D j pc ls st h 0 0
noncomputable def F (j : Nat) (as : List Value) (h : mHeap) : mR' := D j 0 (mEnt j as) [] h 0 0
def gI (h : mHeap) (a ci k : Nat) : Option Int32 := match cFld h a ci k with
  | some (.int x) => some x
  | _ => none
def gL (h : mHeap) (a ci k : Nat) : Option Int64 := match cFld h a ci k with
  | some (.long x) => some x
  | _ => none
def gR (h : mHeap) (a ci k : Nat) : Option Nat := match cFld h a ci k with
  | some (.ref x) => some x
  | _ => none
def gO (h : mHeap) (b ci : Nat) : Option Unit := match h[b]? with
  | some (.inr (c, _)) => if c = ci then some () else none
  | _ => none
/-- what a method answers fits its head -/
def mRk (j : Nat) (r : Option Value) : Prop := match mRt j with
  | some .long => ∃ x, r = some (.long x)
  | none => r = none
  | _ => ∃ x, r = some (.int x)
theorem run_kind : ∀ (n : Nat) {j pc : Nat} {ls : mLoc} {st : List Value} {h : mHeap} {cu su : Nat} {r : Option Value} {h' : mHeap}, run n j pc ls st h cu su = some (r, h') → mRk j r := by
  intro n
  induction n with
  | zero => intro j pc ls st h cu su r h' hr; cases hr
  | succ n IH =>
    intro j pc ls st h cu su r h' hr
    unfold run at hr
    split at hr
    · rename_i hd
      split at hr
      · exact IH hr
      · rename_i hx
        cases hr
        have hre := (mx_ret hd hx).1
        unfold mRe at hre
        unfold mRk
        split at hre
        · rcases hre.2 with q | ⟨q, -⟩ <;> rw [q] <;> exact ⟨_, rfl⟩
        · rw [hre.2]; exact ⟨_, rfl⟩
        · rw [hre.2]
        · exact hre.elim
      · split at hr
        · split at hr
          · exact IH hr
          · cases hr
        · cases hr
      · cases hr
    · cases hr
noncomputable def sI (j : Nat) (as : List Value) (h : mHeap) : Option (Int32 × mHeap) := (F j as h).bind fun q => match q.1 with
  | some (.int x) => some (x, q.2)
  | _ => none
noncomputable def sL (j : Nat) (as : List Value) (h : mHeap) : Option (Int64 × mHeap) := (F j as h).bind fun q => match q.1 with
  | some (.long x) => some (x, q.2)
  | _ => none
noncomputable def sV (j : Nat) (as : List Value) (h : mHeap) : Option mHeap := (F j as h).bind fun q => match q.1 with
  | none => some q.2
  | _ => none
noncomputable def vI (j b : Nat) (as : List Value) (h : mHeap) : Option (Int32 × mHeap) := (gO h b (mO j)).bind fun _ => sI j (.ref b :: as) h
noncomputable def vL (j b : Nat) (as : List Value) (h : mHeap) : Option (Int64 × mHeap) := (gO h b (mO j)).bind fun _ => sL j (.ref b :: as) h
noncomputable def vV (j b : Nat) (as : List Value) (h : mHeap) : Option mHeap := (gO h b (mO j)).bind fun _ => sV j (.ref b :: as) h
section EQ
variable {j pc pc' : Nat} {ls ls' : mLoc} {st : List Value} {h : mHeap} {R : mR'}
theorem e_next {i : Instr} {len : Nat} (hd : decode (mB j) pc = .ok (i, len)) {st' : List Value} {h' : mHeap} (hx : mx j i len pc ls st h 0 0 = some (.inl (pc', ls', st', h', 0, 0))) (k : E j pc' ls' st' h' = R) : E j pc ls st h = R := (D_next hd hx).trans k
theorem e_iload {i : Nat} {x : Int32} (hd : decode (mB j) pc = .ok (.iload i, 2)) (hp : pc + 2 = pc') (hg : mget ls i = some (.int x)) (k : E j pc' ls (.int x :: st) h = R) : E j pc ls st h = R := by
  subst hp; exact e_next hd (by simp only [mx, mload, mnx, hg, mok, if_true]) k
theorem e_iload_n {i : Fin 4} {x : Int32} (hd : decode (mB j) pc = .ok (.iload_n i, 1)) (hp : pc + 1 = pc') (hg : mget ls i = some (.int x)) (k : E j pc' ls (.int x :: st) h = R) : E j pc ls st h = R := by
  subst hp; exact e_next hd (by simp only [mx, mload, mnx, hg, mok, if_true]) k
theorem e_lload {i : Nat} {x : Int64} (hd : decode (mB j) pc = .ok (.lload i, 2)) (hp : pc + 2 = pc') (hg : mget ls i = some (.long x)) (k : E j pc' ls (.long x :: st) h = R) : E j pc ls st h = R := by
  subst hp; exact e_next hd (by simp only [mx, mload, mnx, hg, mok, if_true]) k
theorem e_lload_n {i : Fin 4} {x : Int64} (hd : decode (mB j) pc = .ok (.lload_n i, 1)) (hp : pc + 1 = pc') (hg : mget ls i = some (.long x)) (k : E j pc' ls (.long x :: st) h = R) : E j pc ls st h = R := by
  subst hp; exact e_next hd (by simp only [mx, mload, mnx, hg, mok, if_true]) k
theorem e_aload {i : Nat} {x : Nat} (hd : decode (mB j) pc = .ok (.aload i, 2)) (hp : pc + 2 = pc') (hg : mget ls i = some (.ref x)) (k : E j pc' ls (.ref x :: st) h = R) : E j pc ls st h = R := by
  subst hp; exact e_next hd (by simp only [mx, mload, mnx, hg, mok, if_true]) k
theorem e_aload_n {i : Fin 4} {x : Nat} (hd : decode (mB j) pc = .ok (.aload_n i, 1)) (hp : pc + 1 = pc') (hg : mget ls i = some (.ref x)) (k : E j pc' ls (.ref x :: st) h = R) : E j pc ls st h = R := by
  subst hp; exact e_next hd (by simp only [mx, mload, mnx, hg, mok, if_true]) k
theorem e_istore {i : Nat} {x : Int32} (hd : decode (mB j) pc = .ok (.istore i, 2)) (hp : pc + 2 = pc') (hm : mst ls i (.int x) = some ls') (k : E j pc' ls' st h = R) : E j pc ls (.int x :: st) h = R := by
  subst hp; exact e_next hd (by simp only [mx, mstore, mnx, hm, mok, if_true]) k
theorem e_istore_n {i : Fin 4} {x : Int32} (hd : decode (mB j) pc = .ok (.istore_n i, 1)) (hp : pc + 1 = pc') (hm : mst ls i (.int x) = some ls') (k : E j pc' ls' st h = R) : E j pc ls (.int x :: st) h = R := by
  subst hp; exact e_next hd (by simp only [mx, mstore, mnx, hm, mok, if_true]) k
theorem e_lstore {i : Nat} {x : Int64} (hd : decode (mB j) pc = .ok (.lstore i, 2)) (hp : pc + 2 = pc') (hm : mst ls i (.long x) = some ls') (k : E j pc' ls' st h = R) : E j pc ls (.long x :: st) h = R := by
  subst hp; exact e_next hd (by simp only [mx, mstore, mnx, hm, mok, if_true]) k
theorem e_lstore_n {i : Fin 4} {x : Int64} (hd : decode (mB j) pc = .ok (.lstore_n i, 1)) (hp : pc + 1 = pc') (hm : mst ls i (.long x) = some ls') (k : E j pc' ls' st h = R) : E j pc ls (.long x :: st) h = R := by
  subst hp; exact e_next hd (by simp only [mx, mstore, mnx, hm, mok, if_true]) k
theorem e_astore {i : Nat} {x : Nat} (hd : decode (mB j) pc = .ok (.astore i, 2)) (hp : pc + 2 = pc') (hm : mst ls i (.ref x) = some ls') (k : E j pc' ls' st h = R) : E j pc ls (.ref x :: st) h = R := by
  subst hp; exact e_next hd (by simp only [mx, mstore, mnx, hm, mok, if_true]) k
theorem e_astore_n {i : Fin 4} {x : Nat} (hd : decode (mB j) pc = .ok (.astore_n i, 1)) (hp : pc + 1 = pc') (hm : mst ls i (.ref x) = some ls') (k : E j pc' ls' st h = R) : E j pc ls (.ref x :: st) h = R := by
  subst hp; exact e_next hd (by simp only [mx, mstore, mnx, hm, mok, if_true]) k
theorem e_iconst {n : Int} {v : Int32} (hd : decode (mB j) pc = .ok (.iconst n, 1)) (hp : pc + 1 = pc') (hv : Int32.ofInt n = v) (k : E j pc' ls (.int v :: st) h = R) : E j pc ls st h = R := by
  subst hp; subst hv; exact e_next hd (by simp only [mx, mpush, mnx, if_true]) k
theorem e_bipush {n : Int} {v : Int32} (hd : decode (mB j) pc = .ok (.bipush n, 2)) (hp : pc + 2 = pc') (hv : (Int8.ofInt n).toInt32 = v) (k : E j pc' ls (.int v :: st) h = R) : E j pc ls st h = R := by
  subst hp; subst hv; exact e_next hd (by simp only [mx, mpush, mnx, if_true]) k
theorem e_sipush {n : Int} {v : Int32} (hd : decode (mB j) pc = .ok (.sipush n, 3)) (hp : pc + 3 = pc') (hv : (Int16.ofInt n).toInt32 = v) (k : E j pc' ls (.int v :: st) h = R) : E j pc ls st h = R := by
  subst hp; subst hv; exact e_next hd (by simp only [mx, mpush, mnx, if_true]) k
theorem e_lconst {n : Fin 2} {v : Int64} (hd : decode (mB j) pc = .ok (.lconst n, 1)) (hp : pc + 1 = pc') (hv : Int64.ofNat (n : Nat) = v) (k : E j pc' ls (.long v :: st) h = R) : E j pc ls st h = R := by
  subst hp; subst hv; exact e_next hd (by simp only [mx, mpush, mnx, if_true]) k
theorem e_ldc2 {n : Nat} {v : Int64} (hd : decode (mB j) pc = .ok (.ldc2_w n, 3)) (hp : pc + 3 = pc') (hv : mK (mO j) n = some v) (k : E j pc' ls (.long v :: st) h = R) : E j pc ls st h = R := by
  subst hp; exact e_next hd (by simp only [mx, hv, mpush, mnx, if_true]) k
theorem e_gets {n : Nat} (hd : decode (mB j) pc = .ok (.getstatic n, 3)) (hp : pc + 3 = pc') (hv : mGl.contains (mO j, n) = true) (k : E j pc' ls (.ref 0 :: st) h = R) : E j pc ls st h = R := by
  subst hp; exact e_next hd (by simp only [mx, hv, mpush, mnx, if_true]) k
theorem e_iadd {x y : Int32} (hd : decode (mB j) pc = .ok (.iadd, 1)) (hp : pc + 1 = pc') (k : E j pc' ls (.int (x + y) :: st) h = R) : E j pc ls (.int y :: .int x :: st) h = R := by
  subst hp; exact e_next hd (by simp only [mx, mbi, mnx, if_true]) k
theorem e_isub {x y : Int32} (hd : decode (mB j) pc = .ok (.isub, 1)) (hp : pc + 1 = pc') (k : E j pc' ls (.int (x - y) :: st) h = R) : E j pc ls (.int y :: .int x :: st) h = R := by
  subst hp; exact e_next hd (by simp only [mx, mbi, mnx, if_true]) k
theorem e_imul {x y : Int32} (hd : decode (mB j) pc = .ok (.imul, 1)) (hp : pc + 1 = pc') (k : E j pc' ls (.int (x * y) :: st) h = R) : E j pc ls (.int y :: .int x :: st) h = R := by
  subst hp; exact e_next hd (by simp only [mx, mbi, mnx, if_true]) k
theorem e_iand {x y : Int32} (hd : decode (mB j) pc = .ok (.iand, 1)) (hp : pc + 1 = pc') (k : E j pc' ls (.int (x &&& y) :: st) h = R) : E j pc ls (.int y :: .int x :: st) h = R := by
  subst hp; exact e_next hd (by simp only [mx, mbi, mnx, if_true]) k
theorem e_ior {x y : Int32} (hd : decode (mB j) pc = .ok (.ior, 1)) (hp : pc + 1 = pc') (k : E j pc' ls (.int (x ||| y) :: st) h = R) : E j pc ls (.int y :: .int x :: st) h = R := by
  subst hp; exact e_next hd (by simp only [mx, mbi, mnx, if_true]) k
theorem e_ixor {x y : Int32} (hd : decode (mB j) pc = .ok (.ixor, 1)) (hp : pc + 1 = pc') (k : E j pc' ls (.int (x ^^^ y) :: st) h = R) : E j pc ls (.int y :: .int x :: st) h = R := by
  subst hp; exact e_next hd (by simp only [mx, mbi, mnx, if_true]) k
theorem e_ishl {x y : Int32} (hd : decode (mB j) pc = .ok (.ishl, 1)) (hp : pc + 1 = pc') (k : E j pc' ls (.int (x <<< (y &&& 31)) :: st) h = R) : E j pc ls (.int y :: .int x :: st) h = R := by
  subst hp; exact e_next hd (by simp only [mx, mbi, mnx, if_true]) k
theorem e_ishr {x y : Int32} (hd : decode (mB j) pc = .ok (.ishr, 1)) (hp : pc + 1 = pc') (k : E j pc' ls (.int (x >>> (y &&& 31)) :: st) h = R) : E j pc ls (.int y :: .int x :: st) h = R := by
  subst hp; exact e_next hd (by simp only [mx, mbi, mnx, if_true]) k
theorem e_idiv {x y : Int32} (hd : decode (mB j) pc = .ok (.idiv, 1)) (hp : pc + 1 = pc') (k : E j pc' ls (.int (x / y) :: st) h = R) : E j pc ls (.int y :: .int x :: st) h = if y = 0 then none else R := by
  subst hp
  by_cases hy : y = 0
  · rw [if_pos hy]; exact D_none hd (by simp only [mx, mbi, hy, if_true])
  · rw [if_neg hy]; exact e_next hd (by simp only [mx, mbi, mnx, if_neg hy, if_true]) k
theorem e_irem {x y : Int32} (hd : decode (mB j) pc = .ok (.irem, 1)) (hp : pc + 1 = pc') (k : E j pc' ls (.int (x - x / y * y) :: st) h = R) : E j pc ls (.int y :: .int x :: st) h = if y = 0 then none else R := by
  subst hp
  by_cases hy : y = 0
  · rw [if_pos hy]; exact D_none hd (by simp only [mx, mbi, hy, if_true])
  · rw [if_neg hy]; exact e_next hd (by simp only [mx, mbi, mnx, if_neg hy, if_true]) k
theorem e_ladd {x y : Int64} (hd : decode (mB j) pc = .ok (.ladd, 1)) (hp : pc + 1 = pc') (k : E j pc' ls (.long (x + y) :: st) h = R) : E j pc ls (.long y :: .long x :: st) h = R := by
  subst hp; exact e_next hd (by simp only [mx, mbl, mnx, if_true]) k
theorem e_lmul {x y : Int64} (hd : decode (mB j) pc = .ok (.lmul, 1)) (hp : pc + 1 = pc') (k : E j pc' ls (.long (x * y) :: st) h = R) : E j pc ls (.long y :: .long x :: st) h = R := by
  subst hp; exact e_next hd (by simp only [mx, mbl, mnx, if_true]) k
theorem e_lor {x y : Int64} (hd : decode (mB j) pc = .ok (.lor, 1)) (hp : pc + 1 = pc') (k : E j pc' ls (.long (x ||| y) :: st) h = R) : E j pc ls (.long y :: .long x :: st) h = R := by
  subst hp; exact e_next hd (by simp only [mx, mbl, mnx, if_true]) k
theorem e_ldiv {x y : Int64} (hd : decode (mB j) pc = .ok (.ldiv, 1)) (hp : pc + 1 = pc') (k : E j pc' ls (.long (x / y) :: st) h = R) : E j pc ls (.long y :: .long x :: st) h = if y = 0 then none else R := by
  subst hp
  by_cases hy : y = 0
  · rw [if_pos hy]; exact D_none hd (by simp only [mx, mbl, hy, if_true])
  · rw [if_neg hy]; exact e_next hd (by simp only [mx, mbl, mnx, if_neg hy, if_true]) k
theorem e_lrem {x y : Int64} (hd : decode (mB j) pc = .ok (.lrem, 1)) (hp : pc + 1 = pc') (k : E j pc' ls (.long (x - x / y * y) :: st) h = R) : E j pc ls (.long y :: .long x :: st) h = if y = 0 then none else R := by
  subst hp
  by_cases hy : y = 0
  · rw [if_pos hy]; exact D_none hd (by simp only [mx, mbl, hy, if_true])
  · rw [if_neg hy]; exact e_next hd (by simp only [mx, mbl, mnx, if_neg hy, if_true]) k
theorem e_lshl {x : Int64} {y : Int32} (hd : decode (mB j) pc = .ok (.lshl, 1)) (hp : pc + 1 = pc') (k : E j pc' ls (.long (x <<< (y.toInt64 &&& 63)) :: st) h = R) : E j pc ls (.int y :: .long x :: st) h = R := by
  subst hp; exact e_next hd (by simp only [mx, mbs, mnx, if_true]) k
theorem e_lshr {x : Int64} {y : Int32} (hd : decode (mB j) pc = .ok (.lshr, 1)) (hp : pc + 1 = pc') (k : E j pc' ls (.long (x >>> (y.toInt64 &&& 63)) :: st) h = R) : E j pc ls (.int y :: .long x :: st) h = R := by
  subst hp; exact e_next hd (by simp only [mx, mbs, mnx, if_true]) k
theorem e_ineg {x : Int32} (hd : decode (mB j) pc = .ok (.ineg, 1)) (hp : pc + 1 = pc') (k : E j pc' ls (.int (-x) :: st) h = R) : E j pc ls (.int x :: st) h = R := by
  subst hp; exact e_next hd (by simp only [mx, mui, mnx, if_true]) k
theorem e_i2b {x : Int32} (hd : decode (mB j) pc = .ok (.i2b, 1)) (hp : pc + 1 = pc') (k : E j pc' ls (.int x.toInt8.toInt32 :: st) h = R) : E j pc ls (.int x :: st) h = R := by
  subst hp; exact e_next hd (by simp only [mx, mui, mnx, if_true]) k
theorem e_i2l {x : Int32} (hd : decode (mB j) pc = .ok (.i2l, 1)) (hp : pc + 1 = pc') (k : E j pc' ls (.long x.toInt64 :: st) h = R) : E j pc ls (.int x :: st) h = R := by
  subst hp; exact e_next hd (by simp only [mx, mui, mnx, if_true]) k
theorem e_l2i {x : Int64} (hd : decode (mB j) pc = .ok (.l2i, 1)) (hp : pc + 1 = pc') (k : E j pc' ls (.int x.toInt32 :: st) h = R) : E j pc ls (.long x :: st) h = R := by
  subst hp; exact e_next hd (by simp only [mx, mnx, if_true]) k
theorem e_lcmp {x y : Int64} (hd : decode (mB j) pc = .ok (.lcmp, 1)) (hp : pc + 1 = pc') (k : E j pc' ls (.int (lg_cmp x y) :: st) h = R) : E j pc ls (.long y :: .long x :: st) h = R := by
  subst hp; exact e_next hd (by simp only [mx, mnx, if_true]) k
theorem e_iinc {i : Nat} {n : Int} {x c : Int32} (hd : decode (mB j) pc = .ok (.iinc i n, 3)) (hp : pc + 3 = pc') (hc : Int32.ofInt n = c) (hg : mget ls i = some (.int x)) (hm : mst ls i (.int (x + c)) = some ls') (k : E j pc' ls' st h = R) : E j pc ls st h = R := by
  subst hp; subst hc; exact e_next hd (by simp only [mx, mnx, hg, hm, if_true]) k
theorem mtg_of {pc t : Nat} {off : Int} (h : (pc : Int) + off = (t : Int)) : mtg pc off = some t := by
  unfold mtg
  rw [h, if_pos (by omega)]
  rfl
theorem e_goto {o : Int} (hd : decode (mB j) pc = .ok (.goto o, 3)) (ht : (pc : Int) + o = (pc' : Int)) (k : E j pc' ls st h = R) : E j pc ls st h = R :=
  e_next hd (by simp only [mx, mnx, mtg_of ht, if_true]) k
theorem e_dup {v : Value} (hd : decode (mB j) pc = .ok (.dup, 1)) (hp : pc + 1 = pc') (hc : v.category = 1) (k : E j pc' ls (v :: v :: st) h = R) : E j pc ls (v :: st) h = R := by
  subst hp; exact e_next hd (by simp only [mx, mnx, hc, if_true]) k
theorem e_dup2 {v w : Value} (hd : decode (mB j) pc = .ok (.dup2, 1)) (hp : pc + 1 = pc') (hc : v.category = 1 ∧ w.category = 1) (k : E j pc' ls (v :: w :: v :: w :: st) h = R) : E j pc ls (v :: w :: st) h = R := by
  subst hp; exact e_next hd (by simp only [mx, mnx, hc, and_self, if_true]) k
end EQ
end
section
section EQ2
variable {j pc pc' t : Nat} {ls ls' : mLoc} {st : List Value} {h : mHeap} {R1 R2 : mR'}
theorem e_ifeq {x : Int32} {o : Int} (hd : decode (mB j) pc = .ok (.ifCond .eq o, 3)) (hp : pc + 3 = pc') (ht : (pc : Int) + o = (t : Int)) (k1 : x = 0 → E j t ls st h = R1) (k2 : ¬ (x = 0) → E j pc' ls st h = R2) : E j pc ls (.int x :: st) h = if x = 0 then R1 else R2 := by
  subst hp
  by_cases hc : x = 0
  · rw [if_pos hc]; exact e_next hd (by simp only [mx, mif1, mnx, mtg_of ht, decide_eq_true_eq, if_pos hc, if_true]) (k1 hc)
  · rw [if_neg hc]; exact e_next hd (by simp only [mx, mif1, mnx, mtg_of ht, decide_eq_true_eq, if_neg hc, if_true]) (k2 hc)
theorem e_icmpeq {x y : Int32} {o : Int} (hd : decode (mB j) pc = .ok (.if_icmp .eq o, 3)) (hp : pc + 3 = pc') (ht : (pc : Int) + o = (t : Int)) (k1 : x = y → E j t ls st h = R1) (k2 : ¬ (x = y) → E j pc' ls st h = R2) : E j pc ls (.int y :: .int x :: st) h = if x = y then R1 else R2 := by
  subst hp
  by_cases hc : x = y
  · rw [if_pos hc]; exact e_next hd (by simp only [mx, mif2, mnx, mtg_of ht, decide_eq_true_eq, if_pos hc, if_true]) (k1 hc)
  · rw [if_neg hc]; exact e_next hd (by simp only [mx, mif2, mnx, mtg_of ht, decide_eq_true_eq, if_neg hc, if_true]) (k2 hc)
theorem e_ifne {x : Int32} {o : Int} (hd : decode (mB j) pc = .ok (.ifCond .ne o, 3)) (hp : pc + 3 = pc') (ht : (pc : Int) + o = (t : Int)) (k1 : ¬ x = 0 → E j t ls st h = R1) (k2 : ¬ (¬ x = 0) → E j pc' ls st h = R2) : E j pc ls (.int x :: st) h = if ¬ x = 0 then R1 else R2 := by
  subst hp
  by_cases hc : ¬ x = 0
  · rw [if_pos hc]; exact e_next hd (by simp only [mx, mif1, mnx, mtg_of ht, decide_eq_true_eq, if_pos hc, if_true]) (k1 hc)
  · rw [if_neg hc]; exact e_next hd (by simp only [mx, mif1, mnx, mtg_of ht, decide_eq_true_eq, if_neg hc, if_true]) (k2 hc)
theorem e_icmpne {x y : Int32} {o : Int} (hd : decode (mB j) pc = .ok (.if_icmp .ne o, 3)) (hp : pc + 3 = pc') (ht : (pc : Int) + o = (t : Int)) (k1 : ¬ x = y → E j t ls st h = R1) (k2 : ¬ (¬ x = y) → E j pc' ls st h = R2) : E j pc ls (.int y :: .int x :: st) h = if ¬ x = y then R1 else R2 := by
  subst hp
  by_cases hc : ¬ x = y
  · rw [if_pos hc]; exact e_next hd (by simp only [mx, mif2, mnx, mtg_of ht, decide_eq_true_eq, if_pos hc, if_true]) (k1 hc)
  · rw [if_neg hc]; exact e_next hd (by simp only [mx, mif2, mnx, mtg_of ht, decide_eq_true_eq, if_neg hc, if_true]) (k2 hc)
theorem e_iflt {x : Int32} {o : Int} (hd : decode (mB j) pc = .ok (.ifCond .lt o, 3)) (hp : pc + 3 = pc') (ht : (pc : Int) + o = (t : Int)) (k1 : x < 0 → E j t ls st h = R1) (k2 : ¬ (x < 0) → E j pc' ls st h = R2) : E j pc ls (.int x :: st) h = if x < 0 then R1 else R2 := by
  subst hp
  by_cases hc : x < 0
  · rw [if_pos hc]; exact e_next hd (by simp only [mx, mif1, mnx, mtg_of ht, decide_eq_true_eq, if_pos hc, if_true]) (k1 hc)
  · rw [if_neg hc]; exact e_next hd (by simp only [mx, mif1, mnx, mtg_of ht, decide_eq_true_eq, if_neg hc, if_true]) (k2 hc)
theorem e_icmplt {x y : Int32} {o : Int} (hd : decode (mB j) pc = .ok (.if_icmp .lt o, 3)) (hp : pc + 3 = pc') (ht : (pc : Int) + o = (t : Int)) (k1 : x < y → E j t ls st h = R1) (k2 : ¬ (x < y) → E j pc' ls st h = R2) : E j pc ls (.int y :: .int x :: st) h = if x < y then R1 else R2 := by
  subst hp
  by_cases hc : x < y
  · rw [if_pos hc]; exact e_next hd (by simp only [mx, mif2, mnx, mtg_of ht, decide_eq_true_eq, if_pos hc, if_true]) (k1 hc)
  · rw [if_neg hc]; exact e_next hd (by simp only [mx, mif2, mnx, mtg_of ht, decide_eq_true_eq, if_neg hc, if_true]) (k2 hc)
theorem e_ifge {x : Int32} {o : Int} (hd : decode (mB j) pc = .ok (.ifCond .ge o, 3)) (hp : pc + 3 = pc') (ht : (pc : Int) + o = (t : Int)) (k1 : 0 ≤ x → E j t ls st h = R1) (k2 : ¬ (0 ≤ x) → E j pc' ls st h = R2) : E j pc ls (.int x :: st) h = if 0 ≤ x then R1 else R2 := by
  subst hp
  by_cases hc : 0 ≤ x
  · rw [if_pos hc]; exact e_next hd (by simp only [mx, mif1, mnx, mtg_of ht, decide_eq_true_eq, if_pos hc, if_true]) (k1 hc)
  · rw [if_neg hc]; exact e_next hd (by simp only [mx, mif1, mnx, mtg_of ht, decide_eq_true_eq, if_neg hc, if_true]) (k2 hc)
theorem e_icmpge {x y : Int32} {o : Int} (hd : decode (mB j) pc = .ok (.if_icmp .ge o, 3)) (hp : pc + 3 = pc') (ht : (pc : Int) + o = (t : Int)) (k1 : y ≤ x → E j t ls st h = R1) (k2 : ¬ (y ≤ x) → E j pc' ls st h = R2) : E j pc ls (.int y :: .int x :: st) h = if y ≤ x then R1 else R2 := by
  subst hp
  by_cases hc : y ≤ x
  · rw [if_pos hc]; exact e_next hd (by simp only [mx, mif2, mnx, mtg_of ht, decide_eq_true_eq, if_pos hc, if_true]) (k1 hc)
  · rw [if_neg hc]; exact e_next hd (by simp only [mx, mif2, mnx, mtg_of ht, decide_eq_true_eq, if_neg hc, if_true]) (k2 hc)
theorem e_ifgt {x : Int32} {o : Int} (hd : decode (mB j) pc = .ok (.ifCond .gt o, 3)) (hp : pc + 3 = pc') (ht : (pc : Int) + o = (t : Int)) (k1 : 0 < x → E j t ls st h = R1) (k2 : ¬ (0 < x) → E j pc' ls st h = R2) : E j pc ls (.int x :: st) h = if 0 < x then R1 else R2 := by
  subst hp
  by_cases hc : 0 < x
  · rw [if_pos hc]; exact e_next hd (by simp only [mx, mif1, mnx, mtg_of ht, decide_eq_true_eq, if_pos hc, if_true]) (k1 hc)
  · rw [if_neg hc]; exact e_next hd (by simp only [mx, mif1, mnx, mtg_of ht, decide_eq_true_eq, if_neg hc, if_true]) (k2 hc)
theorem e_icmpgt {x y : Int32} {o : Int} (hd : decode (mB j) pc = .ok (.if_icmp .gt o, 3)) (hp : pc + 3 = pc') (ht : (pc : Int) + o = (t : Int)) (k1 : y < x → E j t ls st h = R1) (k2 : ¬ (y < x) → E j pc' ls st h = R2) : E j pc ls (.int y :: .int x :: st) h = if y < x then R1 else R2 := by
  subst hp
  by_cases hc : y < x
  · rw [if_pos hc]; exact e_next hd (by simp only [mx, mif2, mnx, mtg_of ht, decide_eq_true_eq, if_pos hc, if_true]) (k1 hc)
  · rw [if_neg hc]; exact e_next hd (by simp only [mx, mif2, mnx, mtg_of ht, decide_eq_true_eq, if_neg hc, if_true]) (k2 hc)
theorem e_ifle {x : Int32} {o : Int} (hd : decode (mB j) pc = .ok (.ifCond .le o, 3)) (hp : pc + 3 = pc') (ht : (pc : Int) + o = (t : Int)) (k1 : x ≤ 0 → E j t ls st h = R1) (k2 : ¬ (x ≤ 0) → E j pc' ls st h = R2) : E j pc ls (.int x :: st) h = if x ≤ 0 then R1 else R2 := by
  subst hp
  by_cases hc : x ≤ 0
  · rw [if_pos hc]; exact e_next hd (by simp only [mx, mif1, mnx, mtg_of ht, decide_eq_true_eq, if_pos hc, if_true]) (k1 hc)
  · rw [if_neg hc]; exact e_next hd (by simp only [mx, mif1, mnx, mtg_of ht, decide_eq_true_eq, if_neg hc, if_true]) (k2 hc)
theorem e_icmple {x y : Int32} {o : Int} (hd : decode (mB j) pc = .ok (.if_icmp .le o, 3)) (hp : pc + 3 = pc') (ht : (pc : Int) + o = (t : Int)) (k1 : x ≤ y → E j t ls st h = R1) (k2 : ¬ (x ≤ y) → E j pc' ls st h = R2) : E j pc ls (.int y :: .int x :: st) h = if x ≤ y then R1 else R2 := by
  subst hp
  by_cases hc : x ≤ y
  · rw [if_pos hc]; exact e_next hd (by simp only [mx, mif2, mnx, mtg_of ht, decide_eq_true_eq, if_pos hc, if_true]) (k1 hc)
  · rw [if_neg hc]; exact e_next hd (by simp only [mx, mif2, mnx, mtg_of ht, decide_eq_true_eq, if_neg hc, if_true]) (k2 hc)
/-- a read or a write that goes on where there is something -/
theorem e_bind {α : Type} {i : Instr} {len : Nat} (hd : decode (mB j) pc = .ok (i, len)) {q : Option α} {f : α → mFr} {R : α → mR'} (h1 : ∀ x, q = some x → mx j i len pc ls st h 0 0 = some (.inl (f x))) (h2 : q = none → mx j i len pc ls st h 0 0 = none) (h3 : ∀ x, (f x).2.2.2.2 = (0, 0)) (k : ∀ x, E j (f x).1 (f x).2.1 (f x).2.2.1 (f x).2.2.2.1 = R x) : E j pc ls st h = q.bind R := by
  cases hq : q with
  | none => exact D_none hd (h2 hq)
  | some x =>
    have e := h1 x hq
    have e3 := h3 x
    have kx := k x
    rcases hf : f x with ⟨a1, a2, a3, a4, a5, a6⟩
    rw [hf] at e e3 kx
    cases e3
    exact (D_next hd e).trans kx
theorem e_getI {idx a ci k : Nat} {R : Int32 → mR'} (hd : decode (mB j) pc = .ok (.getfield idx, 3)) (hp : pc + 3 = pc') (hf : mF (mO j) idx = some (ci, k)) (hk : (if mKi ci k = 3 then 0 else mKi ci k) = 0) (kk : ∀ x, E j pc' ls (.int x :: st) h = R x) : E j pc ls (.ref a :: st) h = (gI h a ci k).bind R := by
  subst hp
  refine e_bind (f := fun x => (pc + 3, ls, .int x :: st, h, 0, 0)) hd (fun x hq => ?_) (fun hq => ?_) (fun _ => rfl) kk
  · unfold gI at hq
    split at hq
    · rename_i hc; cases hq; simp only [mx, mGetF, mnx, hf, hc, hk, mok, if_true]
    · cases hq
  · unfold gI at hq
    simp only [mx, mGetF, mnx, hf, hk, if_true]
    cases hc : cFld h a ci k with
    | none => rfl
    | some v => cases v <;> first | (rw [hc] at hq; cases hq; done) | simp [mok]
theorem e_getL {idx a ci k : Nat} {R : Int64 → mR'} (hd : decode (mB j) pc = .ok (.getfield idx, 3)) (hp : pc + 3 = pc') (hf : mF (mO j) idx = some (ci, k)) (hk : (if mKi ci k = 3 then 0 else mKi ci k) = 1) (kk : ∀ x, E j pc' ls (.long x :: st) h = R x) : E j pc ls (.ref a :: st) h = (gL h a ci k).bind R := by
  subst hp
  refine e_bind (f := fun x => (pc + 3, ls, .long x :: st, h, 0, 0)) hd (fun x hq => ?_) (fun hq => ?_) (fun _ => rfl) kk
  · unfold gL at hq
    split at hq
    · rename_i hc; cases hq; simp only [mx, mGetF, mnx, hf, hc, hk, mok, if_true]
    · cases hq
  · unfold gL at hq
    simp only [mx, mGetF, mnx, hf, hk, if_true]
    cases hc : cFld h a ci k with
    | none => rfl
    | some v => cases v <;> first | (rw [hc] at hq; cases hq; done) | simp [mok]
theorem e_getR {idx a ci k : Nat} {R : Nat → mR'} (hd : decode (mB j) pc = .ok (.getfield idx, 3)) (hp : pc + 3 = pc') (hf : mF (mO j) idx = some (ci, k)) (hk : (if mKi ci k = 3 then 0 else mKi ci k) = 2) (kk : ∀ x, E j pc' ls (.ref x :: st) h = R x) : E j pc ls (.ref a :: st) h = (gR h a ci k).bind R := by
  subst hp
  refine e_bind (f := fun x => (pc + 3, ls, .ref x :: st, h, 0, 0)) hd (fun x hq => ?_) (fun hq => ?_) (fun _ => rfl) kk
  · unfold gR at hq
    split at hq
    · rename_i hc; cases hq; simp only [mx, mGetF, mnx, hf, hc, hk, mok, if_true]
    · cases hq
  · unfold gR at hq
    simp only [mx, mGetF, mnx, hf, hk, if_true]
    cases hc : cFld h a ci k with
    | none => rfl
    | some v => cases v <;> first | (rw [hc] at hq; cases hq; done) | simp [mok]
theorem e_put {idx a ci k : Nat} {v : Value} {R : mHeap → mR'} (hd : decode (mB j) pc = .ok (.putfield idx, 3)) (hp : pc + 3 = pc') (hf : mF (mO j) idx = some (ci, k)) (hk : mKi ci k < 3 ∧ mFin j ci k = true) (hv : mok (mKi ci k) v = true) (kk : ∀ h', E j pc' ls st h' = R h') : E j pc ls (v :: .ref a :: st) h = (cPut h a ci k v).bind R := by
  subst hp
  refine e_bind (f := fun h' => (pc + 3, ls, st, h', 0, 0)) hd (fun x hq => ?_) (fun hq => ?_) (fun _ => rfl) kk
  · simp only [mx, mPutF, mnx, hf, hq]
    rw [if_pos trivial, if_pos ⟨Or.inr ⟨hk.1, hv⟩, hk.2⟩]
  · simp only [mx, mPutF, mnx, hf, hq]
    rw [if_pos trivial]
    split <;> rfl
theorem e_putZ {idx a ci k : Nat} {x : Int32} {R : mHeap → mR'} (hd : decode (mB j) pc = .ok (.putfield idx, 3)) (hp : pc + 3 = pc') (hf : mF (mO j) idx = some (ci, k)) (hk : mKi ci k = 3 ∧ mFin j ci k = true) (hv : narrow .boolean (.int x) = .int x ∧ fits .boolean (.int x) = true) (kk : ∀ h', E j pc' ls st h' = R h') : E j pc ls (.int x :: .ref a :: st) h = (cPut h a ci k (.int x)).bind R := by
  subst hp
  refine e_bind (f := fun h' => (pc + 3, ls, st, h', 0, 0)) hd (fun y hq => ?_) (fun hq => ?_) (fun _ => rfl) kk
  · simp only [mx, mPutF, mnx, hf, hq]
    rw [if_pos trivial, if_pos ⟨Or.inl ⟨hk.1, rfl, hv.1, hv.2⟩, hk.2⟩]
  · simp only [mx, mPutF, mnx, hf, hq]
    rw [if_pos trivial]
    split <;> rfl
theorem e_iald {a : Nat} {i : Int32} {R : Int32 → mR'} {lw : Bool} (hd : decode (mB j) pc = .ok (.iaload, 1)) (hp : pc + 1 = pc') (hl : (j == mLaw) = lw) (kk : ∀ x, E j pc' ls (.int x :: st) h = R x) : E j pc ls (.int i :: .ref a :: st) h = (cAldI lw h a i).bind R := by
  subst hp
  refine e_bind (f := fun x => (pc + 1, ls, .int x :: st, h, 0, 0)) hd (fun x hq => ?_) (fun hq => ?_) (fun _ => rfl) kk
  · simp only [mx, mnx, hl, hq, if_true]
  · simp only [mx, mnx, hl, hq, if_true]
theorem e_bald {a : Nat} {i : Int32} {R : Int32 → mR'} (hd : decode (mB j) pc = .ok (.baload, 1)) (hp : pc + 1 = pc') (kk : ∀ x, E j pc' ls (.int x :: st) h = R x) : E j pc ls (.int i :: .ref a :: st) h = (cAldB h a i).bind R := by
  subst hp
  refine e_bind (f := fun x => (pc + 1, ls, .int x :: st, h, 0, 0)) hd (fun x hq => ?_) (fun hq => ?_) (fun _ => rfl) kk
  · simp only [mx, mnx, hq, if_true]
  · simp only [mx, mnx, hq, if_true]
theorem e_lald {a : Nat} {i : Int32} {R : Int64 → mR'} (hd : decode (mB j) pc = .ok (.laload, 1)) (hp : pc + 1 = pc') (kk : ∀ x, E j pc' ls (.long x :: st) h = R x) : E j pc ls (.int i :: .ref a :: st) h = (cAldL h a i).bind R := by
  subst hp
  refine e_bind (f := fun x => (pc + 1, ls, .long x :: st, h, 0, 0)) hd (fun x hq => ?_) (fun hq => ?_) (fun _ => rfl) kk
  · simp only [mx, mnx, hq, if_true]
  · simp only [mx, mnx, hq, if_true]
theorem e_aald {a : Nat} {i : Int32} {R : Nat → mR'} (hd : decode (mB j) pc = .ok (.aaload, 1)) (hp : pc + 1 = pc') (kk : ∀ x, E j pc' ls (.ref x :: st) h = R x) : E j pc ls (.int i :: .ref a :: st) h = (cAldR h a i).bind R := by
  subst hp
  refine e_bind (f := fun x => (pc + 1, ls, .ref x :: st, h, 0, 0)) hd (fun x hq => ?_) (fun hq => ?_) (fun _ => rfl) kk
  · simp only [mx, mnx, hq, if_true]
  · simp only [mx, mnx, hq, if_true]
theorem e_iast {a : Nat} {i : Int32} {x : Int32} {R : mHeap → mR'} (hd : decode (mB j) pc = .ok (.iastore, 1)) (hp : pc + 1 = pc') (kk : ∀ h', E j pc' ls st h' = R h') : E j pc ls (.int x :: .int i :: .ref a :: st) h = (cAstI h a i x).bind R := by
  subst hp
  refine e_bind (f := fun h' => (pc + 1, ls, st, h', 0, 0)) hd (fun y hq => ?_) (fun hq => ?_) (fun _ => rfl) kk
  · simp only [mx, mnx, hq, if_true]
  · simp only [mx, mnx, hq, if_true]
theorem e_bast {a : Nat} {i : Int32} {x : Int32} {R : mHeap → mR'} (hd : decode (mB j) pc = .ok (.bastore, 1)) (hp : pc + 1 = pc') (kk : ∀ h', E j pc' ls st h' = R h') : E j pc ls (.int x :: .int i :: .ref a :: st) h = (cAstB h a i x).bind R := by
  subst hp
  refine e_bind (f := fun h' => (pc + 1, ls, st, h', 0, 0)) hd (fun y hq => ?_) (fun hq => ?_) (fun _ => rfl) kk
  · simp only [mx, mnx, hq, if_true]
  · simp only [mx, mnx, hq, if_true]
theorem e_last {a : Nat} {i : Int32} {x : Int64} {R : mHeap → mR'} (hd : decode (mB j) pc = .ok (.lastore, 1)) (hp : pc + 1 = pc') (kk : ∀ h', E j pc' ls st h' = R h') : E j pc ls (.long x :: .int i :: .ref a :: st) h = (cAstL h a i x).bind R := by
  subst hp
  refine e_bind (f := fun h' => (pc + 1, ls, st, h', 0, 0)) hd (fun y hq => ?_) (fun hq => ?_) (fun _ => rfl) kk
  · simp only [mx, mnx, hq, if_true]
  · simp only [mx, mnx, hq, if_true]
theorem e_alen {a : Nat} {lw : Bool} {R : Int32 → mR'} (hd : decode (mB j) pc = .ok (.arraylength, 1)) (hp : pc + 1 = pc') (hl : (j == mLaw) = lw) (kk : ∀ x, E j pc' ls (.int x :: st) h = R x) : E j pc ls (.ref a :: st) h = (cLen lw h a).bind R := by
  subst hp
  refine e_bind (f := fun x => (pc + 1, ls, .int x :: st, h, 0, 0)) hd (fun x hq => ?_) (fun hq => ?_) (fun _ => rfl) kk
  · simp only [mx, mnx, hl, hq, if_true]
  · simp only [mx, mnx, hl, hq, if_true]
theorem e_cpy {idx a b ne : Nat} {sp dp n : Int32} {R : mHeap → mR'} (hd : decode (mB j) pc = .ok (.invokestatic idx, 3)) (hp : pc + 3 = pc') (hm : mM (mO j) idx = some (1001, ne)) (hr : 1 ≤ (mRm j).frames ∧ mCat st + (nativeFrameWords "java/lang/System" "arraycopy" 5 + 11) ≤ (mRm j).locals) (kk : ∀ h', E j pc' ls st h' = R h') : E j pc ls (.int n :: .int dp :: .ref b :: .int sp :: .ref a :: st) h = (cCpy h a b sp dp n).bind R := by
  subst hp
  refine e_bind (f := fun h' => (pc + 3, ls, st, h', 0, 0)) hd (fun y hq => ?_) (fun hq => ?_) (fun _ => rfl) kk
  · simp only [mx, mCall, mnx, hm, hq]
    rw [if_pos trivial, if_neg (by decide), if_pos trivial, if_pos hr]
  · simp only [mx, mCall, mnx, hm, hq]
    rw [if_pos trivial, if_neg (by decide), if_pos trivial]
    split <;> rfl
theorem e_iret {v : Int32} (hd : decode (mB j) pc = .ok (.ireturn, 1)) (hr : mRt j = some .int) : E j pc ls [.int v] h = some (some (.int v), h) := D_ret hd (by simp only [mx, mRet, hr, if_true])
theorem e_zret {v : Int32} (hd : decode (mB j) pc = .ok (.ireturn, 1)) (hr : mRt j = some .boolean) : E j pc ls [.int v] h = if narrow .boolean (.int v) = .int v then some (some (.int v), h) else none := by
  by_cases hc : narrow .boolean (.int v) = .int v
  · rw [if_pos hc]; exact D_ret hd (by simp only [mx, mRet, hr]; rw [if_pos trivial, if_pos hc])
  · rw [if_neg hc]; exact D_none hd (by simp only [mx, mRet, hr]; rw [if_pos trivial, if_neg hc])
theorem e_lret {v : Int64} (hd : decode (mB j) pc = .ok (.lreturn, 1)) (hr : mRt j = some .long) : E j pc ls [.long v] h = some (some (.long v), h) := D_ret hd (by simp only [mx, hr, if_true])
theorem e_vret (hd : decode (mB j) pc = .ok (.return_, 1)) (hr : mRt j = none) : E j pc ls [] h = some (none, h) := D_ret hd (by simp only [mx, hr, if_true])
/-- what can be asked of a call beforehand -/
def mCk (j kd idx j' np : Nat) : Bool := (match mM (mO j) idx with
  | some (q, _) => q == j'
  | none => false) && decide (j' ≠ 1000) && decide (j' ≠ 1001) && decide (mKd j' = kd) && decide (mNp j' = np) && mRoomOk j j' 0 0 && decide (j' < mN) && decide (j' ≠ mLaw) && decide ((mRm j').cells = 0) && decide ((mRm j').slots = 0)
theorem mCk_ok {kd idx j' np : Nat} (h : mCk j kd idx j' np = true) : (∃ ne, mM (mO j) idx = some (j', ne)) ∧ j' ≠ 1000 ∧ j' ≠ 1001 ∧ mKd j' = kd ∧ mNp j' = np ∧ mRoomOk j j' 0 0 = true ∧ j' < mN ∧ j' ≠ mLaw ∧ (mRm j').cells = 0 ∧ (mRm j').slots = 0 := by
  unfold mCk at h
  simp only [Bool.and_eq_true, decide_eq_true_eq] at h
  obtain ⟨⟨⟨⟨⟨⟨⟨⟨⟨h1, h2⟩, h3⟩, h4⟩, h5⟩, h6⟩, h7⟩, h8⟩, h9⟩, h10⟩ := h
  refine ⟨?_, h2, h3, h4, h5, h6, h7, h8, h9, h10⟩
  cases hm : mM (mO j) idx with
  | none => rw [hm] at h1; cases h1
  | some q =>
    obtain ⟨a, b⟩ := q
    rw [hm] at h1
    exact ⟨b, by rw [beq_iff_eq.mp h1]⟩
theorem mx_s {idx j' : Nat} {as rest : List Value} (hc : mCk j 0 idx j' as.length = true) (h8 : mCat rest ≤ 8) : mx j (.invokestatic idx) 3 pc ls (as.reverse ++ rest) h 0 0 = some (.inr (.inr (j', as, rest))) := by
  obtain ⟨⟨ne, hm⟩, h2, h3, h4, h5, h6, h7, h9, h10, -⟩ := mCk_ok hc
  have e1 : (as.reverse ++ rest).take (mNp j') = as.reverse := by rw [h5]; simp
  have e2 : (as.reverse ++ rest).drop (mNp j') = rest := by rw [h5]; simp
  simp only [mx, mCall, hm, e1, e2]
  rw [if_pos trivial, if_neg h2, if_neg h3, if_pos ⟨h4, by rw [h5]; simp, h6, h7, h9, Or.inl h10⟩, if_pos h8, List.reverse_reverse]
theorem mx_v {i : Instr} {kd idx j' b : Nat} {as rest : List Value} (hi : (i = .invokevirtual idx ∧ kd = 1) ∨ (i = .invokespecial idx ∧ kd = 2)) (hc : mCk j kd idx j' as.length = true) (h8 : mCat rest ≤ 8) : mx j i 3 pc ls (as.reverse ++ .ref b :: rest) h 0 0 = (gO h b (mO j')).bind (fun _ => some (.inr (.inr (j', .ref b :: as, rest)))) := by
  obtain ⟨⟨ne, hm⟩, h2, h3, h4, h5, h6, h7, h9, h10, -⟩ := mCk_ok hc
  have e1 : (as.reverse ++ .ref b :: rest).take (mNp j') = as.reverse := by rw [h5]; simp
  have e2 : (as.reverse ++ .ref b :: rest).drop (mNp j') = .ref b :: rest := by rw [h5]; simp
  have key : mCall j kd idx 3 pc ls (as.reverse ++ .ref b :: rest) h 0 0 = (gO h b (mO j')).bind (fun _ => some (.inr (.inr (j', .ref b :: as, rest)))) := by
    simp only [mCall, hm, e1, e2]
    rw [if_pos trivial, if_neg h2, if_neg h3, if_pos ⟨h4, by rw [h5]; simp, h6, h7, h9, Or.inl h10⟩]
    rcases hi with ⟨-, rfl⟩ | ⟨-, rfl⟩
    all_goals
      unfold gO
      change (match h[b]? with
        | some (.inr (c, _)) => if c = mO j' ∧ mCat rest ≤ 8 then (some (Sum.inr (Sum.inr (j', Value.ref b :: as.reverse.reverse, rest))) : Option mOut) else none
        | _ => none) = _
      cases hb : h[b]? with
      | none => rfl
      | some x =>
        cases x with
        | inl y => rfl
        | inr y =>
          obtain ⟨c, fs⟩ := y
          dsimp only
          by_cases hcc : c = mO j'
          · rw [if_pos ⟨hcc, h8⟩, if_pos hcc, List.reverse_reverse]; rfl
          · rw [if_neg (fun z => hcc z.1), if_neg hcc]; rfl
  rcases hi with ⟨rfl, rfl⟩ | ⟨rfl, rfl⟩
  · exact key
  · exact key
theorem D_kind {j pc : Nat} {ls : mLoc} {st : List Value} {h : mHeap} {cu su : Nat} {r : Option Value} {h' : mHeap} (hr : D j pc ls st h cu su = some (r, h')) : mRk j r := by
  obtain ⟨n, hn⟩ := D_iff.mp hr
  exact run_kind n hn
theorem e_sI {idx j' : Nat} {as rest : List Value} {R : Int32 × mHeap → mR'} (hd : decode (mB j) pc = .ok (.invokestatic idx, 3)) (hp : pc + 3 = pc') (hc : mCk j 0 idx j' as.length = true) (hk : mRt j' = some .int ∨ mRt j' = some .boolean) (hs : st = as.reverse ++ rest) (h8 : mCat rest ≤ 8) (hl : (mArg as).length ≤ mL j') (kk : ∀ q, E j pc' ls (.int q.1 :: rest) q.2 = R q) : E j pc ls st h = (sI j' as h).bind R := by
  subst hp
  subst hs
  obtain ⟨-, -, -, -, -, -, -, -, h10, h11⟩ := mCk_ok hc
  refine (D_call hd (mx_s hc h8) hl).trans ?_
  cases hq : D j' 0 (mEnt j' as) [] h 0 0 with
  | none => simp only [sI, F, hq, Option.bind_none]
  | some q =>
    obtain ⟨v, h'⟩ := q
    · simp only [sI, F, hq, Option.bind_some]
      have hkd := D_kind hq
      have hkd : ∃ x, v = some (.int x) := by
        unfold mRk at hkd
        rcases hk with hk | hk <;> rw [hk] at hkd <;> exact hkd
      obtain ⟨x, rfl⟩ := hkd
      have kx := kk (x, h')
      simpa [mAns, h10, h11] using kx
theorem e_vI {idx j' b : Nat} {as rest : List Value} {R : Int32 × mHeap → mR'} (hd : decode (mB j) pc = .ok (.invokevirtual idx, 3)) (hp : pc + 3 = pc') (hc : mCk j 1 idx j' as.length = true) (hk : mRt j' = some .int ∨ mRt j' = some .boolean) (hs : st = as.reverse ++ .ref b :: rest) (h8 : mCat rest ≤ 8) (hl : (mArg (.ref b :: as)).length ≤ mL j') (kk : ∀ q, E j pc' ls (.int q.1 :: rest) q.2 = R q) : E j pc ls st h = (vI j' b as h).bind R := by
  subst hp
  subst hs
  obtain ⟨-, -, -, -, -, -, -, -, h10, h11⟩ := mCk_ok hc
  have hx := mx_v (pc := pc) (ls := ls) (h := h) (b := b) (i := .invokevirtual idx) (by simp) hc h8
  unfold vI
  cases ho : gO h b (mO j') with
  | none =>
    rw [ho] at hx
    exact D_none hd hx
  | some u =>
    rw [ho] at hx
    refine (D_call hd hx hl).trans ?_
    simp only [Option.bind_some]
    cases hq : D j' 0 (mEnt j' (.ref b :: as)) [] h 0 0 with
    | none => simp only [sI, F, hq, Option.bind_none]
    | some q =>
      obtain ⟨v, h'⟩ := q
      simp only [sI, F, hq, Option.bind_some]
      have hkd := D_kind hq
      have hkd : ∃ x, v = some (.int x) := by
        unfold mRk at hkd
        rcases hk with hk | hk <;> rw [hk] at hkd <;> exact hkd
      obtain ⟨x, rfl⟩ := hkd
      have kx := kk (x, h')
      simpa [mAns, h10, h11] using kx
theorem e_cI {idx j' b : Nat} {as rest : List Value} {R : Int32 × mHeap → mR'} (hd : decode (mB j) pc = .ok (.invokespecial idx, 3)) (hp : pc + 3 = pc') (hc : mCk j 2 idx j' as.length = true) (hk : mRt j' = some .int ∨ mRt j' = some .boolean) (hs : st = as.reverse ++ .ref b :: rest) (h8 : mCat rest ≤ 8) (hl : (mArg (.ref b :: as)).length ≤ mL j') (kk : ∀ q, E j pc' ls (.int q.1 :: rest) q.2 = R q) : E j pc ls st h = (vI j' b as h).bind R := by
  subst hp
  subst hs
  obtain ⟨-, -, -, -, -, -, -, -, h10, h11⟩ := mCk_ok hc
  have hx := mx_v (pc := pc) (ls := ls) (h := h) (b := b) (i := .invokespecial idx) (by simp) hc h8
  unfold vI
  cases ho : gO h b (mO j') with
  | none =>
    rw [ho] at hx
    exact D_none hd hx
  | some u =>
    rw [ho] at hx
    refine (D_call hd hx hl).trans ?_
    simp only [Option.bind_some]
    cases hq : D j' 0 (mEnt j' (.ref b :: as)) [] h 0 0 with
    | none => simp only [sI, F, hq, Option.bind_none]
    | some q =>
      obtain ⟨v, h'⟩ := q
      simp only [sI, F, hq, Option.bind_some]
      have hkd := D_kind hq
      have hkd : ∃ x, v = some (.int x) := by
        unfold mRk at hkd
        rcases hk with hk | hk <;> rw [hk] at hkd <;> exact hkd
      obtain ⟨x, rfl⟩ := hkd
      have kx := kk (x, h')
      simpa [mAns, h10, h11] using kx
theorem e_sL {idx j' : Nat} {as rest : List Value} {R : Int64 × mHeap → mR'} (hd : decode (mB j) pc = .ok (.invokestatic idx, 3)) (hp : pc + 3 = pc') (hc : mCk j 0 idx j' as.length = true) (hk : mRt j' = some .long) (hs : st = as.reverse ++ rest) (h8 : mCat rest ≤ 8) (hl : (mArg as).length ≤ mL j') (kk : ∀ q, E j pc' ls (.long q.1 :: rest) q.2 = R q) : E j pc ls st h = (sL j' as h).bind R := by
  subst hp
  subst hs
  obtain ⟨-, -, -, -, -, -, -, -, h10, h11⟩ := mCk_ok hc
  refine (D_call hd (mx_s hc h8) hl).trans ?_
  cases hq : D j' 0 (mEnt j' as) [] h 0 0 with
  | none => simp only [sL, F, hq, Option.bind_none]
  | some q =>
    obtain ⟨v, h'⟩ := q
    · simp only [sL, F, hq, Option.bind_some]
      have hkd := D_kind hq
      unfold mRk at hkd
      rw [hk] at hkd
      obtain ⟨x, rfl⟩ := hkd
      have kx := kk (x, h')
      simpa [mAns, h10, h11] using kx
theorem e_vL {idx j' b : Nat} {as rest : List Value} {R : Int64 × mHeap → mR'} (hd : decode (mB j) pc = .ok (.invokevirtual idx, 3)) (hp : pc + 3 = pc') (hc : mCk j 1 idx j' as.length = true) (hk : mRt j' = some .long) (hs : st = as.reverse ++ .ref b :: rest) (h8 : mCat rest ≤ 8) (hl : (mArg (.ref b :: as)).length ≤ mL j') (kk : ∀ q, E j pc' ls (.long q.1 :: rest) q.2 = R q) : E j pc ls st h = (vL j' b as h).bind R := by
  subst hp
  subst hs
  obtain ⟨-, -, -, -, -, -, -, -, h10, h11⟩ := mCk_ok hc
  have hx := mx_v (pc := pc) (ls := ls) (h := h) (b := b) (i := .invokevirtual idx) (by simp) hc h8
  unfold vL
  cases ho : gO h b (mO j') with
  | none =>
    rw [ho] at hx
    exact D_none hd hx
  | some u =>
    rw [ho] at hx
    refine (D_call hd hx hl).trans ?_
    simp only [Option.bind_some]
    cases hq : D j' 0 (mEnt j' (.ref b :: as)) [] h 0 0 with
    | none => simp only [sL, F, hq, Option.bind_none]
    | some q =>
      obtain ⟨v, h'⟩ := q
      simp only [sL, F, hq, Option.bind_some]
      have hkd := D_kind hq
      unfold mRk at hkd
      rw [hk] at hkd
      obtain ⟨x, rfl⟩ := hkd
      have kx := kk (x, h')
      simpa [mAns, h10, h11] using kx
theorem e_cL {idx j' b : Nat} {as rest : List Value} {R : Int64 × mHeap → mR'} (hd : decode (mB j) pc = .ok (.invokespecial idx, 3)) (hp : pc + 3 = pc') (hc : mCk j 2 idx j' as.length = true) (hk : mRt j' = some .long) (hs : st = as.reverse ++ .ref b :: rest) (h8 : mCat rest ≤ 8) (hl : (mArg (.ref b :: as)).length ≤ mL j') (kk : ∀ q, E j pc' ls (.long q.1 :: rest) q.2 = R q) : E j pc ls st h = (vL j' b as h).bind R := by
  subst hp
  subst hs
  obtain ⟨-, -, -, -, -, -, -, -, h10, h11⟩ := mCk_ok hc
  have hx := mx_v (pc := pc) (ls := ls) (h := h) (b := b) (i := .invokespecial idx) (by simp) hc h8
  unfold vL
  cases ho : gO h b (mO j') with
  | none =>
    rw [ho] at hx
    exact D_none hd hx
  | some u =>
    rw [ho] at hx
    refine (D_call hd hx hl).trans ?_
    simp only [Option.bind_some]
    cases hq : D j' 0 (mEnt j' (.ref b :: as)) [] h 0 0 with
    | none => simp only [sL, F, hq, Option.bind_none]
    | some q =>
      obtain ⟨v, h'⟩ := q
      simp only [sL, F, hq, Option.bind_some]
      have hkd := D_kind hq
      unfold mRk at hkd
      rw [hk] at hkd
      obtain ⟨x, rfl⟩ := hkd
      have kx := kk (x, h')
      simpa [mAns, h10, h11] using kx
theorem e_sV {idx j' : Nat} {as rest : List Value} {R : mHeap → mR'} (hd : decode (mB j) pc = .ok (.invokestatic idx, 3)) (hp : pc + 3 = pc') (hc : mCk j 0 idx j' as.length = true) (hk : mRt j' = none) (hs : st = as.reverse ++ rest) (h8 : mCat rest ≤ 8) (hl : (mArg as).length ≤ mL j') (kk : ∀ h', E j pc' ls (rest) h' = R h') : E j pc ls st h = (sV j' as h).bind R := by
  subst hp
  subst hs
  obtain ⟨-, -, -, -, -, -, -, -, h10, h11⟩ := mCk_ok hc
  refine (D_call hd (mx_s hc h8) hl).trans ?_
  cases hq : D j' 0 (mEnt j' as) [] h 0 0 with
  | none => simp only [sV, F, hq, Option.bind_none]
  | some q =>
    obtain ⟨v, h'⟩ := q
    · simp only [sV, F, hq, Option.bind_some]
      have hkd := D_kind hq
      unfold mRk at hkd
      rw [hk] at hkd
      dsimp only at hkd
      subst hkd
      have kx := kk h'
      simpa [mAns, h10, h11] using kx
theorem e_vV {idx j' b : Nat} {as rest : List Value} {R : mHeap → mR'} (hd : decode (mB j) pc = .ok (.invokevirtual idx, 3)) (hp : pc + 3 = pc') (hc : mCk j 1 idx j' as.length = true) (hk : mRt j' = none) (hs : st = as.reverse ++ .ref b :: rest) (h8 : mCat rest ≤ 8) (hl : (mArg (.ref b :: as)).length ≤ mL j') (kk : ∀ h', E j pc' ls (rest) h' = R h') : E j pc ls st h = (vV j' b as h).bind R := by
  subst hp
  subst hs
  obtain ⟨-, -, -, -, -, -, -, -, h10, h11⟩ := mCk_ok hc
  have hx := mx_v (pc := pc) (ls := ls) (h := h) (b := b) (i := .invokevirtual idx) (by simp) hc h8
  unfold vV
  cases ho : gO h b (mO j') with
  | none =>
    rw [ho] at hx
    exact D_none hd hx
  | some u =>
    rw [ho] at hx
    refine (D_call hd hx hl).trans ?_
    simp only [Option.bind_some]
    cases hq : D j' 0 (mEnt j' (.ref b :: as)) [] h 0 0 with
    | none => simp only [sV, F, hq, Option.bind_none]
    | some q =>
      obtain ⟨v, h'⟩ := q
      simp only [sV, F, hq, Option.bind_some]
      have hkd := D_kind hq
      unfold mRk at hkd
      rw [hk] at hkd
      dsimp only at hkd
      subst hkd
      have kx := kk h'
      simpa [mAns, h10, h11] using kx
theorem e_cV {idx j' b : Nat} {as rest : List Value} {R : mHeap → mR'} (hd : decode (mB j) pc = .ok (.invokespecial idx, 3)) (hp : pc + 3 = pc') (hc : mCk j 2 idx j' as.length = true) (hk : mRt j' = none) (hs : st = as.reverse ++ .ref b :: rest) (h8 : mCat rest ≤ 8) (hl : (mArg (.ref b :: as)).length ≤ mL j') (kk : ∀ h', E j pc' ls (rest) h' = R h') : E j pc ls st h = (vV j' b as h).bind R := by
  subst hp
  subst hs
  obtain ⟨-, -, -, -, -, -, -, -, h10, h11⟩ := mCk_ok hc
  have hx := mx_v (pc := pc) (ls := ls) (h := h) (b := b) (i := .invokespecial idx) (by simp) hc h8
  unfold vV
  cases ho : gO h b (mO j') with
  | none =>
    rw [ho] at hx
    exact D_none hd hx
  | some u =>
    rw [ho] at hx
    refine (D_call hd hx hl).trans ?_
    simp only [Option.bind_some]
    cases hq : D j' 0 (mEnt j' (.ref b :: as)) [] h 0 0 with
    | none => simp only [sV, F, hq, Option.bind_none]
    | some q =>
      obtain ⟨v, h'⟩ := q
      simp only [sV, F, hq, Option.bind_some]
      have hkd := D_kind hq
      unfold mRk at hkd
      rw [hk] at hkd
      dsimp only at hkd
      subst hkd
      have kx := kk h'
      simpa [mAns, h10, h11] using kx
theorem e_tsw {d lo hi : Int} {offs : Array Int} {len : Nat} {x : Int32} {o : Int} {R : mR'} (hd : decode (mB j) pc = .ok (.tableswitch d lo hi offs, len)) (ho : (if x.toInt < lo ∨ hi < x.toInt then some d else offs[(x.toInt - lo).toNat]?) = some o) (ht : (pc : Int) + o = (t : Int)) (k : E j t ls st h = R) : E j pc ls (.int x :: st) h = R :=
  e_next hd (by simp only [mx, mTab, mnx]; rw [ho]; simp only [mtg_of ht]) k
end EQ2
end
