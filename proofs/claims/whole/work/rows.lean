section
-- ===== PART A: goes FIRST, ahead of the names: the tables' words, and 'selects' of the private methods out of them =====
/-- a private method of a class that the tables say can be made, by its rows of tables_1 -/
def lw_okq (q : MethodName × Nat) : Prop := (q.1.cls ≠ "java/lang/invoke/MethodHandle" ∧ q.1.cls ≠ "java/lang/invoke/VarHandle") ∧ Cond.instantiable q.1.cls q.2 ∈ tables_1 ∧ Cond.privateMethod q.1 ∈ tables_1 ∧ Cond.instanceMethod q.1 ∈ tables_1
theorem lw_p0 : lw_okq (⟨"SecondRoom", "makePaper", "(LSecondRoom$Shelf;III)I"⟩, 16) := ⟨⟨by decide +kernel, by decide +kernel⟩, List.mem_of_getElem? (i := 11) (by decide +kernel), List.mem_of_getElem? (i := 182) (by decide +kernel), List.mem_of_getElem? (i := 183) (by decide +kernel)⟩
theorem lw_p1 : lw_okq (⟨"SecondRoom", "found", "(I)I"⟩, 16) := ⟨⟨by decide +kernel, by decide +kernel⟩, List.mem_of_getElem? (i := 11) (by decide +kernel), List.mem_of_getElem? (i := 190) (by decide +kernel), List.mem_of_getElem? (i := 191) (by decide +kernel)⟩
theorem lw_p2 : lw_okq (⟨"SecondRoom", "refusalOfPlace", "(LSecondRoom$Shelf;II)I"⟩, 16) := ⟨⟨by decide +kernel, by decide +kernel⟩, List.mem_of_getElem? (i := 11) (by decide +kernel), List.mem_of_getElem? (i := 206) (by decide +kernel), List.mem_of_getElem? (i := 207) (by decide +kernel)⟩
theorem lw_p3 : lw_okq (⟨"SecondRoom", "refusalOfPaper", "(LSecondRoom$Shelf;I)I"⟩, 16) := ⟨⟨by decide +kernel, by decide +kernel⟩, List.mem_of_getElem? (i := 11) (by decide +kernel), List.mem_of_getElem? (i := 210) (by decide +kernel), List.mem_of_getElem? (i := 211) (by decide +kernel)⟩
theorem lw_p4 : lw_okq (⟨"SecondRoom", "tell", "(II)I"⟩, 16) := ⟨⟨by decide +kernel, by decide +kernel⟩, List.mem_of_getElem? (i := 11) (by decide +kernel), List.mem_of_getElem? (i := 227) (by decide +kernel), List.mem_of_getElem? (i := 228) (by decide +kernel)⟩
theorem lw_p5 : lw_okq (⟨"SecondRoom$Reader", "skipBlanks", "()V"⟩, 4) := ⟨⟨by decide +kernel, by decide +kernel⟩, List.mem_of_getElem? (i := 37) (by decide +kernel), List.mem_of_getElem? (i := 292) (by decide +kernel), List.mem_of_getElem? (i := 293) (by decide +kernel)⟩
theorem lw_p6 : lw_okq (⟨"SecondRoom$Reader", "here", "()I"⟩, 4) := ⟨⟨by decide +kernel, by decide +kernel⟩, List.mem_of_getElem? (i := 37) (by decide +kernel), List.mem_of_getElem? (i := 296) (by decide +kernel), List.mem_of_getElem? (i := 297) (by decide +kernel)⟩
theorem lw_p7 : lw_okq (⟨"SecondRoom$Reader", "readTurns", "(LSecondRoom$House;)Z"⟩, 4) := ⟨⟨by decide +kernel, by decide +kernel⟩, List.mem_of_getElem? (i := 37) (by decide +kernel), List.mem_of_getElem? (i := 301) (by decide +kernel), List.mem_of_getElem? (i := 302) (by decide +kernel)⟩
theorem lw_p8 : lw_okq (⟨"SecondRoom$Reader", "figure", "(II)I"⟩, 4) := ⟨⟨by decide +kernel, by decide +kernel⟩, List.mem_of_getElem? (i := 37) (by decide +kernel), List.mem_of_getElem? (i := 305) (by decide +kernel), List.mem_of_getElem? (i := 306) (by decide +kernel)⟩
theorem lw_p9 : lw_okq (⟨"SecondRoom$Reader", "readItem", "(LSecondRoom$House;)Z"⟩, 4) := ⟨⟨by decide +kernel, by decide +kernel⟩, List.mem_of_getElem? (i := 37) (by decide +kernel), List.mem_of_getElem? (i := 309) (by decide +kernel), List.mem_of_getElem? (i := 310) (by decide +kernel)⟩
theorem lw_p10 : lw_okq (⟨"SecondRoom$Reader", "readThing", "(LSecondRoom$House;)Z"⟩, 4) := ⟨⟨by decide +kernel, by decide +kernel⟩, List.mem_of_getElem? (i := 37) (by decide +kernel), List.mem_of_getElem? (i := 313) (by decide +kernel), List.mem_of_getElem? (i := 314) (by decide +kernel)⟩
theorem lw_p11 : lw_okq (⟨"SecondRoom$Reader", "readGuest", "(LSecondRoom$House;)Z"⟩, 4) := ⟨⟨by decide +kernel, by decide +kernel⟩, List.mem_of_getElem? (i := 37) (by decide +kernel), List.mem_of_getElem? (i := 321) (by decide +kernel), List.mem_of_getElem? (i := 322) (by decide +kernel)⟩
theorem lw_p12 : lw_okq (⟨"SecondRoom", "forgetKept", "()V"⟩, 16) := ⟨⟨by decide +kernel, by decide +kernel⟩, List.mem_of_getElem? (i := 11) (by decide +kernel), List.mem_of_getElem? (i := 349) (by decide +kernel), List.mem_of_getElem? (i := 350) (by decide +kernel)⟩
theorem lw_p13 : lw_okq (⟨"SecondRoom", "isGuest", "(I)Z"⟩, 16) := ⟨⟨by decide +kernel, by decide +kernel⟩, List.mem_of_getElem? (i := 11) (by decide +kernel), List.mem_of_getElem? (i := 361) (by decide +kernel), List.mem_of_getElem? (i := 362) (by decide +kernel)⟩
theorem lw_p14 : lw_okq (⟨"SecondRoom", "factOf", "(II)I"⟩, 16) := ⟨⟨by decide +kernel, by decide +kernel⟩, List.mem_of_getElem? (i := 11) (by decide +kernel), List.mem_of_getElem? (i := 365) (by decide +kernel), List.mem_of_getElem? (i := 366) (by decide +kernel)⟩
theorem lw_p15 : lw_okq (⟨"SecondRoom", "secondLife", "(I)I"⟩, 16) := ⟨⟨by decide +kernel, by decide +kernel⟩, List.mem_of_getElem? (i := 11) (by decide +kernel), List.mem_of_getElem? (i := 369) (by decide +kernel), List.mem_of_getElem? (i := 370) (by decide +kernel)⟩
def lw_privs_1 : List (MethodName × Nat) := [(⟨"SecondRoom", "makePaper", "(LSecondRoom$Shelf;III)I"⟩, 16), (⟨"SecondRoom", "found", "(I)I"⟩, 16), (⟨"SecondRoom", "refusalOfPlace", "(LSecondRoom$Shelf;II)I"⟩, 16), (⟨"SecondRoom", "refusalOfPaper", "(LSecondRoom$Shelf;I)I"⟩, 16), (⟨"SecondRoom", "tell", "(II)I"⟩, 16), (⟨"SecondRoom$Reader", "skipBlanks", "()V"⟩, 4), (⟨"SecondRoom$Reader", "here", "()I"⟩, 4), (⟨"SecondRoom$Reader", "readTurns", "(LSecondRoom$House;)Z"⟩, 4), (⟨"SecondRoom$Reader", "figure", "(II)I"⟩, 4), (⟨"SecondRoom$Reader", "readItem", "(LSecondRoom$House;)Z"⟩, 4), (⟨"SecondRoom$Reader", "readThing", "(LSecondRoom$House;)Z"⟩, 4), (⟨"SecondRoom$Reader", "readGuest", "(LSecondRoom$House;)Z"⟩, 4), (⟨"SecondRoom", "forgetKept", "()V"⟩, 16), (⟨"SecondRoom", "isGuest", "(I)Z"⟩, 16), (⟨"SecondRoom", "factOf", "(II)I"⟩, 16), (⟨"SecondRoom", "secondLife", "(I)I"⟩, 16)]
theorem lw_r1 : ∀ q ∈ lw_privs_1, lw_okq q := List.forall_mem_cons.mpr ⟨lw_p0, List.forall_mem_cons.mpr ⟨lw_p1, List.forall_mem_cons.mpr ⟨lw_p2, List.forall_mem_cons.mpr ⟨lw_p3, List.forall_mem_cons.mpr ⟨lw_p4, List.forall_mem_cons.mpr ⟨lw_p5, List.forall_mem_cons.mpr ⟨lw_p6, List.forall_mem_cons.mpr ⟨lw_p7, List.forall_mem_cons.mpr ⟨lw_p8, List.forall_mem_cons.mpr ⟨lw_p9, List.forall_mem_cons.mpr ⟨lw_p10, List.forall_mem_cons.mpr ⟨lw_p11, List.forall_mem_cons.mpr ⟨lw_p12, List.forall_mem_cons.mpr ⟨lw_p13, List.forall_mem_cons.mpr ⟨lw_p14, List.forall_mem_cons.mpr ⟨lw_p15, fun _ h => absurd h List.not_mem_nil⟩⟩⟩⟩⟩⟩⟩⟩⟩⟩⟩⟩⟩⟩⟩⟩
theorem lw_p16 : lw_okq (⟨"SecondRoom$House", "lastAsFirst", "(II)I"⟩, 8) := ⟨⟨by decide +kernel, by decide +kernel⟩, List.mem_of_getElem? (i := 56) (by decide +kernel), List.mem_of_getElem? (i := 381) (by decide +kernel), List.mem_of_getElem? (i := 382) (by decide +kernel)⟩
theorem lw_p17 : lw_okq (⟨"SecondRoom", "thingsIn", "(II)I"⟩, 16) := ⟨⟨by decide +kernel, by decide +kernel⟩, List.mem_of_getElem? (i := 11) (by decide +kernel), List.mem_of_getElem? (i := 418) (by decide +kernel), List.mem_of_getElem? (i := 419) (by decide +kernel)⟩
theorem lw_p18 : lw_okq (⟨"SecondRoom$Night", "carryOut", "(III)V"⟩, 7) := ⟨⟨by decide +kernel, by decide +kernel⟩, List.mem_of_getElem? (i := 96) (by decide +kernel), List.mem_of_getElem? (i := 442) (by decide +kernel), List.mem_of_getElem? (i := 443) (by decide +kernel)⟩
theorem lw_p19 : lw_okq (⟨"SecondRoom", "isThingSet", "(I)Z"⟩, 16) := ⟨⟨by decide +kernel, by decide +kernel⟩, List.mem_of_getElem? (i := 11) (by decide +kernel), List.mem_of_getElem? (i := 504) (by decide +kernel), List.mem_of_getElem? (i := 505) (by decide +kernel)⟩
theorem lw_p20 : lw_okq (⟨"SecondRoom", "thingsByTurn", "(II)I"⟩, 16) := ⟨⟨by decide +kernel, by decide +kernel⟩, List.mem_of_getElem? (i := 11) (by decide +kernel), List.mem_of_getElem? (i := 508) (by decide +kernel), List.mem_of_getElem? (i := 509) (by decide +kernel)⟩
theorem lw_p21 : lw_okq (⟨"SecondRoom", "addDifference", "(I)V"⟩, 16) := ⟨⟨by decide +kernel, by decide +kernel⟩, List.mem_of_getElem? (i := 11) (by decide +kernel), List.mem_of_getElem? (i := 516) (by decide +kernel), List.mem_of_getElem? (i := 517) (by decide +kernel)⟩
theorem lw_p22 : lw_okq (⟨"SecondRoom", "fewestTellingApart", "()I"⟩, 16) := ⟨⟨by decide +kernel, by decide +kernel⟩, List.mem_of_getElem? (i := 11) (by decide +kernel), List.mem_of_getElem? (i := 520) (by decide +kernel), List.mem_of_getElem? (i := 521) (by decide +kernel)⟩
theorem lw_p23 : lw_okq (⟨"SecondRoom", "tellsApart", "(I)Z"⟩, 16) := ⟨⟨by decide +kernel, by decide +kernel⟩, List.mem_of_getElem? (i := 11) (by decide +kernel), List.mem_of_getElem? (i := 524) (by decide +kernel), List.mem_of_getElem? (i := 525) (by decide +kernel)⟩
theorem lw_p24 : lw_okq (⟨"SecondRoom", "turnsWith", "(II)I"⟩, 16) := ⟨⟨by decide +kernel, by decide +kernel⟩, List.mem_of_getElem? (i := 11) (by decide +kernel), List.mem_of_getElem? (i := 532) (by decide +kernel), List.mem_of_getElem? (i := 533) (by decide +kernel)⟩
theorem lw_p25 : lw_okq (⟨"SecondRoom", "isThing", "(I)Z"⟩, 16) := ⟨⟨by decide +kernel, by decide +kernel⟩, List.mem_of_getElem? (i := 11) (by decide +kernel), List.mem_of_getElem? (i := 548) (by decide +kernel), List.mem_of_getElem? (i := 549) (by decide +kernel)⟩
theorem lw_p26 : lw_okq (⟨"SecondRoom", "isSecondOf", "(II)Z"⟩, 16) := ⟨⟨by decide +kernel, by decide +kernel⟩, List.mem_of_getElem? (i := 11) (by decide +kernel), List.mem_of_getElem? (i := 556) (by decide +kernel), List.mem_of_getElem? (i := 557) (by decide +kernel)⟩
theorem lw_p27 : lw_okq (⟨"SecondRoom", "endsOfWalk", "(I)I"⟩, 16) := ⟨⟨by decide +kernel, by decide +kernel⟩, List.mem_of_getElem? (i := 11) (by decide +kernel), List.mem_of_getElem? (i := 568) (by decide +kernel), List.mem_of_getElem? (i := 569) (by decide +kernel)⟩
theorem lw_p28 : lw_okq (⟨"SecondRoom", "leadsOn", "(II)Z"⟩, 16) := ⟨⟨by decide +kernel, by decide +kernel⟩, List.mem_of_getElem? (i := 11) (by decide +kernel), List.mem_of_getElem? (i := 572) (by decide +kernel), List.mem_of_getElem? (i := 573) (by decide +kernel)⟩
theorem lw_p29 : lw_okq (⟨"SecondRoom", "billFor", "(IIII)I"⟩, 16) := ⟨⟨by decide +kernel, by decide +kernel⟩, List.mem_of_getElem? (i := 11) (by decide +kernel), List.mem_of_getElem? (i := 591) (by decide +kernel), List.mem_of_getElem? (i := 592) (by decide +kernel)⟩
theorem lw_p30 : lw_okq (⟨"SecondRoom", "tellShare", "(II)V"⟩, 16) := ⟨⟨by decide +kernel, by decide +kernel⟩, List.mem_of_getElem? (i := 11) (by decide +kernel), List.mem_of_getElem? (i := 607) (by decide +kernel), List.mem_of_getElem? (i := 608) (by decide +kernel)⟩
theorem lw_p31 : lw_okq (⟨"SecondRoom", "actByLot", "(II)V"⟩, 16) := ⟨⟨by decide +kernel, by decide +kernel⟩, List.mem_of_getElem? (i := 11) (by decide +kernel), List.mem_of_getElem? (i := 626) (by decide +kernel), List.mem_of_getElem? (i := 627) (by decide +kernel)⟩
def lw_privs_2 : List (MethodName × Nat) := [(⟨"SecondRoom$House", "lastAsFirst", "(II)I"⟩, 8), (⟨"SecondRoom", "thingsIn", "(II)I"⟩, 16), (⟨"SecondRoom$Night", "carryOut", "(III)V"⟩, 7), (⟨"SecondRoom", "isThingSet", "(I)Z"⟩, 16), (⟨"SecondRoom", "thingsByTurn", "(II)I"⟩, 16), (⟨"SecondRoom", "addDifference", "(I)V"⟩, 16), (⟨"SecondRoom", "fewestTellingApart", "()I"⟩, 16), (⟨"SecondRoom", "tellsApart", "(I)Z"⟩, 16), (⟨"SecondRoom", "turnsWith", "(II)I"⟩, 16), (⟨"SecondRoom", "isThing", "(I)Z"⟩, 16), (⟨"SecondRoom", "isSecondOf", "(II)Z"⟩, 16), (⟨"SecondRoom", "endsOfWalk", "(I)I"⟩, 16), (⟨"SecondRoom", "leadsOn", "(II)Z"⟩, 16), (⟨"SecondRoom", "billFor", "(IIII)I"⟩, 16), (⟨"SecondRoom", "tellShare", "(II)V"⟩, 16), (⟨"SecondRoom", "actByLot", "(II)V"⟩, 16)]
theorem lw_r2 : ∀ q ∈ lw_privs_2, lw_okq q := List.forall_mem_cons.mpr ⟨lw_p16, List.forall_mem_cons.mpr ⟨lw_p17, List.forall_mem_cons.mpr ⟨lw_p18, List.forall_mem_cons.mpr ⟨lw_p19, List.forall_mem_cons.mpr ⟨lw_p20, List.forall_mem_cons.mpr ⟨lw_p21, List.forall_mem_cons.mpr ⟨lw_p22, List.forall_mem_cons.mpr ⟨lw_p23, List.forall_mem_cons.mpr ⟨lw_p24, List.forall_mem_cons.mpr ⟨lw_p25, List.forall_mem_cons.mpr ⟨lw_p26, List.forall_mem_cons.mpr ⟨lw_p27, List.forall_mem_cons.mpr ⟨lw_p28, List.forall_mem_cons.mpr ⟨lw_p29, List.forall_mem_cons.mpr ⟨lw_p30, List.forall_mem_cons.mpr ⟨lw_p31, fun _ h => absurd h List.not_mem_nil⟩⟩⟩⟩⟩⟩⟩⟩⟩⟩⟩⟩⟩⟩⟩⟩
theorem lw_p32 : lw_okq (⟨"SecondRoom", "keptCount", "()I"⟩, 16) := ⟨⟨by decide +kernel, by decide +kernel⟩, List.mem_of_getElem? (i := 11) (by decide +kernel), List.mem_of_getElem? (i := 651) (by decide +kernel), List.mem_of_getElem? (i := 652) (by decide +kernel)⟩
theorem lw_p33 : lw_okq (⟨"SecondRoom", "keptDeeds", "(I)I"⟩, 16) := ⟨⟨by decide +kernel, by decide +kernel⟩, List.mem_of_getElem? (i := 11) (by decide +kernel), List.mem_of_getElem? (i := 655) (by decide +kernel), List.mem_of_getElem? (i := 656) (by decide +kernel)⟩
theorem lw_p34 : lw_okq (⟨"SecondRoomModel", "meets", "(I)I"⟩, 34) := ⟨⟨by decide +kernel, by decide +kernel⟩, List.mem_of_getElem? (i := 679) (by decide +kernel), List.mem_of_getElem? (i := 820) (by decide +kernel), List.mem_of_getElem? (i := 821) (by decide +kernel)⟩
theorem lw_p35 : lw_okq (⟨"SecondRoomModel", "rowAt", "(II)I"⟩, 34) := ⟨⟨by decide +kernel, by decide +kernel⟩, List.mem_of_getElem? (i := 679) (by decide +kernel), List.mem_of_getElem? (i := 828) (by decide +kernel), List.mem_of_getElem? (i := 829) (by decide +kernel)⟩
theorem lw_p36 : lw_okq (⟨"SecondRoomModel", "tells", "(II)I"⟩, 34) := ⟨⟨by decide +kernel, by decide +kernel⟩, List.mem_of_getElem? (i := 679) (by decide +kernel), List.mem_of_getElem? (i := 832) (by decide +kernel), List.mem_of_getElem? (i := 833) (by decide +kernel)⟩
theorem lw_p37 : lw_okq (⟨"SecondRoomModel", "faultOf", "(I)I"⟩, 34) := ⟨⟨by decide +kernel, by decide +kernel⟩, List.mem_of_getElem? (i := 679) (by decide +kernel), List.mem_of_getElem? (i := 867) (by decide +kernel), List.mem_of_getElem? (i := 868) (by decide +kernel)⟩
theorem lw_p38 : lw_okq (⟨"SecondRoomModel", "byteAt", "(II)I"⟩, 34) := ⟨⟨by decide +kernel, by decide +kernel⟩, List.mem_of_getElem? (i := 679) (by decide +kernel), List.mem_of_getElem? (i := 871) (by decide +kernel), List.mem_of_getElem? (i := 872) (by decide +kernel)⟩
theorem lw_p39 : lw_okq (⟨"SecondRoomModel", "readsItem", "(I)Z"⟩, 34) := ⟨⟨by decide +kernel, by decide +kernel⟩, List.mem_of_getElem? (i := 679) (by decide +kernel), List.mem_of_getElem? (i := 875) (by decide +kernel), List.mem_of_getElem? (i := 876) (by decide +kernel)⟩
theorem lw_p40 : lw_okq (⟨"SecondRoomModel", "readsTurns", "(I)Z"⟩, 34) := ⟨⟨by decide +kernel, by decide +kernel⟩, List.mem_of_getElem? (i := 679) (by decide +kernel), List.mem_of_getElem? (i := 879) (by decide +kernel), List.mem_of_getElem? (i := 880) (by decide +kernel)⟩
theorem lw_p41 : lw_okq (⟨"SecondRoomModel", "figure", "(III)I"⟩, 34) := ⟨⟨by decide +kernel, by decide +kernel⟩, List.mem_of_getElem? (i := 679) (by decide +kernel), List.mem_of_getElem? (i := 883) (by decide +kernel), List.mem_of_getElem? (i := 884) (by decide +kernel)⟩
theorem lw_p42 : lw_okq (⟨"SecondRoomModel", "readsThing", "(I)Z"⟩, 34) := ⟨⟨by decide +kernel, by decide +kernel⟩, List.mem_of_getElem? (i := 679) (by decide +kernel), List.mem_of_getElem? (i := 887) (by decide +kernel), List.mem_of_getElem? (i := 888) (by decide +kernel)⟩
theorem lw_p43 : lw_okq (⟨"SecondRoomModel", "readsGuest", "(I)Z"⟩, 34) := ⟨⟨by decide +kernel, by decide +kernel⟩, List.mem_of_getElem? (i := 679) (by decide +kernel), List.mem_of_getElem? (i := 891) (by decide +kernel), List.mem_of_getElem? (i := 892) (by decide +kernel)⟩
theorem lw_p44 : lw_okq (⟨"SecondRoomModel", "isGuest", "(I)Z"⟩, 34) := ⟨⟨by decide +kernel, by decide +kernel⟩, List.mem_of_getElem? (i := 679) (by decide +kernel), List.mem_of_getElem? (i := 906) (by decide +kernel), List.mem_of_getElem? (i := 907) (by decide +kernel)⟩
theorem lw_p45 : lw_okq (⟨"SecondRoomModel", "guestTells", "(II)I"⟩, 34) := ⟨⟨by decide +kernel, by decide +kernel⟩, List.mem_of_getElem? (i := 679) (by decide +kernel), List.mem_of_getElem? (i := 910) (by decide +kernel), List.mem_of_getElem? (i := 911) (by decide +kernel)⟩
theorem lw_p46 : lw_okq (⟨"SecondRoomModel", "second", "(I)I"⟩, 34) := ⟨⟨by decide +kernel, by decide +kernel⟩, List.mem_of_getElem? (i := 679) (by decide +kernel), List.mem_of_getElem? (i := 914) (by decide +kernel), List.mem_of_getElem? (i := 915) (by decide +kernel)⟩
theorem lw_p47 : lw_okq (⟨"SecondRoomModel", "secondBy", "(II)I"⟩, 34) := ⟨⟨by decide +kernel, by decide +kernel⟩, List.mem_of_getElem? (i := 679) (by decide +kernel), List.mem_of_getElem? (i := 918) (by decide +kernel), List.mem_of_getElem? (i := 919) (by decide +kernel)⟩
def lw_privs_3 : List (MethodName × Nat) := [(⟨"SecondRoom", "keptCount", "()I"⟩, 16), (⟨"SecondRoom", "keptDeeds", "(I)I"⟩, 16), (⟨"SecondRoomModel", "meets", "(I)I"⟩, 34), (⟨"SecondRoomModel", "rowAt", "(II)I"⟩, 34), (⟨"SecondRoomModel", "tells", "(II)I"⟩, 34), (⟨"SecondRoomModel", "faultOf", "(I)I"⟩, 34), (⟨"SecondRoomModel", "byteAt", "(II)I"⟩, 34), (⟨"SecondRoomModel", "readsItem", "(I)Z"⟩, 34), (⟨"SecondRoomModel", "readsTurns", "(I)Z"⟩, 34), (⟨"SecondRoomModel", "figure", "(III)I"⟩, 34), (⟨"SecondRoomModel", "readsThing", "(I)Z"⟩, 34), (⟨"SecondRoomModel", "readsGuest", "(I)Z"⟩, 34), (⟨"SecondRoomModel", "isGuest", "(I)Z"⟩, 34), (⟨"SecondRoomModel", "guestTells", "(II)I"⟩, 34), (⟨"SecondRoomModel", "second", "(I)I"⟩, 34), (⟨"SecondRoomModel", "secondBy", "(II)I"⟩, 34)]
theorem lw_r3 : ∀ q ∈ lw_privs_3, lw_okq q := List.forall_mem_cons.mpr ⟨lw_p32, List.forall_mem_cons.mpr ⟨lw_p33, List.forall_mem_cons.mpr ⟨lw_p34, List.forall_mem_cons.mpr ⟨lw_p35, List.forall_mem_cons.mpr ⟨lw_p36, List.forall_mem_cons.mpr ⟨lw_p37, List.forall_mem_cons.mpr ⟨lw_p38, List.forall_mem_cons.mpr ⟨lw_p39, List.forall_mem_cons.mpr ⟨lw_p40, List.forall_mem_cons.mpr ⟨lw_p41, List.forall_mem_cons.mpr ⟨lw_p42, List.forall_mem_cons.mpr ⟨lw_p43, List.forall_mem_cons.mpr ⟨lw_p44, List.forall_mem_cons.mpr ⟨lw_p45, List.forall_mem_cons.mpr ⟨lw_p46, List.forall_mem_cons.mpr ⟨lw_p47, fun _ h => absurd h List.not_mem_nil⟩⟩⟩⟩⟩⟩⟩⟩⟩⟩⟩⟩⟩⟩⟩⟩
theorem lw_p48 : lw_okq (⟨"SecondRoomModel", "allLives", "()I"⟩, 34) := ⟨⟨by decide +kernel, by decide +kernel⟩, List.mem_of_getElem? (i := 679) (by decide +kernel), List.mem_of_getElem? (i := 922) (by decide +kernel), List.mem_of_getElem? (i := 923) (by decide +kernel)⟩
theorem lw_p49 : lw_okq (⟨"SecondRoomModel", "soldiers", "()I"⟩, 34) := ⟨⟨by decide +kernel, by decide +kernel⟩, List.mem_of_getElem? (i := 679) (by decide +kernel), List.mem_of_getElem? (i := 936) (by decide +kernel), List.mem_of_getElem? (i := 937) (by decide +kernel)⟩
theorem lw_p50 : lw_okq (⟨"SecondRoomModel", "isSoldier", "(I)Z"⟩, 34) := ⟨⟨by decide +kernel, by decide +kernel⟩, List.mem_of_getElem? (i := 679) (by decide +kernel), List.mem_of_getElem? (i := 940) (by decide +kernel), List.mem_of_getElem? (i := 941) (by decide +kernel)⟩
theorem lw_p51 : lw_okq (⟨"SecondRoomModel", "thingsOf", "(I)I"⟩, 34) := ⟨⟨by decide +kernel, by decide +kernel⟩, List.mem_of_getElem? (i := 679) (by decide +kernel), List.mem_of_getElem? (i := 944) (by decide +kernel), List.mem_of_getElem? (i := 945) (by decide +kernel)⟩
theorem lw_p52 : lw_okq (⟨"SecondRoomModel", "isHad", "(II)Z"⟩, 34) := ⟨⟨by decide +kernel, by decide +kernel⟩, List.mem_of_getElem? (i := 679) (by decide +kernel), List.mem_of_getElem? (i := 948) (by decide +kernel), List.mem_of_getElem? (i := 949) (by decide +kernel)⟩
theorem lw_p53 : lw_okq (⟨"SecondRoomModel", "remember", "()V"⟩, 34) := ⟨⟨by decide +kernel, by decide +kernel⟩, List.mem_of_getElem? (i := 679) (by decide +kernel), List.mem_of_getElem? (i := 963) (by decide +kernel), List.mem_of_getElem? (i := 964) (by decide +kernel)⟩
theorem lw_p54 : lw_okq (⟨"SecondRoomModel", "uses", "(I)I"⟩, 34) := ⟨⟨by decide +kernel, by decide +kernel⟩, List.mem_of_getElem? (i := 679) (by decide +kernel), List.mem_of_getElem? (i := 975) (by decide +kernel), List.mem_of_getElem? (i := 976) (by decide +kernel)⟩
theorem lw_p55 : lw_okq (⟨"SecondRoomModel", "roomOf", "(II)I"⟩, 34) := ⟨⟨by decide +kernel, by decide +kernel⟩, List.mem_of_getElem? (i := 679) (by decide +kernel), List.mem_of_getElem? (i := 995) (by decide +kernel), List.mem_of_getElem? (i := 996) (by decide +kernel)⟩
theorem lw_p56 : lw_okq (⟨"SecondRoomModel", "isThings", "(I)Z"⟩, 34) := ⟨⟨by decide +kernel, by decide +kernel⟩, List.mem_of_getElem? (i := 679) (by decide +kernel), List.mem_of_getElem? (i := 1018) (by decide +kernel), List.mem_of_getElem? (i := 1019) (by decide +kernel)⟩
theorem lw_p57 : lw_okq (⟨"SecondRoomModel", "fewestBy", "(I)I"⟩, 34) := ⟨⟨by decide +kernel, by decide +kernel⟩, List.mem_of_getElem? (i := 679) (by decide +kernel), List.mem_of_getElem? (i := 1026) (by decide +kernel), List.mem_of_getElem? (i := 1027) (by decide +kernel)⟩
theorem lw_p58 : lw_okq (⟨"SecondRoomModel", "isTold", "(II)Z"⟩, 34) := ⟨⟨by decide +kernel, by decide +kernel⟩, List.mem_of_getElem? (i := 679) (by decide +kernel), List.mem_of_getElem? (i := 1030) (by decide +kernel), List.mem_of_getElem? (i := 1031) (by decide +kernel)⟩
theorem lw_p59 : lw_okq (⟨"SecondRoomModel", "thereBy", "(II)I"⟩, 34) := ⟨⟨by decide +kernel, by decide +kernel⟩, List.mem_of_getElem? (i := 679) (by decide +kernel), List.mem_of_getElem? (i := 1039) (by decide +kernel), List.mem_of_getElem? (i := 1040) (by decide +kernel)⟩
theorem lw_p60 : lw_okq (⟨"SecondRoomModel", "isThing", "(I)Z"⟩, 34) := ⟨⟨by decide +kernel, by decide +kernel⟩, List.mem_of_getElem? (i := 679) (by decide +kernel), List.mem_of_getElem? (i := 1051) (by decide +kernel), List.mem_of_getElem? (i := 1052) (by decide +kernel)⟩
theorem lw_p61 : lw_okq (⟨"SecondRoomModel", "isSecond", "(II)Z"⟩, 34) := ⟨⟨by decide +kernel, by decide +kernel⟩, List.mem_of_getElem? (i := 679) (by decide +kernel), List.mem_of_getElem? (i := 1059) (by decide +kernel), List.mem_of_getElem? (i := 1060) (by decide +kernel)⟩
theorem lw_p62 : lw_okq (⟨"SecondRoomModel", "layRings", "(III)V"⟩, 34) := ⟨⟨by decide +kernel, by decide +kernel⟩, List.mem_of_getElem? (i := 679) (by decide +kernel), List.mem_of_getElem? (i := 1071) (by decide +kernel), List.mem_of_getElem? (i := 1072) (by decide +kernel)⟩
theorem lw_p63 : lw_okq (⟨"SecondRoomModel", "billOf", "(IIII)I"⟩, 34) := ⟨⟨by decide +kernel, by decide +kernel⟩, List.mem_of_getElem? (i := 679) (by decide +kernel), List.mem_of_getElem? (i := 1087) (by decide +kernel), List.mem_of_getElem? (i := 1088) (by decide +kernel)⟩
def lw_privs_4 : List (MethodName × Nat) := [(⟨"SecondRoomModel", "allLives", "()I"⟩, 34), (⟨"SecondRoomModel", "soldiers", "()I"⟩, 34), (⟨"SecondRoomModel", "isSoldier", "(I)Z"⟩, 34), (⟨"SecondRoomModel", "thingsOf", "(I)I"⟩, 34), (⟨"SecondRoomModel", "isHad", "(II)Z"⟩, 34), (⟨"SecondRoomModel", "remember", "()V"⟩, 34), (⟨"SecondRoomModel", "uses", "(I)I"⟩, 34), (⟨"SecondRoomModel", "roomOf", "(II)I"⟩, 34), (⟨"SecondRoomModel", "isThings", "(I)Z"⟩, 34), (⟨"SecondRoomModel", "fewestBy", "(I)I"⟩, 34), (⟨"SecondRoomModel", "isTold", "(II)Z"⟩, 34), (⟨"SecondRoomModel", "thereBy", "(II)I"⟩, 34), (⟨"SecondRoomModel", "isThing", "(I)Z"⟩, 34), (⟨"SecondRoomModel", "isSecond", "(II)Z"⟩, 34), (⟨"SecondRoomModel", "layRings", "(III)V"⟩, 34), (⟨"SecondRoomModel", "billOf", "(IIII)I"⟩, 34)]
theorem lw_r4 : ∀ q ∈ lw_privs_4, lw_okq q := List.forall_mem_cons.mpr ⟨lw_p48, List.forall_mem_cons.mpr ⟨lw_p49, List.forall_mem_cons.mpr ⟨lw_p50, List.forall_mem_cons.mpr ⟨lw_p51, List.forall_mem_cons.mpr ⟨lw_p52, List.forall_mem_cons.mpr ⟨lw_p53, List.forall_mem_cons.mpr ⟨lw_p54, List.forall_mem_cons.mpr ⟨lw_p55, List.forall_mem_cons.mpr ⟨lw_p56, List.forall_mem_cons.mpr ⟨lw_p57, List.forall_mem_cons.mpr ⟨lw_p58, List.forall_mem_cons.mpr ⟨lw_p59, List.forall_mem_cons.mpr ⟨lw_p60, List.forall_mem_cons.mpr ⟨lw_p61, List.forall_mem_cons.mpr ⟨lw_p62, List.forall_mem_cons.mpr ⟨lw_p63, fun _ h => absurd h List.not_mem_nil⟩⟩⟩⟩⟩⟩⟩⟩⟩⟩⟩⟩⟩⟩⟩⟩
theorem lw_p64 : lw_okq (⟨"SecondRoomModel", "fraction", "(II)I"⟩, 34) := ⟨⟨by decide +kernel, by decide +kernel⟩, List.mem_of_getElem? (i := 679) (by decide +kernel), List.mem_of_getElem? (i := 1103) (by decide +kernel), List.mem_of_getElem? (i := 1104) (by decide +kernel)⟩
theorem lw_p65 : lw_okq (⟨"SecondRoomModel", "counted", "(I)I"⟩, 34) := ⟨⟨by decide +kernel, by decide +kernel⟩, List.mem_of_getElem? (i := 679) (by decide +kernel), List.mem_of_getElem? (i := 1124) (by decide +kernel), List.mem_of_getElem? (i := 1125) (by decide +kernel)⟩
theorem lw_p66 : lw_okq (⟨"SecondRoomModel", "mix", "(J)V"⟩, 34) := ⟨⟨by decide +kernel, by decide +kernel⟩, List.mem_of_getElem? (i := 679) (by decide +kernel), List.mem_of_getElem? (i := 1133) (by decide +kernel), List.mem_of_getElem? (i := 1134) (by decide +kernel)⟩
theorem lw_p67 : lw_okq (⟨"SecondRoomModel", "mixHotel", "()V"⟩, 34) := ⟨⟨by decide +kernel, by decide +kernel⟩, List.mem_of_getElem? (i := 679) (by decide +kernel), List.mem_of_getElem? (i := 1138) (by decide +kernel), List.mem_of_getElem? (i := 1139) (by decide +kernel)⟩
def lw_privs_5 : List (MethodName × Nat) := [(⟨"SecondRoomModel", "fraction", "(II)I"⟩, 34), (⟨"SecondRoomModel", "counted", "(I)I"⟩, 34), (⟨"SecondRoomModel", "mix", "(J)V"⟩, 34), (⟨"SecondRoomModel", "mixHotel", "()V"⟩, 34)]
theorem lw_r5 : ∀ q ∈ lw_privs_5, lw_okq q := List.forall_mem_cons.mpr ⟨lw_p64, List.forall_mem_cons.mpr ⟨lw_p65, List.forall_mem_cons.mpr ⟨lw_p66, List.forall_mem_cons.mpr ⟨lw_p67, fun _ h => absurd h List.not_mem_nil⟩⟩⟩⟩
def lw_privs : List (MethodName × Nat) := lw_privs_1 ++ (lw_privs_2 ++ (lw_privs_3 ++ (lw_privs_4 ++ (lw_privs_5))))
def lw_tbl : List Cond := k2_sels lw_privs ++ tables_1
theorem lw_privs_ok : ∀ q ∈ lw_privs, lw_okq q := by
  show ∀ q ∈ lw_privs_1 ++ (lw_privs_2 ++ (lw_privs_3 ++ (lw_privs_4 ++ (lw_privs_5)))), lw_okq q
  exact List.forall_mem_append.mpr ⟨lw_r1, List.forall_mem_append.mpr ⟨lw_r2, List.forall_mem_append.mpr ⟨lw_r3, List.forall_mem_append.mpr ⟨lw_r4, lw_r5⟩⟩⟩⟩
end
section
/-! names, by program out of the printed names -/
def RX0 : String := "SecondRoom$House"
def TX0 : u_T := fun k => match k with
  | 0 => ("SecondRoom$House", "turns", "I", false)
  | 1 => ("SecondRoom$House", "guests", "I", false)
  | 2 => ("SecondRoom$House", "things", "I", false)
  | 3 => ("SecondRoom$House", "kind", "[I", true)
  | 4 => ("SecondRoom$House", "life", "[I", true)
  | 5 => ("SecondRoom$House", "firstTurn", "[I", true)
  | 6 => ("SecondRoom$House", "ones", "[I", true)
  | _ => ("SecondRoom$House", "noughts", "[I", true)
def tyX0 : Nat → FieldType := fun k => match k with
  | 0 => .int
  | 1 => .int
  | 2 => .int
  | 3 => .array .int
  | 4 => .array .int
  | 5 => .array .int
  | 6 => .array .int
  | _ => .array .int
theorem nmX0 : ∀ a, a < 8 → ∀ b, b < 8 → a ≠ b → (TX0 a).2.1 ≠ (TX0 b).2.1 := by decide +kernel
theorem tyX0_ok : ∀ k, k < 8 → parseFieldDescriptor (TX0 k).2.2.1 = some (tyX0 k) := by decide +kernel
abbrev cX0_init : ByteArray := prog_2_method_1_code
def yX0_init : MethodName := ⟨RX0, "<init>", "()V"⟩
abbrev cX0_clear : ByteArray := prog_2_method_2_code
def yX0_clear : MethodName := ⟨RX0, "clear", "()V"⟩
abbrev cX0_addGuest : ByteArray := prog_2_method_3_code
def yX0_addGuest : MethodName := ⟨RX0, "addGuest", "(III)V"⟩
abbrev cX0_addThing : ByteArray := prog_2_method_4_code
def yX0_addThing : MethodName := ⟨RX0, "addThing", "(II)V"⟩
abbrev cX0_takeOver : ByteArray := prog_2_method_5_code
def yX0_takeOver : MethodName := ⟨RX0, "takeOver", "(LSecondRoom$House;)V"⟩
abbrev cX0_lifeCount : ByteArray := prog_2_method_6_code
def yX0_lifeCount : MethodName := ⟨RX0, "lifeCount", "()I"⟩
abbrev cX0_isOfKind : ByteArray := prog_2_method_7_code
def yX0_isOfKind : MethodName := ⟨RX0, "isOfKind", "(II)Z"⟩
abbrev cX0_soldiers : ByteArray := prog_2_method_8_code
def yX0_soldiers : MethodName := ⟨RX0, "soldiers", "()I"⟩
abbrev cX0_lifeHas : ByteArray := prog_2_method_9_code
def yX0_lifeHas : MethodName := ⟨RX0, "lifeHas", "(II)Z"⟩
abbrev cX0_thingsOfLife : ByteArray := prog_2_method_10_code
def yX0_thingsOfLife : MethodName := ⟨RX0, "thingsOfLife", "(I)I"⟩
abbrev cX0_secondLifeAt : ByteArray := prog_2_method_11_code
def yX0_secondLifeAt : MethodName := ⟨RX0, "secondLifeAt", "(II)I"⟩
abbrev cX0_lastAsFirst : ByteArray := prog_2_method_12_code
def yX0_lastAsFirst : MethodName := ⟨RX0, "lastAsFirst", "(II)I"⟩
def RX1 : String := "SecondRoom$Night"
def TX1 : u_T := fun k => match k with
  | 0 => ("SecondRoom$Night", "deeds", "I", false)
  | 1 => ("SecondRoom$Night", "inSecond", "I", false)
  | 2 => ("SecondRoom$Night", "locked", "I", false)
  | 3 => ("SecondRoom$Night", "turnOf", "[I", true)
  | 4 => ("SecondRoom$Night", "hours", "[I", true)
  | 5 => ("SecondRoom$Night", "acts", "[I", true)
  | _ => ("SecondRoom$Night", "actors", "[I", true)
def tyX1 : Nat → FieldType := fun k => match k with
  | 0 => .int
  | 1 => .int
  | 2 => .int
  | 3 => .array .int
  | 4 => .array .int
  | 5 => .array .int
  | _ => .array .int
theorem nmX1 : ∀ a, a < 7 → ∀ b, b < 7 → a ≠ b → (TX1 a).2.1 ≠ (TX1 b).2.1 := by decide +kernel
theorem tyX1_ok : ∀ k, k < 7 → parseFieldDescriptor (TX1 k).2.2.1 = some (tyX1 k) := by decide +kernel
abbrev cX1_init : ByteArray := prog_3_method_1_code
def yX1_init : MethodName := ⟨RX1, "<init>", "()V"⟩
abbrev cX1_isForgotten : ByteArray := prog_3_method_2_code
def yX1_isForgotten : MethodName := ⟨RX1, "isForgotten", "()Z"⟩
abbrev cX1_forget : ByteArray := prog_3_method_3_code
def yX1_forget : MethodName := ⟨RX1, "forget", "()V"⟩
abbrev cX1_begin : ByteArray := prog_3_method_4_code
def yX1_begin : MethodName := ⟨RX1, "begin", "(LSecondRoom$House;)V"⟩
abbrev cX1_takeOver : ByteArray := prog_3_method_5_code
def yX1_takeOver : MethodName := ⟨RX1, "takeOver", "(LSecondRoom$Night;)V"⟩
abbrev cX1_roomOf : ByteArray := prog_3_method_6_code
def yX1_roomOf : MethodName := ⟨RX1, "roomOf", "(I)I"⟩
abbrev cX1_lockedOf : ByteArray := prog_3_method_7_code
def yX1_lockedOf : MethodName := ⟨RX1, "lockedOf", "(I)I"⟩
abbrev cX1_hoursOf : ByteArray := prog_3_method_8_code
def yX1_hoursOf : MethodName := ⟨RX1, "hoursOf", "(II)I"⟩
abbrev cX1_act : ByteArray := prog_3_method_9_code
def yX1_act : MethodName := ⟨RX1, "act", "(II)V"⟩
abbrev cX1_takeBackFrom : ByteArray := prog_3_method_10_code
def yX1_takeBackFrom : MethodName := ⟨RX1, "takeBackFrom", "(I)I"⟩
abbrev cX1_carryOut : ByteArray := prog_3_method_11_code
def yX1_carryOut : MethodName := ⟨RX1, "carryOut", "(III)V"⟩
def RX2 : String := "SecondRoom$Reader"
def TX2 : u_T := fun k => match k with
  | 0 => ("SecondRoom$Reader", "texts", "LSecondRoom$Shelf;", true)
  | 1 => ("SecondRoom$Reader", "paper", "I", false)
  | 2 => ("SecondRoom$Reader", "size", "I", false)
  | _ => ("SecondRoom$Reader", "place", "I", false)
def tyX2 : Nat → FieldType := fun k => match k with
  | 0 => .object "SecondRoom$Shelf"
  | 1 => .int
  | 2 => .int
  | _ => .int
theorem nmX2 : ∀ a, a < 4 → ∀ b, b < 4 → a ≠ b → (TX2 a).2.1 ≠ (TX2 b).2.1 := by decide +kernel
theorem tyX2_ok : ∀ k, k < 4 → parseFieldDescriptor (TX2 k).2.2.1 = some (tyX2 k) := by decide +kernel
abbrev cX2_init : ByteArray := prog_4_method_1_code
def yX2_init : MethodName := ⟨RX2, "<init>", "(LSecondRoom$Shelf;)V"⟩
abbrev cX2_read : ByteArray := prog_4_method_2_code
def yX2_read : MethodName := ⟨RX2, "read", "(ILSecondRoom$House;)I"⟩
abbrev cX2_here : ByteArray := prog_4_method_3_code
def yX2_here : MethodName := ⟨RX2, "here", "()I"⟩
abbrev cX2_skipBlanks : ByteArray := prog_4_method_4_code
def yX2_skipBlanks : MethodName := ⟨RX2, "skipBlanks", "()V"⟩
abbrev cX2_figure : ByteArray := prog_4_method_5_code
def yX2_figure : MethodName := ⟨RX2, "figure", "(II)I"⟩
abbrev cX2_readTurns : ByteArray := prog_4_method_6_code
def yX2_readTurns : MethodName := ⟨RX2, "readTurns", "(LSecondRoom$House;)Z"⟩
abbrev cX2_readItem : ByteArray := prog_4_method_7_code
def yX2_readItem : MethodName := ⟨RX2, "readItem", "(LSecondRoom$House;)Z"⟩
abbrev cX2_readGuest : ByteArray := prog_4_method_8_code
def yX2_readGuest : MethodName := ⟨RX2, "readGuest", "(LSecondRoom$House;)Z"⟩
abbrev cX2_readThing : ByteArray := prog_4_method_9_code
def yX2_readThing : MethodName := ⟨RX2, "readThing", "(LSecondRoom$House;)Z"⟩
abbrev cX2_kindByLetter : ByteArray := prog_4_method_10_code
def yX2_kindByLetter : MethodName := ⟨RX2, "kindByLetter", "(I)I"⟩
def RX3 : String := "SecondRoom$Shelf"
def TX3 : u_T := fun k => match k with
  | 0 => ("SecondRoom$Shelf", "width", "I", true)
  | 1 => ("SecondRoom$Shelf", "sizes", "[I", true)
  | _ => ("SecondRoom$Shelf", "places", "[I", true)
def tyX3 : Nat → FieldType := fun k => match k with
  | 0 => .int
  | 1 => .array .int
  | _ => .array .int
theorem nmX3 : ∀ a, a < 3 → ∀ b, b < 3 → a ≠ b → (TX3 a).2.1 ≠ (TX3 b).2.1 := by decide +kernel
theorem tyX3_ok : ∀ k, k < 3 → parseFieldDescriptor (TX3 k).2.2.1 = some (tyX3 k) := by decide +kernel
abbrev cX3_init : ByteArray := prog_5_method_1_code
def yX3_init : MethodName := ⟨RX3, "<init>", "(II)V"⟩
abbrev cX3_isNumber : ByteArray := prog_5_method_2_code
def yX3_isNumber : MethodName := ⟨RX3, "isNumber", "(I)Z"⟩
abbrev cX3_isMissing : ByteArray := prog_5_method_3_code
def yX3_isMissing : MethodName := ⟨RX3, "isMissing", "(I)Z"⟩
abbrev cX3_isPlace : ByteArray := prog_5_method_4_code
def yX3_isPlace : MethodName := ⟨RX3, "isPlace", "(II)Z"⟩
abbrev cX3_arePlaces : ByteArray := prog_5_method_5_code
def yX3_arePlaces : MethodName := ⟨RX3, "arePlaces", "(III)Z"⟩
abbrev cX3_sizeOf : ByteArray := prog_5_method_6_code
def yX3_sizeOf : MethodName := ⟨RX3, "sizeOf", "(I)I"⟩
abbrev cX3_placeOf : ByteArray := prog_5_method_7_code
def yX3_placeOf : MethodName := ⟨RX3, "placeOf", "(II)I"⟩
abbrev cX3_setPlace : ByteArray := prog_5_method_8_code
def yX3_setPlace : MethodName := ⟨RX3, "setPlace", "(III)V"⟩
abbrev cX3_make : ByteArray := prog_5_method_9_code
def yX3_make : MethodName := ⟨RX3, "make", "(III)V"⟩
abbrev cX3_remove : ByteArray := prog_5_method_10_code
def yX3_remove : MethodName := ⟨RX3, "remove", "(I)V"⟩
abbrev cX3_copyPlaces : ByteArray := prog_5_method_11_code
def yX3_copyPlaces : MethodName := ⟨RX3, "copyPlaces", "(IIIII)V"⟩
abbrev cX3_sumOf : ByteArray := prog_5_method_12_code
def yX3_sumOf : MethodName := ⟨RX3, "sumOf", "(I)J"⟩
abbrev cX3_thereCount : ByteArray := prog_5_method_13_code
def yX3_thereCount : MethodName := ⟨RX3, "thereCount", "()I"⟩
abbrev cX3_digestFrom : ByteArray := prog_5_method_14_code
def yX3_digestFrom : MethodName := ⟨RX3, "digestFrom", "(J)J"⟩
def RX4 : String := "SecondRoom"
def TX4 : u_T := fun k => match k with
  | 0 => ("SecondRoom", "rows", "LSecondRoom$Shelf;", true)
  | 1 => ("SecondRoom", "texts", "LSecondRoom$Shelf;", true)
  | 2 => ("SecondRoom", "reader", "LSecondRoom$Reader;", true)
  | 3 => ("SecondRoom", "house", "LSecondRoom$House;", true)
  | 4 => ("SecondRoom", "draft", "LSecondRoom$House;", true)
  | 5 => ("SecondRoom", "night", "LSecondRoom$Night;", true)
  | 6 => ("SecondRoom", "kept", "[LSecondRoom$Night;", true)
  | 7 => ("SecondRoom", "differences", "[I", true)
  | 8 => ("SecondRoom", "differenceCount", "I", false)
  | 9 => ("SecondRoom", "allLives", "[I", true)
  | 10 => ("SecondRoom", "walkEnds", "[I", true)
  | 11 => ("SecondRoom", "toldNumber", "I", false)
  | 12 => ("SecondRoom", "toldUpper", "J", false)
  | 13 => ("SecondRoom", "toldLower", "J", false)
  | 14 => ("SecondRoom", "lastFinding", "I", false)
  | _ => ("SecondRoom", "findingCounts", "[I", true)
def tyX4 : Nat → FieldType := fun k => match k with
  | 0 => .object "SecondRoom$Shelf"
  | 1 => .object "SecondRoom$Shelf"
  | 2 => .object "SecondRoom$Reader"
  | 3 => .object "SecondRoom$House"
  | 4 => .object "SecondRoom$House"
  | 5 => .object "SecondRoom$Night"
  | 6 => .array (.object "SecondRoom$Night")
  | 7 => .array .int
  | 8 => .int
  | 9 => .array .int
  | 10 => .array .int
  | 11 => .int
  | 12 => .long
  | 13 => .long
  | 14 => .int
  | _ => .array .int
theorem nmX4 : ∀ a, a < 16 → ∀ b, b < 16 → a ≠ b → (TX4 a).2.1 ≠ (TX4 b).2.1 := by decide +kernel
theorem tyX4_ok : ∀ k, k < 16 → parseFieldDescriptor (TX4 k).2.2.1 = some (tyX4 k) := by decide +kernel
abbrev cX4_init : ByteArray := prog_1_method_1_code
def yX4_init : MethodName := ⟨RX4, "<init>", "()V"⟩
abbrev cX4_row : ByteArray := prog_1_method_2_code
def yX4_row : MethodName := ⟨RX4, "row", "(II)I"⟩
abbrev cX4_lay : ByteArray := prog_1_method_3_code
def yX4_lay : MethodName := ⟨RX4, "lay", "(III)I"⟩
abbrev cX4_at : ByteArray := prog_1_method_4_code
def yX4_at : MethodName := ⟨RX4, "at", "(II)I"⟩
abbrev cX4_tear : ByteArray := prog_1_method_5_code
def yX4_tear : MethodName := ⟨RX4, "tear", "(I)I"⟩
abbrev cX4_copy : ByteArray := prog_1_method_6_code
def yX4_copy : MethodName := ⟨RX4, "copy", "(IIIII)I"⟩
abbrev cX4_mean : ByteArray := prog_1_method_7_code
def yX4_mean : MethodName := ⟨RX4, "mean", "(I)I"⟩
abbrev cX4_text : ByteArray := prog_1_method_8_code
def yX4_text : MethodName := ⟨RX4, "text", "(II)I"⟩
abbrev cX4_put : ByteArray := prog_1_method_9_code
def yX4_put : MethodName := ⟨RX4, "put", "(III)I"⟩
abbrev cX4_fault : ByteArray := prog_1_method_10_code
def yX4_fault : MethodName := ⟨RX4, "fault", "(I)I"⟩
abbrev cX4_hotel : ByteArray := prog_1_method_11_code
def yX4_hotel : MethodName := ⟨RX4, "hotel", "(I)I"⟩
abbrev cX4_guest : ByteArray := prog_1_method_12_code
def yX4_guest : MethodName := ⟨RX4, "guest", "(II)I"⟩
abbrev cX4_mark : ByteArray := prog_1_method_13_code
def yX4_mark : MethodName := ⟨RX4, "mark", "(II)I"⟩
abbrev cX4_turn : ByteArray := prog_1_method_14_code
def yX4_turn : MethodName := ⟨RX4, "turn", "(II)I"⟩
abbrev cX4_change : ByteArray := prog_1_method_15_code
def yX4_change : MethodName := ⟨RX4, "change", "(I)I"⟩
abbrev cX4_lock : ByteArray := prog_1_method_16_code
def yX4_lock : MethodName := ⟨RX4, "lock", "(II)I"⟩
abbrev cX4_use : ByteArray := prog_1_method_17_code
def yX4_use : MethodName := ⟨RX4, "use", "(I)I"⟩
abbrev cX4_undo : ByteArray := prog_1_method_18_code
def yX4_undo : MethodName := ⟨RX4, "undo", "(I)I"⟩
abbrev cX4_keep : ByteArray := prog_1_method_19_code
def yX4_keep : MethodName := ⟨RX4, "keep", "(I)I"⟩
abbrev cX4_on : ByteArray := prog_1_method_20_code
def yX4_on : MethodName := ⟨RX4, "on", "(I)I"⟩
abbrev cX4_things : ByteArray := prog_1_method_21_code
def yX4_things : MethodName := ⟨RX4, "things", "(II)I"⟩
abbrev cX4_both : ByteArray := prog_1_method_22_code
def yX4_both : MethodName := ⟨RX4, "both", "(I)I"⟩
abbrev cX4_apart : ByteArray := prog_1_method_23_code
def yX4_apart : MethodName := ⟨RX4, "apart", "(I)I"⟩
abbrev cX4_has : ByteArray := prog_1_method_24_code
def yX4_has : MethodName := ⟨RX4, "has", "(I)I"⟩
abbrev cX4_fits : ByteArray := prog_1_method_25_code
def yX4_fits : MethodName := ⟨RX4, "fits", "(II)I"⟩
abbrev cX4_looks : ByteArray := prog_1_method_26_code
def yX4_looks : MethodName := ⟨RX4, "looks", "(I)I"⟩
abbrev cX4_drawer : ByteArray := prog_1_method_27_code
def yX4_drawer : MethodName := ⟨RX4, "drawer", "(I)I"⟩
abbrev cX4_lives : ByteArray := prog_1_method_28_code
def yX4_lives : MethodName := ⟨RX4, "lives", "(I)I"⟩
abbrev cX4_nearest : ByteArray := prog_1_method_29_code
def yX4_nearest : MethodName := ⟨RX4, "nearest", "(II)I"⟩
abbrev cX4_twins : ByteArray := prog_1_method_30_code
def yX4_twins : MethodName := ⟨RX4, "twins", "(I)I"⟩
abbrev cX4_pairs : ByteArray := prog_1_method_31_code
def yX4_pairs : MethodName := ⟨RX4, "pairs", "()I"⟩
abbrev cX4_ring : ByteArray := prog_1_method_32_code
def yX4_ring : MethodName := ⟨RX4, "ring", "()I"⟩
abbrev cX4_who : ByteArray := prog_1_method_33_code
def yX4_who : MethodName := ⟨RX4, "who", "(II)I"⟩
abbrev cX4_marks : ByteArray := prog_1_method_34_code
def yX4_marks : MethodName := ⟨RX4, "marks", "()I"⟩
abbrev cX4_bill : ByteArray := prog_1_method_35_code
def yX4_bill : MethodName := ⟨RX4, "bill", "(II)I"⟩
abbrev cX4_pays : ByteArray := prog_1_method_36_code
def yX4_pays : MethodName := ⟨RX4, "pays", "(I)I"⟩
abbrev cX4_cheapest : ByteArray := prog_1_method_37_code
def yX4_cheapest : MethodName := ⟨RX4, "cheapest", "(II)I"⟩
abbrev cX4_spread : ByteArray := prog_1_method_38_code
def yX4_spread : MethodName := ⟨RX4, "spread", "(I)I"⟩
abbrev cX4_odds : ByteArray := prog_1_method_39_code
def yX4_odds : MethodName := ⟨RX4, "odds", "(II)I"⟩
abbrev cX4_lots : ByteArray := prog_1_method_40_code
def yX4_lots : MethodName := ⟨RX4, "lots", "(II)I"⟩
abbrev cX4_asked : ByteArray := prog_1_method_41_code
def yX4_asked : MethodName := ⟨RX4, "asked", "()I"⟩
abbrev cX4_upper : ByteArray := prog_1_method_42_code
def yX4_upper : MethodName := ⟨RX4, "upper", "()J"⟩
abbrev cX4_lower : ByteArray := prog_1_method_43_code
def yX4_lower : MethodName := ⟨RX4, "lower", "()J"⟩
abbrev cX4_count : ByteArray := prog_1_method_44_code
def yX4_count : MethodName := ⟨RX4, "count", "(I)I"⟩
abbrev cX4_finding : ByteArray := prog_1_method_45_code
def yX4_finding : MethodName := ⟨RX4, "finding", "()I"⟩
abbrev cX4_findings : ByteArray := prog_1_method_46_code
def yX4_findings : MethodName := ⟨RX4, "findings", "(I)I"⟩
abbrev cX4_digest : ByteArray := prog_1_method_47_code
def yX4_digest : MethodName := ⟨RX4, "digest", "()J"⟩
abbrev cX4_found : ByteArray := prog_1_method_48_code
def yX4_found : MethodName := ⟨RX4, "found", "(I)I"⟩
abbrev cX4_makePaper : ByteArray := prog_1_method_49_code
def yX4_makePaper : MethodName := ⟨RX4, "makePaper", "(LSecondRoom$Shelf;III)I"⟩
abbrev cX4_refusalOfPaper : ByteArray := prog_1_method_50_code
def yX4_refusalOfPaper : MethodName := ⟨RX4, "refusalOfPaper", "(LSecondRoom$Shelf;I)I"⟩
abbrev cX4_refusalOfPlace : ByteArray := prog_1_method_51_code
def yX4_refusalOfPlace : MethodName := ⟨RX4, "refusalOfPlace", "(LSecondRoom$Shelf;II)I"⟩
abbrev cX4_tell : ByteArray := prog_1_method_52_code
def yX4_tell : MethodName := ⟨RX4, "tell", "(II)I"⟩
abbrev cX4_tellShare : ByteArray := prog_1_method_53_code
def yX4_tellShare : MethodName := ⟨RX4, "tellShare", "(II)V"⟩
abbrev cX4_commonMeasure : ByteArray := prog_1_method_54_code
def yX4_commonMeasure : MethodName := ⟨RX4, "commonMeasure", "(II)I"⟩
abbrev cX4_firstBit : ByteArray := prog_1_method_55_code
def yX4_firstBit : MethodName := ⟨RX4, "firstBit", "(I)I"⟩
abbrev cX4_isGuest : ByteArray := prog_1_method_56_code
def yX4_isGuest : MethodName := ⟨RX4, "isGuest", "(I)Z"⟩
abbrev cX4_isThing : ByteArray := prog_1_method_57_code
def yX4_isThing : MethodName := ⟨RX4, "isThing", "(I)Z"⟩
abbrev cX4_isThingSet : ByteArray := prog_1_method_58_code
def yX4_isThingSet : MethodName := ⟨RX4, "isThingSet", "(I)Z"⟩
abbrev cX4_isLaw : ByteArray := prog_1_method_59_code
def yX4_isLaw : MethodName := ⟨RX4, "isLaw", "(I)Z"⟩
abbrev cX4_factOf : ByteArray := prog_1_method_60_code
def yX4_factOf : MethodName := ⟨RX4, "factOf", "(II)I"⟩
abbrev cX4_secondLife : ByteArray := prog_1_method_61_code
def yX4_secondLife : MethodName := ⟨RX4, "secondLife", "(I)I"⟩
abbrev cX4_isSecondOf : ByteArray := prog_1_method_62_code
def yX4_isSecondOf : MethodName := ⟨RX4, "isSecondOf", "(II)Z"⟩
abbrev cX4_thingsIn : ByteArray := prog_1_method_63_code
def yX4_thingsIn : MethodName := ⟨RX4, "thingsIn", "(II)I"⟩
abbrev cX4_thingsByTurn : ByteArray := prog_1_method_64_code
def yX4_thingsByTurn : MethodName := ⟨RX4, "thingsByTurn", "(II)I"⟩
abbrev cX4_turnsWith : ByteArray := prog_1_method_65_code
def yX4_turnsWith : MethodName := ⟨RX4, "turnsWith", "(II)I"⟩
abbrev cX4_addDifference : ByteArray := prog_1_method_66_code
def yX4_addDifference : MethodName := ⟨RX4, "addDifference", "(I)V"⟩
abbrev cX4_fewestTellingApart : ByteArray := prog_1_method_67_code
def yX4_fewestTellingApart : MethodName := ⟨RX4, "fewestTellingApart", "()I"⟩
abbrev cX4_tellsApart : ByteArray := prog_1_method_68_code
def yX4_tellsApart : MethodName := ⟨RX4, "tellsApart", "(I)Z"⟩
abbrev cX4_endsOfWalk : ByteArray := prog_1_method_69_code
def yX4_endsOfWalk : MethodName := ⟨RX4, "endsOfWalk", "(I)I"⟩
abbrev cX4_leadsOn : ByteArray := prog_1_method_70_code
def yX4_leadsOn : MethodName := ⟨RX4, "leadsOn", "(II)Z"⟩
abbrev cX4_billFor : ByteArray := prog_1_method_71_code
def yX4_billFor : MethodName := ⟨RX4, "billFor", "(IIII)I"⟩
abbrev cX4_actByLot : ByteArray := prog_1_method_72_code
def yX4_actByLot : MethodName := ⟨RX4, "actByLot", "(II)V"⟩
abbrev cX4_forgetKept : ByteArray := prog_1_method_73_code
def yX4_forgetKept : MethodName := ⟨RX4, "forgetKept", "()V"⟩
abbrev cX4_keptDeeds : ByteArray := prog_1_method_74_code
def yX4_keptDeeds : MethodName := ⟨RX4, "keptDeeds", "(I)I"⟩
abbrev cX4_keptCount : ByteArray := prog_1_method_75_code
def yX4_keptCount : MethodName := ⟨RX4, "keptCount", "()I"⟩
def RX5 : String := "SecondRoomModel"
def TX5 : u_T := fun k => match k with
  | 0 => ("SecondRoomModel", "latest", "I", false)
  | 1 => ("SecondRoomModel", "came", "[I", true)
  | 2 => ("SecondRoomModel", "asked", "I", false)
  | 3 => ("SecondRoomModel", "upper", "J", false)
  | 4 => ("SecondRoomModel", "lower", "J", false)
  | 5 => ("SecondRoomModel", "sizes", "[I", true)
  | 6 => ("SecondRoomModel", "rows", "[I", true)
  | 7 => ("SecondRoomModel", "copied", "[I", true)
  | 8 => ("SecondRoomModel", "textSizes", "[I", true)
  | 9 => ("SecondRoomModel", "bytes", "[B", true)
  | 10 => ("SecondRoomModel", "n", "I", false)
  | 11 => ("SecondRoomModel", "turns", "I", false)
  | 12 => ("SecondRoomModel", "thingMany", "I", false)
  | 13 => ("SecondRoomModel", "kinds", "[I", true)
  | 14 => ("SecondRoomModel", "lifeOf", "[I", true)
  | 15 => ("SecondRoomModel", "turnOf", "[I", true)
  | 16 => ("SecondRoomModel", "thingOf", "[I", true)
  | 17 => ("SecondRoomModel", "readAt", "I", false)
  | 18 => ("SecondRoomModel", "readMany", "I", false)
  | 19 => ("SecondRoomModel", "readTurns", "I", false)
  | 20 => ("SecondRoomModel", "readThings", "I", false)
  | 21 => ("SecondRoomModel", "readGuest", "[I", true)
  | 22 => ("SecondRoomModel", "readThing", "[I", true)
  | 23 => ("SecondRoomModel", "now", "[I", true)
  | 24 => ("SecondRoomModel", "deedMany", "I", false)
  | 25 => ("SecondRoomModel", "log", "[I", true)
  | 26 => ("SecondRoomModel", "isKept", "[Z", true)
  | 27 => ("SecondRoomModel", "keptMany", "[I", true)
  | 28 => ("SecondRoomModel", "keptTurns", "[I", true)
  | 29 => ("SecondRoomModel", "keptNow", "[I", true)
  | 30 => ("SecondRoomModel", "keptLog", "[I", true)
  | 31 => ("SecondRoomModel", "sets", "[I", true)
  | 32 => ("SecondRoomModel", "ringSet", "I", false)
  | _ => ("SecondRoomModel", "hash", "J", false)
def tyX5 : Nat → FieldType := fun k => match k with
  | 0 => .int
  | 1 => .array .int
  | 2 => .int
  | 3 => .long
  | 4 => .long
  | 5 => .array .int
  | 6 => .array .int
  | 7 => .array .int
  | 8 => .array .int
  | 9 => .array .byte
  | 10 => .int
  | 11 => .int
  | 12 => .int
  | 13 => .array .int
  | 14 => .array .int
  | 15 => .array .int
  | 16 => .array .int
  | 17 => .int
  | 18 => .int
  | 19 => .int
  | 20 => .int
  | 21 => .array .int
  | 22 => .array .int
  | 23 => .array .int
  | 24 => .int
  | 25 => .array .int
  | 26 => .array .boolean
  | 27 => .array .int
  | 28 => .array .int
  | 29 => .array .int
  | 30 => .array .int
  | 31 => .array .int
  | 32 => .int
  | _ => .long
theorem nmX5 : ∀ a, a < 34 → ∀ b, b < 34 → a ≠ b → (TX5 a).2.1 ≠ (TX5 b).2.1 := by decide +kernel
theorem tyX5_ok : ∀ k, k < 34 → parseFieldDescriptor (TX5 k).2.2.1 = some (tyX5 k) := by decide +kernel
abbrev cX5_init : ByteArray := prog_7_method_1_code
def yX5_init : MethodName := ⟨RX5, "<init>", "()V"⟩
abbrev cX5_in : ByteArray := prog_7_method_2_code
def yX5_in : MethodName := ⟨RX5, "in", "(III)Z"⟩
abbrev cX5_holds : ByteArray := prog_7_method_3_code
def yX5_holds : MethodName := ⟨RX5, "holds", "(II)Z"⟩
abbrev cX5_bits : ByteArray := prog_7_method_4_code
def yX5_bits : MethodName := ⟨RX5, "bits", "(I)I"⟩
abbrev cX5_meets : ByteArray := prog_7_method_5_code
def yX5_meets : MethodName := ⟨RX5, "meets", "(I)I"⟩
abbrev cX5_finding : ByteArray := prog_7_method_6_code
def yX5_finding : MethodName := ⟨RX5, "finding", "()I"⟩
abbrev cX5_findings : ByteArray := prog_7_method_7_code
def yX5_findings : MethodName := ⟨RX5, "findings", "(I)I"⟩
abbrev cX5_tells : ByteArray := prog_7_method_8_code
def yX5_tells : MethodName := ⟨RX5, "tells", "(II)I"⟩
abbrev cX5_asked : ByteArray := prog_7_method_9_code
def yX5_asked : MethodName := ⟨RX5, "asked", "()I"⟩
abbrev cX5_fraction : ByteArray := prog_7_method_10_code
def yX5_fraction : MethodName := ⟨RX5, "fraction", "(II)I"⟩
abbrev cX5_upper : ByteArray := prog_7_method_11_code
def yX5_upper : MethodName := ⟨RX5, "upper", "()J"⟩
abbrev cX5_lower : ByteArray := prog_7_method_12_code
def yX5_lower : MethodName := ⟨RX5, "lower", "()J"⟩
abbrev cX5_isRow : ByteArray := prog_7_method_13_code
def yX5_isRow : MethodName := ⟨RX5, "isRow", "(I)Z"⟩
abbrev cX5_rowAt : ByteArray := prog_7_method_14_code
def yX5_rowAt : MethodName := ⟨RX5, "rowAt", "(II)I"⟩
abbrev cX5_row : ByteArray := prog_7_method_15_code
def yX5_row : MethodName := ⟨RX5, "row", "(II)I"⟩
abbrev cX5_lay : ByteArray := prog_7_method_16_code
def yX5_lay : MethodName := ⟨RX5, "lay", "(III)I"⟩
abbrev cX5_at : ByteArray := prog_7_method_17_code
def yX5_at : MethodName := ⟨RX5, "at", "(II)I"⟩
abbrev cX5_tear : ByteArray := prog_7_method_18_code
def yX5_tear : MethodName := ⟨RX5, "tear", "(I)I"⟩
abbrev cX5_copy : ByteArray := prog_7_method_19_code
def yX5_copy : MethodName := ⟨RX5, "copy", "(IIIII)I"⟩
abbrev cX5_mean : ByteArray := prog_7_method_20_code
def yX5_mean : MethodName := ⟨RX5, "mean", "(I)I"⟩
abbrev cX5_isText : ByteArray := prog_7_method_21_code
def yX5_isText : MethodName := ⟨RX5, "isText", "(I)Z"⟩
abbrev cX5_text : ByteArray := prog_7_method_22_code
def yX5_text : MethodName := ⟨RX5, "text", "(II)I"⟩
abbrev cX5_put : ByteArray := prog_7_method_23_code
def yX5_put : MethodName := ⟨RX5, "put", "(III)I"⟩
abbrev cX5_byteAt : ByteArray := prog_7_method_24_code
def yX5_byteAt : MethodName := ⟨RX5, "byteAt", "(II)I"⟩
abbrev cX5_kindOf : ByteArray := prog_7_method_25_code
def yX5_kindOf : MethodName := ⟨RX5, "kindOf", "(I)I"⟩
abbrev cX5_figure : ByteArray := prog_7_method_26_code
def yX5_figure : MethodName := ⟨RX5, "figure", "(III)I"⟩
abbrev cX5_readsTurns : ByteArray := prog_7_method_27_code
def yX5_readsTurns : MethodName := ⟨RX5, "readsTurns", "(I)Z"⟩
abbrev cX5_readsThing : ByteArray := prog_7_method_28_code
def yX5_readsThing : MethodName := ⟨RX5, "readsThing", "(I)Z"⟩
abbrev cX5_readsGuest : ByteArray := prog_7_method_29_code
def yX5_readsGuest : MethodName := ⟨RX5, "readsGuest", "(I)Z"⟩
abbrev cX5_readsItem : ByteArray := prog_7_method_30_code
def yX5_readsItem : MethodName := ⟨RX5, "readsItem", "(I)Z"⟩
abbrev cX5_faultOf : ByteArray := prog_7_method_31_code
def yX5_faultOf : MethodName := ⟨RX5, "faultOf", "(I)I"⟩
abbrev cX5_fault : ByteArray := prog_7_method_32_code
def yX5_fault : MethodName := ⟨RX5, "fault", "(I)I"⟩
abbrev cX5_hotel : ByteArray := prog_7_method_33_code
def yX5_hotel : MethodName := ⟨RX5, "hotel", "(I)I"⟩
abbrev cX5_isGuest : ByteArray := prog_7_method_34_code
def yX5_isGuest : MethodName := ⟨RX5, "isGuest", "(I)Z"⟩
abbrev cX5_isThing : ByteArray := prog_7_method_35_code
def yX5_isThing : MethodName := ⟨RX5, "isThing", "(I)Z"⟩
abbrev cX5_isThings : ByteArray := prog_7_method_36_code
def yX5_isThings : MethodName := ⟨RX5, "isThings", "(I)Z"⟩
abbrev cX5_allLives : ByteArray := prog_7_method_37_code
def yX5_allLives : MethodName := ⟨RX5, "allLives", "()I"⟩
abbrev cX5_withChoice : ByteArray := prog_7_method_38_code
def yX5_withChoice : MethodName := ⟨RX5, "withChoice", "(III)I"⟩
abbrev cX5_secondBy : ByteArray := prog_7_method_39_code
def yX5_secondBy : MethodName := ⟨RX5, "secondBy", "(II)I"⟩
abbrev cX5_second : ByteArray := prog_7_method_40_code
def yX5_second : MethodName := ⟨RX5, "second", "(I)I"⟩
abbrev cX5_isHad : ByteArray := prog_7_method_41_code
def yX5_isHad : MethodName := ⟨RX5, "isHad", "(II)Z"⟩
abbrev cX5_thingsOf : ByteArray := prog_7_method_42_code
def yX5_thingsOf : MethodName := ⟨RX5, "thingsOf", "(I)I"⟩
abbrev cX5_guestTells : ByteArray := prog_7_method_43_code
def yX5_guestTells : MethodName := ⟨RX5, "guestTells", "(II)I"⟩
abbrev cX5_guest : ByteArray := prog_7_method_44_code
def yX5_guest : MethodName := ⟨RX5, "guest", "(II)I"⟩
abbrev cX5_isSoldier : ByteArray := prog_7_method_45_code
def yX5_isSoldier : MethodName := ⟨RX5, "isSoldier", "(I)Z"⟩
abbrev cX5_soldiers : ByteArray := prog_7_method_46_code
def yX5_soldiers : MethodName := ⟨RX5, "soldiers", "()I"⟩
abbrev cX5_mark : ByteArray := prog_7_method_47_code
def yX5_mark : MethodName := ⟨RX5, "mark", "(II)I"⟩
abbrev cX5_turn : ByteArray := prog_7_method_48_code
def yX5_turn : MethodName := ⟨RX5, "turn", "(II)I"⟩
abbrev cX5_remember : ByteArray := prog_7_method_49_code
def yX5_remember : MethodName := ⟨RX5, "remember", "()V"⟩
abbrev cX5_uses : ByteArray := prog_7_method_50_code
def yX5_uses : MethodName := ⟨RX5, "uses", "(I)I"⟩
abbrev cX5_change : ByteArray := prog_7_method_51_code
def yX5_change : MethodName := ⟨RX5, "change", "(I)I"⟩
abbrev cX5_lock : ByteArray := prog_7_method_52_code
def yX5_lock : MethodName := ⟨RX5, "lock", "(II)I"⟩
abbrev cX5_use : ByteArray := prog_7_method_53_code
def yX5_use : MethodName := ⟨RX5, "use", "(I)I"⟩
abbrev cX5_undo : ByteArray := prog_7_method_54_code
def yX5_undo : MethodName := ⟨RX5, "undo", "(I)I"⟩
abbrev cX5_keep : ByteArray := prog_7_method_55_code
def yX5_keep : MethodName := ⟨RX5, "keep", "(I)I"⟩
abbrev cX5_on : ByteArray := prog_7_method_56_code
def yX5_on : MethodName := ⟨RX5, "on", "(I)I"⟩
abbrev cX5_roomOf : ByteArray := prog_7_method_57_code
def yX5_roomOf : MethodName := ⟨RX5, "roomOf", "(II)I"⟩
abbrev cX5_things : ByteArray := prog_7_method_58_code
def yX5_things : MethodName := ⟨RX5, "things", "(II)I"⟩
abbrev cX5_both : ByteArray := prog_7_method_59_code
def yX5_both : MethodName := ⟨RX5, "both", "(I)I"⟩
abbrev cX5_lowest : ByteArray := prog_7_method_60_code
def yX5_lowest : MethodName := ⟨RX5, "lowest", "(I)I"⟩
abbrev cX5_apart : ByteArray := prog_7_method_61_code
def yX5_apart : MethodName := ⟨RX5, "apart", "(I)I"⟩
abbrev cX5_has : ByteArray := prog_7_method_62_code
def yX5_has : MethodName := ⟨RX5, "has", "(I)I"⟩
abbrev cX5_fits : ByteArray := prog_7_method_63_code
def yX5_fits : MethodName := ⟨RX5, "fits", "(II)I"⟩
abbrev cX5_isTold : ByteArray := prog_7_method_64_code
def yX5_isTold : MethodName := ⟨RX5, "isTold", "(II)Z"⟩
abbrev cX5_fewestBy : ByteArray := prog_7_method_65_code
def yX5_fewestBy : MethodName := ⟨RX5, "fewestBy", "(I)I"⟩
abbrev cX5_looks : ByteArray := prog_7_method_66_code
def yX5_looks : MethodName := ⟨RX5, "looks", "(I)I"⟩
abbrev cX5_thereBy : ByteArray := prog_7_method_67_code
def yX5_thereBy : MethodName := ⟨RX5, "thereBy", "(II)I"⟩
abbrev cX5_drawer : ByteArray := prog_7_method_68_code
def yX5_drawer : MethodName := ⟨RX5, "drawer", "(I)I"⟩
abbrev cX5_lives : ByteArray := prog_7_method_69_code
def yX5_lives : MethodName := ⟨RX5, "lives", "(I)I"⟩
abbrev cX5_nearest : ByteArray := prog_7_method_70_code
def yX5_nearest : MethodName := ⟨RX5, "nearest", "(II)I"⟩
abbrev cX5_isSecond : ByteArray := prog_7_method_71_code
def yX5_isSecond : MethodName := ⟨RX5, "isSecond", "(II)Z"⟩
abbrev cX5_twins : ByteArray := prog_7_method_72_code
def yX5_twins : MethodName := ⟨RX5, "twins", "(I)I"⟩
abbrev cX5_pairs : ByteArray := prog_7_method_73_code
def yX5_pairs : MethodName := ⟨RX5, "pairs", "()I"⟩
abbrev cX5_layRings : ByteArray := prog_7_method_74_code
def yX5_layRings : MethodName := ⟨RX5, "layRings", "(III)V"⟩
abbrev cX5_ring : ByteArray := prog_7_method_75_code
def yX5_ring : MethodName := ⟨RX5, "ring", "()I"⟩
abbrev cX5_who : ByteArray := prog_7_method_76_code
def yX5_who : MethodName := ⟨RX5, "who", "(II)I"⟩
abbrev cX5_marks : ByteArray := prog_7_method_77_code
def yX5_marks : MethodName := ⟨RX5, "marks", "()I"⟩
abbrev cX5_billOf : ByteArray := prog_7_method_78_code
def yX5_billOf : MethodName := ⟨RX5, "billOf", "(IIII)I"⟩
abbrev cX5_bill : ByteArray := prog_7_method_79_code
def yX5_bill : MethodName := ⟨RX5, "bill", "(II)I"⟩
abbrev cX5_pays : ByteArray := prog_7_method_80_code
def yX5_pays : MethodName := ⟨RX5, "pays", "(I)I"⟩
abbrev cX5_cheapest : ByteArray := prog_7_method_81_code
def yX5_cheapest : MethodName := ⟨RX5, "cheapest", "(II)I"⟩
abbrev cX5_spread : ByteArray := prog_7_method_82_code
def yX5_spread : MethodName := ⟨RX5, "spread", "(I)I"⟩
abbrev cX5_odds : ByteArray := prog_7_method_83_code
def yX5_odds : MethodName := ⟨RX5, "odds", "(II)I"⟩
abbrev cX5_lots : ByteArray := prog_7_method_84_code
def yX5_lots : MethodName := ⟨RX5, "lots", "(II)I"⟩
abbrev cX5_counted : ByteArray := prog_7_method_85_code
def yX5_counted : MethodName := ⟨RX5, "counted", "(I)I"⟩
abbrev cX5_count : ByteArray := prog_7_method_86_code
def yX5_count : MethodName := ⟨RX5, "count", "(I)I"⟩
abbrev cX5_mix : ByteArray := prog_7_method_87_code
def yX5_mix : MethodName := ⟨RX5, "mix", "(J)V"⟩
abbrev cX5_mixHotel : ByteArray := prog_7_method_88_code
def yX5_mixHotel : MethodName := ⟨RX5, "mixHotel", "()V"⟩
abbrev cX5_digest : ByteArray := prog_7_method_89_code
def yX5_digest : MethodName := ⟨RX5, "digest", "()J"⟩
def RJ6 : String := "java/lang/Integer"
def TJ6 : u_T := fun k => match k with
  | _ => ("", "", "", false)
def tyJ6 : Nat → FieldType := fun k => match k with
  | _ => .int
theorem nmJ6 : ∀ a, a < 0 → ∀ b, b < 0 → a ≠ b → (TJ6 a).2.1 ≠ (TJ6 b).2.1 := by decide +kernel
theorem tyJ6_ok : ∀ k, k < 0 → parseFieldDescriptor (TJ6 k).2.2.1 = some (tyJ6 k) := by decide +kernel
abbrev cJ6_bitCount_0f7a4 : ByteArray := prog_8_method_49_code
def yJ6_bitCount_0f7a4 : MethodName := ⟨RJ6, "bitCount", "(I)I"⟩
def RJ9 : String := "java/lang/Math"
def TJ9 : u_T := fun k => match k with
  | _ => ("", "", "", false)
def tyJ9 : Nat → FieldType := fun k => match k with
  | _ => .int
theorem nmJ9 : ∀ a, a < 0 → ∀ b, b < 0 → a ≠ b → (TJ9 a).2.1 ≠ (TJ9 b).2.1 := by decide +kernel
theorem tyJ9_ok : ∀ k, k < 0 → parseFieldDescriptor (TJ9 k).2.2.1 = some (tyJ9 k) := by decide +kernel
abbrev cJ9_max_7cf53 : ByteArray := prog_9_method_65_code
def yJ9_max_7cf53 : MethodName := ⟨RJ9, "max", "(II)I"⟩
def RJ10 : String := "java/lang/System"
def TJ10 : u_T := fun k => match k with
  | _ => ("", "", "", false)
def tyJ10 : Nat → FieldType := fun k => match k with
  | _ => .int
theorem nmJ10 : ∀ a, a < 0 → ∀ b, b < 0 → a ≠ b → (TJ10 a).2.1 ≠ (TJ10 b).2.1 := by decide +kernel
theorem tyJ10_ok : ∀ k, k < 0 → parseFieldDescriptor (TJ10 k).2.2.1 = some (tyJ10 k) := by decide +kernel
def RL : String := "SecondRoomLaw"
abbrev cL_law : ByteArray := code
def yL_law : MethodName := ⟨RL, "law", "([I)Z"⟩
abbrev vwCl : List vw_C := [(RX0, TX0, 8), (RX1, TX1, 7), (RX2, TX2, 4), (RX3, TX3, 3), (RX4, TX4, 16), (RX5, TX5, 34)]
/-- a method: its class's number, name, bytes, locals, answer's type, number of parameters, cells and slots that it may make -/
abbrev sr_MD : Type := Nat × MethodName × ByteArray × Nat × Option FieldType × Nat × (Nat × Nat)
abbrev mX0_init : sr_MD := (0, yX0_init, cX0_init, 1, none, 0, (5, 31))
abbrev mX0_clear : sr_MD := (0, yX0_clear, cX0_clear, 1, none, 0, (0, 0))
abbrev mX0_addGuest : sr_MD := (0, yX0_addGuest, cX0_addGuest, 4, none, 3, (0, 0))
abbrev mX0_addThing : sr_MD := (0, yX0_addThing, cX0_addThing, 3, none, 2, (0, 0))
abbrev mX0_takeOver : sr_MD := (0, yX0_takeOver, cX0_takeOver, 3, none, 1, (0, 0))
abbrev mX0_lifeCount : sr_MD := (0, yX0_lifeCount, cX0_lifeCount, 1, some .int, 0, (0, 0))
abbrev mX0_isOfKind : sr_MD := (0, yX0_isOfKind, cX0_isOfKind, 3, some .boolean, 2, (0, 0))
abbrev mX0_soldiers : sr_MD := (0, yX0_soldiers, cX0_soldiers, 3, some .int, 0, (0, 0))
abbrev mX0_lifeHas : sr_MD := (0, yX0_lifeHas, cX0_lifeHas, 3, some .boolean, 2, (0, 0))
abbrev mX0_thingsOfLife : sr_MD := (0, yX0_thingsOfLife, cX0_thingsOfLife, 4, some .int, 1, (0, 0))
abbrev mX0_secondLifeAt : sr_MD := (0, yX0_secondLifeAt, cX0_secondLifeAt, 6, some .int, 2, (0, 0))
abbrev mX0_lastAsFirst : sr_MD := (0, yX0_lastAsFirst, cX0_lastAsFirst, 4, some .int, 2, (0, 0))
abbrev mX1_init : sr_MD := (1, yX1_init, cX1_init, 1, none, 0, (4, 135))
abbrev mX1_isForgotten : sr_MD := (1, yX1_isForgotten, cX1_isForgotten, 1, some .boolean, 0, (0, 0))
abbrev mX1_forget : sr_MD := (1, yX1_forget, cX1_forget, 1, none, 0, (0, 0))
abbrev mX1_begin : sr_MD := (1, yX1_begin, cX1_begin, 3, none, 1, (0, 0))
abbrev mX1_takeOver : sr_MD := (1, yX1_takeOver, cX1_takeOver, 2, none, 1, (0, 0))
abbrev mX1_roomOf : sr_MD := (1, yX1_roomOf, cX1_roomOf, 2, some .int, 1, (0, 0))
abbrev mX1_lockedOf : sr_MD := (1, yX1_lockedOf, cX1_lockedOf, 2, some .int, 1, (0, 0))
abbrev mX1_hoursOf : sr_MD := (1, yX1_hoursOf, cX1_hoursOf, 3, some .int, 2, (0, 0))
abbrev mX1_act : sr_MD := (1, yX1_act, cX1_act, 3, none, 2, (0, 0))
abbrev mX1_takeBackFrom : sr_MD := (1, yX1_takeBackFrom, cX1_takeBackFrom, 4, some .int, 1, (0, 0))
abbrev mX1_carryOut : sr_MD := (1, yX1_carryOut, cX1_carryOut, 4, none, 3, (0, 0))
abbrev mX2_init : sr_MD := (2, yX2_init, cX2_init, 2, none, 1, (0, 0))
abbrev mX2_read : sr_MD := (2, yX2_read, cX2_read, 4, some .int, 2, (0, 0))
abbrev mX2_here : sr_MD := (2, yX2_here, cX2_here, 1, some .int, 0, (0, 0))
abbrev mX2_skipBlanks : sr_MD := (2, yX2_skipBlanks, cX2_skipBlanks, 2, none, 0, (0, 0))
abbrev mX2_figure : sr_MD := (2, yX2_figure, cX2_figure, 4, some .int, 2, (0, 0))
abbrev mX2_readTurns : sr_MD := (2, yX2_readTurns, cX2_readTurns, 3, some .boolean, 1, (0, 0))
abbrev mX2_readItem : sr_MD := (2, yX2_readItem, cX2_readItem, 2, some .boolean, 1, (0, 0))
abbrev mX2_readGuest : sr_MD := (2, yX2_readGuest, cX2_readGuest, 6, some .boolean, 1, (0, 0))
abbrev mX2_readThing : sr_MD := (2, yX2_readThing, cX2_readThing, 7, some .boolean, 1, (0, 0))
abbrev mX2_kindByLetter : sr_MD := (2, yX2_kindByLetter, cX2_kindByLetter, 2, some .int, 1, (0, 0))
abbrev mX3_init : sr_MD := (3, yX3_init, cX3_init, 4, none, 2, (2, 246))
abbrev mX3_isNumber : sr_MD := (3, yX3_isNumber, cX3_isNumber, 2, some .boolean, 1, (0, 0))
abbrev mX3_isMissing : sr_MD := (3, yX3_isMissing, cX3_isMissing, 2, some .boolean, 1, (0, 0))
abbrev mX3_isPlace : sr_MD := (3, yX3_isPlace, cX3_isPlace, 3, some .boolean, 2, (0, 0))
abbrev mX3_arePlaces : sr_MD := (3, yX3_arePlaces, cX3_arePlaces, 4, some .boolean, 3, (0, 0))
abbrev mX3_sizeOf : sr_MD := (3, yX3_sizeOf, cX3_sizeOf, 2, some .int, 1, (0, 0))
abbrev mX3_placeOf : sr_MD := (3, yX3_placeOf, cX3_placeOf, 3, some .int, 2, (0, 0))
abbrev mX3_setPlace : sr_MD := (3, yX3_setPlace, cX3_setPlace, 4, none, 3, (0, 0))
abbrev mX3_make : sr_MD := (3, yX3_make, cX3_make, 5, none, 3, (0, 0))
abbrev mX3_remove : sr_MD := (3, yX3_remove, cX3_remove, 2, none, 1, (0, 0))
abbrev mX3_copyPlaces : sr_MD := (3, yX3_copyPlaces, cX3_copyPlaces, 6, none, 5, (0, 0))
abbrev mX3_sumOf : sr_MD := (3, yX3_sumOf, cX3_sumOf, 5, some .long, 1, (0, 0))
abbrev mX3_thereCount : sr_MD := (3, yX3_thereCount, cX3_thereCount, 3, some .int, 0, (0, 0))
abbrev mX3_digestFrom : sr_MD := (3, yX3_digestFrom, cX3_digestFrom, 7, some .long, 1, (0, 0))
abbrev mX4_init : sr_MD := (4, yX4_init, cX4_init, 1, none, 0, (29, 818))
abbrev mX4_row : sr_MD := (4, yX4_row, cX4_row, 3, some .int, 2, (0, 0))
abbrev mX4_lay : sr_MD := (4, yX4_lay, cX4_lay, 6, some .int, 3, (0, 0))
abbrev mX4_at : sr_MD := (4, yX4_at, cX4_at, 4, some .int, 2, (0, 0))
abbrev mX4_tear : sr_MD := (4, yX4_tear, cX4_tear, 3, some .int, 1, (0, 0))
abbrev mX4_copy : sr_MD := (4, yX4_copy, cX4_copy, 6, some .int, 5, (0, 0))
abbrev mX4_mean : sr_MD := (4, yX4_mean, cX4_mean, 4, some .int, 1, (0, 0))
abbrev mX4_text : sr_MD := (4, yX4_text, cX4_text, 3, some .int, 2, (0, 0))
abbrev mX4_put : sr_MD := (4, yX4_put, cX4_put, 6, some .int, 3, (0, 0))
abbrev mX4_fault : sr_MD := (4, yX4_fault, cX4_fault, 3, some .int, 1, (0, 0))
abbrev mX4_hotel : sr_MD := (4, yX4_hotel, cX4_hotel, 3, some .int, 1, (0, 0))
abbrev mX4_guest : sr_MD := (4, yX4_guest, cX4_guest, 3, some .int, 2, (0, 0))
abbrev mX4_mark : sr_MD := (4, yX4_mark, cX4_mark, 3, some .int, 2, (0, 0))
abbrev mX4_turn : sr_MD := (4, yX4_turn, cX4_turn, 4, some .int, 2, (0, 0))
abbrev mX4_change : sr_MD := (4, yX4_change, cX4_change, 2, some .int, 1, (0, 0))
abbrev mX4_lock : sr_MD := (4, yX4_lock, cX4_lock, 3, some .int, 2, (0, 0))
abbrev mX4_use : sr_MD := (4, yX4_use, cX4_use, 2, some .int, 1, (0, 0))
abbrev mX4_undo : sr_MD := (4, yX4_undo, cX4_undo, 2, some .int, 1, (0, 0))
abbrev mX4_keep : sr_MD := (4, yX4_keep, cX4_keep, 2, some .int, 1, (5, 142))
abbrev mX4_on : sr_MD := (4, yX4_on, cX4_on, 3, some .int, 1, (0, 0))
abbrev mX4_things : sr_MD := (4, yX4_things, cX4_things, 3, some .int, 2, (0, 0))
abbrev mX4_both : sr_MD := (4, yX4_both, cX4_both, 4, some .int, 1, (0, 0))
abbrev mX4_apart : sr_MD := (4, yX4_apart, cX4_apart, 3, some .int, 1, (0, 0))
abbrev mX4_has : sr_MD := (4, yX4_has, cX4_has, 2, some .int, 1, (0, 0))
abbrev mX4_fits : sr_MD := (4, yX4_fits, cX4_fits, 5, some .int, 2, (0, 0))
abbrev mX4_looks : sr_MD := (4, yX4_looks, cX4_looks, 5, some .int, 1, (0, 0))
abbrev mX4_drawer : sr_MD := (4, yX4_drawer, cX4_drawer, 7, some .int, 1, (0, 0))
abbrev mX4_lives : sr_MD := (4, yX4_lives, cX4_lives, 5, some .int, 1, (0, 0))
abbrev mX4_nearest : sr_MD := (4, yX4_nearest, cX4_nearest, 7, some .int, 2, (0, 0))
abbrev mX4_twins : sr_MD := (4, yX4_twins, cX4_twins, 4, some .int, 1, (0, 0))
abbrev mX4_pairs : sr_MD := (4, yX4_pairs, cX4_pairs, 5, some .int, 0, (0, 0))
abbrev mX4_ring : sr_MD := (4, yX4_ring, cX4_ring, 5, some .int, 0, (0, 0))
abbrev mX4_who : sr_MD := (4, yX4_who, cX4_who, 5, some .int, 2, (0, 0))
abbrev mX4_marks : sr_MD := (4, yX4_marks, cX4_marks, 3, some .int, 0, (0, 0))
abbrev mX4_bill : sr_MD := (4, yX4_bill, cX4_bill, 3, some .int, 2, (0, 0))
abbrev mX4_pays : sr_MD := (4, yX4_pays, cX4_pays, 6, some .int, 1, (0, 0))
abbrev mX4_cheapest : sr_MD := (4, yX4_cheapest, cX4_cheapest, 8, some .int, 2, (0, 0))
abbrev mX4_spread : sr_MD := (4, yX4_spread, cX4_spread, 4, some .int, 1, (0, 0))
abbrev mX4_odds : sr_MD := (4, yX4_odds, cX4_odds, 3, some .int, 2, (0, 0))
abbrev mX4_lots : sr_MD := (4, yX4_lots, cX4_lots, 7, some .int, 2, (0, 0))
abbrev mX4_asked : sr_MD := (4, yX4_asked, cX4_asked, 1, some .int, 0, (0, 0))
abbrev mX4_upper : sr_MD := (4, yX4_upper, cX4_upper, 1, some .long, 0, (0, 0))
abbrev mX4_lower : sr_MD := (4, yX4_lower, cX4_lower, 1, some .long, 0, (0, 0))
abbrev mX4_count : sr_MD := (4, yX4_count, cX4_count, 2, some .int, 1, (0, 0))
abbrev mX4_finding : sr_MD := (4, yX4_finding, cX4_finding, 1, some .int, 0, (0, 0))
abbrev mX4_findings : sr_MD := (4, yX4_findings, cX4_findings, 2, some .int, 1, (0, 0))
abbrev mX4_digest : sr_MD := (4, yX4_digest, cX4_digest, 5, some .long, 0, (0, 0))
abbrev mX4_found : sr_MD := (4, yX4_found, cX4_found, 2, some .int, 1, (0, 0))
abbrev mX4_makePaper : sr_MD := (4, yX4_makePaper, cX4_makePaper, 5, some .int, 4, (0, 0))
abbrev mX4_refusalOfPaper : sr_MD := (4, yX4_refusalOfPaper, cX4_refusalOfPaper, 3, some .int, 2, (0, 0))
abbrev mX4_refusalOfPlace : sr_MD := (4, yX4_refusalOfPlace, cX4_refusalOfPlace, 5, some .int, 3, (0, 0))
abbrev mX4_tell : sr_MD := (4, yX4_tell, cX4_tell, 3, some .int, 2, (0, 0))
abbrev mX4_tellShare : sr_MD := (4, yX4_tellShare, cX4_tellShare, 4, none, 2, (0, 0))
abbrev mX4_commonMeasure : sr_MD := (4, yX4_commonMeasure, cX4_commonMeasure, 6, some .int, 2, (0, 0))
abbrev mX4_firstBit : sr_MD := (4, yX4_firstBit, cX4_firstBit, 2, some .int, 1, (0, 0))
abbrev mX4_isGuest : sr_MD := (4, yX4_isGuest, cX4_isGuest, 2, some .boolean, 1, (0, 0))
abbrev mX4_isThing : sr_MD := (4, yX4_isThing, cX4_isThing, 2, some .boolean, 1, (0, 0))
abbrev mX4_isThingSet : sr_MD := (4, yX4_isThingSet, cX4_isThingSet, 2, some .boolean, 1, (0, 0))
abbrev mX4_isLaw : sr_MD := (4, yX4_isLaw, cX4_isLaw, 1, some .boolean, 1, (0, 0))
abbrev mX4_factOf : sr_MD := (4, yX4_factOf, cX4_factOf, 3, some .int, 2, (0, 0))
abbrev mX4_secondLife : sr_MD := (4, yX4_secondLife, cX4_secondLife, 2, some .int, 1, (0, 0))
abbrev mX4_isSecondOf : sr_MD := (4, yX4_isSecondOf, cX4_isSecondOf, 3, some .boolean, 2, (0, 0))
abbrev mX4_thingsIn : sr_MD := (4, yX4_thingsIn, cX4_thingsIn, 3, some .int, 2, (0, 0))
abbrev mX4_thingsByTurn : sr_MD := (4, yX4_thingsByTurn, cX4_thingsByTurn, 3, some .int, 2, (0, 0))
abbrev mX4_turnsWith : sr_MD := (4, yX4_turnsWith, cX4_turnsWith, 5, some .int, 2, (0, 0))
abbrev mX4_addDifference : sr_MD := (4, yX4_addDifference, cX4_addDifference, 2, none, 1, (0, 0))
abbrev mX4_fewestTellingApart : sr_MD := (4, yX4_fewestTellingApart, cX4_fewestTellingApart, 4, some .int, 0, (0, 0))
abbrev mX4_tellsApart : sr_MD := (4, yX4_tellsApart, cX4_tellsApart, 3, some .boolean, 1, (0, 0))
abbrev mX4_endsOfWalk : sr_MD := (4, yX4_endsOfWalk, cX4_endsOfWalk, 5, some .int, 1, (0, 0))
abbrev mX4_leadsOn : sr_MD := (4, yX4_leadsOn, cX4_leadsOn, 4, some .boolean, 2, (0, 0))
abbrev mX4_billFor : sr_MD := (4, yX4_billFor, cX4_billFor, 6, some .int, 4, (0, 0))
abbrev mX4_actByLot : sr_MD := (4, yX4_actByLot, cX4_actByLot, 3, none, 2, (0, 0))
abbrev mX4_forgetKept : sr_MD := (4, yX4_forgetKept, cX4_forgetKept, 2, none, 0, (0, 0))
abbrev mX4_keptDeeds : sr_MD := (4, yX4_keptDeeds, cX4_keptDeeds, 2, some .int, 1, (0, 0))
abbrev mX4_keptCount : sr_MD := (4, yX4_keptCount, cX4_keptCount, 3, some .int, 0, (0, 0))
abbrev mX5_init : sr_MD := (5, yX5_init, cX5_init, 2, none, 0, (20, 3589))
abbrev mX5_in : sr_MD := (5, yX5_in, cX5_in, 3, some .boolean, 3, (0, 0))
abbrev mX5_holds : sr_MD := (5, yX5_holds, cX5_holds, 2, some .boolean, 2, (0, 0))
abbrev mX5_bits : sr_MD := (5, yX5_bits, cX5_bits, 3, some .int, 1, (0, 0))
abbrev mX5_meets : sr_MD := (5, yX5_meets, cX5_meets, 2, some .int, 1, (0, 0))
abbrev mX5_finding : sr_MD := (5, yX5_finding, cX5_finding, 1, some .int, 0, (0, 0))
abbrev mX5_findings : sr_MD := (5, yX5_findings, cX5_findings, 2, some .int, 1, (0, 0))
abbrev mX5_tells : sr_MD := (5, yX5_tells, cX5_tells, 3, some .int, 2, (0, 0))
abbrev mX5_asked : sr_MD := (5, yX5_asked, cX5_asked, 1, some .int, 0, (0, 0))
abbrev mX5_fraction : sr_MD := (5, yX5_fraction, cX5_fraction, 6, some .int, 2, (0, 0))
abbrev mX5_upper : sr_MD := (5, yX5_upper, cX5_upper, 1, some .long, 0, (0, 0))
abbrev mX5_lower : sr_MD := (5, yX5_lower, cX5_lower, 1, some .long, 0, (0, 0))
abbrev mX5_isRow : sr_MD := (5, yX5_isRow, cX5_isRow, 1, some .boolean, 1, (0, 0))
abbrev mX5_rowAt : sr_MD := (5, yX5_rowAt, cX5_rowAt, 3, some .int, 2, (0, 0))
abbrev mX5_row : sr_MD := (5, yX5_row, cX5_row, 4, some .int, 2, (0, 0))
abbrev mX5_lay : sr_MD := (5, yX5_lay, cX5_lay, 5, some .int, 3, (0, 0))
abbrev mX5_at : sr_MD := (5, yX5_at, cX5_at, 3, some .int, 2, (0, 0))
abbrev mX5_tear : sr_MD := (5, yX5_tear, cX5_tear, 2, some .int, 1, (0, 0))
abbrev mX5_copy : sr_MD := (5, yX5_copy, cX5_copy, 7, some .int, 5, (0, 0))
abbrev mX5_mean : sr_MD := (5, yX5_mean, cX5_mean, 5, some .int, 1, (0, 0))
abbrev mX5_isText : sr_MD := (5, yX5_isText, cX5_isText, 1, some .boolean, 1, (0, 0))
abbrev mX5_text : sr_MD := (5, yX5_text, cX5_text, 4, some .int, 2, (0, 0))
abbrev mX5_put : sr_MD := (5, yX5_put, cX5_put, 5, some .int, 3, (0, 0))
abbrev mX5_byteAt : sr_MD := (5, yX5_byteAt, cX5_byteAt, 3, some .int, 2, (0, 0))
abbrev mX5_kindOf : sr_MD := (5, yX5_kindOf, cX5_kindOf, 1, some .int, 1, (0, 0))
abbrev mX5_figure : sr_MD := (5, yX5_figure, cX5_figure, 5, some .int, 3, (0, 0))
abbrev mX5_readsTurns : sr_MD := (5, yX5_readsTurns, cX5_readsTurns, 3, some .boolean, 1, (0, 0))
abbrev mX5_readsThing : sr_MD := (5, yX5_readsThing, cX5_readsThing, 4, some .boolean, 1, (0, 0))
abbrev mX5_readsGuest : sr_MD := (5, yX5_readsGuest, cX5_readsGuest, 6, some .boolean, 1, (0, 0))
abbrev mX5_readsItem : sr_MD := (5, yX5_readsItem, cX5_readsItem, 2, some .boolean, 1, (0, 0))
abbrev mX5_faultOf : sr_MD := (5, yX5_faultOf, cX5_faultOf, 2, some .int, 1, (0, 0))
abbrev mX5_fault : sr_MD := (5, yX5_fault, cX5_fault, 2, some .int, 1, (0, 0))
abbrev mX5_hotel : sr_MD := (5, yX5_hotel, cX5_hotel, 3, some .int, 1, (0, 0))
abbrev mX5_isGuest : sr_MD := (5, yX5_isGuest, cX5_isGuest, 2, some .boolean, 1, (0, 0))
abbrev mX5_isThing : sr_MD := (5, yX5_isThing, cX5_isThing, 2, some .boolean, 1, (0, 0))
abbrev mX5_isThings : sr_MD := (5, yX5_isThings, cX5_isThings, 2, some .boolean, 1, (0, 0))
abbrev mX5_allLives : sr_MD := (5, yX5_allLives, cX5_allLives, 1, some .int, 0, (0, 0))
abbrev mX5_withChoice : sr_MD := (5, yX5_withChoice, cX5_withChoice, 3, some .int, 3, (0, 0))
abbrev mX5_secondBy : sr_MD := (5, yX5_secondBy, cX5_secondBy, 7, some .int, 2, (0, 0))
abbrev mX5_second : sr_MD := (5, yX5_second, cX5_second, 2, some .int, 1, (0, 0))
abbrev mX5_isHad : sr_MD := (5, yX5_isHad, cX5_isHad, 4, some .boolean, 2, (0, 0))
abbrev mX5_thingsOf : sr_MD := (5, yX5_thingsOf, cX5_thingsOf, 4, some .int, 1, (0, 0))
abbrev mX5_guestTells : sr_MD := (5, yX5_guestTells, cX5_guestTells, 3, some .int, 2, (0, 0))
abbrev mX5_guest : sr_MD := (5, yX5_guest, cX5_guest, 3, some .int, 2, (0, 0))
abbrev mX5_isSoldier : sr_MD := (5, yX5_isSoldier, cX5_isSoldier, 2, some .boolean, 1, (0, 0))
abbrev mX5_soldiers : sr_MD := (5, yX5_soldiers, cX5_soldiers, 3, some .int, 0, (0, 0))
abbrev mX5_mark : sr_MD := (5, yX5_mark, cX5_mark, 4, some .int, 2, (0, 0))
abbrev mX5_turn : sr_MD := (5, yX5_turn, cX5_turn, 4, some .int, 2, (0, 0))
abbrev mX5_remember : sr_MD := (5, yX5_remember, cX5_remember, 2, none, 0, (0, 0))
abbrev mX5_uses : sr_MD := (5, yX5_uses, cX5_uses, 3, some .int, 1, (0, 0))
abbrev mX5_change : sr_MD := (5, yX5_change, cX5_change, 2, some .int, 1, (0, 0))
abbrev mX5_lock : sr_MD := (5, yX5_lock, cX5_lock, 3, some .int, 2, (0, 0))
abbrev mX5_use : sr_MD := (5, yX5_use, cX5_use, 2, some .int, 1, (0, 0))
abbrev mX5_undo : sr_MD := (5, yX5_undo, cX5_undo, 4, some .int, 1, (0, 0))
abbrev mX5_keep : sr_MD := (5, yX5_keep, cX5_keep, 3, some .int, 1, (0, 0))
abbrev mX5_on : sr_MD := (5, yX5_on, cX5_on, 3, some .int, 1, (0, 0))
abbrev mX5_roomOf : sr_MD := (5, yX5_roomOf, cX5_roomOf, 3, some .int, 2, (0, 0))
abbrev mX5_things : sr_MD := (5, yX5_things, cX5_things, 3, some .int, 2, (0, 0))
abbrev mX5_both : sr_MD := (5, yX5_both, cX5_both, 4, some .int, 1, (0, 0))
abbrev mX5_lowest : sr_MD := (5, yX5_lowest, cX5_lowest, 2, some .int, 1, (0, 0))
abbrev mX5_apart : sr_MD := (5, yX5_apart, cX5_apart, 3, some .int, 1, (0, 0))
abbrev mX5_has : sr_MD := (5, yX5_has, cX5_has, 2, some .int, 1, (0, 0))
abbrev mX5_fits : sr_MD := (5, yX5_fits, cX5_fits, 5, some .int, 2, (0, 0))
abbrev mX5_isTold : sr_MD := (5, yX5_isTold, cX5_isTold, 6, some .boolean, 2, (0, 0))
abbrev mX5_fewestBy : sr_MD := (5, yX5_fewestBy, cX5_fewestBy, 4, some .int, 1, (0, 0))
abbrev mX5_looks : sr_MD := (5, yX5_looks, cX5_looks, 3, some .int, 1, (0, 0))
abbrev mX5_thereBy : sr_MD := (5, yX5_thereBy, cX5_thereBy, 5, some .int, 2, (0, 0))
abbrev mX5_drawer : sr_MD := (5, yX5_drawer, cX5_drawer, 7, some .int, 1, (0, 0))
abbrev mX5_lives : sr_MD := (5, yX5_lives, cX5_lives, 5, some .int, 1, (0, 0))
abbrev mX5_nearest : sr_MD := (5, yX5_nearest, cX5_nearest, 6, some .int, 2, (0, 0))
abbrev mX5_isSecond : sr_MD := (5, yX5_isSecond, cX5_isSecond, 3, some .boolean, 2, (0, 0))
abbrev mX5_twins : sr_MD := (5, yX5_twins, cX5_twins, 4, some .int, 1, (0, 0))
abbrev mX5_pairs : sr_MD := (5, yX5_pairs, cX5_pairs, 5, some .int, 0, (0, 0))
abbrev mX5_layRings : sr_MD := (5, yX5_layRings, cX5_layRings, 5, none, 3, (0, 0))
abbrev mX5_ring : sr_MD := (5, yX5_ring, cX5_ring, 2, some .int, 0, (0, 0))
abbrev mX5_who : sr_MD := (5, yX5_who, cX5_who, 3, some .int, 2, (0, 0))
abbrev mX5_marks : sr_MD := (5, yX5_marks, cX5_marks, 5, some .int, 0, (0, 0))
abbrev mX5_billOf : sr_MD := (5, yX5_billOf, cX5_billOf, 5, some .int, 4, (0, 0))
abbrev mX5_bill : sr_MD := (5, yX5_bill, cX5_bill, 3, some .int, 2, (0, 0))
abbrev mX5_pays : sr_MD := (5, yX5_pays, cX5_pays, 6, some .int, 1, (0, 0))
abbrev mX5_cheapest : sr_MD := (5, yX5_cheapest, cX5_cheapest, 6, some .int, 2, (0, 0))
abbrev mX5_spread : sr_MD := (5, yX5_spread, cX5_spread, 4, some .int, 1, (0, 0))
abbrev mX5_odds : sr_MD := (5, yX5_odds, cX5_odds, 3, some .int, 2, (0, 0))
abbrev mX5_lots : sr_MD := (5, yX5_lots, cX5_lots, 8, some .int, 2, (0, 0))
abbrev mX5_counted : sr_MD := (5, yX5_counted, cX5_counted, 4, some .int, 1, (0, 0))
abbrev mX5_count : sr_MD := (5, yX5_count, cX5_count, 2, some .int, 1, (0, 0))
abbrev mX5_mix : sr_MD := (5, yX5_mix, cX5_mix, 3, none, 1, (0, 0))
abbrev mX5_mixHotel : sr_MD := (5, yX5_mixHotel, cX5_mixHotel, 3, none, 0, (0, 0))
abbrev mX5_digest : sr_MD := (5, yX5_digest, cX5_digest, 3, some .long, 0, (0, 0))
abbrev mJ6_bitCount : sr_MD := (7, yJ6_bitCount_0f7a4, cJ6_bitCount_0f7a4, 1, some .int, 1, (0, 0))
abbrev mJ9_max : sr_MD := (8, yJ9_max_7cf53, cJ9_max_7cf53, 2, some .int, 2, (0, 0))
abbrev mL_law : sr_MD := (6, x, code, 4, some .boolean, 1, (0, 0))
def sr_R (k : Nat) : String := match k with
  | 0 => RX0
  | 1 => RX1
  | 2 => RX2
  | 3 => RX3
  | 4 => RX4
  | 5 => RX5
  | 6 => RL
  | 7 => RJ6
  | _ => RJ9
end
section
/-! link tables, by program out of tables_1 -/
/-- field types: 0 int, 1 long, 2 reference -/
def sr_fts : List (List Nat) := [[0, 0, 0, 2, 2, 2, 2, 2], [0, 0, 0, 2, 2, 2, 2], [2, 0, 0, 0], [0, 2, 2], [2, 2, 2, 2, 2, 2, 2, 2, 0, 2, 2, 0, 1, 1, 0, 2], [0, 2, 0, 1, 1, 2, 2, 2, 2, 2, 0, 0, 0, 2, 2, 2, 2, 0, 0, 0, 0, 2, 2, 2, 0, 2, 2, 2, 2, 2, 2, 2, 0, 1]]
def sr_mls_0 : List (Nat × Nat × sr_MD) := [(3, 3, mX0_clear), (37, 0, mX0_clear), (40, 0, mX0_addGuest), (44, 0, mX0_addThing), (58, 0, mX0_lifeCount), (62, 0, mX0_lastAsFirst), (51, 0, mX0_isOfKind), (55, 0, mX0_lifeHas)]
def sr_mls_1 : List (Nat × Nat × sr_MD) := [(3, 3, mX0_clear), (45, 0, mX1_carryOut), (49, 0, mX1_roomOf), (39, 4, mX0_clear)]
def sr_mls_2 : List (Nat × Nat × sr_MD) := [(3, 3, mX0_clear), (25, 0, mX3_sizeOf), (31, 0, mX0_clear), (36, 0, mX2_skipBlanks), (53, 0, mX2_here), (49, 0, mX3_placeOf), (39, 0, mX2_readTurns), (57, 0, mX2_figure), (43, 0, mX2_readItem), (63, 0, mX2_readThing), (79, 0, mX0_addThing), (66, 0, mX2_readGuest), (69, 1, mX2_kindByLetter), (75, 0, mX0_addGuest)]
def sr_mls_3 : List (Nat × Nat × sr_MD) := [(1, 3, mX0_clear), (20, 0, mX3_setPlace), (24, 4, mX0_clear), (30, 0, mX3_placeOf), (34, 0, mX3_isMissing)]
def sr_mls_4 : List (Nat × Nat × sr_MD) := [(1, 3, mX0_clear), (11, 2, mX3_init), (23, 2, mX2_init), (32, 5, mX0_init), (42, 5, mX1_init), (81, 0, mX4_makePaper), (108, 0, mX3_isNumber), (112, 0, mX4_found), (310, 0, mX3_make), (85, 0, mX4_refusalOfPlace), (100, 0, mX4_refusalOfPaper), (116, 0, mX3_isMissing), (313, 0, mX3_isPlace), (89, 0, mX3_placeOf), (93, 0, mX3_setPlace), (97, 0, mX4_tell), (104, 0, mX3_remove), (119, 0, mX3_arePlaces), (123, 0, mX3_copyPlaces), (127, 0, mX3_sizeOf), (130, 0, mX3_sumOf), (134, 0, mX2_read), (138, 0, mX0_takeOver), (142, 0, mX1_begin), (145, 0, mX4_forgetKept), (325, 0, mX1_forget), (151, 0, mX4_isGuest), (154, 0, mX4_factOf), (164, 0, mX4_secondLife), (267, 0, mX0_secondLifeAt), (194, 0, mX1_roomOf), (175, 0, mX1_lockedOf), (200, 0, mX1_hoursOf), (157, 0, mX0_isOfKind), (167, 1, mJ6_bitCount), (178, 0, mX0_soldiers), (182, 0, mX4_thingsIn), (219, 0, mX0_thingsOfLife), (191, 0, mX1_act), (203, 0, mX1_takeBackFrom), (206, 0, mX1_takeOver), (209, 0, mX1_isForgotten), (213, 1, mX4_firstBit), (216, 0, mX0_lifeCount), (222, 0, mX4_isThingSet), (225, 0, mX4_thingsByTurn), (228, 0, mX4_addDifference), (231, 0, mX4_fewestTellingApart), (322, 0, mX4_tellsApart), (237, 0, mX4_turnsWith), (248, 0, mX0_lifeHas), (240, 6, mX0_clear), (245, 0, mX4_isThing), (251, 0, mX4_isSecondOf), (254, 0, mX4_endsOfWalk), (257, 0, mX4_leadsOn), (260, 1, mX4_isLaw), (263, 0, mX4_billFor), (270, 0, mX4_tellShare), (316, 1, mX4_commonMeasure), (281, 0, mX4_actByLot), (287, 0, mX3_thereCount), (290, 0, mX4_keptCount), (300, 0, mX4_keptDeeds), (297, 0, mX4_count), (303, 0, mX3_digestFrom)]
def sr_mls_5 : List (Nat × Nat × sr_MD) := [(1, 3, mX0_clear), (80, 1, mX5_in), (90, 1, mX5_isRow), (94, 0, mX5_meets), (98, 0, mX5_rowAt), (102, 0, mX5_tells), (105, 1, mX5_isText), (142, 0, mX5_faultOf), (111, 0, mX5_byteAt), (139, 0, mX5_readsItem), (130, 0, mX5_readsTurns), (114, 0, mX5_figure), (133, 0, mX5_readsThing), (136, 0, mX5_readsGuest), (127, 1, mX5_kindOf), (174, 0, mX5_isGuest), (177, 0, mX5_guestTells), (171, 0, mX5_second), (164, 0, mX5_secondBy), (157, 0, mX5_allLives), (161, 1, mX5_withChoice), (183, 1, mX5_bits), (186, 0, mX5_soldiers), (180, 0, mX5_isSoldier), (189, 0, mX5_thingsOf), (167, 0, mX5_isHad), (192, 1, mX5_holds), (195, 0, mX5_remember), (198, 0, mX5_uses), (201, 0, mX5_roomOf), (204, 1, mX5_lowest), (207, 0, mX5_isThings), (213, 0, mX5_fewestBy), (210, 0, mX5_isTold), (217, 0, mX5_thereBy), (220, 0, mX5_isThing), (223, 0, mX5_isSecond), (229, 0, mX5_layRings), (233, 0, mX5_billOf), (237, 0, mX5_fraction), (249, 0, mX5_counted), (257, 0, mX5_mix), (265, 0, mX5_mixHotel)]
def sr_mls_6 : List (Nat × Nat × sr_MD) := [(9, 2, mX4_init), (13, 0, mX4_row), (18, 0, mX4_lay), (23, 0, mX4_at), (27, 0, mX4_tear), (32, 0, mX4_copy), (37, 0, mX4_mean), (41, 0, mX4_text), (45, 0, mX4_put), (49, 0, mX4_fault), (53, 0, mX4_hotel), (57, 0, mX4_guest), (61, 0, mX4_mark), (65, 0, mX4_turn), (69, 0, mX4_change), (73, 0, mX4_lock), (77, 0, mX4_use), (81, 0, mX4_undo), (85, 0, mX4_keep), (89, 0, mX4_on), (93, 0, mX4_things), (97, 0, mX4_both), (101, 0, mX4_apart), (105, 0, mX4_has), (109, 0, mX4_fits), (113, 0, mX4_looks), (117, 0, mX4_drawer), (121, 0, mX4_lives), (125, 0, mX4_nearest), (129, 0, mX4_twins), (133, 0, mX4_pairs), (138, 0, mX4_ring), (142, 0, mX4_who), (146, 0, mX4_marks), (150, 0, mX4_bill), (154, 0, mX4_pays), (158, 0, mX4_cheapest), (162, 0, mX4_spread), (166, 0, mX4_odds), (170, 0, mX4_lots), (174, 0, mX4_asked), (178, 0, mX4_upper), (183, 0, mX4_lower), (187, 0, mX4_count), (191, 0, mX4_finding), (195, 0, mX4_findings), (199, 0, mX4_digest), (12, 2, mX5_init), (194, 0, mX5_finding), (198, 0, mX5_findings), (177, 0, mX5_asked), (182, 0, mX5_upper), (186, 0, mX5_lower), (17, 0, mX5_row), (22, 0, mX5_lay), (26, 0, mX5_at), (31, 0, mX5_tear), (36, 0, mX5_copy), (40, 0, mX5_mean), (44, 0, mX5_text), (48, 0, mX5_put), (52, 0, mX5_fault), (56, 0, mX5_hotel), (60, 0, mX5_guest), (64, 0, mX5_mark), (68, 0, mX5_turn), (72, 0, mX5_change), (76, 0, mX5_lock), (80, 0, mX5_use), (84, 0, mX5_undo), (88, 0, mX5_keep), (92, 0, mX5_on), (96, 0, mX5_things), (100, 0, mX5_both), (104, 0, mX5_apart), (108, 0, mX5_has), (112, 0, mX5_fits), (116, 0, mX5_looks), (120, 0, mX5_drawer), (124, 0, mX5_lives), (128, 0, mX5_nearest), (132, 0, mX5_twins), (137, 0, mX5_pairs), (141, 0, mX5_ring), (145, 0, mX5_who), (149, 0, mX5_marks), (153, 0, mX5_bill), (157, 0, mX5_pays), (161, 0, mX5_cheapest), (165, 0, mX5_spread), (169, 0, mX5_odds), (173, 0, mX5_lots), (190, 0, mX5_count), (202, 0, mX5_digest)]
def sr_mls_7 : List (Nat × Nat × sr_MD) := []
def sr_mls_8 : List (Nat × Nat × sr_MD) := []
def sr_mls (own : Nat) : List (Nat × Nat × sr_MD) := match own with
  | 0 => sr_mls_0
  | 1 => sr_mls_1
  | 2 => sr_mls_2
  | 3 => sr_mls_3
  | 4 => sr_mls_4
  | 5 => sr_mls_5
  | 6 => sr_mls_6
  | 7 => sr_mls_7
  | _ => sr_mls_8
def sr_fls_0 : List (Nat × Nat × Nat) := [(9, 0, 0), (15, 0, 1), (18, 0, 2), (21, 0, 3), (25, 0, 4), (28, 0, 5), (31, 0, 6), (34, 0, 7)]
def sr_fls_1 : List (Nat × Nat × Nat) := [(34, 0, 5), (9, 1, 0), (15, 1, 1), (18, 1, 2), (21, 1, 3), (25, 1, 4), (28, 1, 5), (31, 1, 6)]
def sr_fls_2 : List (Nat × Nat × Nat) := [(21, 2, 0), (9, 2, 1), (15, 2, 2), (18, 2, 3), (60, 0, 0), (72, 0, 1), (46, 0, 2)]
def sr_fls_3 : List (Nat × Nat × Nat) := [(7, 3, 0), (13, 3, 1), (17, 3, 2)]
def sr_fls_4 : List (Nat × Nat × Nat) := [(307, 3, 0), (185, 0, 0), (148, 0, 1), (234, 0, 2), (319, 0, 3), (161, 0, 4), (188, 1, 0), (284, 1, 1), (197, 1, 2), (172, 1, 3), (14, 4, 0), (18, 4, 1), (26, 4, 2), (33, 4, 3), (37, 4, 4), (43, 4, 5), (47, 4, 6), (51, 4, 7), (55, 4, 8), (59, 4, 9), (62, 4, 10), (65, 4, 11), (68, 4, 12), (72, 4, 13), (75, 4, 14), (78, 4, 15)]
def sr_fls_5 : List (Nat × Nat × Nat) := [(76, 5, 0), (7, 5, 1), (84, 5, 2), (87, 5, 3), (13, 5, 4), (17, 5, 5), (20, 5, 6), (23, 5, 7), (26, 5, 8), (29, 5, 9), (145, 5, 10), (148, 5, 11), (151, 5, 12), (33, 5, 13), (36, 5, 14), (39, 5, 15), (42, 5, 16), (108, 5, 17), (121, 5, 18), (118, 5, 19), (124, 5, 20), (45, 5, 21), (48, 5, 22), (51, 5, 23), (154, 5, 24), (54, 5, 25), (57, 5, 26), (61, 5, 27), (64, 5, 28), (67, 5, 29), (70, 5, 30), (73, 5, 31), (226, 5, 32), (254, 5, 33)]
def sr_fls_6 : List (Nat × Nat × Nat) := []
def sr_fls_7 : List (Nat × Nat × Nat) := []
def sr_fls_8 : List (Nat × Nat × Nat) := []
def sr_fls (own : Nat) : List (Nat × Nat × Nat) := match own with
  | 0 => sr_fls_0
  | 1 => sr_fls_1
  | 2 => sr_fls_2
  | 3 => sr_fls_3
  | 4 => sr_fls_4
  | 5 => sr_fls_5
  | 6 => sr_fls_6
  | 7 => sr_fls_7
  | _ => sr_fls_8
def sr_nls_0 : List (Nat × Nat) := []
def sr_nls_1 : List (Nat × Nat) := []
def sr_nls_2 : List (Nat × Nat) := []
def sr_nls_3 : List (Nat × Nat) := []
def sr_nls_4 : List (Nat × Nat) := [(7, 3), (21, 2), (30, 0), (40, 1)]
def sr_nls_5 : List (Nat × Nat) := []
def sr_nls_6 : List (Nat × Nat) := [(7, 4), (10, 5)]
def sr_nls_7 : List (Nat × Nat) := []
def sr_nls_8 : List (Nat × Nat) := []
def sr_nls (own : Nat) : List (Nat × Nat) := match own with
  | 0 => sr_nls_0
  | 1 => sr_nls_1
  | 2 => sr_nls_2
  | 3 => sr_nls_3
  | 4 => sr_nls_4
  | 5 => sr_nls_5
  | 6 => sr_nls_6
  | 7 => sr_nls_7
  | _ => sr_nls_8
def sr_ics_0 : List (Nat × Int32) := []
def sr_ics_1 : List (Nat × Int32) := []
def sr_ics_2 : List (Nat × Int32) := []
def sr_ics_3 : List (Nat × Int32) := []
def sr_ics_4 : List (Nat × Int32) := []
def sr_ics_5 : List (Nat × Int32) := [(216, 1000000), (240, 2147483646)]
def sr_ics_6 : List (Nat × Int32) := []
def sr_ics_7 : List (Nat × Int32) := [(265, 1431655765), (266, 858993459), (267, 252645135)]
def sr_ics_8 : List (Nat × Int32) := []
def sr_ics (own : Nat) : List (Nat × Int32) := match own with
  | 0 => sr_ics_0
  | 1 => sr_ics_1
  | 2 => sr_ics_2
  | 3 => sr_ics_3
  | 4 => sr_ics_4
  | 5 => sr_ics_5
  | 6 => sr_ics_6
  | 7 => sr_ics_7
  | _ => sr_ics_8
def sr_lcs_0 : List (Nat × Int64) := []
def sr_lcs_1 : List (Nat × Int64) := []
def sr_lcs_2 : List (Nat × Int64) := []
def sr_lcs_3 : List (Nat × Int64) := [(38, 31)]
def sr_lcs_4 : List (Nat × Int64) := [(273, 2147483647), (275, 48271), (277, 16), (279, 4), (293, 17), (295, 31)]
def sr_lcs_5 : List (Nat × Int64) := [(241, 48271), (243, 2147483647), (245, 16), (247, 4), (263, 17), (252, 31), (261, -1)]
def sr_lcs_6 : List (Nat × Int64) := []
def sr_lcs_7 : List (Nat × Int64) := []
def sr_lcs_8 : List (Nat × Int64) := []
def sr_lcs (own : Nat) : List (Nat × Int64) := match own with
  | 0 => sr_lcs_0
  | 1 => sr_lcs_1
  | 2 => sr_lcs_2
  | 3 => sr_lcs_3
  | 4 => sr_lcs_4
  | 5 => sr_lcs_5
  | 6 => sr_lcs_6
  | 7 => sr_lcs_7
  | _ => sr_lcs_8
def sr_sls_0 : List (Nat × Nat) := [(48, 1)]
def sr_sls_1 : List (Nat × Nat) := []
def sr_sls_2 : List (Nat × Nat) := [(83, 0)]
def sr_sls_3 : List (Nat × Nat) := []
def sr_sls_4 : List (Nat × Nat) := []
def sr_sls_5 : List (Nat × Nat) := []
def sr_sls_6 : List (Nat × Nat) := []
def sr_sls_7 : List (Nat × Nat) := []
def sr_sls_8 : List (Nat × Nat) := []
def sr_sls (own : Nat) : List (Nat × Nat) := match own with
  | 0 => sr_sls_0
  | 1 => sr_sls_1
  | 2 => sr_sls_2
  | 3 => sr_sls_3
  | 4 => sr_sls_4
  | 5 => sr_sls_5
  | 6 => sr_sls_6
  | 7 => sr_sls_7
  | _ => sr_sls_8
theorem sr_lookup {β : Type} {l : List (Nat × β)} {i : Nat} {v : β} (h : l.lookup i = some v) : (i, v) ∈ l := by
  induction l with
  | nil => simp at h
  | cons a t ih =>
    obtain ⟨k, w⟩ := a
    rw [List.lookup_cons] at h
    by_cases hk : i == k
    · rw [hk] at h
      have e : i = k := by simpa using hk
      cases h
      rw [e]
      exact List.mem_cons_self
    · simp only [hk] at h
      exact List.mem_cons_of_mem _ (ih h)
/-- what the tables say of a method: its code; a virtual, a static one, a constructor -/
def sr_okY (md : sr_MD) : Prop := Cond.code md.2.1 md.2.2.1 md.2.2.2.1 md.2.2.2.2.1 ∈ lw_tbl ∧ Cond.initialized md.2.1.cls ∈ lw_tbl ∧ md.2.1.cls = sr_R md.1 ∧ plainName md.2.1.cls = true ∧ md.2.2.2.1 ≤ 20 ∧ (md.2.1.cls ≠ "java/lang/invoke/MethodHandle" ∧ md.2.1.cls ≠ "java/lang/invoke/VarHandle" ∧ (parseMethodDescriptor md.2.1.desc).map (fun d => d.parameters.length) = some md.2.2.2.2.2.1)
def sr_okV (md : sr_MD) : Prop := sr_okY md ∧ Cond.instanceMethod md.2.1 ∈ lw_tbl ∧ Cond.selects md.2.1.cls md.2.1 md.2.1 ∈ lw_tbl ∧ md.1 < 6
def sr_okS (md : sr_MD) : Prop := sr_okY md ∧ Cond.static md.2.1 ∈ lw_tbl
def sr_okI (md : sr_MD) : Prop := sr_okY md ∧ Cond.instanceMethod md.2.1 ∈ lw_tbl ∧ md.2.1.name = "<init>" ∧ md.2.2.2.2.1 = none
theorem sr_y_X0_init : sr_okY mX0_init := ⟨List.mem_append_right _ (List.mem_of_getElem? (i := 59) (by decide +kernel)), List.mem_append_right _ (List.mem_of_getElem? (i := 4) (by decide +kernel)), rfl, by decide +kernel, by decide, by decide +kernel⟩
theorem sr_k_X0_init : sr_okI mX0_init := ⟨sr_y_X0_init, List.mem_append_right _ (List.mem_of_getElem? (i := 58) (by decide +kernel)), rfl, rfl⟩
theorem sr_y_X0_clear : sr_okY mX0_clear := ⟨List.mem_append_right _ (List.mem_of_getElem? (i := 290) (by decide +kernel)), List.mem_append_right _ (List.mem_of_getElem? (i := 4) (by decide +kernel)), rfl, by decide +kernel, by decide, by decide +kernel⟩
theorem sr_k_X0_clear : sr_okV mX0_clear := ⟨sr_y_X0_clear, List.mem_append_right _ (List.mem_of_getElem? (i := 288) (by decide +kernel)), List.mem_append_right _ (List.mem_of_getElem? (i := 289) (by decide +kernel)), by decide⟩
theorem sr_y_X0_addGuest : sr_okY mX0_addGuest := ⟨List.mem_append_right _ (List.mem_of_getElem? (i := 332) (by decide +kernel)), List.mem_append_right _ (List.mem_of_getElem? (i := 4) (by decide +kernel)), rfl, by decide +kernel, by decide, by decide +kernel⟩
theorem sr_k_X0_addGuest : sr_okV mX0_addGuest := ⟨sr_y_X0_addGuest, List.mem_append_right _ (List.mem_of_getElem? (i := 330) (by decide +kernel)), List.mem_append_right _ (List.mem_of_getElem? (i := 331) (by decide +kernel)), by decide⟩
theorem sr_y_X0_addThing : sr_okY mX0_addThing := ⟨List.mem_append_right _ (List.mem_of_getElem? (i := 319) (by decide +kernel)), List.mem_append_right _ (List.mem_of_getElem? (i := 4) (by decide +kernel)), rfl, by decide +kernel, by decide, by decide +kernel⟩
theorem sr_k_X0_addThing : sr_okV mX0_addThing := ⟨sr_y_X0_addThing, List.mem_append_right _ (List.mem_of_getElem? (i := 317) (by decide +kernel)), List.mem_append_right _ (List.mem_of_getElem? (i := 318) (by decide +kernel)), by decide⟩
theorem sr_y_X0_takeOver : sr_okY mX0_takeOver := ⟨List.mem_append_right _ (List.mem_of_getElem? (i := 340) (by decide +kernel)), List.mem_append_right _ (List.mem_of_getElem? (i := 4) (by decide +kernel)), rfl, by decide +kernel, by decide, by decide +kernel⟩
theorem sr_k_X0_takeOver : sr_okV mX0_takeOver := ⟨sr_y_X0_takeOver, List.mem_append_right _ (List.mem_of_getElem? (i := 338) (by decide +kernel)), List.mem_append_right _ (List.mem_of_getElem? (i := 339) (by decide +kernel)), by decide⟩
theorem sr_y_X0_lifeCount : sr_okY mX0_lifeCount := ⟨List.mem_append_right _ (List.mem_of_getElem? (i := 379) (by decide +kernel)), List.mem_append_right _ (List.mem_of_getElem? (i := 4) (by decide +kernel)), rfl, by decide +kernel, by decide, by decide +kernel⟩
theorem sr_k_X0_lifeCount : sr_okV mX0_lifeCount := ⟨sr_y_X0_lifeCount, List.mem_append_right _ (List.mem_of_getElem? (i := 377) (by decide +kernel)), List.mem_append_right _ (List.mem_of_getElem? (i := 378) (by decide +kernel)), by decide⟩
theorem sr_y_X0_isOfKind : sr_okY mX0_isOfKind := ⟨List.mem_append_right _ (List.mem_of_getElem? (i := 403) (by decide +kernel)), List.mem_append_right _ (List.mem_of_getElem? (i := 4) (by decide +kernel)), rfl, by decide +kernel, by decide, by decide +kernel⟩
theorem sr_k_X0_isOfKind : sr_okV mX0_isOfKind := ⟨sr_y_X0_isOfKind, List.mem_append_right _ (List.mem_of_getElem? (i := 401) (by decide +kernel)), List.mem_append_right _ (List.mem_of_getElem? (i := 402) (by decide +kernel)), by decide⟩
theorem sr_y_X0_soldiers : sr_okY mX0_soldiers := ⟨List.mem_append_right _ (List.mem_of_getElem? (i := 415) (by decide +kernel)), List.mem_append_right _ (List.mem_of_getElem? (i := 4) (by decide +kernel)), rfl, by decide +kernel, by decide, by decide +kernel⟩
theorem sr_k_X0_soldiers : sr_okV mX0_soldiers := ⟨sr_y_X0_soldiers, List.mem_append_right _ (List.mem_of_getElem? (i := 413) (by decide +kernel)), List.mem_append_right _ (List.mem_of_getElem? (i := 414) (by decide +kernel)), by decide⟩
theorem sr_y_X0_lifeHas : sr_okY mX0_lifeHas := ⟨List.mem_append_right _ (List.mem_of_getElem? (i := 428) (by decide +kernel)), List.mem_append_right _ (List.mem_of_getElem? (i := 4) (by decide +kernel)), rfl, by decide +kernel, by decide, by decide +kernel⟩
theorem sr_k_X0_lifeHas : sr_okV mX0_lifeHas := ⟨sr_y_X0_lifeHas, List.mem_append_right _ (List.mem_of_getElem? (i := 426) (by decide +kernel)), List.mem_append_right _ (List.mem_of_getElem? (i := 427) (by decide +kernel)), by decide⟩
theorem sr_y_X0_thingsOfLife : sr_okY mX0_thingsOfLife := ⟨List.mem_append_right _ (List.mem_of_getElem? (i := 424) (by decide +kernel)), List.mem_append_right _ (List.mem_of_getElem? (i := 4) (by decide +kernel)), rfl, by decide +kernel, by decide, by decide +kernel⟩
theorem sr_k_X0_thingsOfLife : sr_okV mX0_thingsOfLife := ⟨sr_y_X0_thingsOfLife, List.mem_append_right _ (List.mem_of_getElem? (i := 422) (by decide +kernel)), List.mem_append_right _ (List.mem_of_getElem? (i := 423) (by decide +kernel)), by decide⟩
theorem sr_y_X0_secondLifeAt : sr_okY mX0_secondLifeAt := ⟨List.mem_append_right _ (List.mem_of_getElem? (i := 375) (by decide +kernel)), List.mem_append_right _ (List.mem_of_getElem? (i := 4) (by decide +kernel)), rfl, by decide +kernel, by decide, by decide +kernel⟩
theorem sr_k_X0_secondLifeAt : sr_okV mX0_secondLifeAt := ⟨sr_y_X0_secondLifeAt, List.mem_append_right _ (List.mem_of_getElem? (i := 373) (by decide +kernel)), List.mem_append_right _ (List.mem_of_getElem? (i := 374) (by decide +kernel)), by decide⟩
theorem sr_y_X0_lastAsFirst : sr_okY mX0_lastAsFirst := ⟨List.mem_append_right _ (List.mem_of_getElem? (i := 383) (by decide +kernel)), List.mem_append_right _ (List.mem_of_getElem? (i := 4) (by decide +kernel)), rfl, by decide +kernel, by decide, by decide +kernel⟩
theorem sr_k_X0_lastAsFirst : sr_okV mX0_lastAsFirst := ⟨sr_y_X0_lastAsFirst, List.mem_append_right _ (List.mem_of_getElem? (i := 382) (by decide +kernel)), List.mem_append_left _ (List.mem_of_getElem? (i := 16) (by decide +kernel)), by decide⟩
theorem sr_y_X1_init : sr_okY mX1_init := ⟨List.mem_append_right _ (List.mem_of_getElem? (i := 99) (by decide +kernel)), List.mem_append_right _ (List.mem_of_getElem? (i := 5) (by decide +kernel)), rfl, by decide +kernel, by decide, by decide +kernel⟩
theorem sr_k_X1_init : sr_okI mX1_init := ⟨sr_y_X1_init, List.mem_append_right _ (List.mem_of_getElem? (i := 98) (by decide +kernel)), rfl, rfl⟩
theorem sr_y_X1_isForgotten : sr_okY mX1_isForgotten := ⟨List.mem_append_right _ (List.mem_of_getElem? (i := 478) (by decide +kernel)), List.mem_append_right _ (List.mem_of_getElem? (i := 5) (by decide +kernel)), rfl, by decide +kernel, by decide, by decide +kernel⟩
theorem sr_k_X1_isForgotten : sr_okV mX1_isForgotten := ⟨sr_y_X1_isForgotten, List.mem_append_right _ (List.mem_of_getElem? (i := 476) (by decide +kernel)), List.mem_append_right _ (List.mem_of_getElem? (i := 477) (by decide +kernel)), by decide⟩
theorem sr_y_X1_forget : sr_okY mX1_forget := ⟨List.mem_append_right _ (List.mem_of_getElem? (i := 355) (by decide +kernel)), List.mem_append_right _ (List.mem_of_getElem? (i := 5) (by decide +kernel)), rfl, by decide +kernel, by decide, by decide +kernel⟩
theorem sr_k_X1_forget : sr_okV mX1_forget := ⟨sr_y_X1_forget, List.mem_append_right _ (List.mem_of_getElem? (i := 353) (by decide +kernel)), List.mem_append_right _ (List.mem_of_getElem? (i := 354) (by decide +kernel)), by decide⟩
theorem sr_y_X1_begin : sr_okY mX1_begin := ⟨List.mem_append_right _ (List.mem_of_getElem? (i := 347) (by decide +kernel)), List.mem_append_right _ (List.mem_of_getElem? (i := 5) (by decide +kernel)), rfl, by decide +kernel, by decide, by decide +kernel⟩
theorem sr_k_X1_begin : sr_okV mX1_begin := ⟨sr_y_X1_begin, List.mem_append_right _ (List.mem_of_getElem? (i := 345) (by decide +kernel)), List.mem_append_right _ (List.mem_of_getElem? (i := 346) (by decide +kernel)), by decide⟩
theorem sr_y_X1_takeOver : sr_okY mX1_takeOver := ⟨List.mem_append_right _ (List.mem_of_getElem? (i := 469) (by decide +kernel)), List.mem_append_right _ (List.mem_of_getElem? (i := 5) (by decide +kernel)), rfl, by decide +kernel, by decide, by decide +kernel⟩
theorem sr_k_X1_takeOver : sr_okV mX1_takeOver := ⟨sr_y_X1_takeOver, List.mem_append_right _ (List.mem_of_getElem? (i := 467) (by decide +kernel)), List.mem_append_right _ (List.mem_of_getElem? (i := 468) (by decide +kernel)), by decide⟩
theorem sr_y_X1_roomOf : sr_okY mX1_roomOf := ⟨List.mem_append_right _ (List.mem_of_getElem? (i := 387) (by decide +kernel)), List.mem_append_right _ (List.mem_of_getElem? (i := 5) (by decide +kernel)), rfl, by decide +kernel, by decide, by decide +kernel⟩
theorem sr_k_X1_roomOf : sr_okV mX1_roomOf := ⟨sr_y_X1_roomOf, List.mem_append_right _ (List.mem_of_getElem? (i := 385) (by decide +kernel)), List.mem_append_right _ (List.mem_of_getElem? (i := 386) (by decide +kernel)), by decide⟩
theorem sr_y_X1_lockedOf : sr_okY mX1_lockedOf := ⟨List.mem_append_right _ (List.mem_of_getElem? (i := 391) (by decide +kernel)), List.mem_append_right _ (List.mem_of_getElem? (i := 5) (by decide +kernel)), rfl, by decide +kernel, by decide, by decide +kernel⟩
theorem sr_k_X1_lockedOf : sr_okV mX1_lockedOf := ⟨sr_y_X1_lockedOf, List.mem_append_right _ (List.mem_of_getElem? (i := 389) (by decide +kernel)), List.mem_append_right _ (List.mem_of_getElem? (i := 390) (by decide +kernel)), by decide⟩
theorem sr_y_X1_hoursOf : sr_okY mX1_hoursOf := ⟨List.mem_append_right _ (List.mem_of_getElem? (i := 395) (by decide +kernel)), List.mem_append_right _ (List.mem_of_getElem? (i := 5) (by decide +kernel)), rfl, by decide +kernel, by decide, by decide +kernel⟩
theorem sr_k_X1_hoursOf : sr_okV mX1_hoursOf := ⟨sr_y_X1_hoursOf, List.mem_append_right _ (List.mem_of_getElem? (i := 393) (by decide +kernel)), List.mem_append_right _ (List.mem_of_getElem? (i := 394) (by decide +kernel)), by decide⟩
theorem sr_y_X1_act : sr_okY mX1_act := ⟨List.mem_append_right _ (List.mem_of_getElem? (i := 440) (by decide +kernel)), List.mem_append_right _ (List.mem_of_getElem? (i := 5) (by decide +kernel)), rfl, by decide +kernel, by decide, by decide +kernel⟩
theorem sr_k_X1_act : sr_okV mX1_act := ⟨sr_y_X1_act, List.mem_append_right _ (List.mem_of_getElem? (i := 438) (by decide +kernel)), List.mem_append_right _ (List.mem_of_getElem? (i := 439) (by decide +kernel)), by decide⟩
theorem sr_y_X1_takeBackFrom : sr_okY mX1_takeBackFrom := ⟨List.mem_append_right _ (List.mem_of_getElem? (i := 461) (by decide +kernel)), List.mem_append_right _ (List.mem_of_getElem? (i := 5) (by decide +kernel)), rfl, by decide +kernel, by decide, by decide +kernel⟩
theorem sr_k_X1_takeBackFrom : sr_okV mX1_takeBackFrom := ⟨sr_y_X1_takeBackFrom, List.mem_append_right _ (List.mem_of_getElem? (i := 459) (by decide +kernel)), List.mem_append_right _ (List.mem_of_getElem? (i := 460) (by decide +kernel)), by decide⟩
theorem sr_y_X1_carryOut : sr_okY mX1_carryOut := ⟨List.mem_append_right _ (List.mem_of_getElem? (i := 444) (by decide +kernel)), List.mem_append_right _ (List.mem_of_getElem? (i := 5) (by decide +kernel)), rfl, by decide +kernel, by decide, by decide +kernel⟩
theorem sr_k_X1_carryOut : sr_okV mX1_carryOut := ⟨sr_y_X1_carryOut, List.mem_append_right _ (List.mem_of_getElem? (i := 443) (by decide +kernel)), List.mem_append_left _ (List.mem_of_getElem? (i := 18) (by decide +kernel)), by decide⟩
theorem sr_y_X2_init : sr_okY mX2_init := ⟨List.mem_append_right _ (List.mem_of_getElem? (i := 40) (by decide +kernel)), List.mem_append_right _ (List.mem_of_getElem? (i := 3) (by decide +kernel)), rfl, by decide +kernel, by decide, by decide +kernel⟩
theorem sr_k_X2_init : sr_okI mX2_init := ⟨sr_y_X2_init, List.mem_append_right _ (List.mem_of_getElem? (i := 39) (by decide +kernel)), rfl, rfl⟩
theorem sr_y_X2_read : sr_okY mX2_read := ⟨List.mem_append_right _ (List.mem_of_getElem? (i := 285) (by decide +kernel)), List.mem_append_right _ (List.mem_of_getElem? (i := 3) (by decide +kernel)), rfl, by decide +kernel, by decide, by decide +kernel⟩
theorem sr_k_X2_read : sr_okV mX2_read := ⟨sr_y_X2_read, List.mem_append_right _ (List.mem_of_getElem? (i := 283) (by decide +kernel)), List.mem_append_right _ (List.mem_of_getElem? (i := 284) (by decide +kernel)), by decide⟩
theorem sr_y_X2_here : sr_okY mX2_here := ⟨List.mem_append_right _ (List.mem_of_getElem? (i := 298) (by decide +kernel)), List.mem_append_right _ (List.mem_of_getElem? (i := 3) (by decide +kernel)), rfl, by decide +kernel, by decide, by decide +kernel⟩
theorem sr_k_X2_here : sr_okV mX2_here := ⟨sr_y_X2_here, List.mem_append_right _ (List.mem_of_getElem? (i := 297) (by decide +kernel)), List.mem_append_left _ (List.mem_of_getElem? (i := 6) (by decide +kernel)), by decide⟩
theorem sr_y_X2_skipBlanks : sr_okY mX2_skipBlanks := ⟨List.mem_append_right _ (List.mem_of_getElem? (i := 294) (by decide +kernel)), List.mem_append_right _ (List.mem_of_getElem? (i := 3) (by decide +kernel)), rfl, by decide +kernel, by decide, by decide +kernel⟩
theorem sr_k_X2_skipBlanks : sr_okV mX2_skipBlanks := ⟨sr_y_X2_skipBlanks, List.mem_append_right _ (List.mem_of_getElem? (i := 293) (by decide +kernel)), List.mem_append_left _ (List.mem_of_getElem? (i := 5) (by decide +kernel)), by decide⟩
theorem sr_y_X2_figure : sr_okY mX2_figure := ⟨List.mem_append_right _ (List.mem_of_getElem? (i := 307) (by decide +kernel)), List.mem_append_right _ (List.mem_of_getElem? (i := 3) (by decide +kernel)), rfl, by decide +kernel, by decide, by decide +kernel⟩
theorem sr_k_X2_figure : sr_okV mX2_figure := ⟨sr_y_X2_figure, List.mem_append_right _ (List.mem_of_getElem? (i := 306) (by decide +kernel)), List.mem_append_left _ (List.mem_of_getElem? (i := 8) (by decide +kernel)), by decide⟩
theorem sr_y_X2_readTurns : sr_okY mX2_readTurns := ⟨List.mem_append_right _ (List.mem_of_getElem? (i := 303) (by decide +kernel)), List.mem_append_right _ (List.mem_of_getElem? (i := 3) (by decide +kernel)), rfl, by decide +kernel, by decide, by decide +kernel⟩
theorem sr_k_X2_readTurns : sr_okV mX2_readTurns := ⟨sr_y_X2_readTurns, List.mem_append_right _ (List.mem_of_getElem? (i := 302) (by decide +kernel)), List.mem_append_left _ (List.mem_of_getElem? (i := 7) (by decide +kernel)), by decide⟩
theorem sr_y_X2_readItem : sr_okY mX2_readItem := ⟨List.mem_append_right _ (List.mem_of_getElem? (i := 311) (by decide +kernel)), List.mem_append_right _ (List.mem_of_getElem? (i := 3) (by decide +kernel)), rfl, by decide +kernel, by decide, by decide +kernel⟩
theorem sr_k_X2_readItem : sr_okV mX2_readItem := ⟨sr_y_X2_readItem, List.mem_append_right _ (List.mem_of_getElem? (i := 310) (by decide +kernel)), List.mem_append_left _ (List.mem_of_getElem? (i := 9) (by decide +kernel)), by decide⟩
theorem sr_y_X2_readGuest : sr_okY mX2_readGuest := ⟨List.mem_append_right _ (List.mem_of_getElem? (i := 323) (by decide +kernel)), List.mem_append_right _ (List.mem_of_getElem? (i := 3) (by decide +kernel)), rfl, by decide +kernel, by decide, by decide +kernel⟩
theorem sr_k_X2_readGuest : sr_okV mX2_readGuest := ⟨sr_y_X2_readGuest, List.mem_append_right _ (List.mem_of_getElem? (i := 322) (by decide +kernel)), List.mem_append_left _ (List.mem_of_getElem? (i := 11) (by decide +kernel)), by decide⟩
theorem sr_y_X2_readThing : sr_okY mX2_readThing := ⟨List.mem_append_right _ (List.mem_of_getElem? (i := 315) (by decide +kernel)), List.mem_append_right _ (List.mem_of_getElem? (i := 3) (by decide +kernel)), rfl, by decide +kernel, by decide, by decide +kernel⟩
theorem sr_k_X2_readThing : sr_okV mX2_readThing := ⟨sr_y_X2_readThing, List.mem_append_right _ (List.mem_of_getElem? (i := 314) (by decide +kernel)), List.mem_append_left _ (List.mem_of_getElem? (i := 10) (by decide +kernel)), by decide⟩
theorem sr_y_X2_kindByLetter : sr_okY mX2_kindByLetter := ⟨List.mem_append_right _ (List.mem_of_getElem? (i := 326) (by decide +kernel)), List.mem_append_right _ (List.mem_of_getElem? (i := 3) (by decide +kernel)), rfl, by decide +kernel, by decide, by decide +kernel⟩
theorem sr_k_X2_kindByLetter : sr_okS mX2_kindByLetter := ⟨sr_y_X2_kindByLetter, List.mem_append_right _ (List.mem_of_getElem? (i := 325) (by decide +kernel))⟩
theorem sr_y_X3_init : sr_okY mX3_init := ⟨List.mem_append_right _ (List.mem_of_getElem? (i := 22) (by decide +kernel)), List.mem_append_right _ (List.mem_of_getElem? (i := 2) (by decide +kernel)), rfl, by decide +kernel, by decide, by decide +kernel⟩
theorem sr_k_X3_init : sr_okI mX3_init := ⟨sr_y_X3_init, List.mem_append_right _ (List.mem_of_getElem? (i := 21) (by decide +kernel)), rfl, rfl⟩
theorem sr_y_X3_isNumber : sr_okY mX3_isNumber := ⟨List.mem_append_right _ (List.mem_of_getElem? (i := 188) (by decide +kernel)), List.mem_append_right _ (List.mem_of_getElem? (i := 2) (by decide +kernel)), rfl, by decide +kernel, by decide, by decide +kernel⟩
theorem sr_k_X3_isNumber : sr_okV mX3_isNumber := ⟨sr_y_X3_isNumber, List.mem_append_right _ (List.mem_of_getElem? (i := 186) (by decide +kernel)), List.mem_append_right _ (List.mem_of_getElem? (i := 187) (by decide +kernel)), by decide⟩
theorem sr_y_X3_isMissing : sr_okY mX3_isMissing := ⟨List.mem_append_right _ (List.mem_of_getElem? (i := 216) (by decide +kernel)), List.mem_append_right _ (List.mem_of_getElem? (i := 2) (by decide +kernel)), rfl, by decide +kernel, by decide, by decide +kernel⟩
theorem sr_k_X3_isMissing : sr_okV mX3_isMissing := ⟨sr_y_X3_isMissing, List.mem_append_right _ (List.mem_of_getElem? (i := 214) (by decide +kernel)), List.mem_append_right _ (List.mem_of_getElem? (i := 215) (by decide +kernel)), by decide⟩
theorem sr_y_X3_isPlace : sr_okY mX3_isPlace := ⟨List.mem_append_right _ (List.mem_of_getElem? (i := 220) (by decide +kernel)), List.mem_append_right _ (List.mem_of_getElem? (i := 2) (by decide +kernel)), rfl, by decide +kernel, by decide, by decide +kernel⟩
theorem sr_k_X3_isPlace : sr_okV mX3_isPlace := ⟨sr_y_X3_isPlace, List.mem_append_right _ (List.mem_of_getElem? (i := 218) (by decide +kernel)), List.mem_append_right _ (List.mem_of_getElem? (i := 219) (by decide +kernel)), by decide⟩
theorem sr_y_X3_arePlaces : sr_okY mX3_arePlaces := ⟨List.mem_append_right _ (List.mem_of_getElem? (i := 249) (by decide +kernel)), List.mem_append_right _ (List.mem_of_getElem? (i := 2) (by decide +kernel)), rfl, by decide +kernel, by decide, by decide +kernel⟩
theorem sr_k_X3_arePlaces : sr_okV mX3_arePlaces := ⟨sr_y_X3_arePlaces, List.mem_append_right _ (List.mem_of_getElem? (i := 247) (by decide +kernel)), List.mem_append_right _ (List.mem_of_getElem? (i := 248) (by decide +kernel)), by decide⟩
theorem sr_y_X3_sizeOf : sr_okY mX3_sizeOf := ⟨List.mem_append_right _ (List.mem_of_getElem? (i := 264) (by decide +kernel)), List.mem_append_right _ (List.mem_of_getElem? (i := 2) (by decide +kernel)), rfl, by decide +kernel, by decide, by decide +kernel⟩
theorem sr_k_X3_sizeOf : sr_okV mX3_sizeOf := ⟨sr_y_X3_sizeOf, List.mem_append_right _ (List.mem_of_getElem? (i := 262) (by decide +kernel)), List.mem_append_right _ (List.mem_of_getElem? (i := 263) (by decide +kernel)), by decide⟩
theorem sr_y_X3_placeOf : sr_okY mX3_placeOf := ⟨List.mem_append_right _ (List.mem_of_getElem? (i := 224) (by decide +kernel)), List.mem_append_right _ (List.mem_of_getElem? (i := 2) (by decide +kernel)), rfl, by decide +kernel, by decide, by decide +kernel⟩
theorem sr_k_X3_placeOf : sr_okV mX3_placeOf := ⟨sr_y_X3_placeOf, List.mem_append_right _ (List.mem_of_getElem? (i := 222) (by decide +kernel)), List.mem_append_right _ (List.mem_of_getElem? (i := 223) (by decide +kernel)), by decide⟩
theorem sr_y_X3_setPlace : sr_okY mX3_setPlace := ⟨List.mem_append_right _ (List.mem_of_getElem? (i := 200) (by decide +kernel)), List.mem_append_right _ (List.mem_of_getElem? (i := 2) (by decide +kernel)), rfl, by decide +kernel, by decide, by decide +kernel⟩
theorem sr_k_X3_setPlace : sr_okV mX3_setPlace := ⟨sr_y_X3_setPlace, List.mem_append_right _ (List.mem_of_getElem? (i := 198) (by decide +kernel)), List.mem_append_right _ (List.mem_of_getElem? (i := 199) (by decide +kernel)), by decide⟩
theorem sr_y_X3_make : sr_okY mX3_make := ⟨List.mem_append_right _ (List.mem_of_getElem? (i := 196) (by decide +kernel)), List.mem_append_right _ (List.mem_of_getElem? (i := 2) (by decide +kernel)), rfl, by decide +kernel, by decide, by decide +kernel⟩
theorem sr_k_X3_make : sr_okV mX3_make := ⟨sr_y_X3_make, List.mem_append_right _ (List.mem_of_getElem? (i := 194) (by decide +kernel)), List.mem_append_right _ (List.mem_of_getElem? (i := 195) (by decide +kernel)), by decide⟩
theorem sr_y_X3_remove : sr_okY mX3_remove := ⟨List.mem_append_right _ (List.mem_of_getElem? (i := 241) (by decide +kernel)), List.mem_append_right _ (List.mem_of_getElem? (i := 2) (by decide +kernel)), rfl, by decide +kernel, by decide, by decide +kernel⟩
theorem sr_k_X3_remove : sr_okV mX3_remove := ⟨sr_y_X3_remove, List.mem_append_right _ (List.mem_of_getElem? (i := 239) (by decide +kernel)), List.mem_append_right _ (List.mem_of_getElem? (i := 240) (by decide +kernel)), by decide⟩
theorem sr_y_X3_copyPlaces : sr_okY mX3_copyPlaces := ⟨List.mem_append_right _ (List.mem_of_getElem? (i := 253) (by decide +kernel)), List.mem_append_right _ (List.mem_of_getElem? (i := 2) (by decide +kernel)), rfl, by decide +kernel, by decide, by decide +kernel⟩
theorem sr_k_X3_copyPlaces : sr_okV mX3_copyPlaces := ⟨sr_y_X3_copyPlaces, List.mem_append_right _ (List.mem_of_getElem? (i := 251) (by decide +kernel)), List.mem_append_right _ (List.mem_of_getElem? (i := 252) (by decide +kernel)), by decide⟩
theorem sr_y_X3_sumOf : sr_okY mX3_sumOf := ⟨List.mem_append_right _ (List.mem_of_getElem? (i := 268) (by decide +kernel)), List.mem_append_right _ (List.mem_of_getElem? (i := 2) (by decide +kernel)), rfl, by decide +kernel, by decide, by decide +kernel⟩
theorem sr_k_X3_sumOf : sr_okV mX3_sumOf := ⟨sr_y_X3_sumOf, List.mem_append_right _ (List.mem_of_getElem? (i := 266) (by decide +kernel)), List.mem_append_right _ (List.mem_of_getElem? (i := 267) (by decide +kernel)), by decide⟩
theorem sr_y_X3_thereCount : sr_okY mX3_thereCount := ⟨List.mem_append_right _ (List.mem_of_getElem? (i := 648) (by decide +kernel)), List.mem_append_right _ (List.mem_of_getElem? (i := 2) (by decide +kernel)), rfl, by decide +kernel, by decide, by decide +kernel⟩
theorem sr_k_X3_thereCount : sr_okV mX3_thereCount := ⟨sr_y_X3_thereCount, List.mem_append_right _ (List.mem_of_getElem? (i := 646) (by decide +kernel)), List.mem_append_right _ (List.mem_of_getElem? (i := 647) (by decide +kernel)), by decide⟩
theorem sr_y_X3_digestFrom : sr_okY mX3_digestFrom := ⟨List.mem_append_right _ (List.mem_of_getElem? (i := 676) (by decide +kernel)), List.mem_append_right _ (List.mem_of_getElem? (i := 2) (by decide +kernel)), rfl, by decide +kernel, by decide, by decide +kernel⟩
theorem sr_k_X3_digestFrom : sr_okV mX3_digestFrom := ⟨sr_y_X3_digestFrom, List.mem_append_right _ (List.mem_of_getElem? (i := 674) (by decide +kernel)), List.mem_append_right _ (List.mem_of_getElem? (i := 675) (by decide +kernel)), by decide⟩
theorem sr_y_X4_init : sr_okY mX4_init := ⟨List.mem_append_right _ (List.mem_of_getElem? (i := 14) (by decide +kernel)), List.mem_append_right _ (List.mem_of_getElem? (i := 1) (by decide +kernel)), rfl, by decide +kernel, by decide, by decide +kernel⟩
theorem sr_k_X4_init : sr_okI mX4_init := ⟨sr_y_X4_init, List.mem_append_right _ (List.mem_of_getElem? (i := 13) (by decide +kernel)), rfl, rfl⟩
theorem sr_y_X4_row : sr_okY mX4_row := ⟨List.mem_append_right _ (List.mem_of_getElem? (i := 180) (by decide +kernel)), List.mem_append_right _ (List.mem_of_getElem? (i := 1) (by decide +kernel)), rfl, by decide +kernel, by decide, by decide +kernel⟩
theorem sr_k_X4_row : sr_okV mX4_row := ⟨sr_y_X4_row, List.mem_append_right _ (List.mem_of_getElem? (i := 178) (by decide +kernel)), List.mem_append_right _ (List.mem_of_getElem? (i := 179) (by decide +kernel)), by decide⟩
theorem sr_y_X4_lay : sr_okY mX4_lay := ⟨List.mem_append_right _ (List.mem_of_getElem? (i := 204) (by decide +kernel)), List.mem_append_right _ (List.mem_of_getElem? (i := 1) (by decide +kernel)), rfl, by decide +kernel, by decide, by decide +kernel⟩
theorem sr_k_X4_lay : sr_okV mX4_lay := ⟨sr_y_X4_lay, List.mem_append_right _ (List.mem_of_getElem? (i := 202) (by decide +kernel)), List.mem_append_right _ (List.mem_of_getElem? (i := 203) (by decide +kernel)), by decide⟩
theorem sr_y_X4_at : sr_okY mX4_at := ⟨List.mem_append_right _ (List.mem_of_getElem? (i := 233) (by decide +kernel)), List.mem_append_right _ (List.mem_of_getElem? (i := 1) (by decide +kernel)), rfl, by decide +kernel, by decide, by decide +kernel⟩
theorem sr_k_X4_at : sr_okV mX4_at := ⟨sr_y_X4_at, List.mem_append_right _ (List.mem_of_getElem? (i := 231) (by decide +kernel)), List.mem_append_right _ (List.mem_of_getElem? (i := 232) (by decide +kernel)), by decide⟩
theorem sr_y_X4_tear : sr_okY mX4_tear := ⟨List.mem_append_right _ (List.mem_of_getElem? (i := 237) (by decide +kernel)), List.mem_append_right _ (List.mem_of_getElem? (i := 1) (by decide +kernel)), rfl, by decide +kernel, by decide, by decide +kernel⟩
theorem sr_k_X4_tear : sr_okV mX4_tear := ⟨sr_y_X4_tear, List.mem_append_right _ (List.mem_of_getElem? (i := 235) (by decide +kernel)), List.mem_append_right _ (List.mem_of_getElem? (i := 236) (by decide +kernel)), by decide⟩
theorem sr_y_X4_copy : sr_okY mX4_copy := ⟨List.mem_append_right _ (List.mem_of_getElem? (i := 245) (by decide +kernel)), List.mem_append_right _ (List.mem_of_getElem? (i := 1) (by decide +kernel)), rfl, by decide +kernel, by decide, by decide +kernel⟩
theorem sr_k_X4_copy : sr_okV mX4_copy := ⟨sr_y_X4_copy, List.mem_append_right _ (List.mem_of_getElem? (i := 243) (by decide +kernel)), List.mem_append_right _ (List.mem_of_getElem? (i := 244) (by decide +kernel)), by decide⟩
theorem sr_y_X4_mean : sr_okY mX4_mean := ⟨List.mem_append_right _ (List.mem_of_getElem? (i := 260) (by decide +kernel)), List.mem_append_right _ (List.mem_of_getElem? (i := 1) (by decide +kernel)), rfl, by decide +kernel, by decide, by decide +kernel⟩
theorem sr_k_X4_mean : sr_okV mX4_mean := ⟨sr_y_X4_mean, List.mem_append_right _ (List.mem_of_getElem? (i := 258) (by decide +kernel)), List.mem_append_right _ (List.mem_of_getElem? (i := 259) (by decide +kernel)), by decide⟩
theorem sr_y_X4_text : sr_okY mX4_text := ⟨List.mem_append_right _ (List.mem_of_getElem? (i := 273) (by decide +kernel)), List.mem_append_right _ (List.mem_of_getElem? (i := 1) (by decide +kernel)), rfl, by decide +kernel, by decide, by decide +kernel⟩
theorem sr_k_X4_text : sr_okV mX4_text := ⟨sr_y_X4_text, List.mem_append_right _ (List.mem_of_getElem? (i := 271) (by decide +kernel)), List.mem_append_right _ (List.mem_of_getElem? (i := 272) (by decide +kernel)), by decide⟩
theorem sr_y_X4_put : sr_okY mX4_put := ⟨List.mem_append_right _ (List.mem_of_getElem? (i := 277) (by decide +kernel)), List.mem_append_right _ (List.mem_of_getElem? (i := 1) (by decide +kernel)), rfl, by decide +kernel, by decide, by decide +kernel⟩
theorem sr_k_X4_put : sr_okV mX4_put := ⟨sr_y_X4_put, List.mem_append_right _ (List.mem_of_getElem? (i := 275) (by decide +kernel)), List.mem_append_right _ (List.mem_of_getElem? (i := 276) (by decide +kernel)), by decide⟩
theorem sr_y_X4_fault : sr_okY mX4_fault := ⟨List.mem_append_right _ (List.mem_of_getElem? (i := 281) (by decide +kernel)), List.mem_append_right _ (List.mem_of_getElem? (i := 1) (by decide +kernel)), rfl, by decide +kernel, by decide, by decide +kernel⟩
theorem sr_k_X4_fault : sr_okV mX4_fault := ⟨sr_y_X4_fault, List.mem_append_right _ (List.mem_of_getElem? (i := 279) (by decide +kernel)), List.mem_append_right _ (List.mem_of_getElem? (i := 280) (by decide +kernel)), by decide⟩
theorem sr_y_X4_hotel : sr_okY mX4_hotel := ⟨List.mem_append_right _ (List.mem_of_getElem? (i := 336) (by decide +kernel)), List.mem_append_right _ (List.mem_of_getElem? (i := 1) (by decide +kernel)), rfl, by decide +kernel, by decide, by decide +kernel⟩
theorem sr_k_X4_hotel : sr_okV mX4_hotel := ⟨sr_y_X4_hotel, List.mem_append_right _ (List.mem_of_getElem? (i := 334) (by decide +kernel)), List.mem_append_right _ (List.mem_of_getElem? (i := 335) (by decide +kernel)), by decide⟩
theorem sr_y_X4_guest : sr_okY mX4_guest := ⟨List.mem_append_right _ (List.mem_of_getElem? (i := 359) (by decide +kernel)), List.mem_append_right _ (List.mem_of_getElem? (i := 1) (by decide +kernel)), rfl, by decide +kernel, by decide, by decide +kernel⟩
theorem sr_k_X4_guest : sr_okV mX4_guest := ⟨sr_y_X4_guest, List.mem_append_right _ (List.mem_of_getElem? (i := 357) (by decide +kernel)), List.mem_append_right _ (List.mem_of_getElem? (i := 358) (by decide +kernel)), by decide⟩
theorem sr_y_X4_mark : sr_okY mX4_mark := ⟨List.mem_append_right _ (List.mem_of_getElem? (i := 399) (by decide +kernel)), List.mem_append_right _ (List.mem_of_getElem? (i := 1) (by decide +kernel)), rfl, by decide +kernel, by decide, by decide +kernel⟩
theorem sr_k_X4_mark : sr_okV mX4_mark := ⟨sr_y_X4_mark, List.mem_append_right _ (List.mem_of_getElem? (i := 397) (by decide +kernel)), List.mem_append_right _ (List.mem_of_getElem? (i := 398) (by decide +kernel)), by decide⟩
theorem sr_y_X4_turn : sr_okY mX4_turn := ⟨List.mem_append_right _ (List.mem_of_getElem? (i := 432) (by decide +kernel)), List.mem_append_right _ (List.mem_of_getElem? (i := 1) (by decide +kernel)), rfl, by decide +kernel, by decide, by decide +kernel⟩
theorem sr_k_X4_turn : sr_okV mX4_turn := ⟨sr_y_X4_turn, List.mem_append_right _ (List.mem_of_getElem? (i := 430) (by decide +kernel)), List.mem_append_right _ (List.mem_of_getElem? (i := 431) (by decide +kernel)), by decide⟩
theorem sr_y_X4_change : sr_okY mX4_change := ⟨List.mem_append_right _ (List.mem_of_getElem? (i := 436) (by decide +kernel)), List.mem_append_right _ (List.mem_of_getElem? (i := 1) (by decide +kernel)), rfl, by decide +kernel, by decide, by decide +kernel⟩
theorem sr_k_X4_change : sr_okV mX4_change := ⟨sr_y_X4_change, List.mem_append_right _ (List.mem_of_getElem? (i := 434) (by decide +kernel)), List.mem_append_right _ (List.mem_of_getElem? (i := 435) (by decide +kernel)), by decide⟩
theorem sr_y_X4_lock : sr_okY mX4_lock := ⟨List.mem_append_right _ (List.mem_of_getElem? (i := 449) (by decide +kernel)), List.mem_append_right _ (List.mem_of_getElem? (i := 1) (by decide +kernel)), rfl, by decide +kernel, by decide, by decide +kernel⟩
theorem sr_k_X4_lock : sr_okV mX4_lock := ⟨sr_y_X4_lock, List.mem_append_right _ (List.mem_of_getElem? (i := 447) (by decide +kernel)), List.mem_append_right _ (List.mem_of_getElem? (i := 448) (by decide +kernel)), by decide⟩
theorem sr_y_X4_use : sr_okY mX4_use := ⟨List.mem_append_right _ (List.mem_of_getElem? (i := 453) (by decide +kernel)), List.mem_append_right _ (List.mem_of_getElem? (i := 1) (by decide +kernel)), rfl, by decide +kernel, by decide, by decide +kernel⟩
theorem sr_k_X4_use : sr_okV mX4_use := ⟨sr_y_X4_use, List.mem_append_right _ (List.mem_of_getElem? (i := 451) (by decide +kernel)), List.mem_append_right _ (List.mem_of_getElem? (i := 452) (by decide +kernel)), by decide⟩
theorem sr_y_X4_undo : sr_okY mX4_undo := ⟨List.mem_append_right _ (List.mem_of_getElem? (i := 457) (by decide +kernel)), List.mem_append_right _ (List.mem_of_getElem? (i := 1) (by decide +kernel)), rfl, by decide +kernel, by decide, by decide +kernel⟩
theorem sr_k_X4_undo : sr_okV mX4_undo := ⟨sr_y_X4_undo, List.mem_append_right _ (List.mem_of_getElem? (i := 455) (by decide +kernel)), List.mem_append_right _ (List.mem_of_getElem? (i := 456) (by decide +kernel)), by decide⟩
theorem sr_y_X4_keep : sr_okY mX4_keep := ⟨List.mem_append_right _ (List.mem_of_getElem? (i := 465) (by decide +kernel)), List.mem_append_right _ (List.mem_of_getElem? (i := 1) (by decide +kernel)), rfl, by decide +kernel, by decide, by decide +kernel⟩
theorem sr_k_X4_keep : sr_okV mX4_keep := ⟨sr_y_X4_keep, List.mem_append_right _ (List.mem_of_getElem? (i := 463) (by decide +kernel)), List.mem_append_right _ (List.mem_of_getElem? (i := 464) (by decide +kernel)), by decide⟩
theorem sr_y_X4_on : sr_okY mX4_on := ⟨List.mem_append_right _ (List.mem_of_getElem? (i := 474) (by decide +kernel)), List.mem_append_right _ (List.mem_of_getElem? (i := 1) (by decide +kernel)), rfl, by decide +kernel, by decide, by decide +kernel⟩
theorem sr_k_X4_on : sr_okV mX4_on := ⟨sr_y_X4_on, List.mem_append_right _ (List.mem_of_getElem? (i := 472) (by decide +kernel)), List.mem_append_right _ (List.mem_of_getElem? (i := 473) (by decide +kernel)), by decide⟩
theorem sr_y_X4_things : sr_okY mX4_things := ⟨List.mem_append_right _ (List.mem_of_getElem? (i := 482) (by decide +kernel)), List.mem_append_right _ (List.mem_of_getElem? (i := 1) (by decide +kernel)), rfl, by decide +kernel, by decide, by decide +kernel⟩
theorem sr_k_X4_things : sr_okV mX4_things := ⟨sr_y_X4_things, List.mem_append_right _ (List.mem_of_getElem? (i := 480) (by decide +kernel)), List.mem_append_right _ (List.mem_of_getElem? (i := 481) (by decide +kernel)), by decide⟩
theorem sr_y_X4_both : sr_okY mX4_both := ⟨List.mem_append_right _ (List.mem_of_getElem? (i := 486) (by decide +kernel)), List.mem_append_right _ (List.mem_of_getElem? (i := 1) (by decide +kernel)), rfl, by decide +kernel, by decide, by decide +kernel⟩
theorem sr_k_X4_both : sr_okV mX4_both := ⟨sr_y_X4_both, List.mem_append_right _ (List.mem_of_getElem? (i := 484) (by decide +kernel)), List.mem_append_right _ (List.mem_of_getElem? (i := 485) (by decide +kernel)), by decide⟩
theorem sr_y_X4_apart : sr_okY mX4_apart := ⟨List.mem_append_right _ (List.mem_of_getElem? (i := 490) (by decide +kernel)), List.mem_append_right _ (List.mem_of_getElem? (i := 1) (by decide +kernel)), rfl, by decide +kernel, by decide, by decide +kernel⟩
theorem sr_k_X4_apart : sr_okV mX4_apart := ⟨sr_y_X4_apart, List.mem_append_right _ (List.mem_of_getElem? (i := 488) (by decide +kernel)), List.mem_append_right _ (List.mem_of_getElem? (i := 489) (by decide +kernel)), by decide⟩
theorem sr_y_X4_has : sr_okY mX4_has := ⟨List.mem_append_right _ (List.mem_of_getElem? (i := 497) (by decide +kernel)), List.mem_append_right _ (List.mem_of_getElem? (i := 1) (by decide +kernel)), rfl, by decide +kernel, by decide, by decide +kernel⟩
theorem sr_k_X4_has : sr_okV mX4_has := ⟨sr_y_X4_has, List.mem_append_right _ (List.mem_of_getElem? (i := 495) (by decide +kernel)), List.mem_append_right _ (List.mem_of_getElem? (i := 496) (by decide +kernel)), by decide⟩
theorem sr_y_X4_fits : sr_okY mX4_fits := ⟨List.mem_append_right _ (List.mem_of_getElem? (i := 502) (by decide +kernel)), List.mem_append_right _ (List.mem_of_getElem? (i := 1) (by decide +kernel)), rfl, by decide +kernel, by decide, by decide +kernel⟩
theorem sr_k_X4_fits : sr_okV mX4_fits := ⟨sr_y_X4_fits, List.mem_append_right _ (List.mem_of_getElem? (i := 500) (by decide +kernel)), List.mem_append_right _ (List.mem_of_getElem? (i := 501) (by decide +kernel)), by decide⟩
theorem sr_y_X4_looks : sr_okY mX4_looks := ⟨List.mem_append_right _ (List.mem_of_getElem? (i := 514) (by decide +kernel)), List.mem_append_right _ (List.mem_of_getElem? (i := 1) (by decide +kernel)), rfl, by decide +kernel, by decide, by decide +kernel⟩
theorem sr_k_X4_looks : sr_okV mX4_looks := ⟨sr_y_X4_looks, List.mem_append_right _ (List.mem_of_getElem? (i := 512) (by decide +kernel)), List.mem_append_right _ (List.mem_of_getElem? (i := 513) (by decide +kernel)), by decide⟩
theorem sr_y_X4_drawer : sr_okY mX4_drawer := ⟨List.mem_append_right _ (List.mem_of_getElem? (i := 530) (by decide +kernel)), List.mem_append_right _ (List.mem_of_getElem? (i := 1) (by decide +kernel)), rfl, by decide +kernel, by decide, by decide +kernel⟩
theorem sr_k_X4_drawer : sr_okV mX4_drawer := ⟨sr_y_X4_drawer, List.mem_append_right _ (List.mem_of_getElem? (i := 528) (by decide +kernel)), List.mem_append_right _ (List.mem_of_getElem? (i := 529) (by decide +kernel)), by decide⟩
theorem sr_y_X4_lives : sr_okY mX4_lives := ⟨List.mem_append_right _ (List.mem_of_getElem? (i := 542) (by decide +kernel)), List.mem_append_right _ (List.mem_of_getElem? (i := 1) (by decide +kernel)), rfl, by decide +kernel, by decide, by decide +kernel⟩
theorem sr_k_X4_lives : sr_okV mX4_lives := ⟨sr_y_X4_lives, List.mem_append_right _ (List.mem_of_getElem? (i := 540) (by decide +kernel)), List.mem_append_right _ (List.mem_of_getElem? (i := 541) (by decide +kernel)), by decide⟩
theorem sr_y_X4_nearest : sr_okY mX4_nearest := ⟨List.mem_append_right _ (List.mem_of_getElem? (i := 546) (by decide +kernel)), List.mem_append_right _ (List.mem_of_getElem? (i := 1) (by decide +kernel)), rfl, by decide +kernel, by decide, by decide +kernel⟩
theorem sr_k_X4_nearest : sr_okV mX4_nearest := ⟨sr_y_X4_nearest, List.mem_append_right _ (List.mem_of_getElem? (i := 544) (by decide +kernel)), List.mem_append_right _ (List.mem_of_getElem? (i := 545) (by decide +kernel)), by decide⟩
theorem sr_y_X4_twins : sr_okY mX4_twins := ⟨List.mem_append_right _ (List.mem_of_getElem? (i := 554) (by decide +kernel)), List.mem_append_right _ (List.mem_of_getElem? (i := 1) (by decide +kernel)), rfl, by decide +kernel, by decide, by decide +kernel⟩
theorem sr_k_X4_twins : sr_okV mX4_twins := ⟨sr_y_X4_twins, List.mem_append_right _ (List.mem_of_getElem? (i := 552) (by decide +kernel)), List.mem_append_right _ (List.mem_of_getElem? (i := 553) (by decide +kernel)), by decide⟩
theorem sr_y_X4_pairs : sr_okY mX4_pairs := ⟨List.mem_append_right _ (List.mem_of_getElem? (i := 562) (by decide +kernel)), List.mem_append_right _ (List.mem_of_getElem? (i := 1) (by decide +kernel)), rfl, by decide +kernel, by decide, by decide +kernel⟩
theorem sr_k_X4_pairs : sr_okV mX4_pairs := ⟨sr_y_X4_pairs, List.mem_append_right _ (List.mem_of_getElem? (i := 560) (by decide +kernel)), List.mem_append_right _ (List.mem_of_getElem? (i := 561) (by decide +kernel)), by decide⟩
theorem sr_y_X4_ring : sr_okY mX4_ring := ⟨List.mem_append_right _ (List.mem_of_getElem? (i := 566) (by decide +kernel)), List.mem_append_right _ (List.mem_of_getElem? (i := 1) (by decide +kernel)), rfl, by decide +kernel, by decide, by decide +kernel⟩
theorem sr_k_X4_ring : sr_okV mX4_ring := ⟨sr_y_X4_ring, List.mem_append_right _ (List.mem_of_getElem? (i := 564) (by decide +kernel)), List.mem_append_right _ (List.mem_of_getElem? (i := 565) (by decide +kernel)), by decide⟩
theorem sr_y_X4_who : sr_okY mX4_who := ⟨List.mem_append_right _ (List.mem_of_getElem? (i := 578) (by decide +kernel)), List.mem_append_right _ (List.mem_of_getElem? (i := 1) (by decide +kernel)), rfl, by decide +kernel, by decide, by decide +kernel⟩
theorem sr_k_X4_who : sr_okV mX4_who := ⟨sr_y_X4_who, List.mem_append_right _ (List.mem_of_getElem? (i := 576) (by decide +kernel)), List.mem_append_right _ (List.mem_of_getElem? (i := 577) (by decide +kernel)), by decide⟩
theorem sr_y_X4_marks : sr_okY mX4_marks := ⟨List.mem_append_right _ (List.mem_of_getElem? (i := 582) (by decide +kernel)), List.mem_append_right _ (List.mem_of_getElem? (i := 1) (by decide +kernel)), rfl, by decide +kernel, by decide, by decide +kernel⟩
theorem sr_k_X4_marks : sr_okV mX4_marks := ⟨sr_y_X4_marks, List.mem_append_right _ (List.mem_of_getElem? (i := 580) (by decide +kernel)), List.mem_append_right _ (List.mem_of_getElem? (i := 581) (by decide +kernel)), by decide⟩
theorem sr_y_X4_bill : sr_okY mX4_bill := ⟨List.mem_append_right _ (List.mem_of_getElem? (i := 586) (by decide +kernel)), List.mem_append_right _ (List.mem_of_getElem? (i := 1) (by decide +kernel)), rfl, by decide +kernel, by decide, by decide +kernel⟩
theorem sr_k_X4_bill : sr_okV mX4_bill := ⟨sr_y_X4_bill, List.mem_append_right _ (List.mem_of_getElem? (i := 584) (by decide +kernel)), List.mem_append_right _ (List.mem_of_getElem? (i := 585) (by decide +kernel)), by decide⟩
theorem sr_y_X4_pays : sr_okY mX4_pays := ⟨List.mem_append_right _ (List.mem_of_getElem? (i := 597) (by decide +kernel)), List.mem_append_right _ (List.mem_of_getElem? (i := 1) (by decide +kernel)), rfl, by decide +kernel, by decide, by decide +kernel⟩
theorem sr_k_X4_pays : sr_okV mX4_pays := ⟨sr_y_X4_pays, List.mem_append_right _ (List.mem_of_getElem? (i := 595) (by decide +kernel)), List.mem_append_right _ (List.mem_of_getElem? (i := 596) (by decide +kernel)), by decide⟩
theorem sr_y_X4_cheapest : sr_okY mX4_cheapest := ⟨List.mem_append_right _ (List.mem_of_getElem? (i := 601) (by decide +kernel)), List.mem_append_right _ (List.mem_of_getElem? (i := 1) (by decide +kernel)), rfl, by decide +kernel, by decide, by decide +kernel⟩
theorem sr_k_X4_cheapest : sr_okV mX4_cheapest := ⟨sr_y_X4_cheapest, List.mem_append_right _ (List.mem_of_getElem? (i := 599) (by decide +kernel)), List.mem_append_right _ (List.mem_of_getElem? (i := 600) (by decide +kernel)), by decide⟩
theorem sr_y_X4_spread : sr_okY mX4_spread := ⟨List.mem_append_right _ (List.mem_of_getElem? (i := 605) (by decide +kernel)), List.mem_append_right _ (List.mem_of_getElem? (i := 1) (by decide +kernel)), rfl, by decide +kernel, by decide, by decide +kernel⟩
theorem sr_k_X4_spread : sr_okV mX4_spread := ⟨sr_y_X4_spread, List.mem_append_right _ (List.mem_of_getElem? (i := 603) (by decide +kernel)), List.mem_append_right _ (List.mem_of_getElem? (i := 604) (by decide +kernel)), by decide⟩
theorem sr_y_X4_odds : sr_okY mX4_odds := ⟨List.mem_append_right _ (List.mem_of_getElem? (i := 616) (by decide +kernel)), List.mem_append_right _ (List.mem_of_getElem? (i := 1) (by decide +kernel)), rfl, by decide +kernel, by decide, by decide +kernel⟩
theorem sr_k_X4_odds : sr_okV mX4_odds := ⟨sr_y_X4_odds, List.mem_append_right _ (List.mem_of_getElem? (i := 614) (by decide +kernel)), List.mem_append_right _ (List.mem_of_getElem? (i := 615) (by decide +kernel)), by decide⟩
theorem sr_y_X4_lots : sr_okY mX4_lots := ⟨List.mem_append_right _ (List.mem_of_getElem? (i := 620) (by decide +kernel)), List.mem_append_right _ (List.mem_of_getElem? (i := 1) (by decide +kernel)), rfl, by decide +kernel, by decide, by decide +kernel⟩
theorem sr_k_X4_lots : sr_okV mX4_lots := ⟨sr_y_X4_lots, List.mem_append_right _ (List.mem_of_getElem? (i := 618) (by decide +kernel)), List.mem_append_right _ (List.mem_of_getElem? (i := 619) (by decide +kernel)), by decide⟩
theorem sr_y_X4_asked : sr_okY mX4_asked := ⟨List.mem_append_right _ (List.mem_of_getElem? (i := 632) (by decide +kernel)), List.mem_append_right _ (List.mem_of_getElem? (i := 1) (by decide +kernel)), rfl, by decide +kernel, by decide, by decide +kernel⟩
theorem sr_k_X4_asked : sr_okV mX4_asked := ⟨sr_y_X4_asked, List.mem_append_right _ (List.mem_of_getElem? (i := 630) (by decide +kernel)), List.mem_append_right _ (List.mem_of_getElem? (i := 631) (by decide +kernel)), by decide⟩
theorem sr_y_X4_upper : sr_okY mX4_upper := ⟨List.mem_append_right _ (List.mem_of_getElem? (i := 636) (by decide +kernel)), List.mem_append_right _ (List.mem_of_getElem? (i := 1) (by decide +kernel)), rfl, by decide +kernel, by decide, by decide +kernel⟩
theorem sr_k_X4_upper : sr_okV mX4_upper := ⟨sr_y_X4_upper, List.mem_append_right _ (List.mem_of_getElem? (i := 634) (by decide +kernel)), List.mem_append_right _ (List.mem_of_getElem? (i := 635) (by decide +kernel)), by decide⟩
theorem sr_y_X4_lower : sr_okY mX4_lower := ⟨List.mem_append_right _ (List.mem_of_getElem? (i := 640) (by decide +kernel)), List.mem_append_right _ (List.mem_of_getElem? (i := 1) (by decide +kernel)), rfl, by decide +kernel, by decide, by decide +kernel⟩
theorem sr_k_X4_lower : sr_okV mX4_lower := ⟨sr_y_X4_lower, List.mem_append_right _ (List.mem_of_getElem? (i := 638) (by decide +kernel)), List.mem_append_right _ (List.mem_of_getElem? (i := 639) (by decide +kernel)), by decide⟩
theorem sr_y_X4_count : sr_okY mX4_count := ⟨List.mem_append_right _ (List.mem_of_getElem? (i := 644) (by decide +kernel)), List.mem_append_right _ (List.mem_of_getElem? (i := 1) (by decide +kernel)), rfl, by decide +kernel, by decide, by decide +kernel⟩
theorem sr_k_X4_count : sr_okV mX4_count := ⟨sr_y_X4_count, List.mem_append_right _ (List.mem_of_getElem? (i := 642) (by decide +kernel)), List.mem_append_right _ (List.mem_of_getElem? (i := 643) (by decide +kernel)), by decide⟩
theorem sr_y_X4_finding : sr_okY mX4_finding := ⟨List.mem_append_right _ (List.mem_of_getElem? (i := 661) (by decide +kernel)), List.mem_append_right _ (List.mem_of_getElem? (i := 1) (by decide +kernel)), rfl, by decide +kernel, by decide, by decide +kernel⟩
theorem sr_k_X4_finding : sr_okV mX4_finding := ⟨sr_y_X4_finding, List.mem_append_right _ (List.mem_of_getElem? (i := 659) (by decide +kernel)), List.mem_append_right _ (List.mem_of_getElem? (i := 660) (by decide +kernel)), by decide⟩
theorem sr_y_X4_findings : sr_okY mX4_findings := ⟨List.mem_append_right _ (List.mem_of_getElem? (i := 665) (by decide +kernel)), List.mem_append_right _ (List.mem_of_getElem? (i := 1) (by decide +kernel)), rfl, by decide +kernel, by decide, by decide +kernel⟩
theorem sr_k_X4_findings : sr_okV mX4_findings := ⟨sr_y_X4_findings, List.mem_append_right _ (List.mem_of_getElem? (i := 663) (by decide +kernel)), List.mem_append_right _ (List.mem_of_getElem? (i := 664) (by decide +kernel)), by decide⟩
theorem sr_y_X4_digest : sr_okY mX4_digest := ⟨List.mem_append_right _ (List.mem_of_getElem? (i := 669) (by decide +kernel)), List.mem_append_right _ (List.mem_of_getElem? (i := 1) (by decide +kernel)), rfl, by decide +kernel, by decide, by decide +kernel⟩
theorem sr_k_X4_digest : sr_okV mX4_digest := ⟨sr_y_X4_digest, List.mem_append_right _ (List.mem_of_getElem? (i := 667) (by decide +kernel)), List.mem_append_right _ (List.mem_of_getElem? (i := 668) (by decide +kernel)), by decide⟩
theorem sr_y_X4_found : sr_okY mX4_found := ⟨List.mem_append_right _ (List.mem_of_getElem? (i := 192) (by decide +kernel)), List.mem_append_right _ (List.mem_of_getElem? (i := 1) (by decide +kernel)), rfl, by decide +kernel, by decide, by decide +kernel⟩
theorem sr_k_X4_found : sr_okV mX4_found := ⟨sr_y_X4_found, List.mem_append_right _ (List.mem_of_getElem? (i := 191) (by decide +kernel)), List.mem_append_left _ (List.mem_of_getElem? (i := 1) (by decide +kernel)), by decide⟩
theorem sr_y_X4_makePaper : sr_okY mX4_makePaper := ⟨List.mem_append_right _ (List.mem_of_getElem? (i := 184) (by decide +kernel)), List.mem_append_right _ (List.mem_of_getElem? (i := 1) (by decide +kernel)), rfl, by decide +kernel, by decide, by decide +kernel⟩
theorem sr_k_X4_makePaper : sr_okV mX4_makePaper := ⟨sr_y_X4_makePaper, List.mem_append_right _ (List.mem_of_getElem? (i := 183) (by decide +kernel)), List.mem_append_left _ (List.mem_of_getElem? (i := 0) (by decide +kernel)), by decide⟩
theorem sr_y_X4_refusalOfPaper : sr_okY mX4_refusalOfPaper := ⟨List.mem_append_right _ (List.mem_of_getElem? (i := 212) (by decide +kernel)), List.mem_append_right _ (List.mem_of_getElem? (i := 1) (by decide +kernel)), rfl, by decide +kernel, by decide, by decide +kernel⟩
theorem sr_k_X4_refusalOfPaper : sr_okV mX4_refusalOfPaper := ⟨sr_y_X4_refusalOfPaper, List.mem_append_right _ (List.mem_of_getElem? (i := 211) (by decide +kernel)), List.mem_append_left _ (List.mem_of_getElem? (i := 3) (by decide +kernel)), by decide⟩
theorem sr_y_X4_refusalOfPlace : sr_okY mX4_refusalOfPlace := ⟨List.mem_append_right _ (List.mem_of_getElem? (i := 208) (by decide +kernel)), List.mem_append_right _ (List.mem_of_getElem? (i := 1) (by decide +kernel)), rfl, by decide +kernel, by decide, by decide +kernel⟩
theorem sr_k_X4_refusalOfPlace : sr_okV mX4_refusalOfPlace := ⟨sr_y_X4_refusalOfPlace, List.mem_append_right _ (List.mem_of_getElem? (i := 207) (by decide +kernel)), List.mem_append_left _ (List.mem_of_getElem? (i := 2) (by decide +kernel)), by decide⟩
theorem sr_y_X4_tell : sr_okY mX4_tell := ⟨List.mem_append_right _ (List.mem_of_getElem? (i := 229) (by decide +kernel)), List.mem_append_right _ (List.mem_of_getElem? (i := 1) (by decide +kernel)), rfl, by decide +kernel, by decide, by decide +kernel⟩
theorem sr_k_X4_tell : sr_okV mX4_tell := ⟨sr_y_X4_tell, List.mem_append_right _ (List.mem_of_getElem? (i := 228) (by decide +kernel)), List.mem_append_left _ (List.mem_of_getElem? (i := 4) (by decide +kernel)), by decide⟩
theorem sr_y_X4_tellShare : sr_okY mX4_tellShare := ⟨List.mem_append_right _ (List.mem_of_getElem? (i := 609) (by decide +kernel)), List.mem_append_right _ (List.mem_of_getElem? (i := 1) (by decide +kernel)), rfl, by decide +kernel, by decide, by decide +kernel⟩
theorem sr_k_X4_tellShare : sr_okV mX4_tellShare := ⟨sr_y_X4_tellShare, List.mem_append_right _ (List.mem_of_getElem? (i := 608) (by decide +kernel)), List.mem_append_left _ (List.mem_of_getElem? (i := 30) (by decide +kernel)), by decide⟩
theorem sr_y_X4_commonMeasure : sr_okY mX4_commonMeasure := ⟨List.mem_append_right _ (List.mem_of_getElem? (i := 612) (by decide +kernel)), List.mem_append_right _ (List.mem_of_getElem? (i := 1) (by decide +kernel)), rfl, by decide +kernel, by decide, by decide +kernel⟩
theorem sr_k_X4_commonMeasure : sr_okS mX4_commonMeasure := ⟨sr_y_X4_commonMeasure, List.mem_append_right _ (List.mem_of_getElem? (i := 611) (by decide +kernel))⟩
theorem sr_y_X4_firstBit : sr_okY mX4_firstBit := ⟨List.mem_append_right _ (List.mem_of_getElem? (i := 493) (by decide +kernel)), List.mem_append_right _ (List.mem_of_getElem? (i := 1) (by decide +kernel)), rfl, by decide +kernel, by decide, by decide +kernel⟩
theorem sr_k_X4_firstBit : sr_okS mX4_firstBit := ⟨sr_y_X4_firstBit, List.mem_append_right _ (List.mem_of_getElem? (i := 492) (by decide +kernel))⟩
theorem sr_y_X4_isGuest : sr_okY mX4_isGuest := ⟨List.mem_append_right _ (List.mem_of_getElem? (i := 363) (by decide +kernel)), List.mem_append_right _ (List.mem_of_getElem? (i := 1) (by decide +kernel)), rfl, by decide +kernel, by decide, by decide +kernel⟩
theorem sr_k_X4_isGuest : sr_okV mX4_isGuest := ⟨sr_y_X4_isGuest, List.mem_append_right _ (List.mem_of_getElem? (i := 362) (by decide +kernel)), List.mem_append_left _ (List.mem_of_getElem? (i := 13) (by decide +kernel)), by decide⟩
theorem sr_y_X4_isThing : sr_okY mX4_isThing := ⟨List.mem_append_right _ (List.mem_of_getElem? (i := 550) (by decide +kernel)), List.mem_append_right _ (List.mem_of_getElem? (i := 1) (by decide +kernel)), rfl, by decide +kernel, by decide, by decide +kernel⟩
theorem sr_k_X4_isThing : sr_okV mX4_isThing := ⟨sr_y_X4_isThing, List.mem_append_right _ (List.mem_of_getElem? (i := 549) (by decide +kernel)), List.mem_append_left _ (List.mem_of_getElem? (i := 25) (by decide +kernel)), by decide⟩
theorem sr_y_X4_isThingSet : sr_okY mX4_isThingSet := ⟨List.mem_append_right _ (List.mem_of_getElem? (i := 506) (by decide +kernel)), List.mem_append_right _ (List.mem_of_getElem? (i := 1) (by decide +kernel)), rfl, by decide +kernel, by decide, by decide +kernel⟩
theorem sr_k_X4_isThingSet : sr_okV mX4_isThingSet := ⟨sr_y_X4_isThingSet, List.mem_append_right _ (List.mem_of_getElem? (i := 505) (by decide +kernel)), List.mem_append_left _ (List.mem_of_getElem? (i := 19) (by decide +kernel)), by decide⟩
theorem sr_y_X4_isLaw : sr_okY mX4_isLaw := ⟨List.mem_append_right _ (List.mem_of_getElem? (i := 589) (by decide +kernel)), List.mem_append_right _ (List.mem_of_getElem? (i := 1) (by decide +kernel)), rfl, by decide +kernel, by decide, by decide +kernel⟩
theorem sr_k_X4_isLaw : sr_okS mX4_isLaw := ⟨sr_y_X4_isLaw, List.mem_append_right _ (List.mem_of_getElem? (i := 588) (by decide +kernel))⟩
theorem sr_y_X4_factOf : sr_okY mX4_factOf := ⟨List.mem_append_right _ (List.mem_of_getElem? (i := 367) (by decide +kernel)), List.mem_append_right _ (List.mem_of_getElem? (i := 1) (by decide +kernel)), rfl, by decide +kernel, by decide, by decide +kernel⟩
theorem sr_k_X4_factOf : sr_okV mX4_factOf := ⟨sr_y_X4_factOf, List.mem_append_right _ (List.mem_of_getElem? (i := 366) (by decide +kernel)), List.mem_append_left _ (List.mem_of_getElem? (i := 14) (by decide +kernel)), by decide⟩
theorem sr_y_X4_secondLife : sr_okY mX4_secondLife := ⟨List.mem_append_right _ (List.mem_of_getElem? (i := 371) (by decide +kernel)), List.mem_append_right _ (List.mem_of_getElem? (i := 1) (by decide +kernel)), rfl, by decide +kernel, by decide, by decide +kernel⟩
theorem sr_k_X4_secondLife : sr_okV mX4_secondLife := ⟨sr_y_X4_secondLife, List.mem_append_right _ (List.mem_of_getElem? (i := 370) (by decide +kernel)), List.mem_append_left _ (List.mem_of_getElem? (i := 15) (by decide +kernel)), by decide⟩
theorem sr_y_X4_isSecondOf : sr_okY mX4_isSecondOf := ⟨List.mem_append_right _ (List.mem_of_getElem? (i := 558) (by decide +kernel)), List.mem_append_right _ (List.mem_of_getElem? (i := 1) (by decide +kernel)), rfl, by decide +kernel, by decide, by decide +kernel⟩
theorem sr_k_X4_isSecondOf : sr_okV mX4_isSecondOf := ⟨sr_y_X4_isSecondOf, List.mem_append_right _ (List.mem_of_getElem? (i := 557) (by decide +kernel)), List.mem_append_left _ (List.mem_of_getElem? (i := 26) (by decide +kernel)), by decide⟩
theorem sr_y_X4_thingsIn : sr_okY mX4_thingsIn := ⟨List.mem_append_right _ (List.mem_of_getElem? (i := 420) (by decide +kernel)), List.mem_append_right _ (List.mem_of_getElem? (i := 1) (by decide +kernel)), rfl, by decide +kernel, by decide, by decide +kernel⟩
theorem sr_k_X4_thingsIn : sr_okV mX4_thingsIn := ⟨sr_y_X4_thingsIn, List.mem_append_right _ (List.mem_of_getElem? (i := 419) (by decide +kernel)), List.mem_append_left _ (List.mem_of_getElem? (i := 17) (by decide +kernel)), by decide⟩
theorem sr_y_X4_thingsByTurn : sr_okY mX4_thingsByTurn := ⟨List.mem_append_right _ (List.mem_of_getElem? (i := 510) (by decide +kernel)), List.mem_append_right _ (List.mem_of_getElem? (i := 1) (by decide +kernel)), rfl, by decide +kernel, by decide, by decide +kernel⟩
theorem sr_k_X4_thingsByTurn : sr_okV mX4_thingsByTurn := ⟨sr_y_X4_thingsByTurn, List.mem_append_right _ (List.mem_of_getElem? (i := 509) (by decide +kernel)), List.mem_append_left _ (List.mem_of_getElem? (i := 20) (by decide +kernel)), by decide⟩
theorem sr_y_X4_turnsWith : sr_okY mX4_turnsWith := ⟨List.mem_append_right _ (List.mem_of_getElem? (i := 534) (by decide +kernel)), List.mem_append_right _ (List.mem_of_getElem? (i := 1) (by decide +kernel)), rfl, by decide +kernel, by decide, by decide +kernel⟩
theorem sr_k_X4_turnsWith : sr_okV mX4_turnsWith := ⟨sr_y_X4_turnsWith, List.mem_append_right _ (List.mem_of_getElem? (i := 533) (by decide +kernel)), List.mem_append_left _ (List.mem_of_getElem? (i := 24) (by decide +kernel)), by decide⟩
theorem sr_y_X4_addDifference : sr_okY mX4_addDifference := ⟨List.mem_append_right _ (List.mem_of_getElem? (i := 518) (by decide +kernel)), List.mem_append_right _ (List.mem_of_getElem? (i := 1) (by decide +kernel)), rfl, by decide +kernel, by decide, by decide +kernel⟩
theorem sr_k_X4_addDifference : sr_okV mX4_addDifference := ⟨sr_y_X4_addDifference, List.mem_append_right _ (List.mem_of_getElem? (i := 517) (by decide +kernel)), List.mem_append_left _ (List.mem_of_getElem? (i := 21) (by decide +kernel)), by decide⟩
theorem sr_y_X4_fewestTellingApart : sr_okY mX4_fewestTellingApart := ⟨List.mem_append_right _ (List.mem_of_getElem? (i := 522) (by decide +kernel)), List.mem_append_right _ (List.mem_of_getElem? (i := 1) (by decide +kernel)), rfl, by decide +kernel, by decide, by decide +kernel⟩
theorem sr_k_X4_fewestTellingApart : sr_okV mX4_fewestTellingApart := ⟨sr_y_X4_fewestTellingApart, List.mem_append_right _ (List.mem_of_getElem? (i := 521) (by decide +kernel)), List.mem_append_left _ (List.mem_of_getElem? (i := 22) (by decide +kernel)), by decide⟩
theorem sr_y_X4_tellsApart : sr_okY mX4_tellsApart := ⟨List.mem_append_right _ (List.mem_of_getElem? (i := 526) (by decide +kernel)), List.mem_append_right _ (List.mem_of_getElem? (i := 1) (by decide +kernel)), rfl, by decide +kernel, by decide, by decide +kernel⟩
theorem sr_k_X4_tellsApart : sr_okV mX4_tellsApart := ⟨sr_y_X4_tellsApart, List.mem_append_right _ (List.mem_of_getElem? (i := 525) (by decide +kernel)), List.mem_append_left _ (List.mem_of_getElem? (i := 23) (by decide +kernel)), by decide⟩
theorem sr_y_X4_endsOfWalk : sr_okY mX4_endsOfWalk := ⟨List.mem_append_right _ (List.mem_of_getElem? (i := 570) (by decide +kernel)), List.mem_append_right _ (List.mem_of_getElem? (i := 1) (by decide +kernel)), rfl, by decide +kernel, by decide, by decide +kernel⟩
theorem sr_k_X4_endsOfWalk : sr_okV mX4_endsOfWalk := ⟨sr_y_X4_endsOfWalk, List.mem_append_right _ (List.mem_of_getElem? (i := 569) (by decide +kernel)), List.mem_append_left _ (List.mem_of_getElem? (i := 27) (by decide +kernel)), by decide⟩
theorem sr_y_X4_leadsOn : sr_okY mX4_leadsOn := ⟨List.mem_append_right _ (List.mem_of_getElem? (i := 574) (by decide +kernel)), List.mem_append_right _ (List.mem_of_getElem? (i := 1) (by decide +kernel)), rfl, by decide +kernel, by decide, by decide +kernel⟩
theorem sr_k_X4_leadsOn : sr_okV mX4_leadsOn := ⟨sr_y_X4_leadsOn, List.mem_append_right _ (List.mem_of_getElem? (i := 573) (by decide +kernel)), List.mem_append_left _ (List.mem_of_getElem? (i := 28) (by decide +kernel)), by decide⟩
theorem sr_y_X4_billFor : sr_okY mX4_billFor := ⟨List.mem_append_right _ (List.mem_of_getElem? (i := 593) (by decide +kernel)), List.mem_append_right _ (List.mem_of_getElem? (i := 1) (by decide +kernel)), rfl, by decide +kernel, by decide, by decide +kernel⟩
theorem sr_k_X4_billFor : sr_okV mX4_billFor := ⟨sr_y_X4_billFor, List.mem_append_right _ (List.mem_of_getElem? (i := 592) (by decide +kernel)), List.mem_append_left _ (List.mem_of_getElem? (i := 29) (by decide +kernel)), by decide⟩
theorem sr_y_X4_actByLot : sr_okY mX4_actByLot := ⟨List.mem_append_right _ (List.mem_of_getElem? (i := 628) (by decide +kernel)), List.mem_append_right _ (List.mem_of_getElem? (i := 1) (by decide +kernel)), rfl, by decide +kernel, by decide, by decide +kernel⟩
theorem sr_k_X4_actByLot : sr_okV mX4_actByLot := ⟨sr_y_X4_actByLot, List.mem_append_right _ (List.mem_of_getElem? (i := 627) (by decide +kernel)), List.mem_append_left _ (List.mem_of_getElem? (i := 31) (by decide +kernel)), by decide⟩
theorem sr_y_X4_forgetKept : sr_okY mX4_forgetKept := ⟨List.mem_append_right _ (List.mem_of_getElem? (i := 351) (by decide +kernel)), List.mem_append_right _ (List.mem_of_getElem? (i := 1) (by decide +kernel)), rfl, by decide +kernel, by decide, by decide +kernel⟩
theorem sr_k_X4_forgetKept : sr_okV mX4_forgetKept := ⟨sr_y_X4_forgetKept, List.mem_append_right _ (List.mem_of_getElem? (i := 350) (by decide +kernel)), List.mem_append_left _ (List.mem_of_getElem? (i := 12) (by decide +kernel)), by decide⟩
theorem sr_y_X4_keptDeeds : sr_okY mX4_keptDeeds := ⟨List.mem_append_right _ (List.mem_of_getElem? (i := 657) (by decide +kernel)), List.mem_append_right _ (List.mem_of_getElem? (i := 1) (by decide +kernel)), rfl, by decide +kernel, by decide, by decide +kernel⟩
theorem sr_k_X4_keptDeeds : sr_okV mX4_keptDeeds := ⟨sr_y_X4_keptDeeds, List.mem_append_right _ (List.mem_of_getElem? (i := 656) (by decide +kernel)), List.mem_append_left _ (List.mem_of_getElem? (i := 33) (by decide +kernel)), by decide⟩
theorem sr_y_X4_keptCount : sr_okY mX4_keptCount := ⟨List.mem_append_right _ (List.mem_of_getElem? (i := 653) (by decide +kernel)), List.mem_append_right _ (List.mem_of_getElem? (i := 1) (by decide +kernel)), rfl, by decide +kernel, by decide, by decide +kernel⟩
theorem sr_k_X4_keptCount : sr_okV mX4_keptCount := ⟨sr_y_X4_keptCount, List.mem_append_right _ (List.mem_of_getElem? (i := 652) (by decide +kernel)), List.mem_append_left _ (List.mem_of_getElem? (i := 32) (by decide +kernel)), by decide⟩
theorem sr_y_X5_init : sr_okY mX5_init := ⟨List.mem_append_right _ (List.mem_of_getElem? (i := 682) (by decide +kernel)), List.mem_append_right _ (List.mem_of_getElem? (i := 6) (by decide +kernel)), rfl, by decide +kernel, by decide, by decide +kernel⟩
theorem sr_k_X5_init : sr_okI mX5_init := ⟨sr_y_X5_init, List.mem_append_right _ (List.mem_of_getElem? (i := 681) (by decide +kernel)), rfl, rfl⟩
theorem sr_y_X5_in : sr_okY mX5_in := ⟨List.mem_append_right _ (List.mem_of_getElem? (i := 799) (by decide +kernel)), List.mem_append_right _ (List.mem_of_getElem? (i := 6) (by decide +kernel)), rfl, by decide +kernel, by decide, by decide +kernel⟩
theorem sr_k_X5_in : sr_okS mX5_in := ⟨sr_y_X5_in, List.mem_append_right _ (List.mem_of_getElem? (i := 798) (by decide +kernel))⟩
theorem sr_y_X5_holds : sr_okY mX5_holds := ⟨List.mem_append_right _ (List.mem_of_getElem? (i := 961) (by decide +kernel)), List.mem_append_right _ (List.mem_of_getElem? (i := 6) (by decide +kernel)), rfl, by decide +kernel, by decide, by decide +kernel⟩
theorem sr_k_X5_holds : sr_okS mX5_holds := ⟨sr_y_X5_holds, List.mem_append_right _ (List.mem_of_getElem? (i := 960) (by decide +kernel))⟩
theorem sr_y_X5_bits : sr_okY mX5_bits := ⟨List.mem_append_right _ (List.mem_of_getElem? (i := 934) (by decide +kernel)), List.mem_append_right _ (List.mem_of_getElem? (i := 6) (by decide +kernel)), rfl, by decide +kernel, by decide, by decide +kernel⟩
theorem sr_k_X5_bits : sr_okS mX5_bits := ⟨sr_y_X5_bits, List.mem_append_right _ (List.mem_of_getElem? (i := 933) (by decide +kernel))⟩
theorem sr_y_X5_meets : sr_okY mX5_meets := ⟨List.mem_append_right _ (List.mem_of_getElem? (i := 822) (by decide +kernel)), List.mem_append_right _ (List.mem_of_getElem? (i := 6) (by decide +kernel)), rfl, by decide +kernel, by decide, by decide +kernel⟩
theorem sr_k_X5_meets : sr_okV mX5_meets := ⟨sr_y_X5_meets, List.mem_append_right _ (List.mem_of_getElem? (i := 821) (by decide +kernel)), List.mem_append_left _ (List.mem_of_getElem? (i := 34) (by decide +kernel)), by decide⟩
theorem sr_y_X5_finding : sr_okY mX5_finding := ⟨List.mem_append_right _ (List.mem_of_getElem? (i := 792) (by decide +kernel)), List.mem_append_right _ (List.mem_of_getElem? (i := 6) (by decide +kernel)), rfl, by decide +kernel, by decide, by decide +kernel⟩
theorem sr_k_X5_finding : sr_okV mX5_finding := ⟨sr_y_X5_finding, List.mem_append_right _ (List.mem_of_getElem? (i := 790) (by decide +kernel)), List.mem_append_right _ (List.mem_of_getElem? (i := 791) (by decide +kernel)), by decide⟩
theorem sr_y_X5_findings : sr_okY mX5_findings := ⟨List.mem_append_right _ (List.mem_of_getElem? (i := 796) (by decide +kernel)), List.mem_append_right _ (List.mem_of_getElem? (i := 6) (by decide +kernel)), rfl, by decide +kernel, by decide, by decide +kernel⟩
theorem sr_k_X5_findings : sr_okV mX5_findings := ⟨sr_y_X5_findings, List.mem_append_right _ (List.mem_of_getElem? (i := 794) (by decide +kernel)), List.mem_append_right _ (List.mem_of_getElem? (i := 795) (by decide +kernel)), by decide⟩
theorem sr_y_X5_tells : sr_okY mX5_tells := ⟨List.mem_append_right _ (List.mem_of_getElem? (i := 834) (by decide +kernel)), List.mem_append_right _ (List.mem_of_getElem? (i := 6) (by decide +kernel)), rfl, by decide +kernel, by decide, by decide +kernel⟩
theorem sr_k_X5_tells : sr_okV mX5_tells := ⟨sr_y_X5_tells, List.mem_append_right _ (List.mem_of_getElem? (i := 833) (by decide +kernel)), List.mem_append_left _ (List.mem_of_getElem? (i := 36) (by decide +kernel)), by decide⟩
theorem sr_y_X5_asked : sr_okY mX5_asked := ⟨List.mem_append_right _ (List.mem_of_getElem? (i := 803) (by decide +kernel)), List.mem_append_right _ (List.mem_of_getElem? (i := 6) (by decide +kernel)), rfl, by decide +kernel, by decide, by decide +kernel⟩
theorem sr_k_X5_asked : sr_okV mX5_asked := ⟨sr_y_X5_asked, List.mem_append_right _ (List.mem_of_getElem? (i := 801) (by decide +kernel)), List.mem_append_right _ (List.mem_of_getElem? (i := 802) (by decide +kernel)), by decide⟩
theorem sr_y_X5_fraction : sr_okY mX5_fraction := ⟨List.mem_append_right _ (List.mem_of_getElem? (i := 1105) (by decide +kernel)), List.mem_append_right _ (List.mem_of_getElem? (i := 6) (by decide +kernel)), rfl, by decide +kernel, by decide, by decide +kernel⟩
theorem sr_k_X5_fraction : sr_okV mX5_fraction := ⟨sr_y_X5_fraction, List.mem_append_right _ (List.mem_of_getElem? (i := 1104) (by decide +kernel)), List.mem_append_left _ (List.mem_of_getElem? (i := 64) (by decide +kernel)), by decide⟩
theorem sr_y_X5_upper : sr_okY mX5_upper := ⟨List.mem_append_right _ (List.mem_of_getElem? (i := 807) (by decide +kernel)), List.mem_append_right _ (List.mem_of_getElem? (i := 6) (by decide +kernel)), rfl, by decide +kernel, by decide, by decide +kernel⟩
theorem sr_k_X5_upper : sr_okV mX5_upper := ⟨sr_y_X5_upper, List.mem_append_right _ (List.mem_of_getElem? (i := 805) (by decide +kernel)), List.mem_append_right _ (List.mem_of_getElem? (i := 806) (by decide +kernel)), by decide⟩
theorem sr_y_X5_lower : sr_okY mX5_lower := ⟨List.mem_append_right _ (List.mem_of_getElem? (i := 811) (by decide +kernel)), List.mem_append_right _ (List.mem_of_getElem? (i := 6) (by decide +kernel)), rfl, by decide +kernel, by decide, by decide +kernel⟩
theorem sr_k_X5_lower : sr_okV mX5_lower := ⟨sr_y_X5_lower, List.mem_append_right _ (List.mem_of_getElem? (i := 809) (by decide +kernel)), List.mem_append_right _ (List.mem_of_getElem? (i := 810) (by decide +kernel)), by decide⟩
theorem sr_y_X5_isRow : sr_okY mX5_isRow := ⟨List.mem_append_right _ (List.mem_of_getElem? (i := 818) (by decide +kernel)), List.mem_append_right _ (List.mem_of_getElem? (i := 6) (by decide +kernel)), rfl, by decide +kernel, by decide, by decide +kernel⟩
theorem sr_k_X5_isRow : sr_okS mX5_isRow := ⟨sr_y_X5_isRow, List.mem_append_right _ (List.mem_of_getElem? (i := 817) (by decide +kernel))⟩
theorem sr_y_X5_rowAt : sr_okY mX5_rowAt := ⟨List.mem_append_right _ (List.mem_of_getElem? (i := 830) (by decide +kernel)), List.mem_append_right _ (List.mem_of_getElem? (i := 6) (by decide +kernel)), rfl, by decide +kernel, by decide, by decide +kernel⟩
theorem sr_k_X5_rowAt : sr_okV mX5_rowAt := ⟨sr_y_X5_rowAt, List.mem_append_right _ (List.mem_of_getElem? (i := 829) (by decide +kernel)), List.mem_append_left _ (List.mem_of_getElem? (i := 35) (by decide +kernel)), by decide⟩
theorem sr_y_X5_row : sr_okY mX5_row := ⟨List.mem_append_right _ (List.mem_of_getElem? (i := 815) (by decide +kernel)), List.mem_append_right _ (List.mem_of_getElem? (i := 6) (by decide +kernel)), rfl, by decide +kernel, by decide, by decide +kernel⟩
theorem sr_k_X5_row : sr_okV mX5_row := ⟨sr_y_X5_row, List.mem_append_right _ (List.mem_of_getElem? (i := 813) (by decide +kernel)), List.mem_append_right _ (List.mem_of_getElem? (i := 814) (by decide +kernel)), by decide⟩
theorem sr_y_X5_lay : sr_okY mX5_lay := ⟨List.mem_append_right _ (List.mem_of_getElem? (i := 826) (by decide +kernel)), List.mem_append_right _ (List.mem_of_getElem? (i := 6) (by decide +kernel)), rfl, by decide +kernel, by decide, by decide +kernel⟩
theorem sr_k_X5_lay : sr_okV mX5_lay := ⟨sr_y_X5_lay, List.mem_append_right _ (List.mem_of_getElem? (i := 824) (by decide +kernel)), List.mem_append_right _ (List.mem_of_getElem? (i := 825) (by decide +kernel)), by decide⟩
theorem sr_y_X5_at : sr_okY mX5_at := ⟨List.mem_append_right _ (List.mem_of_getElem? (i := 838) (by decide +kernel)), List.mem_append_right _ (List.mem_of_getElem? (i := 6) (by decide +kernel)), rfl, by decide +kernel, by decide, by decide +kernel⟩
theorem sr_k_X5_at : sr_okV mX5_at := ⟨sr_y_X5_at, List.mem_append_right _ (List.mem_of_getElem? (i := 836) (by decide +kernel)), List.mem_append_right _ (List.mem_of_getElem? (i := 837) (by decide +kernel)), by decide⟩
theorem sr_y_X5_tear : sr_okY mX5_tear := ⟨List.mem_append_right _ (List.mem_of_getElem? (i := 842) (by decide +kernel)), List.mem_append_right _ (List.mem_of_getElem? (i := 6) (by decide +kernel)), rfl, by decide +kernel, by decide, by decide +kernel⟩
theorem sr_k_X5_tear : sr_okV mX5_tear := ⟨sr_y_X5_tear, List.mem_append_right _ (List.mem_of_getElem? (i := 840) (by decide +kernel)), List.mem_append_right _ (List.mem_of_getElem? (i := 841) (by decide +kernel)), by decide⟩
theorem sr_y_X5_copy : sr_okY mX5_copy := ⟨List.mem_append_right _ (List.mem_of_getElem? (i := 846) (by decide +kernel)), List.mem_append_right _ (List.mem_of_getElem? (i := 6) (by decide +kernel)), rfl, by decide +kernel, by decide, by decide +kernel⟩
theorem sr_k_X5_copy : sr_okV mX5_copy := ⟨sr_y_X5_copy, List.mem_append_right _ (List.mem_of_getElem? (i := 844) (by decide +kernel)), List.mem_append_right _ (List.mem_of_getElem? (i := 845) (by decide +kernel)), by decide⟩
theorem sr_y_X5_mean : sr_okY mX5_mean := ⟨List.mem_append_right _ (List.mem_of_getElem? (i := 850) (by decide +kernel)), List.mem_append_right _ (List.mem_of_getElem? (i := 6) (by decide +kernel)), rfl, by decide +kernel, by decide, by decide +kernel⟩
theorem sr_k_X5_mean : sr_okV mX5_mean := ⟨sr_y_X5_mean, List.mem_append_right _ (List.mem_of_getElem? (i := 848) (by decide +kernel)), List.mem_append_right _ (List.mem_of_getElem? (i := 849) (by decide +kernel)), by decide⟩
theorem sr_y_X5_isText : sr_okY mX5_isText := ⟨List.mem_append_right _ (List.mem_of_getElem? (i := 857) (by decide +kernel)), List.mem_append_right _ (List.mem_of_getElem? (i := 6) (by decide +kernel)), rfl, by decide +kernel, by decide, by decide +kernel⟩
theorem sr_k_X5_isText : sr_okS mX5_isText := ⟨sr_y_X5_isText, List.mem_append_right _ (List.mem_of_getElem? (i := 856) (by decide +kernel))⟩
theorem sr_y_X5_text : sr_okY mX5_text := ⟨List.mem_append_right _ (List.mem_of_getElem? (i := 854) (by decide +kernel)), List.mem_append_right _ (List.mem_of_getElem? (i := 6) (by decide +kernel)), rfl, by decide +kernel, by decide, by decide +kernel⟩
theorem sr_k_X5_text : sr_okV mX5_text := ⟨sr_y_X5_text, List.mem_append_right _ (List.mem_of_getElem? (i := 852) (by decide +kernel)), List.mem_append_right _ (List.mem_of_getElem? (i := 853) (by decide +kernel)), by decide⟩
theorem sr_y_X5_put : sr_okY mX5_put := ⟨List.mem_append_right _ (List.mem_of_getElem? (i := 861) (by decide +kernel)), List.mem_append_right _ (List.mem_of_getElem? (i := 6) (by decide +kernel)), rfl, by decide +kernel, by decide, by decide +kernel⟩
theorem sr_k_X5_put : sr_okV mX5_put := ⟨sr_y_X5_put, List.mem_append_right _ (List.mem_of_getElem? (i := 859) (by decide +kernel)), List.mem_append_right _ (List.mem_of_getElem? (i := 860) (by decide +kernel)), by decide⟩
theorem sr_y_X5_byteAt : sr_okY mX5_byteAt := ⟨List.mem_append_right _ (List.mem_of_getElem? (i := 873) (by decide +kernel)), List.mem_append_right _ (List.mem_of_getElem? (i := 6) (by decide +kernel)), rfl, by decide +kernel, by decide, by decide +kernel⟩
theorem sr_k_X5_byteAt : sr_okV mX5_byteAt := ⟨sr_y_X5_byteAt, List.mem_append_right _ (List.mem_of_getElem? (i := 872) (by decide +kernel)), List.mem_append_left _ (List.mem_of_getElem? (i := 38) (by decide +kernel)), by decide⟩
theorem sr_y_X5_kindOf : sr_okY mX5_kindOf := ⟨List.mem_append_right _ (List.mem_of_getElem? (i := 896) (by decide +kernel)), List.mem_append_right _ (List.mem_of_getElem? (i := 6) (by decide +kernel)), rfl, by decide +kernel, by decide, by decide +kernel⟩
theorem sr_k_X5_kindOf : sr_okS mX5_kindOf := ⟨sr_y_X5_kindOf, List.mem_append_right _ (List.mem_of_getElem? (i := 895) (by decide +kernel))⟩
theorem sr_y_X5_figure : sr_okY mX5_figure := ⟨List.mem_append_right _ (List.mem_of_getElem? (i := 885) (by decide +kernel)), List.mem_append_right _ (List.mem_of_getElem? (i := 6) (by decide +kernel)), rfl, by decide +kernel, by decide, by decide +kernel⟩
theorem sr_k_X5_figure : sr_okV mX5_figure := ⟨sr_y_X5_figure, List.mem_append_right _ (List.mem_of_getElem? (i := 884) (by decide +kernel)), List.mem_append_left _ (List.mem_of_getElem? (i := 41) (by decide +kernel)), by decide⟩
theorem sr_y_X5_readsTurns : sr_okY mX5_readsTurns := ⟨List.mem_append_right _ (List.mem_of_getElem? (i := 881) (by decide +kernel)), List.mem_append_right _ (List.mem_of_getElem? (i := 6) (by decide +kernel)), rfl, by decide +kernel, by decide, by decide +kernel⟩
theorem sr_k_X5_readsTurns : sr_okV mX5_readsTurns := ⟨sr_y_X5_readsTurns, List.mem_append_right _ (List.mem_of_getElem? (i := 880) (by decide +kernel)), List.mem_append_left _ (List.mem_of_getElem? (i := 40) (by decide +kernel)), by decide⟩
theorem sr_y_X5_readsThing : sr_okY mX5_readsThing := ⟨List.mem_append_right _ (List.mem_of_getElem? (i := 889) (by decide +kernel)), List.mem_append_right _ (List.mem_of_getElem? (i := 6) (by decide +kernel)), rfl, by decide +kernel, by decide, by decide +kernel⟩
theorem sr_k_X5_readsThing : sr_okV mX5_readsThing := ⟨sr_y_X5_readsThing, List.mem_append_right _ (List.mem_of_getElem? (i := 888) (by decide +kernel)), List.mem_append_left _ (List.mem_of_getElem? (i := 42) (by decide +kernel)), by decide⟩
theorem sr_y_X5_readsGuest : sr_okY mX5_readsGuest := ⟨List.mem_append_right _ (List.mem_of_getElem? (i := 893) (by decide +kernel)), List.mem_append_right _ (List.mem_of_getElem? (i := 6) (by decide +kernel)), rfl, by decide +kernel, by decide, by decide +kernel⟩
theorem sr_k_X5_readsGuest : sr_okV mX5_readsGuest := ⟨sr_y_X5_readsGuest, List.mem_append_right _ (List.mem_of_getElem? (i := 892) (by decide +kernel)), List.mem_append_left _ (List.mem_of_getElem? (i := 43) (by decide +kernel)), by decide⟩
theorem sr_y_X5_readsItem : sr_okY mX5_readsItem := ⟨List.mem_append_right _ (List.mem_of_getElem? (i := 877) (by decide +kernel)), List.mem_append_right _ (List.mem_of_getElem? (i := 6) (by decide +kernel)), rfl, by decide +kernel, by decide, by decide +kernel⟩
theorem sr_k_X5_readsItem : sr_okV mX5_readsItem := ⟨sr_y_X5_readsItem, List.mem_append_right _ (List.mem_of_getElem? (i := 876) (by decide +kernel)), List.mem_append_left _ (List.mem_of_getElem? (i := 39) (by decide +kernel)), by decide⟩
theorem sr_y_X5_faultOf : sr_okY mX5_faultOf := ⟨List.mem_append_right _ (List.mem_of_getElem? (i := 869) (by decide +kernel)), List.mem_append_right _ (List.mem_of_getElem? (i := 6) (by decide +kernel)), rfl, by decide +kernel, by decide, by decide +kernel⟩
theorem sr_k_X5_faultOf : sr_okV mX5_faultOf := ⟨sr_y_X5_faultOf, List.mem_append_right _ (List.mem_of_getElem? (i := 868) (by decide +kernel)), List.mem_append_left _ (List.mem_of_getElem? (i := 37) (by decide +kernel)), by decide⟩
theorem sr_y_X5_fault : sr_okY mX5_fault := ⟨List.mem_append_right _ (List.mem_of_getElem? (i := 865) (by decide +kernel)), List.mem_append_right _ (List.mem_of_getElem? (i := 6) (by decide +kernel)), rfl, by decide +kernel, by decide, by decide +kernel⟩
theorem sr_k_X5_fault : sr_okV mX5_fault := ⟨sr_y_X5_fault, List.mem_append_right _ (List.mem_of_getElem? (i := 863) (by decide +kernel)), List.mem_append_right _ (List.mem_of_getElem? (i := 864) (by decide +kernel)), by decide⟩
theorem sr_y_X5_hotel : sr_okY mX5_hotel := ⟨List.mem_append_right _ (List.mem_of_getElem? (i := 900) (by decide +kernel)), List.mem_append_right _ (List.mem_of_getElem? (i := 6) (by decide +kernel)), rfl, by decide +kernel, by decide, by decide +kernel⟩
theorem sr_k_X5_hotel : sr_okV mX5_hotel := ⟨sr_y_X5_hotel, List.mem_append_right _ (List.mem_of_getElem? (i := 898) (by decide +kernel)), List.mem_append_right _ (List.mem_of_getElem? (i := 899) (by decide +kernel)), by decide⟩
theorem sr_y_X5_isGuest : sr_okY mX5_isGuest := ⟨List.mem_append_right _ (List.mem_of_getElem? (i := 908) (by decide +kernel)), List.mem_append_right _ (List.mem_of_getElem? (i := 6) (by decide +kernel)), rfl, by decide +kernel, by decide, by decide +kernel⟩
theorem sr_k_X5_isGuest : sr_okV mX5_isGuest := ⟨sr_y_X5_isGuest, List.mem_append_right _ (List.mem_of_getElem? (i := 907) (by decide +kernel)), List.mem_append_left _ (List.mem_of_getElem? (i := 44) (by decide +kernel)), by decide⟩
theorem sr_y_X5_isThing : sr_okY mX5_isThing := ⟨List.mem_append_right _ (List.mem_of_getElem? (i := 1053) (by decide +kernel)), List.mem_append_right _ (List.mem_of_getElem? (i := 6) (by decide +kernel)), rfl, by decide +kernel, by decide, by decide +kernel⟩
theorem sr_k_X5_isThing : sr_okV mX5_isThing := ⟨sr_y_X5_isThing, List.mem_append_right _ (List.mem_of_getElem? (i := 1052) (by decide +kernel)), List.mem_append_left _ (List.mem_of_getElem? (i := 60) (by decide +kernel)), by decide⟩
theorem sr_y_X5_isThings : sr_okY mX5_isThings := ⟨List.mem_append_right _ (List.mem_of_getElem? (i := 1020) (by decide +kernel)), List.mem_append_right _ (List.mem_of_getElem? (i := 6) (by decide +kernel)), rfl, by decide +kernel, by decide, by decide +kernel⟩
theorem sr_k_X5_isThings : sr_okV mX5_isThings := ⟨sr_y_X5_isThings, List.mem_append_right _ (List.mem_of_getElem? (i := 1019) (by decide +kernel)), List.mem_append_left _ (List.mem_of_getElem? (i := 56) (by decide +kernel)), by decide⟩
theorem sr_y_X5_allLives : sr_okY mX5_allLives := ⟨List.mem_append_right _ (List.mem_of_getElem? (i := 924) (by decide +kernel)), List.mem_append_right _ (List.mem_of_getElem? (i := 6) (by decide +kernel)), rfl, by decide +kernel, by decide, by decide +kernel⟩
theorem sr_k_X5_allLives : sr_okV mX5_allLives := ⟨sr_y_X5_allLives, List.mem_append_right _ (List.mem_of_getElem? (i := 923) (by decide +kernel)), List.mem_append_left _ (List.mem_of_getElem? (i := 48) (by decide +kernel)), by decide⟩
theorem sr_y_X5_withChoice : sr_okY mX5_withChoice := ⟨List.mem_append_right _ (List.mem_of_getElem? (i := 927) (by decide +kernel)), List.mem_append_right _ (List.mem_of_getElem? (i := 6) (by decide +kernel)), rfl, by decide +kernel, by decide, by decide +kernel⟩
theorem sr_k_X5_withChoice : sr_okS mX5_withChoice := ⟨sr_y_X5_withChoice, List.mem_append_right _ (List.mem_of_getElem? (i := 926) (by decide +kernel))⟩
theorem sr_y_X5_secondBy : sr_okY mX5_secondBy := ⟨List.mem_append_right _ (List.mem_of_getElem? (i := 920) (by decide +kernel)), List.mem_append_right _ (List.mem_of_getElem? (i := 6) (by decide +kernel)), rfl, by decide +kernel, by decide, by decide +kernel⟩
theorem sr_k_X5_secondBy : sr_okV mX5_secondBy := ⟨sr_y_X5_secondBy, List.mem_append_right _ (List.mem_of_getElem? (i := 919) (by decide +kernel)), List.mem_append_left _ (List.mem_of_getElem? (i := 47) (by decide +kernel)), by decide⟩
theorem sr_y_X5_second : sr_okY mX5_second := ⟨List.mem_append_right _ (List.mem_of_getElem? (i := 916) (by decide +kernel)), List.mem_append_right _ (List.mem_of_getElem? (i := 6) (by decide +kernel)), rfl, by decide +kernel, by decide, by decide +kernel⟩
theorem sr_k_X5_second : sr_okV mX5_second := ⟨sr_y_X5_second, List.mem_append_right _ (List.mem_of_getElem? (i := 915) (by decide +kernel)), List.mem_append_left _ (List.mem_of_getElem? (i := 46) (by decide +kernel)), by decide⟩
theorem sr_y_X5_isHad : sr_okY mX5_isHad := ⟨List.mem_append_right _ (List.mem_of_getElem? (i := 950) (by decide +kernel)), List.mem_append_right _ (List.mem_of_getElem? (i := 6) (by decide +kernel)), rfl, by decide +kernel, by decide, by decide +kernel⟩
theorem sr_k_X5_isHad : sr_okV mX5_isHad := ⟨sr_y_X5_isHad, List.mem_append_right _ (List.mem_of_getElem? (i := 949) (by decide +kernel)), List.mem_append_left _ (List.mem_of_getElem? (i := 52) (by decide +kernel)), by decide⟩
theorem sr_y_X5_thingsOf : sr_okY mX5_thingsOf := ⟨List.mem_append_right _ (List.mem_of_getElem? (i := 946) (by decide +kernel)), List.mem_append_right _ (List.mem_of_getElem? (i := 6) (by decide +kernel)), rfl, by decide +kernel, by decide, by decide +kernel⟩
theorem sr_k_X5_thingsOf : sr_okV mX5_thingsOf := ⟨sr_y_X5_thingsOf, List.mem_append_right _ (List.mem_of_getElem? (i := 945) (by decide +kernel)), List.mem_append_left _ (List.mem_of_getElem? (i := 51) (by decide +kernel)), by decide⟩
theorem sr_y_X5_guestTells : sr_okY mX5_guestTells := ⟨List.mem_append_right _ (List.mem_of_getElem? (i := 912) (by decide +kernel)), List.mem_append_right _ (List.mem_of_getElem? (i := 6) (by decide +kernel)), rfl, by decide +kernel, by decide, by decide +kernel⟩
theorem sr_k_X5_guestTells : sr_okV mX5_guestTells := ⟨sr_y_X5_guestTells, List.mem_append_right _ (List.mem_of_getElem? (i := 911) (by decide +kernel)), List.mem_append_left _ (List.mem_of_getElem? (i := 45) (by decide +kernel)), by decide⟩
theorem sr_y_X5_guest : sr_okY mX5_guest := ⟨List.mem_append_right _ (List.mem_of_getElem? (i := 904) (by decide +kernel)), List.mem_append_right _ (List.mem_of_getElem? (i := 6) (by decide +kernel)), rfl, by decide +kernel, by decide, by decide +kernel⟩
theorem sr_k_X5_guest : sr_okV mX5_guest := ⟨sr_y_X5_guest, List.mem_append_right _ (List.mem_of_getElem? (i := 902) (by decide +kernel)), List.mem_append_right _ (List.mem_of_getElem? (i := 903) (by decide +kernel)), by decide⟩
theorem sr_y_X5_isSoldier : sr_okY mX5_isSoldier := ⟨List.mem_append_right _ (List.mem_of_getElem? (i := 942) (by decide +kernel)), List.mem_append_right _ (List.mem_of_getElem? (i := 6) (by decide +kernel)), rfl, by decide +kernel, by decide, by decide +kernel⟩
theorem sr_k_X5_isSoldier : sr_okV mX5_isSoldier := ⟨sr_y_X5_isSoldier, List.mem_append_right _ (List.mem_of_getElem? (i := 941) (by decide +kernel)), List.mem_append_left _ (List.mem_of_getElem? (i := 50) (by decide +kernel)), by decide⟩
theorem sr_y_X5_soldiers : sr_okY mX5_soldiers := ⟨List.mem_append_right _ (List.mem_of_getElem? (i := 938) (by decide +kernel)), List.mem_append_right _ (List.mem_of_getElem? (i := 6) (by decide +kernel)), rfl, by decide +kernel, by decide, by decide +kernel⟩
theorem sr_k_X5_soldiers : sr_okV mX5_soldiers := ⟨sr_y_X5_soldiers, List.mem_append_right _ (List.mem_of_getElem? (i := 937) (by decide +kernel)), List.mem_append_left _ (List.mem_of_getElem? (i := 49) (by decide +kernel)), by decide⟩
theorem sr_y_X5_mark : sr_okY mX5_mark := ⟨List.mem_append_right _ (List.mem_of_getElem? (i := 931) (by decide +kernel)), List.mem_append_right _ (List.mem_of_getElem? (i := 6) (by decide +kernel)), rfl, by decide +kernel, by decide, by decide +kernel⟩
theorem sr_k_X5_mark : sr_okV mX5_mark := ⟨sr_y_X5_mark, List.mem_append_right _ (List.mem_of_getElem? (i := 929) (by decide +kernel)), List.mem_append_right _ (List.mem_of_getElem? (i := 930) (by decide +kernel)), by decide⟩
theorem sr_y_X5_turn : sr_okY mX5_turn := ⟨List.mem_append_right _ (List.mem_of_getElem? (i := 954) (by decide +kernel)), List.mem_append_right _ (List.mem_of_getElem? (i := 6) (by decide +kernel)), rfl, by decide +kernel, by decide, by decide +kernel⟩
theorem sr_k_X5_turn : sr_okV mX5_turn := ⟨sr_y_X5_turn, List.mem_append_right _ (List.mem_of_getElem? (i := 952) (by decide +kernel)), List.mem_append_right _ (List.mem_of_getElem? (i := 953) (by decide +kernel)), by decide⟩
theorem sr_y_X5_remember : sr_okY mX5_remember := ⟨List.mem_append_right _ (List.mem_of_getElem? (i := 965) (by decide +kernel)), List.mem_append_right _ (List.mem_of_getElem? (i := 6) (by decide +kernel)), rfl, by decide +kernel, by decide, by decide +kernel⟩
theorem sr_k_X5_remember : sr_okV mX5_remember := ⟨sr_y_X5_remember, List.mem_append_right _ (List.mem_of_getElem? (i := 964) (by decide +kernel)), List.mem_append_left _ (List.mem_of_getElem? (i := 53) (by decide +kernel)), by decide⟩
theorem sr_y_X5_uses : sr_okY mX5_uses := ⟨List.mem_append_right _ (List.mem_of_getElem? (i := 977) (by decide +kernel)), List.mem_append_right _ (List.mem_of_getElem? (i := 6) (by decide +kernel)), rfl, by decide +kernel, by decide, by decide +kernel⟩
theorem sr_k_X5_uses : sr_okV mX5_uses := ⟨sr_y_X5_uses, List.mem_append_right _ (List.mem_of_getElem? (i := 976) (by decide +kernel)), List.mem_append_left _ (List.mem_of_getElem? (i := 54) (by decide +kernel)), by decide⟩
theorem sr_y_X5_change : sr_okY mX5_change := ⟨List.mem_append_right _ (List.mem_of_getElem? (i := 958) (by decide +kernel)), List.mem_append_right _ (List.mem_of_getElem? (i := 6) (by decide +kernel)), rfl, by decide +kernel, by decide, by decide +kernel⟩
theorem sr_k_X5_change : sr_okV mX5_change := ⟨sr_y_X5_change, List.mem_append_right _ (List.mem_of_getElem? (i := 956) (by decide +kernel)), List.mem_append_right _ (List.mem_of_getElem? (i := 957) (by decide +kernel)), by decide⟩
theorem sr_y_X5_lock : sr_okY mX5_lock := ⟨List.mem_append_right _ (List.mem_of_getElem? (i := 969) (by decide +kernel)), List.mem_append_right _ (List.mem_of_getElem? (i := 6) (by decide +kernel)), rfl, by decide +kernel, by decide, by decide +kernel⟩
theorem sr_k_X5_lock : sr_okV mX5_lock := ⟨sr_y_X5_lock, List.mem_append_right _ (List.mem_of_getElem? (i := 967) (by decide +kernel)), List.mem_append_right _ (List.mem_of_getElem? (i := 968) (by decide +kernel)), by decide⟩
theorem sr_y_X5_use : sr_okY mX5_use := ⟨List.mem_append_right _ (List.mem_of_getElem? (i := 973) (by decide +kernel)), List.mem_append_right _ (List.mem_of_getElem? (i := 6) (by decide +kernel)), rfl, by decide +kernel, by decide, by decide +kernel⟩
theorem sr_k_X5_use : sr_okV mX5_use := ⟨sr_y_X5_use, List.mem_append_right _ (List.mem_of_getElem? (i := 971) (by decide +kernel)), List.mem_append_right _ (List.mem_of_getElem? (i := 972) (by decide +kernel)), by decide⟩
theorem sr_y_X5_undo : sr_okY mX5_undo := ⟨List.mem_append_right _ (List.mem_of_getElem? (i := 981) (by decide +kernel)), List.mem_append_right _ (List.mem_of_getElem? (i := 6) (by decide +kernel)), rfl, by decide +kernel, by decide, by decide +kernel⟩
theorem sr_k_X5_undo : sr_okV mX5_undo := ⟨sr_y_X5_undo, List.mem_append_right _ (List.mem_of_getElem? (i := 979) (by decide +kernel)), List.mem_append_right _ (List.mem_of_getElem? (i := 980) (by decide +kernel)), by decide⟩
theorem sr_y_X5_keep : sr_okY mX5_keep := ⟨List.mem_append_right _ (List.mem_of_getElem? (i := 985) (by decide +kernel)), List.mem_append_right _ (List.mem_of_getElem? (i := 6) (by decide +kernel)), rfl, by decide +kernel, by decide, by decide +kernel⟩
theorem sr_k_X5_keep : sr_okV mX5_keep := ⟨sr_y_X5_keep, List.mem_append_right _ (List.mem_of_getElem? (i := 983) (by decide +kernel)), List.mem_append_right _ (List.mem_of_getElem? (i := 984) (by decide +kernel)), by decide⟩
theorem sr_y_X5_on : sr_okY mX5_on := ⟨List.mem_append_right _ (List.mem_of_getElem? (i := 989) (by decide +kernel)), List.mem_append_right _ (List.mem_of_getElem? (i := 6) (by decide +kernel)), rfl, by decide +kernel, by decide, by decide +kernel⟩
theorem sr_k_X5_on : sr_okV mX5_on := ⟨sr_y_X5_on, List.mem_append_right _ (List.mem_of_getElem? (i := 987) (by decide +kernel)), List.mem_append_right _ (List.mem_of_getElem? (i := 988) (by decide +kernel)), by decide⟩
theorem sr_y_X5_roomOf : sr_okY mX5_roomOf := ⟨List.mem_append_right _ (List.mem_of_getElem? (i := 997) (by decide +kernel)), List.mem_append_right _ (List.mem_of_getElem? (i := 6) (by decide +kernel)), rfl, by decide +kernel, by decide, by decide +kernel⟩
theorem sr_k_X5_roomOf : sr_okV mX5_roomOf := ⟨sr_y_X5_roomOf, List.mem_append_right _ (List.mem_of_getElem? (i := 996) (by decide +kernel)), List.mem_append_left _ (List.mem_of_getElem? (i := 55) (by decide +kernel)), by decide⟩
theorem sr_y_X5_things : sr_okY mX5_things := ⟨List.mem_append_right _ (List.mem_of_getElem? (i := 993) (by decide +kernel)), List.mem_append_right _ (List.mem_of_getElem? (i := 6) (by decide +kernel)), rfl, by decide +kernel, by decide, by decide +kernel⟩
theorem sr_k_X5_things : sr_okV mX5_things := ⟨sr_y_X5_things, List.mem_append_right _ (List.mem_of_getElem? (i := 991) (by decide +kernel)), List.mem_append_right _ (List.mem_of_getElem? (i := 992) (by decide +kernel)), by decide⟩
theorem sr_y_X5_both : sr_okY mX5_both := ⟨List.mem_append_right _ (List.mem_of_getElem? (i := 1001) (by decide +kernel)), List.mem_append_right _ (List.mem_of_getElem? (i := 6) (by decide +kernel)), rfl, by decide +kernel, by decide, by decide +kernel⟩
theorem sr_k_X5_both : sr_okV mX5_both := ⟨sr_y_X5_both, List.mem_append_right _ (List.mem_of_getElem? (i := 999) (by decide +kernel)), List.mem_append_right _ (List.mem_of_getElem? (i := 1000) (by decide +kernel)), by decide⟩
theorem sr_y_X5_lowest : sr_okY mX5_lowest := ⟨List.mem_append_right _ (List.mem_of_getElem? (i := 1008) (by decide +kernel)), List.mem_append_right _ (List.mem_of_getElem? (i := 6) (by decide +kernel)), rfl, by decide +kernel, by decide, by decide +kernel⟩
theorem sr_k_X5_lowest : sr_okS mX5_lowest := ⟨sr_y_X5_lowest, List.mem_append_right _ (List.mem_of_getElem? (i := 1007) (by decide +kernel))⟩
theorem sr_y_X5_apart : sr_okY mX5_apart := ⟨List.mem_append_right _ (List.mem_of_getElem? (i := 1005) (by decide +kernel)), List.mem_append_right _ (List.mem_of_getElem? (i := 6) (by decide +kernel)), rfl, by decide +kernel, by decide, by decide +kernel⟩
theorem sr_k_X5_apart : sr_okV mX5_apart := ⟨sr_y_X5_apart, List.mem_append_right _ (List.mem_of_getElem? (i := 1003) (by decide +kernel)), List.mem_append_right _ (List.mem_of_getElem? (i := 1004) (by decide +kernel)), by decide⟩
theorem sr_y_X5_has : sr_okY mX5_has := ⟨List.mem_append_right _ (List.mem_of_getElem? (i := 1012) (by decide +kernel)), List.mem_append_right _ (List.mem_of_getElem? (i := 6) (by decide +kernel)), rfl, by decide +kernel, by decide, by decide +kernel⟩
theorem sr_k_X5_has : sr_okV mX5_has := ⟨sr_y_X5_has, List.mem_append_right _ (List.mem_of_getElem? (i := 1010) (by decide +kernel)), List.mem_append_right _ (List.mem_of_getElem? (i := 1011) (by decide +kernel)), by decide⟩
theorem sr_y_X5_fits : sr_okY mX5_fits := ⟨List.mem_append_right _ (List.mem_of_getElem? (i := 1016) (by decide +kernel)), List.mem_append_right _ (List.mem_of_getElem? (i := 6) (by decide +kernel)), rfl, by decide +kernel, by decide, by decide +kernel⟩
theorem sr_k_X5_fits : sr_okV mX5_fits := ⟨sr_y_X5_fits, List.mem_append_right _ (List.mem_of_getElem? (i := 1014) (by decide +kernel)), List.mem_append_right _ (List.mem_of_getElem? (i := 1015) (by decide +kernel)), by decide⟩
theorem sr_y_X5_isTold : sr_okY mX5_isTold := ⟨List.mem_append_right _ (List.mem_of_getElem? (i := 1032) (by decide +kernel)), List.mem_append_right _ (List.mem_of_getElem? (i := 6) (by decide +kernel)), rfl, by decide +kernel, by decide, by decide +kernel⟩
theorem sr_k_X5_isTold : sr_okV mX5_isTold := ⟨sr_y_X5_isTold, List.mem_append_right _ (List.mem_of_getElem? (i := 1031) (by decide +kernel)), List.mem_append_left _ (List.mem_of_getElem? (i := 58) (by decide +kernel)), by decide⟩
theorem sr_y_X5_fewestBy : sr_okY mX5_fewestBy := ⟨List.mem_append_right _ (List.mem_of_getElem? (i := 1028) (by decide +kernel)), List.mem_append_right _ (List.mem_of_getElem? (i := 6) (by decide +kernel)), rfl, by decide +kernel, by decide, by decide +kernel⟩
theorem sr_k_X5_fewestBy : sr_okV mX5_fewestBy := ⟨sr_y_X5_fewestBy, List.mem_append_right _ (List.mem_of_getElem? (i := 1027) (by decide +kernel)), List.mem_append_left _ (List.mem_of_getElem? (i := 57) (by decide +kernel)), by decide⟩
theorem sr_y_X5_looks : sr_okY mX5_looks := ⟨List.mem_append_right _ (List.mem_of_getElem? (i := 1024) (by decide +kernel)), List.mem_append_right _ (List.mem_of_getElem? (i := 6) (by decide +kernel)), rfl, by decide +kernel, by decide, by decide +kernel⟩
theorem sr_k_X5_looks : sr_okV mX5_looks := ⟨sr_y_X5_looks, List.mem_append_right _ (List.mem_of_getElem? (i := 1022) (by decide +kernel)), List.mem_append_right _ (List.mem_of_getElem? (i := 1023) (by decide +kernel)), by decide⟩
theorem sr_y_X5_thereBy : sr_okY mX5_thereBy := ⟨List.mem_append_right _ (List.mem_of_getElem? (i := 1041) (by decide +kernel)), List.mem_append_right _ (List.mem_of_getElem? (i := 6) (by decide +kernel)), rfl, by decide +kernel, by decide, by decide +kernel⟩
theorem sr_k_X5_thereBy : sr_okV mX5_thereBy := ⟨sr_y_X5_thereBy, List.mem_append_right _ (List.mem_of_getElem? (i := 1040) (by decide +kernel)), List.mem_append_left _ (List.mem_of_getElem? (i := 59) (by decide +kernel)), by decide⟩
theorem sr_y_X5_drawer : sr_okY mX5_drawer := ⟨List.mem_append_right _ (List.mem_of_getElem? (i := 1036) (by decide +kernel)), List.mem_append_right _ (List.mem_of_getElem? (i := 6) (by decide +kernel)), rfl, by decide +kernel, by decide, by decide +kernel⟩
theorem sr_k_X5_drawer : sr_okV mX5_drawer := ⟨sr_y_X5_drawer, List.mem_append_right _ (List.mem_of_getElem? (i := 1034) (by decide +kernel)), List.mem_append_right _ (List.mem_of_getElem? (i := 1035) (by decide +kernel)), by decide⟩
theorem sr_y_X5_lives : sr_okY mX5_lives := ⟨List.mem_append_right _ (List.mem_of_getElem? (i := 1045) (by decide +kernel)), List.mem_append_right _ (List.mem_of_getElem? (i := 6) (by decide +kernel)), rfl, by decide +kernel, by decide, by decide +kernel⟩
theorem sr_k_X5_lives : sr_okV mX5_lives := ⟨sr_y_X5_lives, List.mem_append_right _ (List.mem_of_getElem? (i := 1043) (by decide +kernel)), List.mem_append_right _ (List.mem_of_getElem? (i := 1044) (by decide +kernel)), by decide⟩
theorem sr_y_X5_nearest : sr_okY mX5_nearest := ⟨List.mem_append_right _ (List.mem_of_getElem? (i := 1049) (by decide +kernel)), List.mem_append_right _ (List.mem_of_getElem? (i := 6) (by decide +kernel)), rfl, by decide +kernel, by decide, by decide +kernel⟩
theorem sr_k_X5_nearest : sr_okV mX5_nearest := ⟨sr_y_X5_nearest, List.mem_append_right _ (List.mem_of_getElem? (i := 1047) (by decide +kernel)), List.mem_append_right _ (List.mem_of_getElem? (i := 1048) (by decide +kernel)), by decide⟩
theorem sr_y_X5_isSecond : sr_okY mX5_isSecond := ⟨List.mem_append_right _ (List.mem_of_getElem? (i := 1061) (by decide +kernel)), List.mem_append_right _ (List.mem_of_getElem? (i := 6) (by decide +kernel)), rfl, by decide +kernel, by decide, by decide +kernel⟩
theorem sr_k_X5_isSecond : sr_okV mX5_isSecond := ⟨sr_y_X5_isSecond, List.mem_append_right _ (List.mem_of_getElem? (i := 1060) (by decide +kernel)), List.mem_append_left _ (List.mem_of_getElem? (i := 61) (by decide +kernel)), by decide⟩
theorem sr_y_X5_twins : sr_okY mX5_twins := ⟨List.mem_append_right _ (List.mem_of_getElem? (i := 1057) (by decide +kernel)), List.mem_append_right _ (List.mem_of_getElem? (i := 6) (by decide +kernel)), rfl, by decide +kernel, by decide, by decide +kernel⟩
theorem sr_k_X5_twins : sr_okV mX5_twins := ⟨sr_y_X5_twins, List.mem_append_right _ (List.mem_of_getElem? (i := 1055) (by decide +kernel)), List.mem_append_right _ (List.mem_of_getElem? (i := 1056) (by decide +kernel)), by decide⟩
theorem sr_y_X5_pairs : sr_okY mX5_pairs := ⟨List.mem_append_right _ (List.mem_of_getElem? (i := 1065) (by decide +kernel)), List.mem_append_right _ (List.mem_of_getElem? (i := 6) (by decide +kernel)), rfl, by decide +kernel, by decide, by decide +kernel⟩
theorem sr_k_X5_pairs : sr_okV mX5_pairs := ⟨sr_y_X5_pairs, List.mem_append_right _ (List.mem_of_getElem? (i := 1063) (by decide +kernel)), List.mem_append_right _ (List.mem_of_getElem? (i := 1064) (by decide +kernel)), by decide⟩
theorem sr_y_X5_layRings : sr_okY mX5_layRings := ⟨List.mem_append_right _ (List.mem_of_getElem? (i := 1073) (by decide +kernel)), List.mem_append_right _ (List.mem_of_getElem? (i := 6) (by decide +kernel)), rfl, by decide +kernel, by decide, by decide +kernel⟩
theorem sr_k_X5_layRings : sr_okV mX5_layRings := ⟨sr_y_X5_layRings, List.mem_append_right _ (List.mem_of_getElem? (i := 1072) (by decide +kernel)), List.mem_append_left _ (List.mem_of_getElem? (i := 62) (by decide +kernel)), by decide⟩
theorem sr_y_X5_ring : sr_okY mX5_ring := ⟨List.mem_append_right _ (List.mem_of_getElem? (i := 1069) (by decide +kernel)), List.mem_append_right _ (List.mem_of_getElem? (i := 6) (by decide +kernel)), rfl, by decide +kernel, by decide, by decide +kernel⟩
theorem sr_k_X5_ring : sr_okV mX5_ring := ⟨sr_y_X5_ring, List.mem_append_right _ (List.mem_of_getElem? (i := 1067) (by decide +kernel)), List.mem_append_right _ (List.mem_of_getElem? (i := 1068) (by decide +kernel)), by decide⟩
theorem sr_y_X5_who : sr_okY mX5_who := ⟨List.mem_append_right _ (List.mem_of_getElem? (i := 1077) (by decide +kernel)), List.mem_append_right _ (List.mem_of_getElem? (i := 6) (by decide +kernel)), rfl, by decide +kernel, by decide, by decide +kernel⟩
theorem sr_k_X5_who : sr_okV mX5_who := ⟨sr_y_X5_who, List.mem_append_right _ (List.mem_of_getElem? (i := 1075) (by decide +kernel)), List.mem_append_right _ (List.mem_of_getElem? (i := 1076) (by decide +kernel)), by decide⟩
theorem sr_y_X5_marks : sr_okY mX5_marks := ⟨List.mem_append_right _ (List.mem_of_getElem? (i := 1081) (by decide +kernel)), List.mem_append_right _ (List.mem_of_getElem? (i := 6) (by decide +kernel)), rfl, by decide +kernel, by decide, by decide +kernel⟩
theorem sr_k_X5_marks : sr_okV mX5_marks := ⟨sr_y_X5_marks, List.mem_append_right _ (List.mem_of_getElem? (i := 1079) (by decide +kernel)), List.mem_append_right _ (List.mem_of_getElem? (i := 1080) (by decide +kernel)), by decide⟩
theorem sr_y_X5_billOf : sr_okY mX5_billOf := ⟨List.mem_append_right _ (List.mem_of_getElem? (i := 1089) (by decide +kernel)), List.mem_append_right _ (List.mem_of_getElem? (i := 6) (by decide +kernel)), rfl, by decide +kernel, by decide, by decide +kernel⟩
theorem sr_k_X5_billOf : sr_okV mX5_billOf := ⟨sr_y_X5_billOf, List.mem_append_right _ (List.mem_of_getElem? (i := 1088) (by decide +kernel)), List.mem_append_left _ (List.mem_of_getElem? (i := 63) (by decide +kernel)), by decide⟩
theorem sr_y_X5_bill : sr_okY mX5_bill := ⟨List.mem_append_right _ (List.mem_of_getElem? (i := 1085) (by decide +kernel)), List.mem_append_right _ (List.mem_of_getElem? (i := 6) (by decide +kernel)), rfl, by decide +kernel, by decide, by decide +kernel⟩
theorem sr_k_X5_bill : sr_okV mX5_bill := ⟨sr_y_X5_bill, List.mem_append_right _ (List.mem_of_getElem? (i := 1083) (by decide +kernel)), List.mem_append_right _ (List.mem_of_getElem? (i := 1084) (by decide +kernel)), by decide⟩
theorem sr_y_X5_pays : sr_okY mX5_pays := ⟨List.mem_append_right _ (List.mem_of_getElem? (i := 1093) (by decide +kernel)), List.mem_append_right _ (List.mem_of_getElem? (i := 6) (by decide +kernel)), rfl, by decide +kernel, by decide, by decide +kernel⟩
theorem sr_k_X5_pays : sr_okV mX5_pays := ⟨sr_y_X5_pays, List.mem_append_right _ (List.mem_of_getElem? (i := 1091) (by decide +kernel)), List.mem_append_right _ (List.mem_of_getElem? (i := 1092) (by decide +kernel)), by decide⟩
theorem sr_y_X5_cheapest : sr_okY mX5_cheapest := ⟨List.mem_append_right _ (List.mem_of_getElem? (i := 1097) (by decide +kernel)), List.mem_append_right _ (List.mem_of_getElem? (i := 6) (by decide +kernel)), rfl, by decide +kernel, by decide, by decide +kernel⟩
theorem sr_k_X5_cheapest : sr_okV mX5_cheapest := ⟨sr_y_X5_cheapest, List.mem_append_right _ (List.mem_of_getElem? (i := 1095) (by decide +kernel)), List.mem_append_right _ (List.mem_of_getElem? (i := 1096) (by decide +kernel)), by decide⟩
theorem sr_y_X5_spread : sr_okY mX5_spread := ⟨List.mem_append_right _ (List.mem_of_getElem? (i := 1101) (by decide +kernel)), List.mem_append_right _ (List.mem_of_getElem? (i := 6) (by decide +kernel)), rfl, by decide +kernel, by decide, by decide +kernel⟩
theorem sr_k_X5_spread : sr_okV mX5_spread := ⟨sr_y_X5_spread, List.mem_append_right _ (List.mem_of_getElem? (i := 1099) (by decide +kernel)), List.mem_append_right _ (List.mem_of_getElem? (i := 1100) (by decide +kernel)), by decide⟩
theorem sr_y_X5_odds : sr_okY mX5_odds := ⟨List.mem_append_right _ (List.mem_of_getElem? (i := 1109) (by decide +kernel)), List.mem_append_right _ (List.mem_of_getElem? (i := 6) (by decide +kernel)), rfl, by decide +kernel, by decide, by decide +kernel⟩
theorem sr_k_X5_odds : sr_okV mX5_odds := ⟨sr_y_X5_odds, List.mem_append_right _ (List.mem_of_getElem? (i := 1107) (by decide +kernel)), List.mem_append_right _ (List.mem_of_getElem? (i := 1108) (by decide +kernel)), by decide⟩
theorem sr_y_X5_lots : sr_okY mX5_lots := ⟨List.mem_append_right _ (List.mem_of_getElem? (i := 1113) (by decide +kernel)), List.mem_append_right _ (List.mem_of_getElem? (i := 6) (by decide +kernel)), rfl, by decide +kernel, by decide, by decide +kernel⟩
theorem sr_k_X5_lots : sr_okV mX5_lots := ⟨sr_y_X5_lots, List.mem_append_right _ (List.mem_of_getElem? (i := 1111) (by decide +kernel)), List.mem_append_right _ (List.mem_of_getElem? (i := 1112) (by decide +kernel)), by decide⟩
theorem sr_y_X5_counted : sr_okY mX5_counted := ⟨List.mem_append_right _ (List.mem_of_getElem? (i := 1126) (by decide +kernel)), List.mem_append_right _ (List.mem_of_getElem? (i := 6) (by decide +kernel)), rfl, by decide +kernel, by decide, by decide +kernel⟩
theorem sr_k_X5_counted : sr_okV mX5_counted := ⟨sr_y_X5_counted, List.mem_append_right _ (List.mem_of_getElem? (i := 1125) (by decide +kernel)), List.mem_append_left _ (List.mem_of_getElem? (i := 65) (by decide +kernel)), by decide⟩
theorem sr_y_X5_count : sr_okY mX5_count := ⟨List.mem_append_right _ (List.mem_of_getElem? (i := 1122) (by decide +kernel)), List.mem_append_right _ (List.mem_of_getElem? (i := 6) (by decide +kernel)), rfl, by decide +kernel, by decide, by decide +kernel⟩
theorem sr_k_X5_count : sr_okV mX5_count := ⟨sr_y_X5_count, List.mem_append_right _ (List.mem_of_getElem? (i := 1120) (by decide +kernel)), List.mem_append_right _ (List.mem_of_getElem? (i := 1121) (by decide +kernel)), by decide⟩
theorem sr_y_X5_mix : sr_okY mX5_mix := ⟨List.mem_append_right _ (List.mem_of_getElem? (i := 1135) (by decide +kernel)), List.mem_append_right _ (List.mem_of_getElem? (i := 6) (by decide +kernel)), rfl, by decide +kernel, by decide, by decide +kernel⟩
theorem sr_k_X5_mix : sr_okV mX5_mix := ⟨sr_y_X5_mix, List.mem_append_right _ (List.mem_of_getElem? (i := 1134) (by decide +kernel)), List.mem_append_left _ (List.mem_of_getElem? (i := 66) (by decide +kernel)), by decide⟩
theorem sr_y_X5_mixHotel : sr_okY mX5_mixHotel := ⟨List.mem_append_right _ (List.mem_of_getElem? (i := 1140) (by decide +kernel)), List.mem_append_right _ (List.mem_of_getElem? (i := 6) (by decide +kernel)), rfl, by decide +kernel, by decide, by decide +kernel⟩
theorem sr_k_X5_mixHotel : sr_okV mX5_mixHotel := ⟨sr_y_X5_mixHotel, List.mem_append_right _ (List.mem_of_getElem? (i := 1139) (by decide +kernel)), List.mem_append_left _ (List.mem_of_getElem? (i := 67) (by decide +kernel)), by decide⟩
theorem sr_y_X5_digest : sr_okY mX5_digest := ⟨List.mem_append_right _ (List.mem_of_getElem? (i := 1130) (by decide +kernel)), List.mem_append_right _ (List.mem_of_getElem? (i := 6) (by decide +kernel)), rfl, by decide +kernel, by decide, by decide +kernel⟩
theorem sr_k_X5_digest : sr_okV mX5_digest := ⟨sr_y_X5_digest, List.mem_append_right _ (List.mem_of_getElem? (i := 1128) (by decide +kernel)), List.mem_append_right _ (List.mem_of_getElem? (i := 1129) (by decide +kernel)), by decide⟩
theorem sr_y_J6_bitCount : sr_okY mJ6_bitCount := ⟨List.mem_append_right _ (List.mem_of_getElem? (i := 408) (by decide +kernel)), List.mem_append_right _ (List.mem_of_getElem? (i := 8) (by decide +kernel)), rfl, by decide +kernel, by decide, by decide +kernel⟩
theorem sr_k_J6_bitCount : sr_okS mJ6_bitCount := ⟨sr_y_J6_bitCount, List.mem_append_right _ (List.mem_of_getElem? (i := 407) (by decide +kernel))⟩
/-- what the tables say of a method link -/
def sr_okL (own idx kind : Nat) (md : sr_MD) : Prop := match kind with
  | 0 => Cond.methodLink (sr_R own) idx md.2.1 ∈ lw_tbl ∧ sr_okV md
  | 1 => Cond.methodLink (sr_R own) idx md.2.1 ∈ lw_tbl ∧ sr_okS md
  | 2 => Cond.methodLink (sr_R own) idx md.2.1 ∈ lw_tbl ∧ sr_okI md
  | 3 => Cond.methodLink (sr_R own) idx objectInit ∈ lw_tbl
  | 4 => Cond.methodLink (sr_R own) idx arraycopyName ∈ lw_tbl
  | 5 => Cond.methodLinkNest (sr_R own) idx md.2.1 "SecondRoom" ∈ lw_tbl ∧ sr_okI md
  | _ => Cond.methodLink (sr_R own) idx yJ9_max_7cf53 ∈ lw_tbl
theorem sr_l_0_3 : sr_okL 0 3 3 mX0_clear := List.mem_append_right _ (List.mem_of_getElem? (i := 60) (by decide +kernel))
theorem sr_l_0_37 : sr_okL 0 37 0 mX0_clear := ⟨List.mem_append_right _ (List.mem_of_getElem? (i := 341) (by decide +kernel)), sr_k_X0_clear⟩
theorem sr_l_0_40 : sr_okL 0 40 0 mX0_addGuest := ⟨List.mem_append_right _ (List.mem_of_getElem? (i := 342) (by decide +kernel)), sr_k_X0_addGuest⟩
theorem sr_l_0_44 : sr_okL 0 44 0 mX0_addThing := ⟨List.mem_append_right _ (List.mem_of_getElem? (i := 343) (by decide +kernel)), sr_k_X0_addThing⟩
theorem sr_l_0_58 : sr_okL 0 58 0 mX0_lifeCount := ⟨List.mem_append_right _ (List.mem_of_getElem? (i := 376) (by decide +kernel)), sr_k_X0_lifeCount⟩
theorem sr_l_0_62 : sr_okL 0 62 0 mX0_lastAsFirst := ⟨List.mem_append_right _ (List.mem_of_getElem? (i := 380) (by decide +kernel)), sr_k_X0_lastAsFirst⟩
theorem sr_l_0_51 : sr_okL 0 51 0 mX0_isOfKind := ⟨List.mem_append_right _ (List.mem_of_getElem? (i := 416) (by decide +kernel)), sr_k_X0_isOfKind⟩
theorem sr_l_0_55 : sr_okL 0 55 0 mX0_lifeHas := ⟨List.mem_append_right _ (List.mem_of_getElem? (i := 425) (by decide +kernel)), sr_k_X0_lifeHas⟩
set_option maxRecDepth 20000 in
theorem sr_mls_ok_0 : ∀ q ∈ sr_mls_0, sr_okL 0 q.1 q.2.1 q.2.2 := List.forall_mem_cons.mpr ⟨sr_l_0_3, List.forall_mem_cons.mpr ⟨sr_l_0_37, List.forall_mem_cons.mpr ⟨sr_l_0_40, List.forall_mem_cons.mpr ⟨sr_l_0_44, List.forall_mem_cons.mpr ⟨sr_l_0_58, List.forall_mem_cons.mpr ⟨sr_l_0_62, List.forall_mem_cons.mpr ⟨sr_l_0_51, List.forall_mem_cons.mpr ⟨sr_l_0_55, fun _ h => absurd h List.not_mem_nil⟩⟩⟩⟩⟩⟩⟩⟩
theorem sr_f_0_9 : Cond.fieldLink (sr_R 0) 9 (TX0 0).1 (TX0 0).2.1 (TX0 0).2.2.1 ∈ lw_tbl := List.mem_append_right _ (List.mem_of_getElem? (i := 61) (by decide +kernel))
theorem sr_f_0_15 : Cond.fieldLink (sr_R 0) 15 (TX0 1).1 (TX0 1).2.1 (TX0 1).2.2.1 ∈ lw_tbl := List.mem_append_right _ (List.mem_of_getElem? (i := 64) (by decide +kernel))
theorem sr_f_0_18 : Cond.fieldLink (sr_R 0) 18 (TX0 2).1 (TX0 2).2.1 (TX0 2).2.2.1 ∈ lw_tbl := List.mem_append_right _ (List.mem_of_getElem? (i := 67) (by decide +kernel))
theorem sr_f_0_21 : Cond.fieldLink (sr_R 0) 21 (TX0 3).1 (TX0 3).2.1 (TX0 3).2.2.1 ∈ lw_tbl := List.mem_append_right _ (List.mem_of_getElem? (i := 70) (by decide +kernel))
theorem sr_f_0_25 : Cond.fieldLink (sr_R 0) 25 (TX0 4).1 (TX0 4).2.1 (TX0 4).2.2.1 ∈ lw_tbl := List.mem_append_right _ (List.mem_of_getElem? (i := 72) (by decide +kernel))
theorem sr_f_0_28 : Cond.fieldLink (sr_R 0) 28 (TX0 5).1 (TX0 5).2.1 (TX0 5).2.2.1 ∈ lw_tbl := List.mem_append_right _ (List.mem_of_getElem? (i := 74) (by decide +kernel))
theorem sr_f_0_31 : Cond.fieldLink (sr_R 0) 31 (TX0 6).1 (TX0 6).2.1 (TX0 6).2.2.1 ∈ lw_tbl := List.mem_append_right _ (List.mem_of_getElem? (i := 76) (by decide +kernel))
theorem sr_f_0_34 : Cond.fieldLink (sr_R 0) 34 (TX0 7).1 (TX0 7).2.1 (TX0 7).2.2.1 ∈ lw_tbl := List.mem_append_right _ (List.mem_of_getElem? (i := 77) (by decide +kernel))
def sr_okF (own idx ci k : Nat) : Prop := ∃ (C : String) (T : u_T) (N : Nat), vwCl[ci]? = some (C, T, N) ∧ k < N ∧ Cond.fieldLink (sr_R own) idx (T k).1 (T k).2.1 (T k).2.2.1 ∈ lw_tbl
theorem sr_fls_ok_0 : ∀ q ∈ sr_fls_0, sr_okF 0 q.1 q.2.1 q.2.2 := List.forall_mem_cons.mpr ⟨⟨RX0, TX0, 8, rfl, by decide, sr_f_0_9⟩, List.forall_mem_cons.mpr ⟨⟨RX0, TX0, 8, rfl, by decide, sr_f_0_15⟩, List.forall_mem_cons.mpr ⟨⟨RX0, TX0, 8, rfl, by decide, sr_f_0_18⟩, List.forall_mem_cons.mpr ⟨⟨RX0, TX0, 8, rfl, by decide, sr_f_0_21⟩, List.forall_mem_cons.mpr ⟨⟨RX0, TX0, 8, rfl, by decide, sr_f_0_25⟩, List.forall_mem_cons.mpr ⟨⟨RX0, TX0, 8, rfl, by decide, sr_f_0_28⟩, List.forall_mem_cons.mpr ⟨⟨RX0, TX0, 8, rfl, by decide, sr_f_0_31⟩, List.forall_mem_cons.mpr ⟨⟨RX0, TX0, 8, rfl, by decide, sr_f_0_34⟩, fun _ h => absurd h List.not_mem_nil⟩⟩⟩⟩⟩⟩⟩⟩
def sr_okN (own idx ci : Nat) : Prop := ∃ (C : String) (T : u_T) (N : Nat), vwCl[ci]? = some (C, T, N) ∧ Cond.classLink (sr_R own) idx C ∈ lw_tbl ∧ Cond.instantiable C N ∈ lw_tbl ∧ Cond.initialized C ∈ lw_tbl
theorem sr_nls_ok_0 : ∀ q ∈ sr_nls_0, sr_okN 0 q.1 q.2 := fun _ h => absurd h List.not_mem_nil
theorem sr_ics_ok_0 : ∀ q ∈ sr_ics_0, Cond.constant (sr_R 0) q.1 q.2 ∈ lw_tbl := fun _ h => absurd h List.not_mem_nil
theorem sr_lcs_ok_0 : ∀ q ∈ sr_lcs_0, Cond.constantLong (sr_R 0) q.1 q.2 ∈ lw_tbl := fun _ h => absurd h List.not_mem_nil
theorem sr_sls_ok_0 : ∀ q ∈ sr_sls_0, Cond.fieldLinkNest (sr_R 0) q.1 "SecondRoom" (if q.2 = 0 then "KIND_LETTERS" else "KIND_ABOVE") "[I" "SecondRoom" ∈ lw_tbl := List.forall_mem_cons.mpr ⟨List.mem_append_right _ (List.mem_of_getElem? (i := 404) (by decide +kernel)), fun _ h => absurd h List.not_mem_nil⟩
theorem sr_l_1_3 : sr_okL 1 3 3 mX0_clear := List.mem_append_right _ (List.mem_of_getElem? (i := 100) (by decide +kernel))
theorem sr_l_1_45 : sr_okL 1 45 0 mX1_carryOut := ⟨List.mem_append_right _ (List.mem_of_getElem? (i := 441) (by decide +kernel)), sr_k_X1_carryOut⟩
theorem sr_l_1_49 : sr_okL 1 49 0 mX1_roomOf := ⟨List.mem_append_right _ (List.mem_of_getElem? (i := 445) (by decide +kernel)), sr_k_X1_roomOf⟩
theorem sr_l_1_39 : sr_okL 1 39 4 mX0_clear := List.mem_append_right _ (List.mem_of_getElem? (i := 470) (by decide +kernel))
set_option maxRecDepth 20000 in
theorem sr_mls_ok_1 : ∀ q ∈ sr_mls_1, sr_okL 1 q.1 q.2.1 q.2.2 := List.forall_mem_cons.mpr ⟨sr_l_1_3, List.forall_mem_cons.mpr ⟨sr_l_1_45, List.forall_mem_cons.mpr ⟨sr_l_1_49, List.forall_mem_cons.mpr ⟨sr_l_1_39, fun _ h => absurd h List.not_mem_nil⟩⟩⟩⟩
theorem sr_f_1_34 : Cond.fieldLink (sr_R 1) 34 (TX0 5).1 (TX0 5).2.1 (TX0 5).2.2.1 ∈ lw_tbl := List.mem_append_right _ (List.mem_of_getElem? (i := 75) (by decide +kernel))
theorem sr_f_1_9 : Cond.fieldLink (sr_R 1) 9 (TX1 0).1 (TX1 0).2.1 (TX1 0).2.2.1 ∈ lw_tbl := List.mem_append_right _ (List.mem_of_getElem? (i := 101) (by decide +kernel))
theorem sr_f_1_15 : Cond.fieldLink (sr_R 1) 15 (TX1 1).1 (TX1 1).2.1 (TX1 1).2.2.1 ∈ lw_tbl := List.mem_append_right _ (List.mem_of_getElem? (i := 103) (by decide +kernel))
theorem sr_f_1_18 : Cond.fieldLink (sr_R 1) 18 (TX1 2).1 (TX1 2).2.1 (TX1 2).2.2.1 ∈ lw_tbl := List.mem_append_right _ (List.mem_of_getElem? (i := 105) (by decide +kernel))
theorem sr_f_1_21 : Cond.fieldLink (sr_R 1) 21 (TX1 3).1 (TX1 3).2.1 (TX1 3).2.2.1 ∈ lw_tbl := List.mem_append_right _ (List.mem_of_getElem? (i := 107) (by decide +kernel))
theorem sr_f_1_25 : Cond.fieldLink (sr_R 1) 25 (TX1 4).1 (TX1 4).2.1 (TX1 4).2.2.1 ∈ lw_tbl := List.mem_append_right _ (List.mem_of_getElem? (i := 109) (by decide +kernel))
theorem sr_f_1_28 : Cond.fieldLink (sr_R 1) 28 (TX1 5).1 (TX1 5).2.1 (TX1 5).2.2.1 ∈ lw_tbl := List.mem_append_right _ (List.mem_of_getElem? (i := 110) (by decide +kernel))
theorem sr_f_1_31 : Cond.fieldLink (sr_R 1) 31 (TX1 6).1 (TX1 6).2.1 (TX1 6).2.2.1 ∈ lw_tbl := List.mem_append_right _ (List.mem_of_getElem? (i := 111) (by decide +kernel))
theorem sr_fls_ok_1 : ∀ q ∈ sr_fls_1, sr_okF 1 q.1 q.2.1 q.2.2 := List.forall_mem_cons.mpr ⟨⟨RX0, TX0, 8, rfl, by decide, sr_f_1_34⟩, List.forall_mem_cons.mpr ⟨⟨RX1, TX1, 7, rfl, by decide, sr_f_1_9⟩, List.forall_mem_cons.mpr ⟨⟨RX1, TX1, 7, rfl, by decide, sr_f_1_15⟩, List.forall_mem_cons.mpr ⟨⟨RX1, TX1, 7, rfl, by decide, sr_f_1_18⟩, List.forall_mem_cons.mpr ⟨⟨RX1, TX1, 7, rfl, by decide, sr_f_1_21⟩, List.forall_mem_cons.mpr ⟨⟨RX1, TX1, 7, rfl, by decide, sr_f_1_25⟩, List.forall_mem_cons.mpr ⟨⟨RX1, TX1, 7, rfl, by decide, sr_f_1_28⟩, List.forall_mem_cons.mpr ⟨⟨RX1, TX1, 7, rfl, by decide, sr_f_1_31⟩, fun _ h => absurd h List.not_mem_nil⟩⟩⟩⟩⟩⟩⟩⟩
theorem sr_nls_ok_1 : ∀ q ∈ sr_nls_1, sr_okN 1 q.1 q.2 := fun _ h => absurd h List.not_mem_nil
theorem sr_ics_ok_1 : ∀ q ∈ sr_ics_1, Cond.constant (sr_R 1) q.1 q.2 ∈ lw_tbl := fun _ h => absurd h List.not_mem_nil
theorem sr_lcs_ok_1 : ∀ q ∈ sr_lcs_1, Cond.constantLong (sr_R 1) q.1 q.2 ∈ lw_tbl := fun _ h => absurd h List.not_mem_nil
theorem sr_sls_ok_1 : ∀ q ∈ sr_sls_1, Cond.fieldLinkNest (sr_R 1) q.1 "SecondRoom" (if q.2 = 0 then "KIND_LETTERS" else "KIND_ABOVE") "[I" "SecondRoom" ∈ lw_tbl := fun _ h => absurd h List.not_mem_nil
theorem sr_l_2_3 : sr_okL 2 3 3 mX0_clear := List.mem_append_right _ (List.mem_of_getElem? (i := 41) (by decide +kernel))
theorem sr_l_2_25 : sr_okL 2 25 0 mX3_sizeOf := ⟨List.mem_append_right _ (List.mem_of_getElem? (i := 286) (by decide +kernel)), sr_k_X3_sizeOf⟩
theorem sr_l_2_31 : sr_okL 2 31 0 mX0_clear := ⟨List.mem_append_right _ (List.mem_of_getElem? (i := 287) (by decide +kernel)), sr_k_X0_clear⟩
theorem sr_l_2_36 : sr_okL 2 36 0 mX2_skipBlanks := ⟨List.mem_append_right _ (List.mem_of_getElem? (i := 291) (by decide +kernel)), sr_k_X2_skipBlanks⟩
theorem sr_l_2_53 : sr_okL 2 53 0 mX2_here := ⟨List.mem_append_right _ (List.mem_of_getElem? (i := 295) (by decide +kernel)), sr_k_X2_here⟩
theorem sr_l_2_49 : sr_okL 2 49 0 mX3_placeOf := ⟨List.mem_append_right _ (List.mem_of_getElem? (i := 299) (by decide +kernel)), sr_k_X3_placeOf⟩
theorem sr_l_2_39 : sr_okL 2 39 0 mX2_readTurns := ⟨List.mem_append_right _ (List.mem_of_getElem? (i := 300) (by decide +kernel)), sr_k_X2_readTurns⟩
theorem sr_l_2_57 : sr_okL 2 57 0 mX2_figure := ⟨List.mem_append_right _ (List.mem_of_getElem? (i := 304) (by decide +kernel)), sr_k_X2_figure⟩
theorem sr_l_2_43 : sr_okL 2 43 0 mX2_readItem := ⟨List.mem_append_right _ (List.mem_of_getElem? (i := 308) (by decide +kernel)), sr_k_X2_readItem⟩
theorem sr_l_2_63 : sr_okL 2 63 0 mX2_readThing := ⟨List.mem_append_right _ (List.mem_of_getElem? (i := 312) (by decide +kernel)), sr_k_X2_readThing⟩
theorem sr_l_2_79 : sr_okL 2 79 0 mX0_addThing := ⟨List.mem_append_right _ (List.mem_of_getElem? (i := 316) (by decide +kernel)), sr_k_X0_addThing⟩
theorem sr_l_2_66 : sr_okL 2 66 0 mX2_readGuest := ⟨List.mem_append_right _ (List.mem_of_getElem? (i := 320) (by decide +kernel)), sr_k_X2_readGuest⟩
theorem sr_l_2_69 : sr_okL 2 69 1 mX2_kindByLetter := ⟨List.mem_append_right _ (List.mem_of_getElem? (i := 324) (by decide +kernel)), sr_k_X2_kindByLetter⟩
theorem sr_l_2_75 : sr_okL 2 75 0 mX0_addGuest := ⟨List.mem_append_right _ (List.mem_of_getElem? (i := 329) (by decide +kernel)), sr_k_X0_addGuest⟩
set_option maxRecDepth 20000 in
theorem sr_mls_ok_2 : ∀ q ∈ sr_mls_2, sr_okL 2 q.1 q.2.1 q.2.2 := List.forall_mem_cons.mpr ⟨sr_l_2_3, List.forall_mem_cons.mpr ⟨sr_l_2_25, List.forall_mem_cons.mpr ⟨sr_l_2_31, List.forall_mem_cons.mpr ⟨sr_l_2_36, List.forall_mem_cons.mpr ⟨sr_l_2_53, List.forall_mem_cons.mpr ⟨sr_l_2_49, List.forall_mem_cons.mpr ⟨sr_l_2_39, List.forall_mem_cons.mpr ⟨sr_l_2_57, List.forall_mem_cons.mpr ⟨sr_l_2_43, List.forall_mem_cons.mpr ⟨sr_l_2_63, List.forall_mem_cons.mpr ⟨sr_l_2_79, List.forall_mem_cons.mpr ⟨sr_l_2_66, List.forall_mem_cons.mpr ⟨sr_l_2_69, List.forall_mem_cons.mpr ⟨sr_l_2_75, fun _ h => absurd h List.not_mem_nil⟩⟩⟩⟩⟩⟩⟩⟩⟩⟩⟩⟩⟩⟩
theorem sr_f_2_21 : Cond.fieldLink (sr_R 2) 21 (TX2 0).1 (TX2 0).2.1 (TX2 0).2.2.1 ∈ lw_tbl := List.mem_append_right _ (List.mem_of_getElem? (i := 42) (by decide +kernel))
theorem sr_f_2_9 : Cond.fieldLink (sr_R 2) 9 (TX2 1).1 (TX2 1).2.1 (TX2 1).2.2.1 ∈ lw_tbl := List.mem_append_right _ (List.mem_of_getElem? (i := 43) (by decide +kernel))
theorem sr_f_2_15 : Cond.fieldLink (sr_R 2) 15 (TX2 2).1 (TX2 2).2.1 (TX2 2).2.2.1 ∈ lw_tbl := List.mem_append_right _ (List.mem_of_getElem? (i := 44) (by decide +kernel))
theorem sr_f_2_18 : Cond.fieldLink (sr_R 2) 18 (TX2 3).1 (TX2 3).2.1 (TX2 3).2.2.1 ∈ lw_tbl := List.mem_append_right _ (List.mem_of_getElem? (i := 45) (by decide +kernel))
theorem sr_f_2_60 : Cond.fieldLink (sr_R 2) 60 (TX0 0).1 (TX0 0).2.1 (TX0 0).2.2.1 ∈ lw_tbl := List.mem_append_right _ (List.mem_of_getElem? (i := 62) (by decide +kernel))
theorem sr_f_2_72 : Cond.fieldLink (sr_R 2) 72 (TX0 1).1 (TX0 1).2.1 (TX0 1).2.2.1 ∈ lw_tbl := List.mem_append_right _ (List.mem_of_getElem? (i := 65) (by decide +kernel))
theorem sr_f_2_46 : Cond.fieldLink (sr_R 2) 46 (TX0 2).1 (TX0 2).2.1 (TX0 2).2.2.1 ∈ lw_tbl := List.mem_append_right _ (List.mem_of_getElem? (i := 68) (by decide +kernel))
theorem sr_fls_ok_2 : ∀ q ∈ sr_fls_2, sr_okF 2 q.1 q.2.1 q.2.2 := List.forall_mem_cons.mpr ⟨⟨RX2, TX2, 4, rfl, by decide, sr_f_2_21⟩, List.forall_mem_cons.mpr ⟨⟨RX2, TX2, 4, rfl, by decide, sr_f_2_9⟩, List.forall_mem_cons.mpr ⟨⟨RX2, TX2, 4, rfl, by decide, sr_f_2_15⟩, List.forall_mem_cons.mpr ⟨⟨RX2, TX2, 4, rfl, by decide, sr_f_2_18⟩, List.forall_mem_cons.mpr ⟨⟨RX0, TX0, 8, rfl, by decide, sr_f_2_60⟩, List.forall_mem_cons.mpr ⟨⟨RX0, TX0, 8, rfl, by decide, sr_f_2_72⟩, List.forall_mem_cons.mpr ⟨⟨RX0, TX0, 8, rfl, by decide, sr_f_2_46⟩, fun _ h => absurd h List.not_mem_nil⟩⟩⟩⟩⟩⟩⟩
theorem sr_nls_ok_2 : ∀ q ∈ sr_nls_2, sr_okN 2 q.1 q.2 := fun _ h => absurd h List.not_mem_nil
theorem sr_ics_ok_2 : ∀ q ∈ sr_ics_2, Cond.constant (sr_R 2) q.1 q.2 ∈ lw_tbl := fun _ h => absurd h List.not_mem_nil
theorem sr_lcs_ok_2 : ∀ q ∈ sr_lcs_2, Cond.constantLong (sr_R 2) q.1 q.2 ∈ lw_tbl := fun _ h => absurd h List.not_mem_nil
theorem sr_sls_ok_2 : ∀ q ∈ sr_sls_2, Cond.fieldLinkNest (sr_R 2) q.1 "SecondRoom" (if q.2 = 0 then "KIND_LETTERS" else "KIND_ABOVE") "[I" "SecondRoom" ∈ lw_tbl := List.forall_mem_cons.mpr ⟨List.mem_append_right _ (List.mem_of_getElem? (i := 327) (by decide +kernel)), fun _ h => absurd h List.not_mem_nil⟩
theorem sr_l_3_1 : sr_okL 3 1 3 mX0_clear := List.mem_append_right _ (List.mem_of_getElem? (i := 23) (by decide +kernel))
theorem sr_l_3_20 : sr_okL 3 20 0 mX3_setPlace := ⟨List.mem_append_right _ (List.mem_of_getElem? (i := 197) (by decide +kernel)), sr_k_X3_setPlace⟩
theorem sr_l_3_24 : sr_okL 3 24 4 mX0_clear := List.mem_append_right _ (List.mem_of_getElem? (i := 254) (by decide +kernel))
theorem sr_l_3_30 : sr_okL 3 30 0 mX3_placeOf := ⟨List.mem_append_right _ (List.mem_of_getElem? (i := 269) (by decide +kernel)), sr_k_X3_placeOf⟩
theorem sr_l_3_34 : sr_okL 3 34 0 mX3_isMissing := ⟨List.mem_append_right _ (List.mem_of_getElem? (i := 649) (by decide +kernel)), sr_k_X3_isMissing⟩
set_option maxRecDepth 20000 in
theorem sr_mls_ok_3 : ∀ q ∈ sr_mls_3, sr_okL 3 q.1 q.2.1 q.2.2 := List.forall_mem_cons.mpr ⟨sr_l_3_1, List.forall_mem_cons.mpr ⟨sr_l_3_20, List.forall_mem_cons.mpr ⟨sr_l_3_24, List.forall_mem_cons.mpr ⟨sr_l_3_30, List.forall_mem_cons.mpr ⟨sr_l_3_34, fun _ h => absurd h List.not_mem_nil⟩⟩⟩⟩⟩
theorem sr_f_3_7 : Cond.fieldLink (sr_R 3) 7 (TX3 0).1 (TX3 0).2.1 (TX3 0).2.2.1 ∈ lw_tbl := List.mem_append_right _ (List.mem_of_getElem? (i := 24) (by decide +kernel))
theorem sr_f_3_13 : Cond.fieldLink (sr_R 3) 13 (TX3 1).1 (TX3 1).2.1 (TX3 1).2.2.1 ∈ lw_tbl := List.mem_append_right _ (List.mem_of_getElem? (i := 26) (by decide +kernel))
theorem sr_f_3_17 : Cond.fieldLink (sr_R 3) 17 (TX3 2).1 (TX3 2).2.1 (TX3 2).2.2.1 ∈ lw_tbl := List.mem_append_right _ (List.mem_of_getElem? (i := 27) (by decide +kernel))
theorem sr_fls_ok_3 : ∀ q ∈ sr_fls_3, sr_okF 3 q.1 q.2.1 q.2.2 := List.forall_mem_cons.mpr ⟨⟨RX3, TX3, 3, rfl, by decide, sr_f_3_7⟩, List.forall_mem_cons.mpr ⟨⟨RX3, TX3, 3, rfl, by decide, sr_f_3_13⟩, List.forall_mem_cons.mpr ⟨⟨RX3, TX3, 3, rfl, by decide, sr_f_3_17⟩, fun _ h => absurd h List.not_mem_nil⟩⟩⟩
theorem sr_nls_ok_3 : ∀ q ∈ sr_nls_3, sr_okN 3 q.1 q.2 := fun _ h => absurd h List.not_mem_nil
theorem sr_ics_ok_3 : ∀ q ∈ sr_ics_3, Cond.constant (sr_R 3) q.1 q.2 ∈ lw_tbl := fun _ h => absurd h List.not_mem_nil
theorem sr_lcs_ok_3 : ∀ q ∈ sr_lcs_3, Cond.constantLong (sr_R 3) q.1 q.2 ∈ lw_tbl := List.forall_mem_cons.mpr ⟨List.mem_append_right _ (List.mem_of_getElem? (i := 677) (by decide +kernel)), fun _ h => absurd h List.not_mem_nil⟩
theorem sr_sls_ok_3 : ∀ q ∈ sr_sls_3, Cond.fieldLinkNest (sr_R 3) q.1 "SecondRoom" (if q.2 = 0 then "KIND_LETTERS" else "KIND_ABOVE") "[I" "SecondRoom" ∈ lw_tbl := fun _ h => absurd h List.not_mem_nil
theorem sr_l_4_1 : sr_okL 4 1 3 mX0_clear := List.mem_append_right _ (List.mem_of_getElem? (i := 15) (by decide +kernel))
theorem sr_l_4_11 : sr_okL 4 11 2 mX3_init := ⟨List.mem_append_right _ (List.mem_of_getElem? (i := 20) (by decide +kernel)), sr_k_X3_init⟩
theorem sr_l_4_23 : sr_okL 4 23 2 mX2_init := ⟨List.mem_append_right _ (List.mem_of_getElem? (i := 38) (by decide +kernel)), sr_k_X2_init⟩
theorem sr_l_4_32 : sr_okL 4 32 5 mX0_init := ⟨List.mem_append_right _ (List.mem_of_getElem? (i := 57) (by decide +kernel)), sr_k_X0_init⟩
theorem sr_l_4_42 : sr_okL 4 42 5 mX1_init := ⟨List.mem_append_right _ (List.mem_of_getElem? (i := 97) (by decide +kernel)), sr_k_X1_init⟩
theorem sr_l_4_81 : sr_okL 4 81 0 mX4_makePaper := ⟨List.mem_append_right _ (List.mem_of_getElem? (i := 181) (by decide +kernel)), sr_k_X4_makePaper⟩
theorem sr_l_4_108 : sr_okL 4 108 0 mX3_isNumber := ⟨List.mem_append_right _ (List.mem_of_getElem? (i := 185) (by decide +kernel)), sr_k_X3_isNumber⟩
theorem sr_l_4_112 : sr_okL 4 112 0 mX4_found := ⟨List.mem_append_right _ (List.mem_of_getElem? (i := 189) (by decide +kernel)), sr_k_X4_found⟩
theorem sr_l_4_310 : sr_okL 4 310 0 mX3_make := ⟨List.mem_append_right _ (List.mem_of_getElem? (i := 193) (by decide +kernel)), sr_k_X3_make⟩
theorem sr_l_4_85 : sr_okL 4 85 0 mX4_refusalOfPlace := ⟨List.mem_append_right _ (List.mem_of_getElem? (i := 205) (by decide +kernel)), sr_k_X4_refusalOfPlace⟩
theorem sr_l_4_100 : sr_okL 4 100 0 mX4_refusalOfPaper := ⟨List.mem_append_right _ (List.mem_of_getElem? (i := 209) (by decide +kernel)), sr_k_X4_refusalOfPaper⟩
theorem sr_l_4_116 : sr_okL 4 116 0 mX3_isMissing := ⟨List.mem_append_right _ (List.mem_of_getElem? (i := 213) (by decide +kernel)), sr_k_X3_isMissing⟩
theorem sr_l_4_313 : sr_okL 4 313 0 mX3_isPlace := ⟨List.mem_append_right _ (List.mem_of_getElem? (i := 217) (by decide +kernel)), sr_k_X3_isPlace⟩
theorem sr_l_4_89 : sr_okL 4 89 0 mX3_placeOf := ⟨List.mem_append_right _ (List.mem_of_getElem? (i := 221) (by decide +kernel)), sr_k_X3_placeOf⟩
theorem sr_l_4_93 : sr_okL 4 93 0 mX3_setPlace := ⟨List.mem_append_right _ (List.mem_of_getElem? (i := 225) (by decide +kernel)), sr_k_X3_setPlace⟩
theorem sr_l_4_97 : sr_okL 4 97 0 mX4_tell := ⟨List.mem_append_right _ (List.mem_of_getElem? (i := 226) (by decide +kernel)), sr_k_X4_tell⟩
theorem sr_l_4_104 : sr_okL 4 104 0 mX3_remove := ⟨List.mem_append_right _ (List.mem_of_getElem? (i := 238) (by decide +kernel)), sr_k_X3_remove⟩
theorem sr_l_4_119 : sr_okL 4 119 0 mX3_arePlaces := ⟨List.mem_append_right _ (List.mem_of_getElem? (i := 246) (by decide +kernel)), sr_k_X3_arePlaces⟩
theorem sr_l_4_123 : sr_okL 4 123 0 mX3_copyPlaces := ⟨List.mem_append_right _ (List.mem_of_getElem? (i := 250) (by decide +kernel)), sr_k_X3_copyPlaces⟩
theorem sr_l_4_127 : sr_okL 4 127 0 mX3_sizeOf := ⟨List.mem_append_right _ (List.mem_of_getElem? (i := 261) (by decide +kernel)), sr_k_X3_sizeOf⟩
theorem sr_l_4_130 : sr_okL 4 130 0 mX3_sumOf := ⟨List.mem_append_right _ (List.mem_of_getElem? (i := 265) (by decide +kernel)), sr_k_X3_sumOf⟩
theorem sr_l_4_134 : sr_okL 4 134 0 mX2_read := ⟨List.mem_append_right _ (List.mem_of_getElem? (i := 282) (by decide +kernel)), sr_k_X2_read⟩
theorem sr_l_4_138 : sr_okL 4 138 0 mX0_takeOver := ⟨List.mem_append_right _ (List.mem_of_getElem? (i := 337) (by decide +kernel)), sr_k_X0_takeOver⟩
theorem sr_l_4_142 : sr_okL 4 142 0 mX1_begin := ⟨List.mem_append_right _ (List.mem_of_getElem? (i := 344) (by decide +kernel)), sr_k_X1_begin⟩
theorem sr_l_4_145 : sr_okL 4 145 0 mX4_forgetKept := ⟨List.mem_append_right _ (List.mem_of_getElem? (i := 348) (by decide +kernel)), sr_k_X4_forgetKept⟩
theorem sr_l_4_325 : sr_okL 4 325 0 mX1_forget := ⟨List.mem_append_right _ (List.mem_of_getElem? (i := 352) (by decide +kernel)), sr_k_X1_forget⟩
theorem sr_l_4_151 : sr_okL 4 151 0 mX4_isGuest := ⟨List.mem_append_right _ (List.mem_of_getElem? (i := 360) (by decide +kernel)), sr_k_X4_isGuest⟩
theorem sr_l_4_154 : sr_okL 4 154 0 mX4_factOf := ⟨List.mem_append_right _ (List.mem_of_getElem? (i := 364) (by decide +kernel)), sr_k_X4_factOf⟩
theorem sr_l_4_164 : sr_okL 4 164 0 mX4_secondLife := ⟨List.mem_append_right _ (List.mem_of_getElem? (i := 368) (by decide +kernel)), sr_k_X4_secondLife⟩
theorem sr_l_4_267 : sr_okL 4 267 0 mX0_secondLifeAt := ⟨List.mem_append_right _ (List.mem_of_getElem? (i := 372) (by decide +kernel)), sr_k_X0_secondLifeAt⟩
theorem sr_l_4_194 : sr_okL 4 194 0 mX1_roomOf := ⟨List.mem_append_right _ (List.mem_of_getElem? (i := 384) (by decide +kernel)), sr_k_X1_roomOf⟩
theorem sr_l_4_175 : sr_okL 4 175 0 mX1_lockedOf := ⟨List.mem_append_right _ (List.mem_of_getElem? (i := 388) (by decide +kernel)), sr_k_X1_lockedOf⟩
theorem sr_l_4_200 : sr_okL 4 200 0 mX1_hoursOf := ⟨List.mem_append_right _ (List.mem_of_getElem? (i := 392) (by decide +kernel)), sr_k_X1_hoursOf⟩
theorem sr_l_4_157 : sr_okL 4 157 0 mX0_isOfKind := ⟨List.mem_append_right _ (List.mem_of_getElem? (i := 400) (by decide +kernel)), sr_k_X0_isOfKind⟩
theorem sr_l_4_167 : sr_okL 4 167 1 mJ6_bitCount := ⟨List.mem_append_right _ (List.mem_of_getElem? (i := 406) (by decide +kernel)), sr_k_J6_bitCount⟩
theorem sr_l_4_178 : sr_okL 4 178 0 mX0_soldiers := ⟨List.mem_append_right _ (List.mem_of_getElem? (i := 412) (by decide +kernel)), sr_k_X0_soldiers⟩
theorem sr_l_4_182 : sr_okL 4 182 0 mX4_thingsIn := ⟨List.mem_append_right _ (List.mem_of_getElem? (i := 417) (by decide +kernel)), sr_k_X4_thingsIn⟩
theorem sr_l_4_219 : sr_okL 4 219 0 mX0_thingsOfLife := ⟨List.mem_append_right _ (List.mem_of_getElem? (i := 421) (by decide +kernel)), sr_k_X0_thingsOfLife⟩
theorem sr_l_4_191 : sr_okL 4 191 0 mX1_act := ⟨List.mem_append_right _ (List.mem_of_getElem? (i := 437) (by decide +kernel)), sr_k_X1_act⟩
theorem sr_l_4_203 : sr_okL 4 203 0 mX1_takeBackFrom := ⟨List.mem_append_right _ (List.mem_of_getElem? (i := 458) (by decide +kernel)), sr_k_X1_takeBackFrom⟩
theorem sr_l_4_206 : sr_okL 4 206 0 mX1_takeOver := ⟨List.mem_append_right _ (List.mem_of_getElem? (i := 466) (by decide +kernel)), sr_k_X1_takeOver⟩
theorem sr_l_4_209 : sr_okL 4 209 0 mX1_isForgotten := ⟨List.mem_append_right _ (List.mem_of_getElem? (i := 475) (by decide +kernel)), sr_k_X1_isForgotten⟩
theorem sr_l_4_213 : sr_okL 4 213 1 mX4_firstBit := ⟨List.mem_append_right _ (List.mem_of_getElem? (i := 491) (by decide +kernel)), sr_k_X4_firstBit⟩
theorem sr_l_4_216 : sr_okL 4 216 0 mX0_lifeCount := ⟨List.mem_append_right _ (List.mem_of_getElem? (i := 498) (by decide +kernel)), sr_k_X0_lifeCount⟩
theorem sr_l_4_222 : sr_okL 4 222 0 mX4_isThingSet := ⟨List.mem_append_right _ (List.mem_of_getElem? (i := 503) (by decide +kernel)), sr_k_X4_isThingSet⟩
theorem sr_l_4_225 : sr_okL 4 225 0 mX4_thingsByTurn := ⟨List.mem_append_right _ (List.mem_of_getElem? (i := 507) (by decide +kernel)), sr_k_X4_thingsByTurn⟩
theorem sr_l_4_228 : sr_okL 4 228 0 mX4_addDifference := ⟨List.mem_append_right _ (List.mem_of_getElem? (i := 515) (by decide +kernel)), sr_k_X4_addDifference⟩
theorem sr_l_4_231 : sr_okL 4 231 0 mX4_fewestTellingApart := ⟨List.mem_append_right _ (List.mem_of_getElem? (i := 519) (by decide +kernel)), sr_k_X4_fewestTellingApart⟩
theorem sr_l_4_322 : sr_okL 4 322 0 mX4_tellsApart := ⟨List.mem_append_right _ (List.mem_of_getElem? (i := 523) (by decide +kernel)), sr_k_X4_tellsApart⟩
theorem sr_l_4_237 : sr_okL 4 237 0 mX4_turnsWith := ⟨List.mem_append_right _ (List.mem_of_getElem? (i := 531) (by decide +kernel)), sr_k_X4_turnsWith⟩
theorem sr_l_4_248 : sr_okL 4 248 0 mX0_lifeHas := ⟨List.mem_append_right _ (List.mem_of_getElem? (i := 535) (by decide +kernel)), sr_k_X0_lifeHas⟩
theorem sr_l_4_240 : sr_okL 4 240 6 mX0_clear := List.mem_append_right _ (List.mem_of_getElem? (i := 536) (by decide +kernel))
theorem sr_l_4_245 : sr_okL 4 245 0 mX4_isThing := ⟨List.mem_append_right _ (List.mem_of_getElem? (i := 547) (by decide +kernel)), sr_k_X4_isThing⟩
theorem sr_l_4_251 : sr_okL 4 251 0 mX4_isSecondOf := ⟨List.mem_append_right _ (List.mem_of_getElem? (i := 555) (by decide +kernel)), sr_k_X4_isSecondOf⟩
theorem sr_l_4_254 : sr_okL 4 254 0 mX4_endsOfWalk := ⟨List.mem_append_right _ (List.mem_of_getElem? (i := 567) (by decide +kernel)), sr_k_X4_endsOfWalk⟩
theorem sr_l_4_257 : sr_okL 4 257 0 mX4_leadsOn := ⟨List.mem_append_right _ (List.mem_of_getElem? (i := 571) (by decide +kernel)), sr_k_X4_leadsOn⟩
theorem sr_l_4_260 : sr_okL 4 260 1 mX4_isLaw := ⟨List.mem_append_right _ (List.mem_of_getElem? (i := 587) (by decide +kernel)), sr_k_X4_isLaw⟩
theorem sr_l_4_263 : sr_okL 4 263 0 mX4_billFor := ⟨List.mem_append_right _ (List.mem_of_getElem? (i := 590) (by decide +kernel)), sr_k_X4_billFor⟩
theorem sr_l_4_270 : sr_okL 4 270 0 mX4_tellShare := ⟨List.mem_append_right _ (List.mem_of_getElem? (i := 606) (by decide +kernel)), sr_k_X4_tellShare⟩
theorem sr_l_4_316 : sr_okL 4 316 1 mX4_commonMeasure := ⟨List.mem_append_right _ (List.mem_of_getElem? (i := 610) (by decide +kernel)), sr_k_X4_commonMeasure⟩
theorem sr_l_4_281 : sr_okL 4 281 0 mX4_actByLot := ⟨List.mem_append_right _ (List.mem_of_getElem? (i := 625) (by decide +kernel)), sr_k_X4_actByLot⟩
theorem sr_l_4_287 : sr_okL 4 287 0 mX3_thereCount := ⟨List.mem_append_right _ (List.mem_of_getElem? (i := 645) (by decide +kernel)), sr_k_X3_thereCount⟩
theorem sr_l_4_290 : sr_okL 4 290 0 mX4_keptCount := ⟨List.mem_append_right _ (List.mem_of_getElem? (i := 650) (by decide +kernel)), sr_k_X4_keptCount⟩
theorem sr_l_4_300 : sr_okL 4 300 0 mX4_keptDeeds := ⟨List.mem_append_right _ (List.mem_of_getElem? (i := 654) (by decide +kernel)), sr_k_X4_keptDeeds⟩
theorem sr_l_4_297 : sr_okL 4 297 0 mX4_count := ⟨List.mem_append_right _ (List.mem_of_getElem? (i := 672) (by decide +kernel)), sr_k_X4_count⟩
theorem sr_l_4_303 : sr_okL 4 303 0 mX3_digestFrom := ⟨List.mem_append_right _ (List.mem_of_getElem? (i := 673) (by decide +kernel)), sr_k_X3_digestFrom⟩
set_option maxRecDepth 20000 in
theorem sr_mls_ok_4 : ∀ q ∈ sr_mls_4, sr_okL 4 q.1 q.2.1 q.2.2 := List.forall_mem_cons.mpr ⟨sr_l_4_1, List.forall_mem_cons.mpr ⟨sr_l_4_11, List.forall_mem_cons.mpr ⟨sr_l_4_23, List.forall_mem_cons.mpr ⟨sr_l_4_32, List.forall_mem_cons.mpr ⟨sr_l_4_42, List.forall_mem_cons.mpr ⟨sr_l_4_81, List.forall_mem_cons.mpr ⟨sr_l_4_108, List.forall_mem_cons.mpr ⟨sr_l_4_112, List.forall_mem_cons.mpr ⟨sr_l_4_310, List.forall_mem_cons.mpr ⟨sr_l_4_85, List.forall_mem_cons.mpr ⟨sr_l_4_100, List.forall_mem_cons.mpr ⟨sr_l_4_116, List.forall_mem_cons.mpr ⟨sr_l_4_313, List.forall_mem_cons.mpr ⟨sr_l_4_89, List.forall_mem_cons.mpr ⟨sr_l_4_93, List.forall_mem_cons.mpr ⟨sr_l_4_97, List.forall_mem_cons.mpr ⟨sr_l_4_104, List.forall_mem_cons.mpr ⟨sr_l_4_119, List.forall_mem_cons.mpr ⟨sr_l_4_123, List.forall_mem_cons.mpr ⟨sr_l_4_127, List.forall_mem_cons.mpr ⟨sr_l_4_130, List.forall_mem_cons.mpr ⟨sr_l_4_134, List.forall_mem_cons.mpr ⟨sr_l_4_138, List.forall_mem_cons.mpr ⟨sr_l_4_142, List.forall_mem_cons.mpr ⟨sr_l_4_145, List.forall_mem_cons.mpr ⟨sr_l_4_325, List.forall_mem_cons.mpr ⟨sr_l_4_151, List.forall_mem_cons.mpr ⟨sr_l_4_154, List.forall_mem_cons.mpr ⟨sr_l_4_164, List.forall_mem_cons.mpr ⟨sr_l_4_267, List.forall_mem_cons.mpr ⟨sr_l_4_194, List.forall_mem_cons.mpr ⟨sr_l_4_175, List.forall_mem_cons.mpr ⟨sr_l_4_200, List.forall_mem_cons.mpr ⟨sr_l_4_157, List.forall_mem_cons.mpr ⟨sr_l_4_167, List.forall_mem_cons.mpr ⟨sr_l_4_178, List.forall_mem_cons.mpr ⟨sr_l_4_182, List.forall_mem_cons.mpr ⟨sr_l_4_219, List.forall_mem_cons.mpr ⟨sr_l_4_191, List.forall_mem_cons.mpr ⟨sr_l_4_203, List.forall_mem_cons.mpr ⟨sr_l_4_206, List.forall_mem_cons.mpr ⟨sr_l_4_209, List.forall_mem_cons.mpr ⟨sr_l_4_213, List.forall_mem_cons.mpr ⟨sr_l_4_216, List.forall_mem_cons.mpr ⟨sr_l_4_222, List.forall_mem_cons.mpr ⟨sr_l_4_225, List.forall_mem_cons.mpr ⟨sr_l_4_228, List.forall_mem_cons.mpr ⟨sr_l_4_231, List.forall_mem_cons.mpr ⟨sr_l_4_322, List.forall_mem_cons.mpr ⟨sr_l_4_237, List.forall_mem_cons.mpr ⟨sr_l_4_248, List.forall_mem_cons.mpr ⟨sr_l_4_240, List.forall_mem_cons.mpr ⟨sr_l_4_245, List.forall_mem_cons.mpr ⟨sr_l_4_251, List.forall_mem_cons.mpr ⟨sr_l_4_254, List.forall_mem_cons.mpr ⟨sr_l_4_257, List.forall_mem_cons.mpr ⟨sr_l_4_260, List.forall_mem_cons.mpr ⟨sr_l_4_263, List.forall_mem_cons.mpr ⟨sr_l_4_270, List.forall_mem_cons.mpr ⟨sr_l_4_316, List.forall_mem_cons.mpr ⟨sr_l_4_281, List.forall_mem_cons.mpr ⟨sr_l_4_287, List.forall_mem_cons.mpr ⟨sr_l_4_290, List.forall_mem_cons.mpr ⟨sr_l_4_300, List.forall_mem_cons.mpr ⟨sr_l_4_297, List.forall_mem_cons.mpr ⟨sr_l_4_303, fun _ h => absurd h List.not_mem_nil⟩⟩⟩⟩⟩⟩⟩⟩⟩⟩⟩⟩⟩⟩⟩⟩⟩⟩⟩⟩⟩⟩⟩⟩⟩⟩⟩⟩⟩⟩⟩⟩⟩⟩⟩⟩⟩⟩⟩⟩⟩⟩⟩⟩⟩⟩⟩⟩⟩⟩⟩⟩⟩⟩⟩⟩⟩⟩⟩⟩⟩⟩⟩⟩⟩⟩
theorem sr_f_4_307 : Cond.fieldLink (sr_R 4) 307 (TX3 0).1 (TX3 0).2.1 (TX3 0).2.2.1 ∈ lw_tbl := List.mem_append_right _ (List.mem_of_getElem? (i := 25) (by decide +kernel))
theorem sr_f_4_185 : Cond.fieldLink (sr_R 4) 185 (TX0 0).1 (TX0 0).2.1 (TX0 0).2.2.1 ∈ lw_tbl := List.mem_append_right _ (List.mem_of_getElem? (i := 63) (by decide +kernel))
theorem sr_f_4_148 : Cond.fieldLink (sr_R 4) 148 (TX0 1).1 (TX0 1).2.1 (TX0 1).2.2.1 ∈ lw_tbl := List.mem_append_right _ (List.mem_of_getElem? (i := 66) (by decide +kernel))
theorem sr_f_4_234 : Cond.fieldLink (sr_R 4) 234 (TX0 2).1 (TX0 2).2.1 (TX0 2).2.2.1 ∈ lw_tbl := List.mem_append_right _ (List.mem_of_getElem? (i := 69) (by decide +kernel))
theorem sr_f_4_319 : Cond.fieldLink (sr_R 4) 319 (TX0 3).1 (TX0 3).2.1 (TX0 3).2.2.1 ∈ lw_tbl := List.mem_append_right _ (List.mem_of_getElem? (i := 71) (by decide +kernel))
theorem sr_f_4_161 : Cond.fieldLink (sr_R 4) 161 (TX0 4).1 (TX0 4).2.1 (TX0 4).2.2.1 ∈ lw_tbl := List.mem_append_right _ (List.mem_of_getElem? (i := 73) (by decide +kernel))
theorem sr_f_4_188 : Cond.fieldLink (sr_R 4) 188 (TX1 0).1 (TX1 0).2.1 (TX1 0).2.2.1 ∈ lw_tbl := List.mem_append_right _ (List.mem_of_getElem? (i := 102) (by decide +kernel))
theorem sr_f_4_284 : Cond.fieldLink (sr_R 4) 284 (TX1 1).1 (TX1 1).2.1 (TX1 1).2.2.1 ∈ lw_tbl := List.mem_append_right _ (List.mem_of_getElem? (i := 104) (by decide +kernel))
theorem sr_f_4_197 : Cond.fieldLink (sr_R 4) 197 (TX1 2).1 (TX1 2).2.1 (TX1 2).2.2.1 ∈ lw_tbl := List.mem_append_right _ (List.mem_of_getElem? (i := 106) (by decide +kernel))
theorem sr_f_4_172 : Cond.fieldLink (sr_R 4) 172 (TX1 3).1 (TX1 3).2.1 (TX1 3).2.2.1 ∈ lw_tbl := List.mem_append_right _ (List.mem_of_getElem? (i := 108) (by decide +kernel))
theorem sr_f_4_14 : Cond.fieldLink (sr_R 4) 14 (TX4 0).1 (TX4 0).2.1 (TX4 0).2.2.1 ∈ lw_tbl := List.mem_append_right _ (List.mem_of_getElem? (i := 128) (by decide +kernel))
theorem sr_f_4_18 : Cond.fieldLink (sr_R 4) 18 (TX4 1).1 (TX4 1).2.1 (TX4 1).2.2.1 ∈ lw_tbl := List.mem_append_right _ (List.mem_of_getElem? (i := 129) (by decide +kernel))
theorem sr_f_4_26 : Cond.fieldLink (sr_R 4) 26 (TX4 2).1 (TX4 2).2.1 (TX4 2).2.2.1 ∈ lw_tbl := List.mem_append_right _ (List.mem_of_getElem? (i := 130) (by decide +kernel))
theorem sr_f_4_33 : Cond.fieldLink (sr_R 4) 33 (TX4 3).1 (TX4 3).2.1 (TX4 3).2.2.1 ∈ lw_tbl := List.mem_append_right _ (List.mem_of_getElem? (i := 131) (by decide +kernel))
theorem sr_f_4_37 : Cond.fieldLink (sr_R 4) 37 (TX4 4).1 (TX4 4).2.1 (TX4 4).2.2.1 ∈ lw_tbl := List.mem_append_right _ (List.mem_of_getElem? (i := 132) (by decide +kernel))
theorem sr_f_4_43 : Cond.fieldLink (sr_R 4) 43 (TX4 5).1 (TX4 5).2.1 (TX4 5).2.2.1 ∈ lw_tbl := List.mem_append_right _ (List.mem_of_getElem? (i := 133) (by decide +kernel))
theorem sr_f_4_47 : Cond.fieldLink (sr_R 4) 47 (TX4 6).1 (TX4 6).2.1 (TX4 6).2.2.1 ∈ lw_tbl := List.mem_append_right _ (List.mem_of_getElem? (i := 134) (by decide +kernel))
theorem sr_f_4_51 : Cond.fieldLink (sr_R 4) 51 (TX4 7).1 (TX4 7).2.1 (TX4 7).2.2.1 ∈ lw_tbl := List.mem_append_right _ (List.mem_of_getElem? (i := 135) (by decide +kernel))
theorem sr_f_4_55 : Cond.fieldLink (sr_R 4) 55 (TX4 8).1 (TX4 8).2.1 (TX4 8).2.2.1 ∈ lw_tbl := List.mem_append_right _ (List.mem_of_getElem? (i := 136) (by decide +kernel))
theorem sr_f_4_59 : Cond.fieldLink (sr_R 4) 59 (TX4 9).1 (TX4 9).2.1 (TX4 9).2.2.1 ∈ lw_tbl := List.mem_append_right _ (List.mem_of_getElem? (i := 137) (by decide +kernel))
theorem sr_f_4_62 : Cond.fieldLink (sr_R 4) 62 (TX4 10).1 (TX4 10).2.1 (TX4 10).2.2.1 ∈ lw_tbl := List.mem_append_right _ (List.mem_of_getElem? (i := 138) (by decide +kernel))
theorem sr_f_4_65 : Cond.fieldLink (sr_R 4) 65 (TX4 11).1 (TX4 11).2.1 (TX4 11).2.2.1 ∈ lw_tbl := List.mem_append_right _ (List.mem_of_getElem? (i := 139) (by decide +kernel))
theorem sr_f_4_68 : Cond.fieldLink (sr_R 4) 68 (TX4 12).1 (TX4 12).2.1 (TX4 12).2.2.1 ∈ lw_tbl := List.mem_append_right _ (List.mem_of_getElem? (i := 140) (by decide +kernel))
theorem sr_f_4_72 : Cond.fieldLink (sr_R 4) 72 (TX4 13).1 (TX4 13).2.1 (TX4 13).2.2.1 ∈ lw_tbl := List.mem_append_right _ (List.mem_of_getElem? (i := 141) (by decide +kernel))
theorem sr_f_4_75 : Cond.fieldLink (sr_R 4) 75 (TX4 14).1 (TX4 14).2.1 (TX4 14).2.2.1 ∈ lw_tbl := List.mem_append_right _ (List.mem_of_getElem? (i := 142) (by decide +kernel))
theorem sr_f_4_78 : Cond.fieldLink (sr_R 4) 78 (TX4 15).1 (TX4 15).2.1 (TX4 15).2.2.1 ∈ lw_tbl := List.mem_append_right _ (List.mem_of_getElem? (i := 143) (by decide +kernel))
theorem sr_fls_ok_4 : ∀ q ∈ sr_fls_4, sr_okF 4 q.1 q.2.1 q.2.2 := List.forall_mem_cons.mpr ⟨⟨RX3, TX3, 3, rfl, by decide, sr_f_4_307⟩, List.forall_mem_cons.mpr ⟨⟨RX0, TX0, 8, rfl, by decide, sr_f_4_185⟩, List.forall_mem_cons.mpr ⟨⟨RX0, TX0, 8, rfl, by decide, sr_f_4_148⟩, List.forall_mem_cons.mpr ⟨⟨RX0, TX0, 8, rfl, by decide, sr_f_4_234⟩, List.forall_mem_cons.mpr ⟨⟨RX0, TX0, 8, rfl, by decide, sr_f_4_319⟩, List.forall_mem_cons.mpr ⟨⟨RX0, TX0, 8, rfl, by decide, sr_f_4_161⟩, List.forall_mem_cons.mpr ⟨⟨RX1, TX1, 7, rfl, by decide, sr_f_4_188⟩, List.forall_mem_cons.mpr ⟨⟨RX1, TX1, 7, rfl, by decide, sr_f_4_284⟩, List.forall_mem_cons.mpr ⟨⟨RX1, TX1, 7, rfl, by decide, sr_f_4_197⟩, List.forall_mem_cons.mpr ⟨⟨RX1, TX1, 7, rfl, by decide, sr_f_4_172⟩, List.forall_mem_cons.mpr ⟨⟨RX4, TX4, 16, rfl, by decide, sr_f_4_14⟩, List.forall_mem_cons.mpr ⟨⟨RX4, TX4, 16, rfl, by decide, sr_f_4_18⟩, List.forall_mem_cons.mpr ⟨⟨RX4, TX4, 16, rfl, by decide, sr_f_4_26⟩, List.forall_mem_cons.mpr ⟨⟨RX4, TX4, 16, rfl, by decide, sr_f_4_33⟩, List.forall_mem_cons.mpr ⟨⟨RX4, TX4, 16, rfl, by decide, sr_f_4_37⟩, List.forall_mem_cons.mpr ⟨⟨RX4, TX4, 16, rfl, by decide, sr_f_4_43⟩, List.forall_mem_cons.mpr ⟨⟨RX4, TX4, 16, rfl, by decide, sr_f_4_47⟩, List.forall_mem_cons.mpr ⟨⟨RX4, TX4, 16, rfl, by decide, sr_f_4_51⟩, List.forall_mem_cons.mpr ⟨⟨RX4, TX4, 16, rfl, by decide, sr_f_4_55⟩, List.forall_mem_cons.mpr ⟨⟨RX4, TX4, 16, rfl, by decide, sr_f_4_59⟩, List.forall_mem_cons.mpr ⟨⟨RX4, TX4, 16, rfl, by decide, sr_f_4_62⟩, List.forall_mem_cons.mpr ⟨⟨RX4, TX4, 16, rfl, by decide, sr_f_4_65⟩, List.forall_mem_cons.mpr ⟨⟨RX4, TX4, 16, rfl, by decide, sr_f_4_68⟩, List.forall_mem_cons.mpr ⟨⟨RX4, TX4, 16, rfl, by decide, sr_f_4_72⟩, List.forall_mem_cons.mpr ⟨⟨RX4, TX4, 16, rfl, by decide, sr_f_4_75⟩, List.forall_mem_cons.mpr ⟨⟨RX4, TX4, 16, rfl, by decide, sr_f_4_78⟩, fun _ h => absurd h List.not_mem_nil⟩⟩⟩⟩⟩⟩⟩⟩⟩⟩⟩⟩⟩⟩⟩⟩⟩⟩⟩⟩⟩⟩⟩⟩⟩⟩
theorem sr_nls_ok_4 : ∀ q ∈ sr_nls_4, sr_okN 4 q.1 q.2 := List.forall_mem_cons.mpr ⟨⟨RX3, TX3, 3, rfl, List.mem_append_right _ (List.mem_of_getElem? (i := 18) (by decide +kernel)), List.mem_append_right _ (List.mem_of_getElem? (i := 19) (by decide +kernel)), List.mem_append_right _ (List.mem_of_getElem? (i := 2) (by decide +kernel))⟩, List.forall_mem_cons.mpr ⟨⟨RX2, TX2, 4, rfl, List.mem_append_right _ (List.mem_of_getElem? (i := 36) (by decide +kernel)), List.mem_append_right _ (List.mem_of_getElem? (i := 37) (by decide +kernel)), List.mem_append_right _ (List.mem_of_getElem? (i := 3) (by decide +kernel))⟩, List.forall_mem_cons.mpr ⟨⟨RX0, TX0, 8, rfl, List.mem_append_right _ (List.mem_of_getElem? (i := 55) (by decide +kernel)), List.mem_append_right _ (List.mem_of_getElem? (i := 56) (by decide +kernel)), List.mem_append_right _ (List.mem_of_getElem? (i := 4) (by decide +kernel))⟩, List.forall_mem_cons.mpr ⟨⟨RX1, TX1, 7, rfl, List.mem_append_right _ (List.mem_of_getElem? (i := 95) (by decide +kernel)), List.mem_append_right _ (List.mem_of_getElem? (i := 96) (by decide +kernel)), List.mem_append_right _ (List.mem_of_getElem? (i := 5) (by decide +kernel))⟩, fun _ h => absurd h List.not_mem_nil⟩⟩⟩⟩
theorem sr_ics_ok_4 : ∀ q ∈ sr_ics_4, Cond.constant (sr_R 4) q.1 q.2 ∈ lw_tbl := fun _ h => absurd h List.not_mem_nil
theorem sr_lcs_ok_4 : ∀ q ∈ sr_lcs_4, Cond.constantLong (sr_R 4) q.1 q.2 ∈ lw_tbl := List.forall_mem_cons.mpr ⟨List.mem_append_right _ (List.mem_of_getElem? (i := 621) (by decide +kernel)), List.forall_mem_cons.mpr ⟨List.mem_append_right _ (List.mem_of_getElem? (i := 622) (by decide +kernel)), List.forall_mem_cons.mpr ⟨List.mem_append_right _ (List.mem_of_getElem? (i := 623) (by decide +kernel)), List.forall_mem_cons.mpr ⟨List.mem_append_right _ (List.mem_of_getElem? (i := 624) (by decide +kernel)), List.forall_mem_cons.mpr ⟨List.mem_append_right _ (List.mem_of_getElem? (i := 670) (by decide +kernel)), List.forall_mem_cons.mpr ⟨List.mem_append_right _ (List.mem_of_getElem? (i := 671) (by decide +kernel)), fun _ h => absurd h List.not_mem_nil⟩⟩⟩⟩⟩⟩
theorem sr_sls_ok_4 : ∀ q ∈ sr_sls_4, Cond.fieldLinkNest (sr_R 4) q.1 "SecondRoom" (if q.2 = 0 then "KIND_LETTERS" else "KIND_ABOVE") "[I" "SecondRoom" ∈ lw_tbl := fun _ h => absurd h List.not_mem_nil
theorem sr_l_5_1 : sr_okL 5 1 3 mX0_clear := List.mem_append_right _ (List.mem_of_getElem? (i := 683) (by decide +kernel))
theorem sr_l_5_80 : sr_okL 5 80 1 mX5_in := ⟨List.mem_append_right _ (List.mem_of_getElem? (i := 797) (by decide +kernel)), sr_k_X5_in⟩
theorem sr_l_5_90 : sr_okL 5 90 1 mX5_isRow := ⟨List.mem_append_right _ (List.mem_of_getElem? (i := 816) (by decide +kernel)), sr_k_X5_isRow⟩
theorem sr_l_5_94 : sr_okL 5 94 0 mX5_meets := ⟨List.mem_append_right _ (List.mem_of_getElem? (i := 819) (by decide +kernel)), sr_k_X5_meets⟩
theorem sr_l_5_98 : sr_okL 5 98 0 mX5_rowAt := ⟨List.mem_append_right _ (List.mem_of_getElem? (i := 827) (by decide +kernel)), sr_k_X5_rowAt⟩
theorem sr_l_5_102 : sr_okL 5 102 0 mX5_tells := ⟨List.mem_append_right _ (List.mem_of_getElem? (i := 831) (by decide +kernel)), sr_k_X5_tells⟩
theorem sr_l_5_105 : sr_okL 5 105 1 mX5_isText := ⟨List.mem_append_right _ (List.mem_of_getElem? (i := 855) (by decide +kernel)), sr_k_X5_isText⟩
theorem sr_l_5_142 : sr_okL 5 142 0 mX5_faultOf := ⟨List.mem_append_right _ (List.mem_of_getElem? (i := 866) (by decide +kernel)), sr_k_X5_faultOf⟩
theorem sr_l_5_111 : sr_okL 5 111 0 mX5_byteAt := ⟨List.mem_append_right _ (List.mem_of_getElem? (i := 870) (by decide +kernel)), sr_k_X5_byteAt⟩
theorem sr_l_5_139 : sr_okL 5 139 0 mX5_readsItem := ⟨List.mem_append_right _ (List.mem_of_getElem? (i := 874) (by decide +kernel)), sr_k_X5_readsItem⟩
theorem sr_l_5_130 : sr_okL 5 130 0 mX5_readsTurns := ⟨List.mem_append_right _ (List.mem_of_getElem? (i := 878) (by decide +kernel)), sr_k_X5_readsTurns⟩
theorem sr_l_5_114 : sr_okL 5 114 0 mX5_figure := ⟨List.mem_append_right _ (List.mem_of_getElem? (i := 882) (by decide +kernel)), sr_k_X5_figure⟩
theorem sr_l_5_133 : sr_okL 5 133 0 mX5_readsThing := ⟨List.mem_append_right _ (List.mem_of_getElem? (i := 886) (by decide +kernel)), sr_k_X5_readsThing⟩
theorem sr_l_5_136 : sr_okL 5 136 0 mX5_readsGuest := ⟨List.mem_append_right _ (List.mem_of_getElem? (i := 890) (by decide +kernel)), sr_k_X5_readsGuest⟩
theorem sr_l_5_127 : sr_okL 5 127 1 mX5_kindOf := ⟨List.mem_append_right _ (List.mem_of_getElem? (i := 894) (by decide +kernel)), sr_k_X5_kindOf⟩
theorem sr_l_5_174 : sr_okL 5 174 0 mX5_isGuest := ⟨List.mem_append_right _ (List.mem_of_getElem? (i := 905) (by decide +kernel)), sr_k_X5_isGuest⟩
theorem sr_l_5_177 : sr_okL 5 177 0 mX5_guestTells := ⟨List.mem_append_right _ (List.mem_of_getElem? (i := 909) (by decide +kernel)), sr_k_X5_guestTells⟩
theorem sr_l_5_171 : sr_okL 5 171 0 mX5_second := ⟨List.mem_append_right _ (List.mem_of_getElem? (i := 913) (by decide +kernel)), sr_k_X5_second⟩
theorem sr_l_5_164 : sr_okL 5 164 0 mX5_secondBy := ⟨List.mem_append_right _ (List.mem_of_getElem? (i := 917) (by decide +kernel)), sr_k_X5_secondBy⟩
theorem sr_l_5_157 : sr_okL 5 157 0 mX5_allLives := ⟨List.mem_append_right _ (List.mem_of_getElem? (i := 921) (by decide +kernel)), sr_k_X5_allLives⟩
theorem sr_l_5_161 : sr_okL 5 161 1 mX5_withChoice := ⟨List.mem_append_right _ (List.mem_of_getElem? (i := 925) (by decide +kernel)), sr_k_X5_withChoice⟩
theorem sr_l_5_183 : sr_okL 5 183 1 mX5_bits := ⟨List.mem_append_right _ (List.mem_of_getElem? (i := 932) (by decide +kernel)), sr_k_X5_bits⟩
theorem sr_l_5_186 : sr_okL 5 186 0 mX5_soldiers := ⟨List.mem_append_right _ (List.mem_of_getElem? (i := 935) (by decide +kernel)), sr_k_X5_soldiers⟩
theorem sr_l_5_180 : sr_okL 5 180 0 mX5_isSoldier := ⟨List.mem_append_right _ (List.mem_of_getElem? (i := 939) (by decide +kernel)), sr_k_X5_isSoldier⟩
theorem sr_l_5_189 : sr_okL 5 189 0 mX5_thingsOf := ⟨List.mem_append_right _ (List.mem_of_getElem? (i := 943) (by decide +kernel)), sr_k_X5_thingsOf⟩
theorem sr_l_5_167 : sr_okL 5 167 0 mX5_isHad := ⟨List.mem_append_right _ (List.mem_of_getElem? (i := 947) (by decide +kernel)), sr_k_X5_isHad⟩
theorem sr_l_5_192 : sr_okL 5 192 1 mX5_holds := ⟨List.mem_append_right _ (List.mem_of_getElem? (i := 959) (by decide +kernel)), sr_k_X5_holds⟩
theorem sr_l_5_195 : sr_okL 5 195 0 mX5_remember := ⟨List.mem_append_right _ (List.mem_of_getElem? (i := 962) (by decide +kernel)), sr_k_X5_remember⟩
theorem sr_l_5_198 : sr_okL 5 198 0 mX5_uses := ⟨List.mem_append_right _ (List.mem_of_getElem? (i := 974) (by decide +kernel)), sr_k_X5_uses⟩
theorem sr_l_5_201 : sr_okL 5 201 0 mX5_roomOf := ⟨List.mem_append_right _ (List.mem_of_getElem? (i := 994) (by decide +kernel)), sr_k_X5_roomOf⟩
theorem sr_l_5_204 : sr_okL 5 204 1 mX5_lowest := ⟨List.mem_append_right _ (List.mem_of_getElem? (i := 1006) (by decide +kernel)), sr_k_X5_lowest⟩
theorem sr_l_5_207 : sr_okL 5 207 0 mX5_isThings := ⟨List.mem_append_right _ (List.mem_of_getElem? (i := 1017) (by decide +kernel)), sr_k_X5_isThings⟩
theorem sr_l_5_213 : sr_okL 5 213 0 mX5_fewestBy := ⟨List.mem_append_right _ (List.mem_of_getElem? (i := 1025) (by decide +kernel)), sr_k_X5_fewestBy⟩
theorem sr_l_5_210 : sr_okL 5 210 0 mX5_isTold := ⟨List.mem_append_right _ (List.mem_of_getElem? (i := 1029) (by decide +kernel)), sr_k_X5_isTold⟩
theorem sr_l_5_217 : sr_okL 5 217 0 mX5_thereBy := ⟨List.mem_append_right _ (List.mem_of_getElem? (i := 1038) (by decide +kernel)), sr_k_X5_thereBy⟩
theorem sr_l_5_220 : sr_okL 5 220 0 mX5_isThing := ⟨List.mem_append_right _ (List.mem_of_getElem? (i := 1050) (by decide +kernel)), sr_k_X5_isThing⟩
theorem sr_l_5_223 : sr_okL 5 223 0 mX5_isSecond := ⟨List.mem_append_right _ (List.mem_of_getElem? (i := 1058) (by decide +kernel)), sr_k_X5_isSecond⟩
theorem sr_l_5_229 : sr_okL 5 229 0 mX5_layRings := ⟨List.mem_append_right _ (List.mem_of_getElem? (i := 1070) (by decide +kernel)), sr_k_X5_layRings⟩
theorem sr_l_5_233 : sr_okL 5 233 0 mX5_billOf := ⟨List.mem_append_right _ (List.mem_of_getElem? (i := 1086) (by decide +kernel)), sr_k_X5_billOf⟩
theorem sr_l_5_237 : sr_okL 5 237 0 mX5_fraction := ⟨List.mem_append_right _ (List.mem_of_getElem? (i := 1102) (by decide +kernel)), sr_k_X5_fraction⟩
theorem sr_l_5_249 : sr_okL 5 249 0 mX5_counted := ⟨List.mem_append_right _ (List.mem_of_getElem? (i := 1123) (by decide +kernel)), sr_k_X5_counted⟩
theorem sr_l_5_257 : sr_okL 5 257 0 mX5_mix := ⟨List.mem_append_right _ (List.mem_of_getElem? (i := 1132) (by decide +kernel)), sr_k_X5_mix⟩
theorem sr_l_5_265 : sr_okL 5 265 0 mX5_mixHotel := ⟨List.mem_append_right _ (List.mem_of_getElem? (i := 1137) (by decide +kernel)), sr_k_X5_mixHotel⟩
set_option maxRecDepth 20000 in
theorem sr_mls_ok_5 : ∀ q ∈ sr_mls_5, sr_okL 5 q.1 q.2.1 q.2.2 := List.forall_mem_cons.mpr ⟨sr_l_5_1, List.forall_mem_cons.mpr ⟨sr_l_5_80, List.forall_mem_cons.mpr ⟨sr_l_5_90, List.forall_mem_cons.mpr ⟨sr_l_5_94, List.forall_mem_cons.mpr ⟨sr_l_5_98, List.forall_mem_cons.mpr ⟨sr_l_5_102, List.forall_mem_cons.mpr ⟨sr_l_5_105, List.forall_mem_cons.mpr ⟨sr_l_5_142, List.forall_mem_cons.mpr ⟨sr_l_5_111, List.forall_mem_cons.mpr ⟨sr_l_5_139, List.forall_mem_cons.mpr ⟨sr_l_5_130, List.forall_mem_cons.mpr ⟨sr_l_5_114, List.forall_mem_cons.mpr ⟨sr_l_5_133, List.forall_mem_cons.mpr ⟨sr_l_5_136, List.forall_mem_cons.mpr ⟨sr_l_5_127, List.forall_mem_cons.mpr ⟨sr_l_5_174, List.forall_mem_cons.mpr ⟨sr_l_5_177, List.forall_mem_cons.mpr ⟨sr_l_5_171, List.forall_mem_cons.mpr ⟨sr_l_5_164, List.forall_mem_cons.mpr ⟨sr_l_5_157, List.forall_mem_cons.mpr ⟨sr_l_5_161, List.forall_mem_cons.mpr ⟨sr_l_5_183, List.forall_mem_cons.mpr ⟨sr_l_5_186, List.forall_mem_cons.mpr ⟨sr_l_5_180, List.forall_mem_cons.mpr ⟨sr_l_5_189, List.forall_mem_cons.mpr ⟨sr_l_5_167, List.forall_mem_cons.mpr ⟨sr_l_5_192, List.forall_mem_cons.mpr ⟨sr_l_5_195, List.forall_mem_cons.mpr ⟨sr_l_5_198, List.forall_mem_cons.mpr ⟨sr_l_5_201, List.forall_mem_cons.mpr ⟨sr_l_5_204, List.forall_mem_cons.mpr ⟨sr_l_5_207, List.forall_mem_cons.mpr ⟨sr_l_5_213, List.forall_mem_cons.mpr ⟨sr_l_5_210, List.forall_mem_cons.mpr ⟨sr_l_5_217, List.forall_mem_cons.mpr ⟨sr_l_5_220, List.forall_mem_cons.mpr ⟨sr_l_5_223, List.forall_mem_cons.mpr ⟨sr_l_5_229, List.forall_mem_cons.mpr ⟨sr_l_5_233, List.forall_mem_cons.mpr ⟨sr_l_5_237, List.forall_mem_cons.mpr ⟨sr_l_5_249, List.forall_mem_cons.mpr ⟨sr_l_5_257, List.forall_mem_cons.mpr ⟨sr_l_5_265, fun _ h => absurd h List.not_mem_nil⟩⟩⟩⟩⟩⟩⟩⟩⟩⟩⟩⟩⟩⟩⟩⟩⟩⟩⟩⟩⟩⟩⟩⟩⟩⟩⟩⟩⟩⟩⟩⟩⟩⟩⟩⟩⟩⟩⟩⟩⟩⟩⟩
theorem sr_f_5_76 : Cond.fieldLink (sr_R 5) 76 (TX5 0).1 (TX5 0).2.1 (TX5 0).2.2.1 ∈ lw_tbl := List.mem_append_right _ (List.mem_of_getElem? (i := 684) (by decide +kernel))
theorem sr_f_5_7 : Cond.fieldLink (sr_R 5) 7 (TX5 1).1 (TX5 1).2.1 (TX5 1).2.2.1 ∈ lw_tbl := List.mem_append_right _ (List.mem_of_getElem? (i := 685) (by decide +kernel))
theorem sr_f_5_84 : Cond.fieldLink (sr_R 5) 84 (TX5 2).1 (TX5 2).2.1 (TX5 2).2.2.1 ∈ lw_tbl := List.mem_append_right _ (List.mem_of_getElem? (i := 686) (by decide +kernel))
theorem sr_f_5_87 : Cond.fieldLink (sr_R 5) 87 (TX5 3).1 (TX5 3).2.1 (TX5 3).2.2.1 ∈ lw_tbl := List.mem_append_right _ (List.mem_of_getElem? (i := 687) (by decide +kernel))
theorem sr_f_5_13 : Cond.fieldLink (sr_R 5) 13 (TX5 4).1 (TX5 4).2.1 (TX5 4).2.2.1 ∈ lw_tbl := List.mem_append_right _ (List.mem_of_getElem? (i := 688) (by decide +kernel))
theorem sr_f_5_17 : Cond.fieldLink (sr_R 5) 17 (TX5 5).1 (TX5 5).2.1 (TX5 5).2.2.1 ∈ lw_tbl := List.mem_append_right _ (List.mem_of_getElem? (i := 689) (by decide +kernel))
theorem sr_f_5_20 : Cond.fieldLink (sr_R 5) 20 (TX5 6).1 (TX5 6).2.1 (TX5 6).2.2.1 ∈ lw_tbl := List.mem_append_right _ (List.mem_of_getElem? (i := 690) (by decide +kernel))
theorem sr_f_5_23 : Cond.fieldLink (sr_R 5) 23 (TX5 7).1 (TX5 7).2.1 (TX5 7).2.2.1 ∈ lw_tbl := List.mem_append_right _ (List.mem_of_getElem? (i := 691) (by decide +kernel))
theorem sr_f_5_26 : Cond.fieldLink (sr_R 5) 26 (TX5 8).1 (TX5 8).2.1 (TX5 8).2.2.1 ∈ lw_tbl := List.mem_append_right _ (List.mem_of_getElem? (i := 692) (by decide +kernel))
theorem sr_f_5_29 : Cond.fieldLink (sr_R 5) 29 (TX5 9).1 (TX5 9).2.1 (TX5 9).2.2.1 ∈ lw_tbl := List.mem_append_right _ (List.mem_of_getElem? (i := 693) (by decide +kernel))
theorem sr_f_5_145 : Cond.fieldLink (sr_R 5) 145 (TX5 10).1 (TX5 10).2.1 (TX5 10).2.2.1 ∈ lw_tbl := List.mem_append_right _ (List.mem_of_getElem? (i := 694) (by decide +kernel))
theorem sr_f_5_148 : Cond.fieldLink (sr_R 5) 148 (TX5 11).1 (TX5 11).2.1 (TX5 11).2.2.1 ∈ lw_tbl := List.mem_append_right _ (List.mem_of_getElem? (i := 695) (by decide +kernel))
theorem sr_f_5_151 : Cond.fieldLink (sr_R 5) 151 (TX5 12).1 (TX5 12).2.1 (TX5 12).2.2.1 ∈ lw_tbl := List.mem_append_right _ (List.mem_of_getElem? (i := 696) (by decide +kernel))
theorem sr_f_5_33 : Cond.fieldLink (sr_R 5) 33 (TX5 13).1 (TX5 13).2.1 (TX5 13).2.2.1 ∈ lw_tbl := List.mem_append_right _ (List.mem_of_getElem? (i := 697) (by decide +kernel))
theorem sr_f_5_36 : Cond.fieldLink (sr_R 5) 36 (TX5 14).1 (TX5 14).2.1 (TX5 14).2.2.1 ∈ lw_tbl := List.mem_append_right _ (List.mem_of_getElem? (i := 698) (by decide +kernel))
theorem sr_f_5_39 : Cond.fieldLink (sr_R 5) 39 (TX5 15).1 (TX5 15).2.1 (TX5 15).2.2.1 ∈ lw_tbl := List.mem_append_right _ (List.mem_of_getElem? (i := 699) (by decide +kernel))
theorem sr_f_5_42 : Cond.fieldLink (sr_R 5) 42 (TX5 16).1 (TX5 16).2.1 (TX5 16).2.2.1 ∈ lw_tbl := List.mem_append_right _ (List.mem_of_getElem? (i := 700) (by decide +kernel))
theorem sr_f_5_108 : Cond.fieldLink (sr_R 5) 108 (TX5 17).1 (TX5 17).2.1 (TX5 17).2.2.1 ∈ lw_tbl := List.mem_append_right _ (List.mem_of_getElem? (i := 701) (by decide +kernel))
theorem sr_f_5_121 : Cond.fieldLink (sr_R 5) 121 (TX5 18).1 (TX5 18).2.1 (TX5 18).2.2.1 ∈ lw_tbl := List.mem_append_right _ (List.mem_of_getElem? (i := 702) (by decide +kernel))
theorem sr_f_5_118 : Cond.fieldLink (sr_R 5) 118 (TX5 19).1 (TX5 19).2.1 (TX5 19).2.2.1 ∈ lw_tbl := List.mem_append_right _ (List.mem_of_getElem? (i := 703) (by decide +kernel))
theorem sr_f_5_124 : Cond.fieldLink (sr_R 5) 124 (TX5 20).1 (TX5 20).2.1 (TX5 20).2.2.1 ∈ lw_tbl := List.mem_append_right _ (List.mem_of_getElem? (i := 704) (by decide +kernel))
theorem sr_f_5_45 : Cond.fieldLink (sr_R 5) 45 (TX5 21).1 (TX5 21).2.1 (TX5 21).2.2.1 ∈ lw_tbl := List.mem_append_right _ (List.mem_of_getElem? (i := 705) (by decide +kernel))
theorem sr_f_5_48 : Cond.fieldLink (sr_R 5) 48 (TX5 22).1 (TX5 22).2.1 (TX5 22).2.2.1 ∈ lw_tbl := List.mem_append_right _ (List.mem_of_getElem? (i := 706) (by decide +kernel))
theorem sr_f_5_51 : Cond.fieldLink (sr_R 5) 51 (TX5 23).1 (TX5 23).2.1 (TX5 23).2.2.1 ∈ lw_tbl := List.mem_append_right _ (List.mem_of_getElem? (i := 707) (by decide +kernel))
theorem sr_f_5_154 : Cond.fieldLink (sr_R 5) 154 (TX5 24).1 (TX5 24).2.1 (TX5 24).2.2.1 ∈ lw_tbl := List.mem_append_right _ (List.mem_of_getElem? (i := 708) (by decide +kernel))
theorem sr_f_5_54 : Cond.fieldLink (sr_R 5) 54 (TX5 25).1 (TX5 25).2.1 (TX5 25).2.2.1 ∈ lw_tbl := List.mem_append_right _ (List.mem_of_getElem? (i := 709) (by decide +kernel))
theorem sr_f_5_57 : Cond.fieldLink (sr_R 5) 57 (TX5 26).1 (TX5 26).2.1 (TX5 26).2.2.1 ∈ lw_tbl := List.mem_append_right _ (List.mem_of_getElem? (i := 710) (by decide +kernel))
theorem sr_f_5_61 : Cond.fieldLink (sr_R 5) 61 (TX5 27).1 (TX5 27).2.1 (TX5 27).2.2.1 ∈ lw_tbl := List.mem_append_right _ (List.mem_of_getElem? (i := 711) (by decide +kernel))
theorem sr_f_5_64 : Cond.fieldLink (sr_R 5) 64 (TX5 28).1 (TX5 28).2.1 (TX5 28).2.2.1 ∈ lw_tbl := List.mem_append_right _ (List.mem_of_getElem? (i := 712) (by decide +kernel))
theorem sr_f_5_67 : Cond.fieldLink (sr_R 5) 67 (TX5 29).1 (TX5 29).2.1 (TX5 29).2.2.1 ∈ lw_tbl := List.mem_append_right _ (List.mem_of_getElem? (i := 713) (by decide +kernel))
theorem sr_f_5_70 : Cond.fieldLink (sr_R 5) 70 (TX5 30).1 (TX5 30).2.1 (TX5 30).2.2.1 ∈ lw_tbl := List.mem_append_right _ (List.mem_of_getElem? (i := 714) (by decide +kernel))
theorem sr_f_5_73 : Cond.fieldLink (sr_R 5) 73 (TX5 31).1 (TX5 31).2.1 (TX5 31).2.2.1 ∈ lw_tbl := List.mem_append_right _ (List.mem_of_getElem? (i := 715) (by decide +kernel))
theorem sr_f_5_226 : Cond.fieldLink (sr_R 5) 226 (TX5 32).1 (TX5 32).2.1 (TX5 32).2.2.1 ∈ lw_tbl := List.mem_append_right _ (List.mem_of_getElem? (i := 716) (by decide +kernel))
theorem sr_f_5_254 : Cond.fieldLink (sr_R 5) 254 (TX5 33).1 (TX5 33).2.1 (TX5 33).2.2.1 ∈ lw_tbl := List.mem_append_right _ (List.mem_of_getElem? (i := 717) (by decide +kernel))
theorem sr_fls_ok_5 : ∀ q ∈ sr_fls_5, sr_okF 5 q.1 q.2.1 q.2.2 := List.forall_mem_cons.mpr ⟨⟨RX5, TX5, 34, rfl, by decide, sr_f_5_76⟩, List.forall_mem_cons.mpr ⟨⟨RX5, TX5, 34, rfl, by decide, sr_f_5_7⟩, List.forall_mem_cons.mpr ⟨⟨RX5, TX5, 34, rfl, by decide, sr_f_5_84⟩, List.forall_mem_cons.mpr ⟨⟨RX5, TX5, 34, rfl, by decide, sr_f_5_87⟩, List.forall_mem_cons.mpr ⟨⟨RX5, TX5, 34, rfl, by decide, sr_f_5_13⟩, List.forall_mem_cons.mpr ⟨⟨RX5, TX5, 34, rfl, by decide, sr_f_5_17⟩, List.forall_mem_cons.mpr ⟨⟨RX5, TX5, 34, rfl, by decide, sr_f_5_20⟩, List.forall_mem_cons.mpr ⟨⟨RX5, TX5, 34, rfl, by decide, sr_f_5_23⟩, List.forall_mem_cons.mpr ⟨⟨RX5, TX5, 34, rfl, by decide, sr_f_5_26⟩, List.forall_mem_cons.mpr ⟨⟨RX5, TX5, 34, rfl, by decide, sr_f_5_29⟩, List.forall_mem_cons.mpr ⟨⟨RX5, TX5, 34, rfl, by decide, sr_f_5_145⟩, List.forall_mem_cons.mpr ⟨⟨RX5, TX5, 34, rfl, by decide, sr_f_5_148⟩, List.forall_mem_cons.mpr ⟨⟨RX5, TX5, 34, rfl, by decide, sr_f_5_151⟩, List.forall_mem_cons.mpr ⟨⟨RX5, TX5, 34, rfl, by decide, sr_f_5_33⟩, List.forall_mem_cons.mpr ⟨⟨RX5, TX5, 34, rfl, by decide, sr_f_5_36⟩, List.forall_mem_cons.mpr ⟨⟨RX5, TX5, 34, rfl, by decide, sr_f_5_39⟩, List.forall_mem_cons.mpr ⟨⟨RX5, TX5, 34, rfl, by decide, sr_f_5_42⟩, List.forall_mem_cons.mpr ⟨⟨RX5, TX5, 34, rfl, by decide, sr_f_5_108⟩, List.forall_mem_cons.mpr ⟨⟨RX5, TX5, 34, rfl, by decide, sr_f_5_121⟩, List.forall_mem_cons.mpr ⟨⟨RX5, TX5, 34, rfl, by decide, sr_f_5_118⟩, List.forall_mem_cons.mpr ⟨⟨RX5, TX5, 34, rfl, by decide, sr_f_5_124⟩, List.forall_mem_cons.mpr ⟨⟨RX5, TX5, 34, rfl, by decide, sr_f_5_45⟩, List.forall_mem_cons.mpr ⟨⟨RX5, TX5, 34, rfl, by decide, sr_f_5_48⟩, List.forall_mem_cons.mpr ⟨⟨RX5, TX5, 34, rfl, by decide, sr_f_5_51⟩, List.forall_mem_cons.mpr ⟨⟨RX5, TX5, 34, rfl, by decide, sr_f_5_154⟩, List.forall_mem_cons.mpr ⟨⟨RX5, TX5, 34, rfl, by decide, sr_f_5_54⟩, List.forall_mem_cons.mpr ⟨⟨RX5, TX5, 34, rfl, by decide, sr_f_5_57⟩, List.forall_mem_cons.mpr ⟨⟨RX5, TX5, 34, rfl, by decide, sr_f_5_61⟩, List.forall_mem_cons.mpr ⟨⟨RX5, TX5, 34, rfl, by decide, sr_f_5_64⟩, List.forall_mem_cons.mpr ⟨⟨RX5, TX5, 34, rfl, by decide, sr_f_5_67⟩, List.forall_mem_cons.mpr ⟨⟨RX5, TX5, 34, rfl, by decide, sr_f_5_70⟩, List.forall_mem_cons.mpr ⟨⟨RX5, TX5, 34, rfl, by decide, sr_f_5_73⟩, List.forall_mem_cons.mpr ⟨⟨RX5, TX5, 34, rfl, by decide, sr_f_5_226⟩, List.forall_mem_cons.mpr ⟨⟨RX5, TX5, 34, rfl, by decide, sr_f_5_254⟩, fun _ h => absurd h List.not_mem_nil⟩⟩⟩⟩⟩⟩⟩⟩⟩⟩⟩⟩⟩⟩⟩⟩⟩⟩⟩⟩⟩⟩⟩⟩⟩⟩⟩⟩⟩⟩⟩⟩⟩⟩
theorem sr_nls_ok_5 : ∀ q ∈ sr_nls_5, sr_okN 5 q.1 q.2 := fun _ h => absurd h List.not_mem_nil
theorem sr_ics_ok_5 : ∀ q ∈ sr_ics_5, Cond.constant (sr_R 5) q.1 q.2 ∈ lw_tbl := List.forall_mem_cons.mpr ⟨List.mem_append_right _ (List.mem_of_getElem? (i := 1037) (by decide +kernel)), List.forall_mem_cons.mpr ⟨List.mem_append_right _ (List.mem_of_getElem? (i := 1114) (by decide +kernel)), fun _ h => absurd h List.not_mem_nil⟩⟩
theorem sr_lcs_ok_5 : ∀ q ∈ sr_lcs_5, Cond.constantLong (sr_R 5) q.1 q.2 ∈ lw_tbl := List.forall_mem_cons.mpr ⟨List.mem_append_right _ (List.mem_of_getElem? (i := 1115) (by decide +kernel)), List.forall_mem_cons.mpr ⟨List.mem_append_right _ (List.mem_of_getElem? (i := 1116) (by decide +kernel)), List.forall_mem_cons.mpr ⟨List.mem_append_right _ (List.mem_of_getElem? (i := 1117) (by decide +kernel)), List.forall_mem_cons.mpr ⟨List.mem_append_right _ (List.mem_of_getElem? (i := 1118) (by decide +kernel)), List.forall_mem_cons.mpr ⟨List.mem_append_right _ (List.mem_of_getElem? (i := 1131) (by decide +kernel)), List.forall_mem_cons.mpr ⟨List.mem_append_right _ (List.mem_of_getElem? (i := 1136) (by decide +kernel)), List.forall_mem_cons.mpr ⟨List.mem_append_right _ (List.mem_of_getElem? (i := 1141) (by decide +kernel)), fun _ h => absurd h List.not_mem_nil⟩⟩⟩⟩⟩⟩⟩
theorem sr_sls_ok_5 : ∀ q ∈ sr_sls_5, Cond.fieldLinkNest (sr_R 5) q.1 "SecondRoom" (if q.2 = 0 then "KIND_LETTERS" else "KIND_ABOVE") "[I" "SecondRoom" ∈ lw_tbl := fun _ h => absurd h List.not_mem_nil
theorem sr_l_6_9 : sr_okL 6 9 2 mX4_init := ⟨List.mem_append_right _ (List.mem_of_getElem? (i := 12) (by decide +kernel)), sr_k_X4_init⟩
theorem sr_l_6_13 : sr_okL 6 13 0 mX4_row := ⟨List.mem_append_right _ (List.mem_of_getElem? (i := 177) (by decide +kernel)), sr_k_X4_row⟩
theorem sr_l_6_18 : sr_okL 6 18 0 mX4_lay := ⟨List.mem_append_right _ (List.mem_of_getElem? (i := 201) (by decide +kernel)), sr_k_X4_lay⟩
theorem sr_l_6_23 : sr_okL 6 23 0 mX4_at := ⟨List.mem_append_right _ (List.mem_of_getElem? (i := 230) (by decide +kernel)), sr_k_X4_at⟩
theorem sr_l_6_27 : sr_okL 6 27 0 mX4_tear := ⟨List.mem_append_right _ (List.mem_of_getElem? (i := 234) (by decide +kernel)), sr_k_X4_tear⟩
theorem sr_l_6_32 : sr_okL 6 32 0 mX4_copy := ⟨List.mem_append_right _ (List.mem_of_getElem? (i := 242) (by decide +kernel)), sr_k_X4_copy⟩
theorem sr_l_6_37 : sr_okL 6 37 0 mX4_mean := ⟨List.mem_append_right _ (List.mem_of_getElem? (i := 257) (by decide +kernel)), sr_k_X4_mean⟩
theorem sr_l_6_41 : sr_okL 6 41 0 mX4_text := ⟨List.mem_append_right _ (List.mem_of_getElem? (i := 270) (by decide +kernel)), sr_k_X4_text⟩
theorem sr_l_6_45 : sr_okL 6 45 0 mX4_put := ⟨List.mem_append_right _ (List.mem_of_getElem? (i := 274) (by decide +kernel)), sr_k_X4_put⟩
theorem sr_l_6_49 : sr_okL 6 49 0 mX4_fault := ⟨List.mem_append_right _ (List.mem_of_getElem? (i := 278) (by decide +kernel)), sr_k_X4_fault⟩
theorem sr_l_6_53 : sr_okL 6 53 0 mX4_hotel := ⟨List.mem_append_right _ (List.mem_of_getElem? (i := 333) (by decide +kernel)), sr_k_X4_hotel⟩
theorem sr_l_6_57 : sr_okL 6 57 0 mX4_guest := ⟨List.mem_append_right _ (List.mem_of_getElem? (i := 356) (by decide +kernel)), sr_k_X4_guest⟩
theorem sr_l_6_61 : sr_okL 6 61 0 mX4_mark := ⟨List.mem_append_right _ (List.mem_of_getElem? (i := 396) (by decide +kernel)), sr_k_X4_mark⟩
theorem sr_l_6_65 : sr_okL 6 65 0 mX4_turn := ⟨List.mem_append_right _ (List.mem_of_getElem? (i := 429) (by decide +kernel)), sr_k_X4_turn⟩
theorem sr_l_6_69 : sr_okL 6 69 0 mX4_change := ⟨List.mem_append_right _ (List.mem_of_getElem? (i := 433) (by decide +kernel)), sr_k_X4_change⟩
theorem sr_l_6_73 : sr_okL 6 73 0 mX4_lock := ⟨List.mem_append_right _ (List.mem_of_getElem? (i := 446) (by decide +kernel)), sr_k_X4_lock⟩
theorem sr_l_6_77 : sr_okL 6 77 0 mX4_use := ⟨List.mem_append_right _ (List.mem_of_getElem? (i := 450) (by decide +kernel)), sr_k_X4_use⟩
theorem sr_l_6_81 : sr_okL 6 81 0 mX4_undo := ⟨List.mem_append_right _ (List.mem_of_getElem? (i := 454) (by decide +kernel)), sr_k_X4_undo⟩
theorem sr_l_6_85 : sr_okL 6 85 0 mX4_keep := ⟨List.mem_append_right _ (List.mem_of_getElem? (i := 462) (by decide +kernel)), sr_k_X4_keep⟩
theorem sr_l_6_89 : sr_okL 6 89 0 mX4_on := ⟨List.mem_append_right _ (List.mem_of_getElem? (i := 471) (by decide +kernel)), sr_k_X4_on⟩
theorem sr_l_6_93 : sr_okL 6 93 0 mX4_things := ⟨List.mem_append_right _ (List.mem_of_getElem? (i := 479) (by decide +kernel)), sr_k_X4_things⟩
theorem sr_l_6_97 : sr_okL 6 97 0 mX4_both := ⟨List.mem_append_right _ (List.mem_of_getElem? (i := 483) (by decide +kernel)), sr_k_X4_both⟩
theorem sr_l_6_101 : sr_okL 6 101 0 mX4_apart := ⟨List.mem_append_right _ (List.mem_of_getElem? (i := 487) (by decide +kernel)), sr_k_X4_apart⟩
theorem sr_l_6_105 : sr_okL 6 105 0 mX4_has := ⟨List.mem_append_right _ (List.mem_of_getElem? (i := 494) (by decide +kernel)), sr_k_X4_has⟩
theorem sr_l_6_109 : sr_okL 6 109 0 mX4_fits := ⟨List.mem_append_right _ (List.mem_of_getElem? (i := 499) (by decide +kernel)), sr_k_X4_fits⟩
theorem sr_l_6_113 : sr_okL 6 113 0 mX4_looks := ⟨List.mem_append_right _ (List.mem_of_getElem? (i := 511) (by decide +kernel)), sr_k_X4_looks⟩
theorem sr_l_6_117 : sr_okL 6 117 0 mX4_drawer := ⟨List.mem_append_right _ (List.mem_of_getElem? (i := 527) (by decide +kernel)), sr_k_X4_drawer⟩
theorem sr_l_6_121 : sr_okL 6 121 0 mX4_lives := ⟨List.mem_append_right _ (List.mem_of_getElem? (i := 539) (by decide +kernel)), sr_k_X4_lives⟩
theorem sr_l_6_125 : sr_okL 6 125 0 mX4_nearest := ⟨List.mem_append_right _ (List.mem_of_getElem? (i := 543) (by decide +kernel)), sr_k_X4_nearest⟩
theorem sr_l_6_129 : sr_okL 6 129 0 mX4_twins := ⟨List.mem_append_right _ (List.mem_of_getElem? (i := 551) (by decide +kernel)), sr_k_X4_twins⟩
theorem sr_l_6_133 : sr_okL 6 133 0 mX4_pairs := ⟨List.mem_append_right _ (List.mem_of_getElem? (i := 559) (by decide +kernel)), sr_k_X4_pairs⟩
theorem sr_l_6_138 : sr_okL 6 138 0 mX4_ring := ⟨List.mem_append_right _ (List.mem_of_getElem? (i := 563) (by decide +kernel)), sr_k_X4_ring⟩
theorem sr_l_6_142 : sr_okL 6 142 0 mX4_who := ⟨List.mem_append_right _ (List.mem_of_getElem? (i := 575) (by decide +kernel)), sr_k_X4_who⟩
theorem sr_l_6_146 : sr_okL 6 146 0 mX4_marks := ⟨List.mem_append_right _ (List.mem_of_getElem? (i := 579) (by decide +kernel)), sr_k_X4_marks⟩
theorem sr_l_6_150 : sr_okL 6 150 0 mX4_bill := ⟨List.mem_append_right _ (List.mem_of_getElem? (i := 583) (by decide +kernel)), sr_k_X4_bill⟩
theorem sr_l_6_154 : sr_okL 6 154 0 mX4_pays := ⟨List.mem_append_right _ (List.mem_of_getElem? (i := 594) (by decide +kernel)), sr_k_X4_pays⟩
theorem sr_l_6_158 : sr_okL 6 158 0 mX4_cheapest := ⟨List.mem_append_right _ (List.mem_of_getElem? (i := 598) (by decide +kernel)), sr_k_X4_cheapest⟩
theorem sr_l_6_162 : sr_okL 6 162 0 mX4_spread := ⟨List.mem_append_right _ (List.mem_of_getElem? (i := 602) (by decide +kernel)), sr_k_X4_spread⟩
theorem sr_l_6_166 : sr_okL 6 166 0 mX4_odds := ⟨List.mem_append_right _ (List.mem_of_getElem? (i := 613) (by decide +kernel)), sr_k_X4_odds⟩
theorem sr_l_6_170 : sr_okL 6 170 0 mX4_lots := ⟨List.mem_append_right _ (List.mem_of_getElem? (i := 617) (by decide +kernel)), sr_k_X4_lots⟩
theorem sr_l_6_174 : sr_okL 6 174 0 mX4_asked := ⟨List.mem_append_right _ (List.mem_of_getElem? (i := 629) (by decide +kernel)), sr_k_X4_asked⟩
theorem sr_l_6_178 : sr_okL 6 178 0 mX4_upper := ⟨List.mem_append_right _ (List.mem_of_getElem? (i := 633) (by decide +kernel)), sr_k_X4_upper⟩
theorem sr_l_6_183 : sr_okL 6 183 0 mX4_lower := ⟨List.mem_append_right _ (List.mem_of_getElem? (i := 637) (by decide +kernel)), sr_k_X4_lower⟩
theorem sr_l_6_187 : sr_okL 6 187 0 mX4_count := ⟨List.mem_append_right _ (List.mem_of_getElem? (i := 641) (by decide +kernel)), sr_k_X4_count⟩
theorem sr_l_6_191 : sr_okL 6 191 0 mX4_finding := ⟨List.mem_append_right _ (List.mem_of_getElem? (i := 658) (by decide +kernel)), sr_k_X4_finding⟩
theorem sr_l_6_195 : sr_okL 6 195 0 mX4_findings := ⟨List.mem_append_right _ (List.mem_of_getElem? (i := 662) (by decide +kernel)), sr_k_X4_findings⟩
theorem sr_l_6_199 : sr_okL 6 199 0 mX4_digest := ⟨List.mem_append_right _ (List.mem_of_getElem? (i := 666) (by decide +kernel)), sr_k_X4_digest⟩
theorem sr_l_6_12 : sr_okL 6 12 2 mX5_init := ⟨List.mem_append_right _ (List.mem_of_getElem? (i := 680) (by decide +kernel)), sr_k_X5_init⟩
theorem sr_l_6_194 : sr_okL 6 194 0 mX5_finding := ⟨List.mem_append_right _ (List.mem_of_getElem? (i := 789) (by decide +kernel)), sr_k_X5_finding⟩
theorem sr_l_6_198 : sr_okL 6 198 0 mX5_findings := ⟨List.mem_append_right _ (List.mem_of_getElem? (i := 793) (by decide +kernel)), sr_k_X5_findings⟩
theorem sr_l_6_177 : sr_okL 6 177 0 mX5_asked := ⟨List.mem_append_right _ (List.mem_of_getElem? (i := 800) (by decide +kernel)), sr_k_X5_asked⟩
theorem sr_l_6_182 : sr_okL 6 182 0 mX5_upper := ⟨List.mem_append_right _ (List.mem_of_getElem? (i := 804) (by decide +kernel)), sr_k_X5_upper⟩
theorem sr_l_6_186 : sr_okL 6 186 0 mX5_lower := ⟨List.mem_append_right _ (List.mem_of_getElem? (i := 808) (by decide +kernel)), sr_k_X5_lower⟩
theorem sr_l_6_17 : sr_okL 6 17 0 mX5_row := ⟨List.mem_append_right _ (List.mem_of_getElem? (i := 812) (by decide +kernel)), sr_k_X5_row⟩
theorem sr_l_6_22 : sr_okL 6 22 0 mX5_lay := ⟨List.mem_append_right _ (List.mem_of_getElem? (i := 823) (by decide +kernel)), sr_k_X5_lay⟩
theorem sr_l_6_26 : sr_okL 6 26 0 mX5_at := ⟨List.mem_append_right _ (List.mem_of_getElem? (i := 835) (by decide +kernel)), sr_k_X5_at⟩
theorem sr_l_6_31 : sr_okL 6 31 0 mX5_tear := ⟨List.mem_append_right _ (List.mem_of_getElem? (i := 839) (by decide +kernel)), sr_k_X5_tear⟩
theorem sr_l_6_36 : sr_okL 6 36 0 mX5_copy := ⟨List.mem_append_right _ (List.mem_of_getElem? (i := 843) (by decide +kernel)), sr_k_X5_copy⟩
theorem sr_l_6_40 : sr_okL 6 40 0 mX5_mean := ⟨List.mem_append_right _ (List.mem_of_getElem? (i := 847) (by decide +kernel)), sr_k_X5_mean⟩
theorem sr_l_6_44 : sr_okL 6 44 0 mX5_text := ⟨List.mem_append_right _ (List.mem_of_getElem? (i := 851) (by decide +kernel)), sr_k_X5_text⟩
theorem sr_l_6_48 : sr_okL 6 48 0 mX5_put := ⟨List.mem_append_right _ (List.mem_of_getElem? (i := 858) (by decide +kernel)), sr_k_X5_put⟩
theorem sr_l_6_52 : sr_okL 6 52 0 mX5_fault := ⟨List.mem_append_right _ (List.mem_of_getElem? (i := 862) (by decide +kernel)), sr_k_X5_fault⟩
theorem sr_l_6_56 : sr_okL 6 56 0 mX5_hotel := ⟨List.mem_append_right _ (List.mem_of_getElem? (i := 897) (by decide +kernel)), sr_k_X5_hotel⟩
theorem sr_l_6_60 : sr_okL 6 60 0 mX5_guest := ⟨List.mem_append_right _ (List.mem_of_getElem? (i := 901) (by decide +kernel)), sr_k_X5_guest⟩
theorem sr_l_6_64 : sr_okL 6 64 0 mX5_mark := ⟨List.mem_append_right _ (List.mem_of_getElem? (i := 928) (by decide +kernel)), sr_k_X5_mark⟩
theorem sr_l_6_68 : sr_okL 6 68 0 mX5_turn := ⟨List.mem_append_right _ (List.mem_of_getElem? (i := 951) (by decide +kernel)), sr_k_X5_turn⟩
theorem sr_l_6_72 : sr_okL 6 72 0 mX5_change := ⟨List.mem_append_right _ (List.mem_of_getElem? (i := 955) (by decide +kernel)), sr_k_X5_change⟩
theorem sr_l_6_76 : sr_okL 6 76 0 mX5_lock := ⟨List.mem_append_right _ (List.mem_of_getElem? (i := 966) (by decide +kernel)), sr_k_X5_lock⟩
theorem sr_l_6_80 : sr_okL 6 80 0 mX5_use := ⟨List.mem_append_right _ (List.mem_of_getElem? (i := 970) (by decide +kernel)), sr_k_X5_use⟩
theorem sr_l_6_84 : sr_okL 6 84 0 mX5_undo := ⟨List.mem_append_right _ (List.mem_of_getElem? (i := 978) (by decide +kernel)), sr_k_X5_undo⟩
theorem sr_l_6_88 : sr_okL 6 88 0 mX5_keep := ⟨List.mem_append_right _ (List.mem_of_getElem? (i := 982) (by decide +kernel)), sr_k_X5_keep⟩
theorem sr_l_6_92 : sr_okL 6 92 0 mX5_on := ⟨List.mem_append_right _ (List.mem_of_getElem? (i := 986) (by decide +kernel)), sr_k_X5_on⟩
theorem sr_l_6_96 : sr_okL 6 96 0 mX5_things := ⟨List.mem_append_right _ (List.mem_of_getElem? (i := 990) (by decide +kernel)), sr_k_X5_things⟩
theorem sr_l_6_100 : sr_okL 6 100 0 mX5_both := ⟨List.mem_append_right _ (List.mem_of_getElem? (i := 998) (by decide +kernel)), sr_k_X5_both⟩
theorem sr_l_6_104 : sr_okL 6 104 0 mX5_apart := ⟨List.mem_append_right _ (List.mem_of_getElem? (i := 1002) (by decide +kernel)), sr_k_X5_apart⟩
theorem sr_l_6_108 : sr_okL 6 108 0 mX5_has := ⟨List.mem_append_right _ (List.mem_of_getElem? (i := 1009) (by decide +kernel)), sr_k_X5_has⟩
theorem sr_l_6_112 : sr_okL 6 112 0 mX5_fits := ⟨List.mem_append_right _ (List.mem_of_getElem? (i := 1013) (by decide +kernel)), sr_k_X5_fits⟩
theorem sr_l_6_116 : sr_okL 6 116 0 mX5_looks := ⟨List.mem_append_right _ (List.mem_of_getElem? (i := 1021) (by decide +kernel)), sr_k_X5_looks⟩
theorem sr_l_6_120 : sr_okL 6 120 0 mX5_drawer := ⟨List.mem_append_right _ (List.mem_of_getElem? (i := 1033) (by decide +kernel)), sr_k_X5_drawer⟩
theorem sr_l_6_124 : sr_okL 6 124 0 mX5_lives := ⟨List.mem_append_right _ (List.mem_of_getElem? (i := 1042) (by decide +kernel)), sr_k_X5_lives⟩
theorem sr_l_6_128 : sr_okL 6 128 0 mX5_nearest := ⟨List.mem_append_right _ (List.mem_of_getElem? (i := 1046) (by decide +kernel)), sr_k_X5_nearest⟩
theorem sr_l_6_132 : sr_okL 6 132 0 mX5_twins := ⟨List.mem_append_right _ (List.mem_of_getElem? (i := 1054) (by decide +kernel)), sr_k_X5_twins⟩
theorem sr_l_6_137 : sr_okL 6 137 0 mX5_pairs := ⟨List.mem_append_right _ (List.mem_of_getElem? (i := 1062) (by decide +kernel)), sr_k_X5_pairs⟩
theorem sr_l_6_141 : sr_okL 6 141 0 mX5_ring := ⟨List.mem_append_right _ (List.mem_of_getElem? (i := 1066) (by decide +kernel)), sr_k_X5_ring⟩
theorem sr_l_6_145 : sr_okL 6 145 0 mX5_who := ⟨List.mem_append_right _ (List.mem_of_getElem? (i := 1074) (by decide +kernel)), sr_k_X5_who⟩
theorem sr_l_6_149 : sr_okL 6 149 0 mX5_marks := ⟨List.mem_append_right _ (List.mem_of_getElem? (i := 1078) (by decide +kernel)), sr_k_X5_marks⟩
theorem sr_l_6_153 : sr_okL 6 153 0 mX5_bill := ⟨List.mem_append_right _ (List.mem_of_getElem? (i := 1082) (by decide +kernel)), sr_k_X5_bill⟩
theorem sr_l_6_157 : sr_okL 6 157 0 mX5_pays := ⟨List.mem_append_right _ (List.mem_of_getElem? (i := 1090) (by decide +kernel)), sr_k_X5_pays⟩
theorem sr_l_6_161 : sr_okL 6 161 0 mX5_cheapest := ⟨List.mem_append_right _ (List.mem_of_getElem? (i := 1094) (by decide +kernel)), sr_k_X5_cheapest⟩
theorem sr_l_6_165 : sr_okL 6 165 0 mX5_spread := ⟨List.mem_append_right _ (List.mem_of_getElem? (i := 1098) (by decide +kernel)), sr_k_X5_spread⟩
theorem sr_l_6_169 : sr_okL 6 169 0 mX5_odds := ⟨List.mem_append_right _ (List.mem_of_getElem? (i := 1106) (by decide +kernel)), sr_k_X5_odds⟩
theorem sr_l_6_173 : sr_okL 6 173 0 mX5_lots := ⟨List.mem_append_right _ (List.mem_of_getElem? (i := 1110) (by decide +kernel)), sr_k_X5_lots⟩
theorem sr_l_6_190 : sr_okL 6 190 0 mX5_count := ⟨List.mem_append_right _ (List.mem_of_getElem? (i := 1119) (by decide +kernel)), sr_k_X5_count⟩
theorem sr_l_6_202 : sr_okL 6 202 0 mX5_digest := ⟨List.mem_append_right _ (List.mem_of_getElem? (i := 1127) (by decide +kernel)), sr_k_X5_digest⟩
set_option maxRecDepth 20000 in
theorem sr_mls_ok_6 : ∀ q ∈ sr_mls_6, sr_okL 6 q.1 q.2.1 q.2.2 := List.forall_mem_cons.mpr ⟨sr_l_6_9, List.forall_mem_cons.mpr ⟨sr_l_6_13, List.forall_mem_cons.mpr ⟨sr_l_6_18, List.forall_mem_cons.mpr ⟨sr_l_6_23, List.forall_mem_cons.mpr ⟨sr_l_6_27, List.forall_mem_cons.mpr ⟨sr_l_6_32, List.forall_mem_cons.mpr ⟨sr_l_6_37, List.forall_mem_cons.mpr ⟨sr_l_6_41, List.forall_mem_cons.mpr ⟨sr_l_6_45, List.forall_mem_cons.mpr ⟨sr_l_6_49, List.forall_mem_cons.mpr ⟨sr_l_6_53, List.forall_mem_cons.mpr ⟨sr_l_6_57, List.forall_mem_cons.mpr ⟨sr_l_6_61, List.forall_mem_cons.mpr ⟨sr_l_6_65, List.forall_mem_cons.mpr ⟨sr_l_6_69, List.forall_mem_cons.mpr ⟨sr_l_6_73, List.forall_mem_cons.mpr ⟨sr_l_6_77, List.forall_mem_cons.mpr ⟨sr_l_6_81, List.forall_mem_cons.mpr ⟨sr_l_6_85, List.forall_mem_cons.mpr ⟨sr_l_6_89, List.forall_mem_cons.mpr ⟨sr_l_6_93, List.forall_mem_cons.mpr ⟨sr_l_6_97, List.forall_mem_cons.mpr ⟨sr_l_6_101, List.forall_mem_cons.mpr ⟨sr_l_6_105, List.forall_mem_cons.mpr ⟨sr_l_6_109, List.forall_mem_cons.mpr ⟨sr_l_6_113, List.forall_mem_cons.mpr ⟨sr_l_6_117, List.forall_mem_cons.mpr ⟨sr_l_6_121, List.forall_mem_cons.mpr ⟨sr_l_6_125, List.forall_mem_cons.mpr ⟨sr_l_6_129, List.forall_mem_cons.mpr ⟨sr_l_6_133, List.forall_mem_cons.mpr ⟨sr_l_6_138, List.forall_mem_cons.mpr ⟨sr_l_6_142, List.forall_mem_cons.mpr ⟨sr_l_6_146, List.forall_mem_cons.mpr ⟨sr_l_6_150, List.forall_mem_cons.mpr ⟨sr_l_6_154, List.forall_mem_cons.mpr ⟨sr_l_6_158, List.forall_mem_cons.mpr ⟨sr_l_6_162, List.forall_mem_cons.mpr ⟨sr_l_6_166, List.forall_mem_cons.mpr ⟨sr_l_6_170, List.forall_mem_cons.mpr ⟨sr_l_6_174, List.forall_mem_cons.mpr ⟨sr_l_6_178, List.forall_mem_cons.mpr ⟨sr_l_6_183, List.forall_mem_cons.mpr ⟨sr_l_6_187, List.forall_mem_cons.mpr ⟨sr_l_6_191, List.forall_mem_cons.mpr ⟨sr_l_6_195, List.forall_mem_cons.mpr ⟨sr_l_6_199, List.forall_mem_cons.mpr ⟨sr_l_6_12, List.forall_mem_cons.mpr ⟨sr_l_6_194, List.forall_mem_cons.mpr ⟨sr_l_6_198, List.forall_mem_cons.mpr ⟨sr_l_6_177, List.forall_mem_cons.mpr ⟨sr_l_6_182, List.forall_mem_cons.mpr ⟨sr_l_6_186, List.forall_mem_cons.mpr ⟨sr_l_6_17, List.forall_mem_cons.mpr ⟨sr_l_6_22, List.forall_mem_cons.mpr ⟨sr_l_6_26, List.forall_mem_cons.mpr ⟨sr_l_6_31, List.forall_mem_cons.mpr ⟨sr_l_6_36, List.forall_mem_cons.mpr ⟨sr_l_6_40, List.forall_mem_cons.mpr ⟨sr_l_6_44, List.forall_mem_cons.mpr ⟨sr_l_6_48, List.forall_mem_cons.mpr ⟨sr_l_6_52, List.forall_mem_cons.mpr ⟨sr_l_6_56, List.forall_mem_cons.mpr ⟨sr_l_6_60, List.forall_mem_cons.mpr ⟨sr_l_6_64, List.forall_mem_cons.mpr ⟨sr_l_6_68, List.forall_mem_cons.mpr ⟨sr_l_6_72, List.forall_mem_cons.mpr ⟨sr_l_6_76, List.forall_mem_cons.mpr ⟨sr_l_6_80, List.forall_mem_cons.mpr ⟨sr_l_6_84, List.forall_mem_cons.mpr ⟨sr_l_6_88, List.forall_mem_cons.mpr ⟨sr_l_6_92, List.forall_mem_cons.mpr ⟨sr_l_6_96, List.forall_mem_cons.mpr ⟨sr_l_6_100, List.forall_mem_cons.mpr ⟨sr_l_6_104, List.forall_mem_cons.mpr ⟨sr_l_6_108, List.forall_mem_cons.mpr ⟨sr_l_6_112, List.forall_mem_cons.mpr ⟨sr_l_6_116, List.forall_mem_cons.mpr ⟨sr_l_6_120, List.forall_mem_cons.mpr ⟨sr_l_6_124, List.forall_mem_cons.mpr ⟨sr_l_6_128, List.forall_mem_cons.mpr ⟨sr_l_6_132, List.forall_mem_cons.mpr ⟨sr_l_6_137, List.forall_mem_cons.mpr ⟨sr_l_6_141, List.forall_mem_cons.mpr ⟨sr_l_6_145, List.forall_mem_cons.mpr ⟨sr_l_6_149, List.forall_mem_cons.mpr ⟨sr_l_6_153, List.forall_mem_cons.mpr ⟨sr_l_6_157, List.forall_mem_cons.mpr ⟨sr_l_6_161, List.forall_mem_cons.mpr ⟨sr_l_6_165, List.forall_mem_cons.mpr ⟨sr_l_6_169, List.forall_mem_cons.mpr ⟨sr_l_6_173, List.forall_mem_cons.mpr ⟨sr_l_6_190, List.forall_mem_cons.mpr ⟨sr_l_6_202, fun _ h => absurd h List.not_mem_nil⟩⟩⟩⟩⟩⟩⟩⟩⟩⟩⟩⟩⟩⟩⟩⟩⟩⟩⟩⟩⟩⟩⟩⟩⟩⟩⟩⟩⟩⟩⟩⟩⟩⟩⟩⟩⟩⟩⟩⟩⟩⟩⟩⟩⟩⟩⟩⟩⟩⟩⟩⟩⟩⟩⟩⟩⟩⟩⟩⟩⟩⟩⟩⟩⟩⟩⟩⟩⟩⟩⟩⟩⟩⟩⟩⟩⟩⟩⟩⟩⟩⟩⟩⟩⟩⟩⟩⟩⟩⟩⟩⟩⟩⟩
theorem sr_fls_ok_6 : ∀ q ∈ sr_fls_6, sr_okF 6 q.1 q.2.1 q.2.2 := fun _ h => absurd h List.not_mem_nil
theorem sr_nls_ok_6 : ∀ q ∈ sr_nls_6, sr_okN 6 q.1 q.2 := List.forall_mem_cons.mpr ⟨⟨RX4, TX4, 16, rfl, List.mem_append_right _ (List.mem_of_getElem? (i := 10) (by decide +kernel)), List.mem_append_right _ (List.mem_of_getElem? (i := 11) (by decide +kernel)), List.mem_append_right _ (List.mem_of_getElem? (i := 1) (by decide +kernel))⟩, List.forall_mem_cons.mpr ⟨⟨RX5, TX5, 34, rfl, List.mem_append_right _ (List.mem_of_getElem? (i := 678) (by decide +kernel)), List.mem_append_right _ (List.mem_of_getElem? (i := 679) (by decide +kernel)), List.mem_append_right _ (List.mem_of_getElem? (i := 6) (by decide +kernel))⟩, fun _ h => absurd h List.not_mem_nil⟩⟩
theorem sr_ics_ok_6 : ∀ q ∈ sr_ics_6, Cond.constant (sr_R 6) q.1 q.2 ∈ lw_tbl := fun _ h => absurd h List.not_mem_nil
theorem sr_lcs_ok_6 : ∀ q ∈ sr_lcs_6, Cond.constantLong (sr_R 6) q.1 q.2 ∈ lw_tbl := fun _ h => absurd h List.not_mem_nil
theorem sr_sls_ok_6 : ∀ q ∈ sr_sls_6, Cond.fieldLinkNest (sr_R 6) q.1 "SecondRoom" (if q.2 = 0 then "KIND_LETTERS" else "KIND_ABOVE") "[I" "SecondRoom" ∈ lw_tbl := fun _ h => absurd h List.not_mem_nil
set_option maxRecDepth 20000 in
theorem sr_mls_ok_7 : ∀ q ∈ sr_mls_7, sr_okL 7 q.1 q.2.1 q.2.2 := fun _ h => absurd h List.not_mem_nil
theorem sr_fls_ok_7 : ∀ q ∈ sr_fls_7, sr_okF 7 q.1 q.2.1 q.2.2 := fun _ h => absurd h List.not_mem_nil
theorem sr_nls_ok_7 : ∀ q ∈ sr_nls_7, sr_okN 7 q.1 q.2 := fun _ h => absurd h List.not_mem_nil
theorem sr_ics_ok_7 : ∀ q ∈ sr_ics_7, Cond.constant (sr_R 7) q.1 q.2 ∈ lw_tbl := List.forall_mem_cons.mpr ⟨List.mem_append_right _ (List.mem_of_getElem? (i := 409) (by decide +kernel)), List.forall_mem_cons.mpr ⟨List.mem_append_right _ (List.mem_of_getElem? (i := 410) (by decide +kernel)), List.forall_mem_cons.mpr ⟨List.mem_append_right _ (List.mem_of_getElem? (i := 411) (by decide +kernel)), fun _ h => absurd h List.not_mem_nil⟩⟩⟩
theorem sr_lcs_ok_7 : ∀ q ∈ sr_lcs_7, Cond.constantLong (sr_R 7) q.1 q.2 ∈ lw_tbl := fun _ h => absurd h List.not_mem_nil
theorem sr_sls_ok_7 : ∀ q ∈ sr_sls_7, Cond.fieldLinkNest (sr_R 7) q.1 "SecondRoom" (if q.2 = 0 then "KIND_LETTERS" else "KIND_ABOVE") "[I" "SecondRoom" ∈ lw_tbl := fun _ h => absurd h List.not_mem_nil
set_option maxRecDepth 20000 in
theorem sr_mls_ok_8 : ∀ q ∈ sr_mls_8, sr_okL 8 q.1 q.2.1 q.2.2 := fun _ h => absurd h List.not_mem_nil
theorem sr_fls_ok_8 : ∀ q ∈ sr_fls_8, sr_okF 8 q.1 q.2.1 q.2.2 := fun _ h => absurd h List.not_mem_nil
theorem sr_nls_ok_8 : ∀ q ∈ sr_nls_8, sr_okN 8 q.1 q.2 := fun _ h => absurd h List.not_mem_nil
theorem sr_ics_ok_8 : ∀ q ∈ sr_ics_8, Cond.constant (sr_R 8) q.1 q.2 ∈ lw_tbl := fun _ h => absurd h List.not_mem_nil
theorem sr_lcs_ok_8 : ∀ q ∈ sr_lcs_8, Cond.constantLong (sr_R 8) q.1 q.2 ∈ lw_tbl := fun _ h => absurd h List.not_mem_nil
theorem sr_sls_ok_8 : ∀ q ∈ sr_sls_8, Cond.fieldLinkNest (sr_R 8) q.1 "SecondRoom" (if q.2 = 0 then "KIND_LETTERS" else "KIND_ABOVE") "[I" "SecondRoom" ∈ lw_tbl := fun _ h => absurd h List.not_mem_nil
theorem sr_mls_ok {own : Nat} (ho : own < 9) : ∀ q ∈ sr_mls own, sr_okL own q.1 q.2.1 q.2.2 := by
  match own, ho with
  | 0, _ => exact sr_mls_ok_0
  | 1, _ => exact sr_mls_ok_1
  | 2, _ => exact sr_mls_ok_2
  | 3, _ => exact sr_mls_ok_3
  | 4, _ => exact sr_mls_ok_4
  | 5, _ => exact sr_mls_ok_5
  | 6, _ => exact sr_mls_ok_6
  | 7, _ => exact sr_mls_ok_7
  | 8, _ => exact sr_mls_ok_8
theorem sr_fls_ok {own : Nat} (ho : own < 9) : ∀ q ∈ sr_fls own, sr_okF own q.1 q.2.1 q.2.2 := by
  match own, ho with
  | 0, _ => exact sr_fls_ok_0
  | 1, _ => exact sr_fls_ok_1
  | 2, _ => exact sr_fls_ok_2
  | 3, _ => exact sr_fls_ok_3
  | 4, _ => exact sr_fls_ok_4
  | 5, _ => exact sr_fls_ok_5
  | 6, _ => exact sr_fls_ok_6
  | 7, _ => exact sr_fls_ok_7
  | 8, _ => exact sr_fls_ok_8
theorem sr_nls_ok {own : Nat} (ho : own < 9) : ∀ q ∈ sr_nls own, sr_okN own q.1 q.2 := by
  match own, ho with
  | 0, _ => exact sr_nls_ok_0
  | 1, _ => exact sr_nls_ok_1
  | 2, _ => exact sr_nls_ok_2
  | 3, _ => exact sr_nls_ok_3
  | 4, _ => exact sr_nls_ok_4
  | 5, _ => exact sr_nls_ok_5
  | 6, _ => exact sr_nls_ok_6
  | 7, _ => exact sr_nls_ok_7
  | 8, _ => exact sr_nls_ok_8
theorem sr_ics_ok {own : Nat} (ho : own < 9) : ∀ q ∈ sr_ics own, Cond.constant (sr_R own) q.1 q.2 ∈ lw_tbl := by
  match own, ho with
  | 0, _ => exact sr_ics_ok_0
  | 1, _ => exact sr_ics_ok_1
  | 2, _ => exact sr_ics_ok_2
  | 3, _ => exact sr_ics_ok_3
  | 4, _ => exact sr_ics_ok_4
  | 5, _ => exact sr_ics_ok_5
  | 6, _ => exact sr_ics_ok_6
  | 7, _ => exact sr_ics_ok_7
  | 8, _ => exact sr_ics_ok_8
theorem sr_lcs_ok {own : Nat} (ho : own < 9) : ∀ q ∈ sr_lcs own, Cond.constantLong (sr_R own) q.1 q.2 ∈ lw_tbl := by
  match own, ho with
  | 0, _ => exact sr_lcs_ok_0
  | 1, _ => exact sr_lcs_ok_1
  | 2, _ => exact sr_lcs_ok_2
  | 3, _ => exact sr_lcs_ok_3
  | 4, _ => exact sr_lcs_ok_4
  | 5, _ => exact sr_lcs_ok_5
  | 6, _ => exact sr_lcs_ok_6
  | 7, _ => exact sr_lcs_ok_7
  | 8, _ => exact sr_lcs_ok_8
theorem sr_sls_ok {own : Nat} (ho : own < 9) : ∀ q ∈ sr_sls own, Cond.fieldLinkNest (sr_R own) q.1 "SecondRoom" (if q.2 = 0 then "KIND_LETTERS" else "KIND_ABOVE") "[I" "SecondRoom" ∈ lw_tbl := by
  match own, ho with
  | 0, _ => exact sr_sls_ok_0
  | 1, _ => exact sr_sls_ok_1
  | 2, _ => exact sr_sls_ok_2
  | 3, _ => exact sr_sls_ok_3
  | 4, _ => exact sr_sls_ok_4
  | 5, _ => exact sr_sls_ok_5
  | 6, _ => exact sr_sls_ok_6
  | 7, _ => exact sr_sls_ok_7
  | 8, _ => exact sr_sls_ok_8
theorem sr_c_0_0 : u_lay RX0 TX0 0 ∈ lw_tbl := List.mem_append_right _ (List.mem_of_getElem? (i := 78) (by decide +kernel))
theorem sr_c_0_1 : u_lay RX0 TX0 1 ∈ lw_tbl := List.mem_append_right _ (List.mem_of_getElem? (i := 80) (by decide +kernel))
theorem sr_c_0_2 : u_lay RX0 TX0 2 ∈ lw_tbl := List.mem_append_right _ (List.mem_of_getElem? (i := 82) (by decide +kernel))
theorem sr_c_0_3 : u_lay RX0 TX0 3 ∈ lw_tbl := List.mem_append_right _ (List.mem_of_getElem? (i := 84) (by decide +kernel))
theorem sr_c_0_4 : u_lay RX0 TX0 4 ∈ lw_tbl := List.mem_append_right _ (List.mem_of_getElem? (i := 86) (by decide +kernel))
theorem sr_c_0_5 : u_lay RX0 TX0 5 ∈ lw_tbl := List.mem_append_right _ (List.mem_of_getElem? (i := 88) (by decide +kernel))
theorem sr_c_0_6 : u_lay RX0 TX0 6 ∈ lw_tbl := List.mem_append_right _ (List.mem_of_getElem? (i := 90) (by decide +kernel))
theorem sr_c_0_7 : u_lay RX0 TX0 7 ∈ lw_tbl := List.mem_append_right _ (List.mem_of_getElem? (i := 92) (by decide +kernel))
theorem sr_c_0 : ∀ w ∈ u_ws RX0 TX0 8, w ∈ lw_tbl := by
  intro w hw
  obtain ⟨k, hk, rfl⟩ := List.mem_map.mp hw
  have hk := List.mem_range.mp hk
  match k, hk with
  | 0, _ => exact sr_c_0_0
  | 1, _ => exact sr_c_0_1
  | 2, _ => exact sr_c_0_2
  | 3, _ => exact sr_c_0_3
  | 4, _ => exact sr_c_0_4
  | 5, _ => exact sr_c_0_5
  | 6, _ => exact sr_c_0_6
  | 7, _ => exact sr_c_0_7
  | n + 8, h => exact absurd h (by omega)
theorem sr_c_1_0 : u_lay RX1 TX1 0 ∈ lw_tbl := List.mem_append_right _ (List.mem_of_getElem? (i := 112) (by decide +kernel))
theorem sr_c_1_1 : u_lay RX1 TX1 1 ∈ lw_tbl := List.mem_append_right _ (List.mem_of_getElem? (i := 114) (by decide +kernel))
theorem sr_c_1_2 : u_lay RX1 TX1 2 ∈ lw_tbl := List.mem_append_right _ (List.mem_of_getElem? (i := 116) (by decide +kernel))
theorem sr_c_1_3 : u_lay RX1 TX1 3 ∈ lw_tbl := List.mem_append_right _ (List.mem_of_getElem? (i := 118) (by decide +kernel))
theorem sr_c_1_4 : u_lay RX1 TX1 4 ∈ lw_tbl := List.mem_append_right _ (List.mem_of_getElem? (i := 120) (by decide +kernel))
theorem sr_c_1_5 : u_lay RX1 TX1 5 ∈ lw_tbl := List.mem_append_right _ (List.mem_of_getElem? (i := 122) (by decide +kernel))
theorem sr_c_1_6 : u_lay RX1 TX1 6 ∈ lw_tbl := List.mem_append_right _ (List.mem_of_getElem? (i := 124) (by decide +kernel))
theorem sr_c_1 : ∀ w ∈ u_ws RX1 TX1 7, w ∈ lw_tbl := by
  intro w hw
  obtain ⟨k, hk, rfl⟩ := List.mem_map.mp hw
  have hk := List.mem_range.mp hk
  match k, hk with
  | 0, _ => exact sr_c_1_0
  | 1, _ => exact sr_c_1_1
  | 2, _ => exact sr_c_1_2
  | 3, _ => exact sr_c_1_3
  | 4, _ => exact sr_c_1_4
  | 5, _ => exact sr_c_1_5
  | 6, _ => exact sr_c_1_6
  | n + 7, h => exact absurd h (by omega)
theorem sr_c_2_0 : u_lay RX2 TX2 0 ∈ lw_tbl := List.mem_append_right _ (List.mem_of_getElem? (i := 46) (by decide +kernel))
theorem sr_c_2_1 : u_lay RX2 TX2 1 ∈ lw_tbl := List.mem_append_right _ (List.mem_of_getElem? (i := 48) (by decide +kernel))
theorem sr_c_2_2 : u_lay RX2 TX2 2 ∈ lw_tbl := List.mem_append_right _ (List.mem_of_getElem? (i := 50) (by decide +kernel))
theorem sr_c_2_3 : u_lay RX2 TX2 3 ∈ lw_tbl := List.mem_append_right _ (List.mem_of_getElem? (i := 52) (by decide +kernel))
theorem sr_c_2 : ∀ w ∈ u_ws RX2 TX2 4, w ∈ lw_tbl := by
  intro w hw
  obtain ⟨k, hk, rfl⟩ := List.mem_map.mp hw
  have hk := List.mem_range.mp hk
  match k, hk with
  | 0, _ => exact sr_c_2_0
  | 1, _ => exact sr_c_2_1
  | 2, _ => exact sr_c_2_2
  | 3, _ => exact sr_c_2_3
  | n + 4, h => exact absurd h (by omega)
theorem sr_c_3_0 : u_lay RX3 TX3 0 ∈ lw_tbl := List.mem_append_right _ (List.mem_of_getElem? (i := 28) (by decide +kernel))
theorem sr_c_3_1 : u_lay RX3 TX3 1 ∈ lw_tbl := List.mem_append_right _ (List.mem_of_getElem? (i := 30) (by decide +kernel))
theorem sr_c_3_2 : u_lay RX3 TX3 2 ∈ lw_tbl := List.mem_append_right _ (List.mem_of_getElem? (i := 32) (by decide +kernel))
theorem sr_c_3 : ∀ w ∈ u_ws RX3 TX3 3, w ∈ lw_tbl := by
  intro w hw
  obtain ⟨k, hk, rfl⟩ := List.mem_map.mp hw
  have hk := List.mem_range.mp hk
  match k, hk with
  | 0, _ => exact sr_c_3_0
  | 1, _ => exact sr_c_3_1
  | 2, _ => exact sr_c_3_2
  | n + 3, h => exact absurd h (by omega)
theorem sr_c_4_0 : u_lay RX4 TX4 0 ∈ lw_tbl := List.mem_append_right _ (List.mem_of_getElem? (i := 144) (by decide +kernel))
theorem sr_c_4_1 : u_lay RX4 TX4 1 ∈ lw_tbl := List.mem_append_right _ (List.mem_of_getElem? (i := 146) (by decide +kernel))
theorem sr_c_4_2 : u_lay RX4 TX4 2 ∈ lw_tbl := List.mem_append_right _ (List.mem_of_getElem? (i := 148) (by decide +kernel))
theorem sr_c_4_3 : u_lay RX4 TX4 3 ∈ lw_tbl := List.mem_append_right _ (List.mem_of_getElem? (i := 150) (by decide +kernel))
theorem sr_c_4_4 : u_lay RX4 TX4 4 ∈ lw_tbl := List.mem_append_right _ (List.mem_of_getElem? (i := 152) (by decide +kernel))
theorem sr_c_4_5 : u_lay RX4 TX4 5 ∈ lw_tbl := List.mem_append_right _ (List.mem_of_getElem? (i := 154) (by decide +kernel))
theorem sr_c_4_6 : u_lay RX4 TX4 6 ∈ lw_tbl := List.mem_append_right _ (List.mem_of_getElem? (i := 156) (by decide +kernel))
theorem sr_c_4_7 : u_lay RX4 TX4 7 ∈ lw_tbl := List.mem_append_right _ (List.mem_of_getElem? (i := 158) (by decide +kernel))
theorem sr_c_4_8 : u_lay RX4 TX4 8 ∈ lw_tbl := List.mem_append_right _ (List.mem_of_getElem? (i := 160) (by decide +kernel))
theorem sr_c_4_9 : u_lay RX4 TX4 9 ∈ lw_tbl := List.mem_append_right _ (List.mem_of_getElem? (i := 162) (by decide +kernel))
theorem sr_c_4_10 : u_lay RX4 TX4 10 ∈ lw_tbl := List.mem_append_right _ (List.mem_of_getElem? (i := 164) (by decide +kernel))
theorem sr_c_4_11 : u_lay RX4 TX4 11 ∈ lw_tbl := List.mem_append_right _ (List.mem_of_getElem? (i := 166) (by decide +kernel))
theorem sr_c_4_12 : u_lay RX4 TX4 12 ∈ lw_tbl := List.mem_append_right _ (List.mem_of_getElem? (i := 168) (by decide +kernel))
theorem sr_c_4_13 : u_lay RX4 TX4 13 ∈ lw_tbl := List.mem_append_right _ (List.mem_of_getElem? (i := 170) (by decide +kernel))
theorem sr_c_4_14 : u_lay RX4 TX4 14 ∈ lw_tbl := List.mem_append_right _ (List.mem_of_getElem? (i := 172) (by decide +kernel))
theorem sr_c_4_15 : u_lay RX4 TX4 15 ∈ lw_tbl := List.mem_append_right _ (List.mem_of_getElem? (i := 174) (by decide +kernel))
theorem sr_c_4 : ∀ w ∈ u_ws RX4 TX4 16, w ∈ lw_tbl := by
  intro w hw
  obtain ⟨k, hk, rfl⟩ := List.mem_map.mp hw
  have hk := List.mem_range.mp hk
  match k, hk with
  | 0, _ => exact sr_c_4_0
  | 1, _ => exact sr_c_4_1
  | 2, _ => exact sr_c_4_2
  | 3, _ => exact sr_c_4_3
  | 4, _ => exact sr_c_4_4
  | 5, _ => exact sr_c_4_5
  | 6, _ => exact sr_c_4_6
  | 7, _ => exact sr_c_4_7
  | 8, _ => exact sr_c_4_8
  | 9, _ => exact sr_c_4_9
  | 10, _ => exact sr_c_4_10
  | 11, _ => exact sr_c_4_11
  | 12, _ => exact sr_c_4_12
  | 13, _ => exact sr_c_4_13
  | 14, _ => exact sr_c_4_14
  | 15, _ => exact sr_c_4_15
  | n + 16, h => exact absurd h (by omega)
theorem sr_c_5_0 : u_lay RX5 TX5 0 ∈ lw_tbl := List.mem_append_right _ (List.mem_of_getElem? (i := 718) (by decide +kernel))
theorem sr_c_5_1 : u_lay RX5 TX5 1 ∈ lw_tbl := List.mem_append_right _ (List.mem_of_getElem? (i := 720) (by decide +kernel))
theorem sr_c_5_2 : u_lay RX5 TX5 2 ∈ lw_tbl := List.mem_append_right _ (List.mem_of_getElem? (i := 722) (by decide +kernel))
theorem sr_c_5_3 : u_lay RX5 TX5 3 ∈ lw_tbl := List.mem_append_right _ (List.mem_of_getElem? (i := 724) (by decide +kernel))
theorem sr_c_5_4 : u_lay RX5 TX5 4 ∈ lw_tbl := List.mem_append_right _ (List.mem_of_getElem? (i := 726) (by decide +kernel))
theorem sr_c_5_5 : u_lay RX5 TX5 5 ∈ lw_tbl := List.mem_append_right _ (List.mem_of_getElem? (i := 728) (by decide +kernel))
theorem sr_c_5_6 : u_lay RX5 TX5 6 ∈ lw_tbl := List.mem_append_right _ (List.mem_of_getElem? (i := 730) (by decide +kernel))
theorem sr_c_5_7 : u_lay RX5 TX5 7 ∈ lw_tbl := List.mem_append_right _ (List.mem_of_getElem? (i := 732) (by decide +kernel))
theorem sr_c_5_8 : u_lay RX5 TX5 8 ∈ lw_tbl := List.mem_append_right _ (List.mem_of_getElem? (i := 734) (by decide +kernel))
theorem sr_c_5_9 : u_lay RX5 TX5 9 ∈ lw_tbl := List.mem_append_right _ (List.mem_of_getElem? (i := 736) (by decide +kernel))
theorem sr_c_5_10 : u_lay RX5 TX5 10 ∈ lw_tbl := List.mem_append_right _ (List.mem_of_getElem? (i := 738) (by decide +kernel))
theorem sr_c_5_11 : u_lay RX5 TX5 11 ∈ lw_tbl := List.mem_append_right _ (List.mem_of_getElem? (i := 740) (by decide +kernel))
theorem sr_c_5_12 : u_lay RX5 TX5 12 ∈ lw_tbl := List.mem_append_right _ (List.mem_of_getElem? (i := 742) (by decide +kernel))
theorem sr_c_5_13 : u_lay RX5 TX5 13 ∈ lw_tbl := List.mem_append_right _ (List.mem_of_getElem? (i := 744) (by decide +kernel))
theorem sr_c_5_14 : u_lay RX5 TX5 14 ∈ lw_tbl := List.mem_append_right _ (List.mem_of_getElem? (i := 746) (by decide +kernel))
theorem sr_c_5_15 : u_lay RX5 TX5 15 ∈ lw_tbl := List.mem_append_right _ (List.mem_of_getElem? (i := 748) (by decide +kernel))
theorem sr_c_5_16 : u_lay RX5 TX5 16 ∈ lw_tbl := List.mem_append_right _ (List.mem_of_getElem? (i := 750) (by decide +kernel))
theorem sr_c_5_17 : u_lay RX5 TX5 17 ∈ lw_tbl := List.mem_append_right _ (List.mem_of_getElem? (i := 752) (by decide +kernel))
theorem sr_c_5_18 : u_lay RX5 TX5 18 ∈ lw_tbl := List.mem_append_right _ (List.mem_of_getElem? (i := 754) (by decide +kernel))
theorem sr_c_5_19 : u_lay RX5 TX5 19 ∈ lw_tbl := List.mem_append_right _ (List.mem_of_getElem? (i := 756) (by decide +kernel))
theorem sr_c_5_20 : u_lay RX5 TX5 20 ∈ lw_tbl := List.mem_append_right _ (List.mem_of_getElem? (i := 758) (by decide +kernel))
theorem sr_c_5_21 : u_lay RX5 TX5 21 ∈ lw_tbl := List.mem_append_right _ (List.mem_of_getElem? (i := 760) (by decide +kernel))
theorem sr_c_5_22 : u_lay RX5 TX5 22 ∈ lw_tbl := List.mem_append_right _ (List.mem_of_getElem? (i := 762) (by decide +kernel))
theorem sr_c_5_23 : u_lay RX5 TX5 23 ∈ lw_tbl := List.mem_append_right _ (List.mem_of_getElem? (i := 764) (by decide +kernel))
theorem sr_c_5_24 : u_lay RX5 TX5 24 ∈ lw_tbl := List.mem_append_right _ (List.mem_of_getElem? (i := 766) (by decide +kernel))
theorem sr_c_5_25 : u_lay RX5 TX5 25 ∈ lw_tbl := List.mem_append_right _ (List.mem_of_getElem? (i := 768) (by decide +kernel))
theorem sr_c_5_26 : u_lay RX5 TX5 26 ∈ lw_tbl := List.mem_append_right _ (List.mem_of_getElem? (i := 770) (by decide +kernel))
theorem sr_c_5_27 : u_lay RX5 TX5 27 ∈ lw_tbl := List.mem_append_right _ (List.mem_of_getElem? (i := 772) (by decide +kernel))
theorem sr_c_5_28 : u_lay RX5 TX5 28 ∈ lw_tbl := List.mem_append_right _ (List.mem_of_getElem? (i := 774) (by decide +kernel))
theorem sr_c_5_29 : u_lay RX5 TX5 29 ∈ lw_tbl := List.mem_append_right _ (List.mem_of_getElem? (i := 776) (by decide +kernel))
theorem sr_c_5_30 : u_lay RX5 TX5 30 ∈ lw_tbl := List.mem_append_right _ (List.mem_of_getElem? (i := 778) (by decide +kernel))
theorem sr_c_5_31 : u_lay RX5 TX5 31 ∈ lw_tbl := List.mem_append_right _ (List.mem_of_getElem? (i := 780) (by decide +kernel))
theorem sr_c_5_32 : u_lay RX5 TX5 32 ∈ lw_tbl := List.mem_append_right _ (List.mem_of_getElem? (i := 782) (by decide +kernel))
theorem sr_c_5_33 : u_lay RX5 TX5 33 ∈ lw_tbl := List.mem_append_right _ (List.mem_of_getElem? (i := 784) (by decide +kernel))
theorem sr_c_5 : ∀ w ∈ u_ws RX5 TX5 34, w ∈ lw_tbl := by
  intro w hw
  obtain ⟨k, hk, rfl⟩ := List.mem_map.mp hw
  have hk := List.mem_range.mp hk
  match k, hk with
  | 0, _ => exact sr_c_5_0
  | 1, _ => exact sr_c_5_1
  | 2, _ => exact sr_c_5_2
  | 3, _ => exact sr_c_5_3
  | 4, _ => exact sr_c_5_4
  | 5, _ => exact sr_c_5_5
  | 6, _ => exact sr_c_5_6
  | 7, _ => exact sr_c_5_7
  | 8, _ => exact sr_c_5_8
  | 9, _ => exact sr_c_5_9
  | 10, _ => exact sr_c_5_10
  | 11, _ => exact sr_c_5_11
  | 12, _ => exact sr_c_5_12
  | 13, _ => exact sr_c_5_13
  | 14, _ => exact sr_c_5_14
  | 15, _ => exact sr_c_5_15
  | 16, _ => exact sr_c_5_16
  | 17, _ => exact sr_c_5_17
  | 18, _ => exact sr_c_5_18
  | 19, _ => exact sr_c_5_19
  | 20, _ => exact sr_c_5_20
  | 21, _ => exact sr_c_5_21
  | 22, _ => exact sr_c_5_22
  | 23, _ => exact sr_c_5_23
  | 24, _ => exact sr_c_5_24
  | 25, _ => exact sr_c_5_25
  | 26, _ => exact sr_c_5_26
  | 27, _ => exact sr_c_5_27
  | 28, _ => exact sr_c_5_28
  | 29, _ => exact sr_c_5_29
  | 30, _ => exact sr_c_5_30
  | 31, _ => exact sr_c_5_31
  | 32, _ => exact sr_c_5_32
  | 33, _ => exact sr_c_5_33
  | n + 34, h => exact absurd h (by omega)
end
section
/-! the abstract machine: heap, values, conditions -/
/-- the heap: how many cells, kind and length of each, ints, longs, references -/
abbrev sr_H : Type := Nat × (Nat → Nat × Nat) × (Nat → Nat → Int32) × (Nat → Nat → Int64) × (Nat → Nat → Option Nat)
/-- where it stands: the first address, the classes, the array classes by kind, the arrays that nobody writes -/
abbrev sr_G : Type := Nat × va_G × (Nat → ClassId) × (Nat → Nat)
def sr_cr (G : sr_G) (r : Nat) : Nat := if r < 1000000 then G.1 + r else G.2.2.2 (r - 1000000)
def sr_cv (G : sr_G) (v : Value) : Value := match v with
  | .ref r => .ref (sr_cr G r)
  | w => w
def sr_k (n : Int) : Int32 := Int32.ofInt n
def sr_u {α : Type} (f : Nat → Nat → α) (r k : Nat) (v : α) : Nat → Nat → α := fun a b => if a = r ∧ b = k then v else f a b
def sr_setI (h : sr_H) (r k : Nat) (v : Int32) : sr_H := (h.1, h.2.1, sr_u h.2.2.1 r k v, h.2.2.2.1, h.2.2.2.2)
def sr_setJ (h : sr_H) (r k : Nat) (v : Int64) : sr_H := (h.1, h.2.1, h.2.2.1, sr_u h.2.2.2.1 r k v, h.2.2.2.2)
def sr_setR (h : sr_H) (r k : Nat) (v : Option Nat) : sr_H := (h.1, h.2.1, h.2.2.1, h.2.2.2.1, sr_u h.2.2.2.2 r k v)
def sr_setA (h : sr_H) (r : Nat) (f : Nat → Int32) : sr_H := (h.1, h.2.1, fun a b => if a = r then f b else h.2.2.1 a b, h.2.2.2.1, h.2.2.2.2)
def sr_new (h : sr_H) (kd : Nat × Nat) : sr_H := (h.1 + 1, fun r => if r = h.1 then kd else h.2.1 r, fun r k => if r = h.1 then 0 else h.2.2.1 r k, fun r k => if r = h.1 then 0 else h.2.2.2.1 r k, fun r k => if r = h.1 then none else h.2.2.2.2 r k)
def sr_av (h : sr_H) (r k t : Nat) : Value := match t with
  | 0 => .int (h.2.2.1 r k)
  | 1 => .long (h.2.2.2.1 r k)
  | _ => va_rf (h.2.2.2.2 r k)
def sr_fv (G : sr_G) (h : sr_H) (r k t : Nat) : Value := match t with
  | 0 => .int (h.2.2.1 r k)
  | 1 => .long (h.2.2.2.1 r k)
  | _ => va_rf ((h.2.2.2.2 r k).map (sr_cr G))
def sr_ts (c : Nat) : List Nat := sr_fts.getD c []
def sr_fs (G : sr_G) (h : sr_H) (r c : Nat) : List Value := (List.range (sr_ts c).length).map (fun k => sr_fv G h r k ((sr_ts c).getD k 0))
def sr_ce (G : sr_G) (h : sr_H) (r : Nat) : va_E :=
  if (h.2.1 r).1 = 9 then .inl (G.2.2.1 9, (h.2.1 r).2, .inr (.inr (.inr (.inr (fun j => (h.2.2.2.2 r j).map (sr_cr G))))))
  else if 6 ≤ (h.2.1 r).1 then .inl (G.2.2.1 (h.2.1 r).1, (h.2.1 r).2, .inl (h.2.2.1 r))
  else .inr ((h.2.1 r).1, sr_fs G h r (h.2.1 r).1)
/-- a machine state holds the abstract heap -/
def sr_hw (G : sr_G) (h : sr_H) (s : State) (H : Heap) : Prop :=
  H.size = G.1 + h.1 ∧ h.1 ≤ 1000000 ∧ (∀ r, (h.2.1 r).1 < 10 → r < 1000000 → r < h.1 ∧ va_at G.2.1 vwCl (G.1 + r, sr_ce G h r) H) ∧ (∀ r, (h.2.1 r).2 < 2147483648) ∧
  (∀ r, (h.2.1 r).1 < 10 → ¬ r < 1000000 → (h.2.1 r).1 = 7 ∧ va_T .int (sr_cr G r) (h.2.1 r).2 (fun j => .int (h.2.2.1 r j)) (fun q => G.1 ≤ q) s H) ∧
  (∀ i, i < 2 → va_Z "SecondRoom" (if i = 0 then "KIND_LETTERS" else "KIND_ABOVE") "[I" (.ref (G.2.2.2 i)) (fun q => G.1 ≤ q) s H)
def sr_tys (G : sr_G) : List (ClassId × FieldType) := [(G.2.2.1 6, .byte), (G.2.2.1 7, .int), (G.2.2.1 8, .boolean), (G.2.2.1 9, .object "SecondRoom$Night")]
/-- the words that go on to every callee, and those of nest mates -/
def sr_T : List Cond := lw_tbl.filter goodWord
def sr_nest (w : Cond) : Bool := match w with
  | .methodLinkNest _ _ _ _ => true
  | .fieldLinkNest _ _ _ _ _ _ => true
  | _ => false
def sr_nw : List Cond := lw_tbl.filter sr_nest
def sr_kn (G : sr_G) (s : State) : Prop := va_K G.2.1 vwCl (sr_tys G) s ∧ (∀ w ∈ sr_nw, va_Nw w s) ∧ va_AO "SecondRoom$Night" s
/-- the locals -/
abbrev sr_L : Type := List (Option Value)
def sr_lr (G : sr_G) (ls : Array Slot) (L : sr_L) : Prop := ls.size = L.length ∧ lv_wf ls ∧ ∀ (i : Nat) (v : Value), L[i]? = some (some v) → ls[i]? = some (.val (sr_cv G v))
/-- what stays the same on a method's walk -/
def sr_Fx (G : sr_G) (md : sr_MD) (d : Nat) (p : Program) (R : Room) (s : State) (m : MethodId) (args : Array Value) (meth : Method) (c : Code) : Prop :=
  p.tables.exec = Jvm.exec ∧ c.code = md.2.2.1 ∧ meth.sig.returnType = md.2.2.2.2.1 ∧ c.maxLocals = md.2.2.2.1 ∧ s.vm.findClass (sr_R md.1) = some m.cls ∧ (∀ w ∈ sr_T, w.before args s = true) ∧ meth.locks = false ∧ meth.name = md.2.1.name ∧ sr_kn G s ∧ d ≤ R.frames ∧ 40 * d ≤ R.locals ∧ md.1 < 9
/-- a return instruction, with its answer -/
def sr_ri (md : sr_MD) (r : Option Value) (pc : Nat) : Prop :=
  (∃ v : Int32, r = some (.int v) ∧ decode md.2.2.1 pc = .ok (.ireturn, 1) ∧ (md.2.2.2.2.1 = some .int ∨ md.2.2.2.2.1 = some .boolean ∧ (v = 0 ∨ v = 1))) ∨
  (∃ v : Int64, r = some (.long v) ∧ decode md.2.2.1 pc = .ok (.lreturn, 1) ∧ md.2.2.2.2.1 = some .long) ∨
  (r = none ∧ decode md.2.2.1 pc = .ok (.return_, 1) ∧ md.2.2.2.2.1 = none)
def sr_Rt (G : sr_G) (md : sr_MD) (P : Option Value → sr_H → Prop) (p : Program) (l : Launch) (e : Env) (R : Room) (s : State) (m : MethodId) (args : Array Value) (below : List Frame) (meth : Method) (c : Code) (Q : State → Prop) : Prop :=
  ∀ (r : Option Value) (h : sr_H) (H : Heap) (locs : List Loc) (cells slots pc : Nat) (ls : Array Slot), P r h → sr_hw G h s H → (∀ q ∈ locs, G.1 ≤ q.base) → cells ≤ R.cells → slots ≤ R.slots → sr_ri md r pc →
    W p l e R s m args below meth c H locs cells slots Q (F0 m pc ls (r.toList.map (sr_cv G)))
/-- from every state that holds h, the method at pc comes to a return with P -/
def sr_Go (md : sr_MD) (d pc : Nat) (L : sr_L) (st : List Value) (b : Nat × Nat) (h : sr_H) (P : Option Value → sr_H → Prop) : Prop :=
  ∀ (G : sr_G) (p : Program) (l : Launch) (e : Env) (R : Room) (s : State) (m : MethodId) (args : Array Value) (below : List Frame) (meth : Method) (c : Code) (H : Heap) (locs : List Loc) (cells slots : Nat) (Q : State → Prop) (ls : Array Slot),
    sr_Fx G md d p R s m args meth c → sr_Rt G md P p l e R s m args below meth c Q → sr_hw G h s H → sr_lr G ls L → L.length = md.2.2.2.1 → (∀ q ∈ locs, G.1 ≤ q.base) → cells + b.1 ≤ R.cells → slots + b.2 ≤ R.slots →
    W p l e R s m args below meth c H locs cells slots Q (F0 m pc ls (st.map (sr_cv G)))
def sr_fl (As : List Value) : sr_L := As.flatMap (fun v => match v with
  | .long x => [some (.long x), none]
  | .double x => [some (.double x), none]
  | w => [some w])
def sr_en (As : List Value) (n : Nat) : sr_L := sr_fl As ++ List.replicate (n - (sr_fl As).length) none
/-- a method's contract -/
def sr_Call (md : sr_MD) (d : Nat) (As : List Value) (h : sr_H) (P : Option Value → sr_H → Prop) : Prop := sr_Go md d 0 (sr_en As md.2.2.2.1) [] md.2.2.2.2.2.2 h P
/-- a store to a local: what stands ahead of it must not be the first half of a long -/
def sr_st (L : sr_L) (i : Nat) (v : Value) : Option sr_L := match i with
  | 0 => bif Nat.blt 0 L.length then some (L.set 0 (some v)) else none
  | j + 1 => match L[j]? with
    | some (some (.long _)) => none
    | some (some (.double _)) => none
    | _ => bif Nat.blt (j + 1) L.length then some (L.set (j + 1) (some v)) else none
def sr_st2 (L : sr_L) (i : Nat) (v : Value) : Option sr_L := match i with
  | 0 => bif Nat.blt 1 L.length then some ((L.set 0 (some v)).set 1 none) else none
  | j + 1 => match L[j]? with
    | some (some (.long _)) => none
    | some (some (.double _)) => none
    | _ => bif Nat.blt (j + 2) L.length then some ((L.set (j + 1) (some v)).set (j + 2) none) else none
def sr_ldI (L : sr_L) (i : Nat) (st : List Value) : Option (sr_L × List Value) := match L[i]? with
  | some (some (.int x)) => some (L, .int x :: st)
  | _ => none
def sr_ldJ (L : sr_L) (i : Nat) (st : List Value) : Option (sr_L × List Value) := match L[i]? with
  | some (some (.long x)) => some (L, .long x :: st)
  | _ => none
def sr_ldR (L : sr_L) (i : Nat) (st : List Value) : Option (sr_L × List Value) := match L[i]? with
  | some (some (.ref x)) => some (L, .ref x :: st)
  | some (some .null) => some (L, .null :: st)
  | _ => none
def sr_stI (L : sr_L) (i : Nat) (st : List Value) : Option (sr_L × List Value) := match st with
  | .int x :: st => (sr_st L i (.int x)).map (fun L' => (L', st))
  | _ => none
def sr_stR (L : sr_L) (i : Nat) (st : List Value) : Option (sr_L × List Value) := match st with
  | .ref x :: st => (sr_st L i (.ref x)).map (fun L' => (L', st))
  | .null :: st => (sr_st L i .null).map (fun L' => (L', st))
  | _ => none
def sr_stJ (L : sr_L) (i : Nat) (st : List Value) : Option (sr_L × List Value) := match st with
  | .long x :: st => (sr_st2 L i (.long x)).map (fun L' => (L', st))
  | _ => none
def sr_bin (L : sr_L) (st : List Value) (f : Int32 → Int32 → Int32) : Option (sr_L × List Value) := match st with
  | .int y :: .int x :: st => some (L, .int (f x y) :: st)
  | _ => none
def sr_binJ (L : sr_L) (st : List Value) (f : Int64 → Int64 → Int64) : Option (sr_L × List Value) := match st with
  | .long y :: .long x :: st => some (L, .long (f x y) :: st)
  | _ => none
/-- instructions that touch locals and stack alone -/
def sr_sim (own : Nat) (i : Instr) (L : sr_L) (st : List Value) : Option (sr_L × List Value) := match i with
  | .iconst n => some (L, .int (sr_k n) :: st)
  | .bipush n => bif decide (-128 ≤ n) && decide (n < 128) then some (L, .int (sr_k n) :: st) else none
  | .sipush n => bif decide (-32768 ≤ n) && decide (n < 32768) then some (L, .int (sr_k n) :: st) else none
  | .lconst n => some (L, .long (Int64.ofNat n.val) :: st)
  | .ldc k => match (sr_ics own).lookup k with
    | some v => some (L, .int v :: st)
    | none => none
  | .ldc_w k => match (sr_ics own).lookup k with
    | some v => some (L, .int v :: st)
    | none => none
  | .ldc2_w k => match (sr_lcs own).lookup k with
    | some v => some (L, .long v :: st)
    | none => none
  | .iload_n k => sr_ldI L k.val st
  | .iload k => sr_ldI L k st
  | .lload_n k => sr_ldJ L k.val st
  | .lload k => sr_ldJ L k st
  | .aload_n k => sr_ldR L k.val st
  | .aload k => sr_ldR L k st
  | .istore_n k => sr_stI L k.val st
  | .istore k => sr_stI L k st
  | .lstore_n k => sr_stJ L k.val st
  | .lstore k => sr_stJ L k st
  | .astore_n k => sr_stR L k.val st
  | .astore k => sr_stR L k st
  | .iinc k n => match L[k]? with
    | some (some (.int x)) => (sr_st L k (.int (x + sr_k n))).map (fun L' => (L', st))
    | _ => none
  | .iadd => sr_bin L st (fun x y => x + y)
  | .isub => sr_bin L st (fun x y => x - y)
  | .imul => sr_bin L st (fun x y => x * y)
  | .iand => sr_bin L st (fun x y => x &&& y)
  | .ior => sr_bin L st (fun x y => x ||| y)
  | .ixor => sr_bin L st (fun x y => x ^^^ y)
  | .ishl => sr_bin L st (fun x y => x <<< (y &&& 31))
  | .ishr => sr_bin L st (fun x y => x >>> (y &&& 31))
  | .iushr => sr_bin L st (fun x y => (x.toUInt32 >>> (y.toUInt32 &&& Int32.toUInt32 31)).toInt32)
  | .ladd => sr_binJ L st (fun x y => x + y)
  | .lmul => sr_binJ L st (fun x y => x * y)
  | .lcmp => match st with
    | .long y :: .long x :: st => some (L, .int (lg_cmp x y) :: st)
    | _ => none
  | .i2l => match st with
    | .int x :: st => some (L, .long x.toInt64 :: st)
    | _ => none
  | .l2i => match st with
    | .long x :: st => some (L, .int x.toInt32 :: st)
    | _ => none
  | .i2b => match st with
    | .int x :: st => some (L, .int x.toInt8.toInt32 :: st)
    | _ => none
  | .dup => match st with
    | .int x :: st => some (L, .int x :: .int x :: st)
    | .ref x :: st => some (L, .ref x :: .ref x :: st)
    | _ => none
  | .dup2 => match st with
    | .int x :: .ref r :: st => some (L, .int x :: .ref r :: .int x :: .ref r :: st)
    | _ => none
  | .pop => match st with
    | .int _ :: st => some (L, st)
    | _ => none
  | _ => none
def sr_pop (n : Nat) (st As : List Value) : Option (List Value × List Value) := match n, st with
  | 0, st => some (As, st)
  | n + 1, v :: st => sr_pop n st (v :: As)
  | _ + 1, [] => none
/-- finality of the fields -/
def sr_fin (c k : Nat) : Bool := match vwCl[c]? with
  | some q => (q.2.1 k).2.2.2
  | none => true
def sr_sw (md : sr_MD) (d pc : Nat) (L : sr_L) (st : List Value) (b : Nat × Nat) (h : sr_H) (P : Option Value → sr_H → Prop) (x : Int32) (dflt : Int) : Int → List Int → Prop
  | _, [] => sr_Go md d ((pc : Int) + dflt).toNat L st b h P
  | lo, o :: os => if x = sr_k lo then sr_Go md d ((pc : Int) + o).toNat L st b h P else sr_sw md d pc L st b h P x dflt (lo + 1) os
def sr_lsw (md : sr_MD) (d pc : Nat) (L : sr_L) (st : List Value) (b : Nat × Nat) (h : sr_H) (P : Option Value → sr_H → Prop) (x : Int32) (dflt : Int) : List (Int × Int) → Prop
  | [] => sr_Go md d ((pc : Int) + dflt).toNat L st b h P
  | (k, o) :: os => if x = sr_k k then sr_Go md d ((pc : Int) + o).toNat L st b h P else sr_lsw md d pc L st b h P x dflt os
def sr_ak (t : ArrayType) : Nat := match t with
  | .int => 7
  | .byte => 6
  | .boolean => 8
  | _ => 99
/-- the condition of a list of instructions (each with the place of the next, and its target) -/
def sr_wp (md : sr_MD) (d : Nat) : List (Instr × Nat × Nat) → Nat → sr_L → List Value → Nat × Nat → sr_H → (Option Value → sr_H → Prop) → Prop
  | [], pc, L, st, b, h, P => sr_Go md d pc L st b h P
  | (i, nx, tg) :: is, pc, L, st, b, h, P =>
    match sr_sim md.1 i L st with
    | some q => sr_wp md d is nx q.1 q.2 b h P
    | none =>
      match i with
      | .goto _ => sr_Go md d tg L st b h P
      | .ifCond c _ => match st with
        | .int x :: st => match c with
          | .eq => if x = 0 then sr_Go md d tg L st b h P else sr_wp md d is nx L st b h P
          | .ne => if x = 0 then sr_wp md d is nx L st b h P else sr_Go md d tg L st b h P
          | .lt => if x < 0 then sr_Go md d tg L st b h P else sr_wp md d is nx L st b h P
          | .ge => if x < 0 then sr_wp md d is nx L st b h P else sr_Go md d tg L st b h P
          | .gt => if 0 < x then sr_Go md d tg L st b h P else sr_wp md d is nx L st b h P
          | .le => if 0 < x then sr_wp md d is nx L st b h P else sr_Go md d tg L st b h P
        | _ => False
      | .if_icmp c _ => match st with
        | .int y :: .int x :: st => match c with
          | .eq => if x = y then sr_Go md d tg L st b h P else sr_wp md d is nx L st b h P
          | .ne => if x = y then sr_wp md d is nx L st b h P else sr_Go md d tg L st b h P
          | .lt => if x < y then sr_Go md d tg L st b h P else sr_wp md d is nx L st b h P
          | .ge => if x < y then sr_wp md d is nx L st b h P else sr_Go md d tg L st b h P
          | .gt => if y < x then sr_Go md d tg L st b h P else sr_wp md d is nx L st b h P
          | .le => if y < x then sr_wp md d is nx L st b h P else sr_Go md d tg L st b h P
        | _ => False
      | .ifnull _ => match st with
        | .ref _ :: st => sr_wp md d is nx L st b h P
        | .null :: st => sr_Go md d tg L st b h P
        | _ => False
      | .ifnonnull _ => match st with
        | .ref _ :: st => sr_Go md d tg L st b h P
        | .null :: st => sr_wp md d is nx L st b h P
        | _ => False
      | .tableswitch dflt lo _ offs => match st with
        | .int x :: st => sr_sw md d pc L st b h P x dflt lo offs.toList
        | _ => False
      | .lookupswitch dflt ps => match st with
        | .int x :: st => sr_lsw md d pc L st b h P x dflt ps.toList
        | _ => False
      | .idiv => match st with
        | .int y :: .int x :: st => ¬ y = 0 ∧ sr_wp md d is nx L (.int (x / y) :: st) b h P
        | _ => False
      | .irem => match st with
        | .int y :: .int x :: st => ¬ y = 0 ∧ sr_wp md d is nx L (.int (x - x / y * y) :: st) b h P
        | _ => False
      | .ldiv => match st with
        | .long y :: .long x :: st => ¬ y = 0 ∧ sr_wp md d is nx L (.long (x / y) :: st) b h P
        | _ => False
      | .lrem => match st with
        | .long y :: .long x :: st => ¬ y = 0 ∧ sr_wp md d is nx L (.long (x - x / y * y) :: st) b h P
        | _ => False
      | .getfield idx => match st with
        | .ref r :: st => match (sr_fls md.1).lookup idx with
          | some q => bif Nat.beq (h.2.1 r).1 q.1 && Nat.blt r 1000000 then sr_wp md d is nx L (sr_av h r q.2 ((sr_ts q.1).getD q.2 0) :: st) b h P else False
          | none => False
        | _ => False
      | .putfield idx => match st with
        | v :: .ref r :: st => match (sr_fls md.1).lookup idx with
          | some q => bif Nat.beq (h.2.1 r).1 q.1 && Nat.blt r 1000000 && (!(sr_fin q.1 q.2) || (decide (md.2.1.name = "<init>") && Nat.beq md.1 q.1)) then
              (match (sr_ts q.1).getD q.2 0, v with
              | 0, .int x => sr_wp md d is nx L st b (sr_setI h r q.2 x) P
              | 1, .long x => sr_wp md d is nx L st b (sr_setJ h r q.2 x) P
              | 2, .ref x => sr_wp md d is nx L st b (sr_setR h r q.2 (some x)) P
              | 2, .null => sr_wp md d is nx L st b (sr_setR h r q.2 none) P
              | _, _ => False) else False
          | none => False
        | _ => False
      | .getstatic idx => match (sr_sls md.1).lookup idx with
        | some j => sr_wp md d is nx L (.ref (1000000 + j) :: st) b h P
        | none => False
      | .arraylength => match st with
        | .ref r :: st => bif Nat.ble 6 (h.2.1 r).1 && Nat.blt (h.2.1 r).1 10 then sr_wp md d is nx L (.int (nI (h.2.1 r).2) :: st) b h P else False
        | _ => False
      | .iaload => match st with
        | .int i :: .ref r :: st => bif Nat.beq (h.2.1 r).1 7 then (∃ k : Nat, (i = nI k ∧ k < (h.2.1 r).2) ∧ sr_wp md d is nx L (.int (h.2.2.1 r k) :: st) b h P) else False
        | _ => False
      | .baload => match st with
        | .int i :: .ref r :: st => bif (Nat.beq (h.2.1 r).1 6 || Nat.beq (h.2.1 r).1 8) && Nat.blt r 1000000 then (∃ k : Nat, (i = nI k ∧ k < (h.2.1 r).2) ∧ sr_wp md d is nx L (.int (h.2.2.1 r k) :: st) b h P) else False
        | _ => False
      | .aaload => match st with
        | .int i :: .ref r :: st => bif Nat.beq (h.2.1 r).1 9 && Nat.blt r 1000000 then (∃ k : Nat, (i = nI k ∧ k < (h.2.1 r).2) ∧ sr_wp md d is nx L (va_rf (h.2.2.2.2 r k) :: st) b h P) else False
        | _ => False
      | .iastore => match st with
        | .int x :: .int i :: .ref r :: st => bif Nat.beq (h.2.1 r).1 7 && Nat.blt r 1000000 then (∃ k : Nat, (i = nI k ∧ k < (h.2.1 r).2) ∧ sr_wp md d is nx L st b (sr_setI h r k x) P) else False
        | _ => False
      | .bastore => match st with
        | .int x :: .int i :: .ref r :: st =>
            bif Nat.beq (h.2.1 r).1 6 && Nat.blt r 1000000 then (∃ k : Nat, (i = nI k ∧ k < (h.2.1 r).2) ∧ sr_wp md d is nx L st b (sr_setI h r k x.toInt8.toInt32) P)
            else (bif Nat.beq (h.2.1 r).1 8 && Nat.blt r 1000000 then (∃ k : Nat, (i = nI k ∧ k < (h.2.1 r).2 ∧ (x = 0 ∨ x = 1)) ∧ sr_wp md d is nx L st b (sr_setI h r k x) P) else False)
        | _ => False
      | .aastore => match st with
        | .ref x :: .int i :: .ref r :: st => bif Nat.beq (h.2.1 r).1 9 && Nat.blt r 1000000 && (Nat.beq (h.2.1 x).1 1 && Nat.blt x 1000000) then (∃ k : Nat, (i = nI k ∧ k < (h.2.1 r).2) ∧ sr_wp md d is nx L st b (sr_setR h r k (some x)) P) else False
        | _ => False
      | .new idx => match (sr_nls md.1).lookup idx with
        | some c => (1 ≤ b.1 ∧ (sr_ts c).length ≤ b.2 ∧ h.1 < 1000000) ∧ sr_wp md d is nx L (.ref h.1 :: st) (b.1 - 1, b.2 - (sr_ts c).length) (sr_new h (c, 0)) P
        | none => False
      | .newarray t => match st with
        | .int n :: st => ∃ N : Nat, (n = nI N ∧ N < 100000 ∧ 1 ≤ b.1 ∧ N ≤ b.2 ∧ h.1 < 1000000 ∧ sr_ak t < 10) ∧ sr_wp md d is nx L (.ref h.1 :: st) (b.1 - 1, b.2 - N) (sr_new h (sr_ak t, N)) P
        | _ => False
      | .anewarray idx => match st with
        | .int n :: st => (sr_nls md.1).lookup idx = some 1 ∧ ∃ N : Nat, (n = nI N ∧ N < 100000 ∧ 1 ≤ b.1 ∧ N ≤ b.2 ∧ h.1 < 1000000) ∧ sr_wp md d is nx L (.ref h.1 :: st) (b.1 - 1, b.2 - N) (sr_new h (9, N)) P
        | _ => False
      | .invokevirtual idx => match (sr_mls md.1).lookup idx with
        | some (0, md') => match sr_pop md'.2.2.2.2.2.1 st [] with
          | some (As, .ref r :: rest) => bif Nat.beq (h.2.1 r).1 md'.1 && Nat.blt r 1000000 && Nat.ble (sr_fl (.ref r :: As)).length md'.2.2.2.1 && Nat.ble (rest.map fun v => v.category).sum 8 && (Nat.ble md'.2.2.2.2.2.2.1 b.1 && Nat.ble md'.2.2.2.2.2.2.2 b.2) then
              (match d with
              | 0 => False
              | d' + 1 => sr_Call md' d' (.ref r :: As) h (fun v h1 => sr_wp md d is nx L (v.toList ++ rest) (b.1 - md'.2.2.2.2.2.2.1, b.2 - md'.2.2.2.2.2.2.2) h1 P)) else False
          | _ => False
        | _ => False
      | .invokestatic idx => match (sr_mls md.1).lookup idx with
        | some (1, md') => match sr_pop md'.2.2.2.2.2.1 st [] with
          | some (As, rest) => bif Nat.ble (sr_fl As).length md'.2.2.2.1 && Nat.ble (rest.map fun v => v.category).sum 8 && (Nat.ble md'.2.2.2.2.2.2.1 b.1 && Nat.ble md'.2.2.2.2.2.2.2 b.2) then
              (match d with
              | 0 => False
              | d' + 1 => sr_Call md' d' As h (fun v h1 => sr_wp md d is nx L (v.toList ++ rest) (b.1 - md'.2.2.2.2.2.2.1, b.2 - md'.2.2.2.2.2.2.2) h1 P)) else False
          | none => False
        | some (4, _) => match st with
          | .int n :: .int dp :: .ref a :: .int sp :: .ref a0 :: rest => bif Nat.beq (h.2.1 a).1 7 && Nat.beq (h.2.1 a0).1 7 && Nat.blt a 1000000 && Nat.blt a0 1000000 && Nat.ble (rest.map fun v => v.category).sum 8 && Nat.blt 0 d then
              (∃ i j k : Nat, (sp = nI i ∧ dp = nI j ∧ n = nI k ∧ i + k ≤ (h.2.1 a0).2 ∧ j + k ≤ (h.2.1 a).2) ∧ sr_wp md d is nx L rest b (sr_setA h a (va_cpy (h.2.2.1 a0) (h.2.2.1 a) i j k)) P) else False
          | _ => False
        | some (6, _) => match st with
          | .int y :: .int x :: rest => bif Nat.ble (rest.map fun v => v.category).sum 8 && Nat.blt 0 d then sr_wp md d is nx L (.int (if x < y then y else x) :: rest) b h P else False
          | _ => False
        | _ => False
      | .invokespecial idx => match (sr_mls md.1).lookup idx with
        | some (3, _) => match st with
          | .ref _ :: rest => bif Nat.ble (rest.map fun v => v.category).sum 8 && Nat.blt 0 d then sr_wp md d is nx L rest b h P else False
          | _ => False
        | some (k, md') => match sr_pop md'.2.2.2.2.2.1 st [] with
          | some (As, .ref r :: rest) => bif (Nat.beq k 2 || Nat.beq k 5) && Nat.blt r 1000000 && Nat.ble (sr_fl (.ref r :: As)).length md'.2.2.2.1 && Nat.ble (rest.map fun v => v.category).sum 8 && (Nat.ble md'.2.2.2.2.2.2.1 b.1 && Nat.ble md'.2.2.2.2.2.2.2 b.2) then
              (match d with
              | 0 => False
              | d' + 1 => sr_Call md' d' (.ref r :: As) h (fun v h1 => sr_wp md d is nx L (v.toList ++ rest) (b.1 - md'.2.2.2.2.2.2.1, b.2 - md'.2.2.2.2.2.2.2) h1 P)) else False
          | _ => False
        | none => False
      | .ireturn => match st with
        | [.int v] => match md.2.2.2.2.1 with
          | some .int => P (some (.int v)) h
          | some .boolean => (v = 0 ∨ v = 1) ∧ P (some (.int v)) h
          | _ => False
        | _ => False
      | .lreturn => match st with
        | [.long v] => match md.2.2.2.2.1 with
          | some .long => P (some (.long v)) h
          | _ => False
        | _ => False
      | .return_ => match st with
        | [] => match md.2.2.2.2.1 with
          | none => P none h
          | _ => False
        | _ => False
      | _ => False
/-- the list is the code from pc on -/
def sr_tgs (i : Instr) (pc tg : Nat) : Bool := match i with
  | .goto o => decide ((pc : Int) + o = tg)
  | .ifCond _ o => decide ((pc : Int) + o = tg)
  | .if_icmp _ o => decide ((pc : Int) + o = tg)
  | .ifnull o => decide ((pc : Int) + o = tg)
  | .ifnonnull o => decide ((pc : Int) + o = tg)
  | .tableswitch dflt lo hi offs => decide (0 ≤ (pc : Int) + dflt) && offs.toList.all (fun o => decide (0 ≤ (pc : Int) + o)) && decide (lo + offs.toList.length = hi + 1) && decide (-1000 ≤ lo) && decide (hi ≤ 1000)
  | .lookupswitch dflt ps => decide (0 ≤ (pc : Int) + dflt) && ps.toList.all (fun o => decide (0 ≤ (pc : Int) + o.2) && decide (-1000 ≤ o.1) && decide (o.1 ≤ 1000)) && (ps.toList.zip (ps.toList.drop 1)).all (fun q => decide (q.1.1 < q.2.1))
  | _ => true
/-- the length of an instruction -/
def sr_len (i : Instr) (n : Nat) : Nat := match i with
  | .bipush _ => 2
  | .sipush _ => 3
  | .ldc _ => 2
  | .ldc_w _ => 3
  | .ldc2_w _ => 3
  | .iload _ => 2
  | .lload _ => 2
  | .aload _ => 2
  | .istore _ => 2
  | .lstore _ => 2
  | .astore _ => 2
  | .iinc _ _ => 3
  | .goto _ => 3
  | .ifCond _ _ => 3
  | .if_icmp _ _ => 3
  | .ifnull _ => 3
  | .ifnonnull _ => 3
  | .getfield _ => 3
  | .putfield _ => 3
  | .getstatic _ => 3
  | .new _ => 3
  | .newarray _ => 2
  | .anewarray _ => 3
  | .invokevirtual _ => 3
  | .invokestatic _ => 3
  | .invokespecial _ => 3
  | .tableswitch _ _ _ _ => n
  | .lookupswitch _ _ => n
  | _ => 1
def sr_is (cc : ByteArray) : Nat → List (Instr × Nat × Nat) → Bool
  | _, [] => true
  | pc, (i, nx, tg) :: is => decide (nx = pc + sr_len i (nx - pc)) && decide (decode cc pc = .ok (i, sr_len i (nx - pc))) && sr_tgs i pc tg && sr_is cc nx is
def sr_end : Nat → List (Instr × Nat × Nat) → Nat
  | pc, [] => pc
  | _, (_, nx, _) :: is => sr_end nx is
theorem sr_is_suf {cc : ByteArray} {as bs : List (Instr × Nat × Nat)} : ∀ {pc : Nat}, sr_is cc pc (as ++ bs) = true → sr_is cc (sr_end pc as) bs = true := by
  induction as with
  | nil => intro pc h; exact h
  | cons a as ih =>
    intro pc h
    obtain ⟨i, nx, tg⟩ := a
    simp only [List.cons_append, sr_is, Bool.and_eq_true] at h
    exact ih h.2
end
section
/-! soundness of sr_wp -/
theorem sr_cv_cat (G : sr_G) (v : Value) : (sr_cv G v).category = v.category := by cases v <;> rfl
theorem sr_cat_map (G : sr_G) (rest : List Value) : ((rest.map (sr_cv G)).map fun v => v.category).sum = (rest.map fun v => v.category).sum := by
  rw [List.map_map]
  congr 1
  apply List.map_congr_left
  intro v _
  exact sr_cv_cat G v
theorem sr_inT {w : Cond} (h : w ∈ lw_tbl) (hg : goodWord w = true) : w ∈ sr_T := List.mem_filter.mpr ⟨h, hg⟩
theorem sr_goodIn {ws : List Cond} (h : ∀ w ∈ ws, w ∈ sr_T) : GoodIn sr_T ws := fun w hw => ⟨h w hw, good_of_word (List.mem_filter.mp (h w hw)).2⟩
theorem sr_nw_moved {w : Cond} (hw : w ∈ sr_nw) {s U : State} (hW : s.WarmedH U.vm) (h : va_Nw w s) : va_Nw w U := by
  have h1 := (List.mem_filter.mp hw).2
  cases w <;> first | exact va_Nw.warmM hW h | exact va_Nw.warmF hW h | (simp [sr_nest] at h1; done)
theorem sr_nw_same {w : Cond} (hw : w ∈ sr_nw) {s U : State} (hW : s.vm = U.vm) (h : va_Nw w s) : va_Nw w U := by
  have h1 := (List.mem_filter.mp hw).2
  cases w <;> first | exact va_Nw.same rfl hW h | (simp [sr_nest] at h1; done)
theorem sr_kn_moved {G : sr_G} {s U : State} (hW : s.WarmedH U.vm) (h : sr_kn G s) : sr_kn G U := ⟨va_K.moved hW.alike h.1, fun w hw => sr_nw_moved hw hW (h.2.1 w hw), va_AO.moved hW.alike h.2.2⟩
theorem sr_kn_same {G : sr_G} {s U : State} (hW : s.vm = U.vm) (h : sr_kn G s) : sr_kn G U := ⟨va_K.moved (by rw [hW]; exact Vm.Alike.refl _) h.1, fun w hw => sr_nw_same hw hW (h.2.1 w hw), va_AO.moved (by rw [hW]; exact Vm.Alike.refl _) h.2.2⟩
theorem sr_hw_moved {G : sr_G} {h : sr_H} {s U : State} {H : Heap} (hW : s.vm.Alike U.vm) (w : sr_hw G h s H) : sr_hw G h U H := ⟨w.1, w.2.1, w.2.2.1, w.2.2.2.1, fun r h1 h2 => ⟨(w.2.2.2.2.1 r h1 h2).1, va_T.moved hW (w.2.2.2.2.1 r h1 h2).2⟩, fun i hi => va_Z.moved hW (w.2.2.2.2.2 i hi)⟩
def sr_as (G : sr_G) (L : sr_L) : List (Nat × Value) := (List.range L.length).filterMap (fun i => match L[i]? with
  | some (some v) => some (i, sr_cv G v)
  | _ => none)
theorem sr_mem_as {G : sr_G} {L : sr_L} {q : Nat × Value} : q ∈ sr_as G L ↔ ∃ v, L[q.1]? = some (some v) ∧ q.2 = sr_cv G v := by
  unfold sr_as
  rw [List.mem_filterMap]
  constructor
  · rintro ⟨i, -, h⟩
    split at h
    · next v hv => cases h; exact ⟨v, hv, rfl⟩
    · cases h
  · rintro ⟨v, hv, h2⟩
    refine ⟨q.1, ?_, ?_⟩
    · exact List.mem_range.mpr (List.getElem?_eq_some_iff.mp hv).1
    · rw [hv]
      obtain ⟨a, b⟩ := q
      cases h2
      rfl
theorem sr_lr_has {G : sr_G} {ls : Array Slot} {L : sr_L} (h : sr_lr G ls L) : lv_has ls L.length (sr_as G L) := by
  refine ⟨h.1, h.2.1, fun q hq => ?_⟩
  obtain ⟨v, hv, h2⟩ := sr_mem_as.mp hq
  rw [h2]
  exact h.2.2 _ _ hv
theorem sr_st_spec {L L' : sr_L} {i : Nat} {v : Value} (h : sr_st L i v = some L') : i < L.length ∧ L' = L.set i (some v) ∧ ∀ (j : Nat) (w : Value), i = j + 1 → L[j]? = some (some w) → w.category = 1 := by
  cases i with
  | zero =>
    unfold sr_st at h
    dsimp only at h
    cases hb : Nat.blt 0 L.length with
    | false => rw [hb] at h; cases h
    | true =>
      rw [hb] at h
      cases h
      exact ⟨Nat.le_of_ble_eq_true hb, rfl, fun j w hj => by cases hj⟩
  | succ j =>
    unfold sr_st at h
    dsimp only at h
    have key : (bif Nat.blt (j + 1) L.length then some (L.set (j + 1) (some v)) else none) = some L' → j + 1 < L.length ∧ L' = L.set (j + 1) (some v) := by
      intro h
      cases hb : Nat.blt (j + 1) L.length with
      | false => rw [hb] at h; cases h
      | true =>
        rw [hb] at h
        cases h
        exact ⟨Nat.le_of_ble_eq_true hb, rfl⟩
    split at h
    · cases h
    · cases h
    · next h1 h2 =>
      obtain ⟨a, b⟩ := key h
      refine ⟨a, b, fun k w hk hw => ?_⟩
      cases hk
      cases w <;> first | rfl | exact absurd hw (h1 _) | exact absurd hw (h2 _)
theorem sr_st2_spec {L L' : sr_L} {i : Nat} {v : Value} (h : sr_st2 L i v = some L') : i + 1 < L.length ∧ L' = (L.set i (some v)).set (i + 1) none ∧ ∀ (j : Nat) (w : Value), i = j + 1 → L[j]? = some (some w) → w.category = 1 := by
  cases i with
  | zero =>
    unfold sr_st2 at h
    dsimp only at h
    cases hb : Nat.blt 1 L.length with
    | false => rw [hb] at h; cases h
    | true =>
      rw [hb] at h
      cases h
      exact ⟨Nat.le_of_ble_eq_true hb, rfl, fun j w hj => by cases hj⟩
  | succ j =>
    unfold sr_st2 at h
    dsimp only at h
    have key : (bif Nat.blt (j + 2) L.length then some ((L.set (j + 1) (some v)).set (j + 2) none) else none) = some L' → j + 2 < L.length ∧ L' = (L.set (j + 1) (some v)).set (j + 2) none := by
      intro h
      cases hb : Nat.blt (j + 2) L.length with
      | false => rw [hb] at h; cases h
      | true =>
        rw [hb] at h
        cases h
        exact ⟨Nat.le_of_ble_eq_true hb, rfl⟩
    split at h
    · cases h
    · cases h
    · next h1 h2 =>
      obtain ⟨a, b⟩ := key h
      refine ⟨a, b, fun k w hk hw => ?_⟩
      cases hk
      cases w <;> first | rfl | exact absurd hw (h1 _) | exact absurd hw (h2 _)
theorem sr_lr_st {G : sr_G} {L L' : sr_L} {i : Nat} {v : Value} {ls' : Array Slot} (hs : sr_st L i v = some L') (h' : lv_has ls' L.length ((i, sr_cv G v) :: (sr_as G L).filter (fun q => !(q.1 == i) && !(q.1 + 1 == i && q.2.category == 2)))) : sr_lr G ls' L' := by
  obtain ⟨h1, rfl, h3⟩ := sr_st_spec hs
  refine ⟨by rw [h'.1, List.length_set], h'.2.1, fun j w hj => ?_⟩
  by_cases hij : i = j
  · subst hij
    rw [List.getElem?_set_self h1] at hj
    cases hj
    exact h'.2.2 (i, sr_cv G v) List.mem_cons_self
  · rw [List.getElem?_set_ne hij] at hj
    refine h'.2.2 (j, sr_cv G w) (List.mem_cons_of_mem _ (List.mem_filter.mpr ⟨sr_mem_as.mpr ⟨w, hj, rfl⟩, ?_⟩))
    have e1 : (j == i) = false := by simpa using fun e => hij e.symm
    by_cases e2 : j + 1 = i
    · have := h3 j w e2.symm hj
      simp [e1, sr_cv_cat, this]
    · simp [e1, e2]
theorem sr_lr_st2 {G : sr_G} {L L' : sr_L} {i : Nat} {v : Value} {ls' : Array Slot} (hs : sr_st2 L i v = some L') (h' : lv_has ls' L.length ((i, sr_cv G v) :: (sr_as G L).filter (fun q => !(q.1 == i) && (!(q.1 == i + 1) && !(q.1 + 1 == i && q.2.category == 2))))) : sr_lr G ls' L' := by
  obtain ⟨h1, rfl, h3⟩ := sr_st2_spec hs
  refine ⟨by rw [h'.1, List.length_set, List.length_set], h'.2.1, fun j w hj => ?_⟩
  by_cases hij1 : i + 1 = j
  · subst hij1
    rw [List.getElem?_set_self (by rw [List.length_set]; exact h1)] at hj
    cases hj
  · rw [List.getElem?_set_ne hij1] at hj
    by_cases hij : i = j
    · subst hij
      rw [List.getElem?_set_self (by omega)] at hj
      cases hj
      exact h'.2.2 (i, sr_cv G v) List.mem_cons_self
    · rw [List.getElem?_set_ne hij] at hj
      refine h'.2.2 (j, sr_cv G w) (List.mem_cons_of_mem _ (List.mem_filter.mpr ⟨sr_mem_as.mpr ⟨w, hj, rfl⟩, ?_⟩))
      have e1 : (j == i) = false := by simpa using fun e => hij e.symm
      have e3 : (j == i + 1) = false := by simpa using fun e => hij1 e.symm
      by_cases e2 : j + 1 = i
      · have := h3 j w e2.symm hj
        simp [e1, e3, sr_cv_cat, this]
      · simp [e1, e3, e2]
theorem sr_k8 {n : Int} (h1 : -128 ≤ n) (h2 : n < 128) : (Int8.ofInt n).toInt32 = sr_k n := by
  apply Int32.toInt_inj.mp
  unfold sr_k
  rw [Int8.toInt_toInt32, Int8.toInt_ofInt_of_le (by omega) (by omega), Int32.toInt_ofInt_of_le (by omega) (by omega)]
theorem sr_k16 {n : Int} (h1 : -32768 ≤ n) (h2 : n < 32768) : (Int16.ofInt n).toInt32 = sr_k n := by
  apply Int32.toInt_inj.mp
  unfold sr_k
  rw [Int16.toInt_toInt32, Int16.toInt_ofInt_of_le (by omega) (by omega), Int32.toInt_ofInt_of_le (by omega) (by omega)]

/-! instructions on locals and stack -/
theorem sr_lkI {own k : Nat} {v : Int32} (ho : own < 9) (h : (sr_ics own).lookup k = some v) : Cond.constant (sr_R own) k v ∈ sr_T := sr_inT (sr_ics_ok ho _ (sr_lookup h)) rfl
theorem sr_lkL {own k : Nat} {v : Int64} (ho : own < 9) (h : (sr_lcs own).lookup k = some v) : Cond.constantLong (sr_R own) k v ∈ sr_T := sr_inT (sr_lcs_ok ho _ (sr_lookup h)) rfl
section SG
variable {md : sr_MD} {d pc nx : Nat} {L L' : sr_L} {st st' : List Value} {b : Nat × Nat} {h : sr_H} {P : Option Value → sr_H → Prop}
theorem sg_ldI {i : Nat} {G : sr_G} {ls : Array Slot} (hs : sr_ldI L i st = some (L', st')) (lr : sr_lr G ls L) : ∃ x, ls[i]? = some (.val (.int x)) ∧ L' = L ∧ st' = .int x :: st := by
  unfold sr_ldI at hs
  split at hs
  · next x hx => cases hs; exact ⟨x, lr.2.2 _ _ hx, rfl, rfl⟩
  · cases hs
theorem sg_ldJ {i : Nat} {G : sr_G} {ls : Array Slot} (hs : sr_ldJ L i st = some (L', st')) (lr : sr_lr G ls L) : ∃ x, ls[i]? = some (.val (.long x)) ∧ L' = L ∧ st' = .long x :: st := by
  unfold sr_ldJ at hs
  split at hs
  · next x hx => cases hs; exact ⟨x, lr.2.2 _ _ hx, rfl, rfl⟩
  · cases hs
theorem sg_ldR {i : Nat} {G : sr_G} {ls : Array Slot} (hs : sr_ldR L i st = some (L', st')) (lr : sr_lr G ls L) : (∃ x, ls[i]? = some (.val (.ref (sr_cr G x))) ∧ L' = L ∧ st' = .ref x :: st) ∨ (ls[i]? = some (.val .null) ∧ L' = L ∧ st' = .null :: st) := by
  unfold sr_ldR at hs
  split at hs
  · next x hx => cases hs; exact Or.inl ⟨x, lr.2.2 _ _ hx, rfl, rfl⟩
  · next hx => cases hs; exact Or.inr ⟨lr.2.2 _ _ hx, rfl, rfl⟩
  · cases hs
theorem sg_stI {i : Nat} (hs : sr_stI L i st = some (L', st')) : ∃ x, st = .int x :: st' ∧ sr_st L i (.int x) = some L' := by
  unfold sr_stI at hs
  split at hs
  · next x rest =>
    cases hq : sr_st L i (.int x) with
    | none => rw [hq] at hs; cases hs
    | some z => rw [hq] at hs; cases hs; exact ⟨x, rfl, hq⟩
  · cases hs
theorem sg_stJ {i : Nat} (hs : sr_stJ L i st = some (L', st')) : ∃ x, st = .long x :: st' ∧ sr_st2 L i (.long x) = some L' := by
  unfold sr_stJ at hs
  split at hs
  · next x rest =>
    cases hq : sr_st2 L i (.long x) with
    | none => rw [hq] at hs; cases hs
    | some z => rw [hq] at hs; cases hs; exact ⟨x, rfl, hq⟩
  · cases hs
theorem sg_stR {i : Nat} (hs : sr_stR L i st = some (L', st')) : (∃ x, st = .ref x :: st' ∧ sr_st L i (.ref x) = some L') ∨ (st = .null :: st' ∧ sr_st L i .null = some L') := by
  unfold sr_stR at hs
  split at hs
  · next x rest =>
    cases hq : sr_st L i (.ref x) with
    | none => rw [hq] at hs; cases hs
    | some z => rw [hq] at hs; cases hs; exact Or.inl ⟨x, rfl, hq⟩
  · next rest =>
    cases hq : sr_st L i .null with
    | none => rw [hq] at hs; cases hs
    | some z => rw [hq] at hs; cases hs; exact Or.inr ⟨rfl, rfl⟩
  · cases hs
theorem sg_bin {f : Int32 → Int32 → Int32} (hs : sr_bin L st f = some (L', st')) : ∃ x y rest, st = .int y :: .int x :: rest ∧ L' = L ∧ st' = .int (f x y) :: rest := by
  unfold sr_bin at hs
  split at hs
  · next y x rest => cases hs; exact ⟨x, y, rest, rfl, rfl, rfl⟩
  · cases hs
theorem sg_binJ {f : Int64 → Int64 → Int64} (hs : sr_binJ L st f = some (L', st')) : ∃ x y rest, st = .long y :: .long x :: rest ∧ L' = L ∧ st' = .long (f x y) :: rest := by
  unfold sr_binJ at hs
  split at hs
  · next y x rest => cases hs; exact ⟨x, y, rest, rfl, rfl, rfl⟩
  · cases hs
theorem sr_st_len {i : Nat} {v : Value} (h : sr_st L i v = some L') : L'.length = L.length := by rw [(sr_st_spec h).2.1, List.length_set]
theorem sr_st2_len {i : Nat} {v : Value} (h : sr_st2 L i v = some L') : L'.length = L.length := by rw [(sr_st2_spec h).2.1, List.length_set, List.length_set]
theorem sr_ldI_len {i : Nat} (hs : sr_ldI L i st = some (L', st')) : L'.length = L.length := by
  unfold sr_ldI at hs
  split at hs
  · cases hs; rfl
  · cases hs
theorem sr_ldJ_len {i : Nat} (hs : sr_ldJ L i st = some (L', st')) : L'.length = L.length := by
  unfold sr_ldJ at hs
  split at hs
  · cases hs; rfl
  · cases hs
theorem sr_ldR_len {i : Nat} (hs : sr_ldR L i st = some (L', st')) : L'.length = L.length := by
  unfold sr_ldR at hs
  split at hs
  · cases hs; rfl
  · cases hs; rfl
  · cases hs
set_option maxHeartbeats 4000000 in
theorem sr_sim_len {own : Nat} {i : Instr} (hs : sr_sim own i L st = some (L', st')) : L'.length = L.length := by
  cases i with
  | iload_n i => exact sr_ldI_len hs
  | iload i => exact sr_ldI_len hs
  | lload_n i => exact sr_ldJ_len hs
  | lload i => exact sr_ldJ_len hs
  | aload_n i => exact sr_ldR_len hs
  | aload i => exact sr_ldR_len hs
  | istore_n i => obtain ⟨x, rfl, h1⟩ := sg_stI hs; exact sr_st_len h1
  | istore i => obtain ⟨x, rfl, h1⟩ := sg_stI hs; exact sr_st_len h1
  | lstore_n i => obtain ⟨x, rfl, h1⟩ := sg_stJ hs; exact sr_st2_len h1
  | lstore i => obtain ⟨x, rfl, h1⟩ := sg_stJ hs; exact sr_st2_len h1
  | astore_n i => rcases sg_stR hs with ⟨x, rfl, h1⟩ | ⟨rfl, h1⟩ <;> exact sr_st_len h1
  | astore i => rcases sg_stR hs with ⟨x, rfl, h1⟩ | ⟨rfl, h1⟩ <;> exact sr_st_len h1
  | iinc i n =>
    simp only [sr_sim] at hs
    split at hs
    · next x hx1 =>
      cases hq : sr_st L i (.int (x + sr_k n)) with
      | none => rw [hq] at hs; cases hs
      | some z => rw [hq] at hs; cases hs; exact sr_st_len hq
    · cases hs
  | iadd => obtain ⟨x, y, rest, rfl, rfl, rfl⟩ := sg_bin hs; rfl
  | isub => obtain ⟨x, y, rest, rfl, rfl, rfl⟩ := sg_bin hs; rfl
  | imul => obtain ⟨x, y, rest, rfl, rfl, rfl⟩ := sg_bin hs; rfl
  | iand => obtain ⟨x, y, rest, rfl, rfl, rfl⟩ := sg_bin hs; rfl
  | ior => obtain ⟨x, y, rest, rfl, rfl, rfl⟩ := sg_bin hs; rfl
  | ixor => obtain ⟨x, y, rest, rfl, rfl, rfl⟩ := sg_bin hs; rfl
  | ishl => obtain ⟨x, y, rest, rfl, rfl, rfl⟩ := sg_bin hs; rfl
  | ishr => obtain ⟨x, y, rest, rfl, rfl, rfl⟩ := sg_bin hs; rfl
  | iushr => obtain ⟨x, y, rest, rfl, rfl, rfl⟩ := sg_bin hs; rfl
  | ladd => obtain ⟨x, y, rest, rfl, rfl, rfl⟩ := sg_binJ hs; rfl
  | lmul => obtain ⟨x, y, rest, rfl, rfl, rfl⟩ := sg_binJ hs; rfl
  | bipush n =>
    simp only [sr_sim] at hs
    cases hq : (decide (-128 ≤ n) && decide (n < 128)) <;> (rw [hq] at hs; cases hs)
    rfl
  | sipush n =>
    simp only [sr_sim] at hs
    cases hq : (decide (-32768 ≤ n) && decide (n < 32768)) <;> (rw [hq] at hs; cases hs)
    rfl
  | iconst n => cases hs; rfl
  | lconst n => cases hs; rfl
  | _ => first | (simp [sr_sim] at hs; done) | (simp only [sr_sim] at hs; split at hs <;> cases hs <;> rfl)
set_option maxHeartbeats 4000000 in
theorem sg_sim {i : Instr} (hn : nx = pc + sr_len i (nx - pc)) (hd : decode md.2.2.1 pc = .ok (i, sr_len i (nx - pc))) (hs : sr_sim md.1 i L st = some (L', st')) (k : sr_Go md d nx L' st' b h P) : sr_Go md d pc L st b h P := by
  generalize nx - pc = z at hn hd
  intro G p l e R s m args below meth c H locs cells slots Q ls F Rt hw lr hlen hlc hc1 hc2
  obtain ⟨hx, hb, hr, hml, hown, hts, hlk, hnm, hK, hd1, hd2, ho⟩ := id F
  have kk : ∀ ls', sr_lr G ls' L' → W p l e R s m args below meth c H locs cells slots Q (F0 m nx ls' (st'.map (sr_cv G))) := fun ls' lr' => k G p l e R s m args below meth c H locs cells slots Q ls' F Rt hw lr' ((sr_sim_len hs).trans hlen) hlc hc1 hc2
  cases i with
  | iconst n => cases hs; subst hn; exact lv_iconst hx hb hd rfl (kk ls lr)
  | bipush n =>
    simp only [sr_sim] at hs
    cases hq : (decide (-128 ≤ n) && decide (n < 128)) with
    | false => rw [hq] at hs; cases hs
    | true =>
      rw [hq] at hs; cases hs; subst hn
      simp only [Bool.and_eq_true, decide_eq_true_eq] at hq
      exact lv_bipush hx hb hd (sr_k8 hq.1 hq.2) (kk ls lr)
  | sipush n =>
    simp only [sr_sim] at hs
    cases hq : (decide (-32768 ≤ n) && decide (n < 32768)) with
    | false => rw [hq] at hs; cases hs
    | true =>
      rw [hq] at hs; cases hs; subst hn
      simp only [Bool.and_eq_true, decide_eq_true_eq] at hq
      exact lv_sipush hx hb hd (sr_k16 hq.1 hq.2) (kk ls lr)
  | lconst n => cases hs; subst hn; exact lv_lconst hx hb hd rfl (kk ls lr)
  | ldc i =>
    simp only [sr_sim] at hs
    split at hs
    · next v hv => cases hs; subst hn; exact lv_ldc hx hb hown (hts _ (sr_lkI ho hv)) hd (kk ls lr)
    · cases hs
  | ldc_w i =>
    simp only [sr_sim] at hs
    split at hs
    · next v hv => cases hs; subst hn; exact lv_ldcw hx hb hown (hts _ (sr_lkI ho hv)) hd (kk ls lr)
    · cases hs
  | ldc2_w i =>
    simp only [sr_sim] at hs
    split at hs
    · next v hv => cases hs; subst hn; exact lv_ldc2 hx hb hown (hts _ (sr_lkL ho hv)) hd (kk ls lr)
    · cases hs
  | iload_n i => obtain ⟨x, h1, rfl, rfl⟩ := sg_ldI hs lr; subst hn; exact lv_iload_n hx hb hd rfl h1 (kk ls lr)
  | iload i => obtain ⟨x, h1, rfl, rfl⟩ := sg_ldI hs lr; subst hn; exact lv_iload hx hb hd h1 (kk ls lr)
  | lload_n i => obtain ⟨x, h1, rfl, rfl⟩ := sg_ldJ hs lr; subst hn; exact lv_lload_n hx hb hd rfl h1 (kk ls lr)
  | lload i => obtain ⟨x, h1, rfl, rfl⟩ := sg_ldJ hs lr; subst hn; exact lv_lload hx hb hd h1 (kk ls lr)
  | aload_n i =>
    rcases sg_ldR hs lr with ⟨x, h1, rfl, rfl⟩ | ⟨h1, rfl, rfl⟩
    · subst hn; exact lv_aload_n hx hb hd rfl h1 (kk ls lr)
    · subst hn; exact lv_aload_nN hx hb hd rfl h1 (kk ls lr)
  | aload i =>
    rcases sg_ldR hs lr with ⟨x, h1, rfl, rfl⟩ | ⟨h1, rfl, rfl⟩
    · subst hn; exact lv_aload hx hb hd h1 (kk ls lr)
    · subst hn; exact lv_aloadN hx hb hd h1 (kk ls lr)
  | istore_n i => obtain ⟨x, rfl, h1⟩ := sg_stI hs; subst hn; exact lv_istore_n hx hb hd rfl (sr_lr_has lr) (sr_st_spec h1).1 rfl (fun ls' q => kk ls' (sr_lr_st h1 q))
  | istore i => obtain ⟨x, rfl, h1⟩ := sg_stI hs; subst hn; exact lv_istore hx hb hd (sr_lr_has lr) (sr_st_spec h1).1 rfl (fun ls' q => kk ls' (sr_lr_st h1 q))
  | lstore_n i => obtain ⟨x, rfl, h1⟩ := sg_stJ hs; subst hn; exact lv_lstore_n hx hb hd rfl (sr_lr_has lr) (sr_st2_spec h1).1 rfl (fun ls' q => kk ls' (sr_lr_st2 h1 q))
  | lstore i => obtain ⟨x, rfl, h1⟩ := sg_stJ hs; subst hn; exact lv_lstore hx hb hd (sr_lr_has lr) (sr_st2_spec h1).1 rfl (fun ls' q => kk ls' (sr_lr_st2 h1 q))
  | astore_n i =>
    rcases sg_stR hs with ⟨x, rfl, h1⟩ | ⟨rfl, h1⟩
    · subst hn; exact lv_astore_n hx hb hd rfl (sr_lr_has lr) (sr_st_spec h1).1 rfl (fun ls' q => kk ls' (sr_lr_st h1 q))
    · subst hn; exact lv_astore_nN hx hb hd rfl (sr_lr_has lr) (sr_st_spec h1).1 rfl (fun ls' q => kk ls' (sr_lr_st h1 q))
  | astore i =>
    rcases sg_stR hs with ⟨x, rfl, h1⟩ | ⟨rfl, h1⟩
    · subst hn; exact lv_astore hx hb hd (sr_lr_has lr) (sr_st_spec h1).1 rfl (fun ls' q => kk ls' (sr_lr_st h1 q))
    · subst hn; exact lv_astoreN hx hb hd (sr_lr_has lr) (sr_st_spec h1).1 rfl (fun ls' q => kk ls' (sr_lr_st h1 q))
  | iinc i n =>
    simp only [sr_sim] at hs
    split at hs
    · next x hx1 =>
      cases hq : sr_st L i (.int (x + sr_k n)) with
      | none => rw [hq] at hs; cases hs
      | some z =>
        rw [hq] at hs; cases hs; subst hn
        obtain ⟨k9, hk9⟩ := List.getElem?_of_mem (sr_mem_as (G := G) (q := (i, .int x)).mpr ⟨.int x, hx1, rfl⟩)
        exact lv_iinc hx hb hd (sr_lr_has lr) hk9 rfl (sr_st_spec hq).1 rfl (fun ls' q => kk ls' (sr_lr_st hq q))
    · cases hs
  | iadd => obtain ⟨x, y, rest, rfl, rfl, rfl⟩ := sg_bin hs; subst hn; exact lv_iadd hx hb hd (kk ls lr)
  | isub => obtain ⟨x, y, rest, rfl, rfl, rfl⟩ := sg_bin hs; subst hn; exact lv_isub hx hb hd (kk ls lr)
  | imul => obtain ⟨x, y, rest, rfl, rfl, rfl⟩ := sg_bin hs; subst hn; exact lv_imul hx hb hd (kk ls lr)
  | iand => obtain ⟨x, y, rest, rfl, rfl, rfl⟩ := sg_bin hs; subst hn; exact lv_iand hx hb hd (kk ls lr)
  | ior => obtain ⟨x, y, rest, rfl, rfl, rfl⟩ := sg_bin hs; subst hn; exact lv_ior hx hb hd (kk ls lr)
  | ixor => obtain ⟨x, y, rest, rfl, rfl, rfl⟩ := sg_bin hs; subst hn; exact lv_ixor hx hb hd (kk ls lr)
  | ishl => obtain ⟨x, y, rest, rfl, rfl, rfl⟩ := sg_bin hs; subst hn; exact lv_ishl hx hb hd (kk ls lr)
  | ishr => obtain ⟨x, y, rest, rfl, rfl, rfl⟩ := sg_bin hs; subst hn; exact lv_ishr hx hb hd (kk ls lr)
  | iushr => obtain ⟨x, y, rest, rfl, rfl, rfl⟩ := sg_bin hs; subst hn; exact lv_iushr hx hb hd rfl (kk ls lr)
  | ladd => obtain ⟨x, y, rest, rfl, rfl, rfl⟩ := sg_binJ hs; subst hn; exact lv_ladd hx hb hd (kk ls lr)
  | lmul => obtain ⟨x, y, rest, rfl, rfl, rfl⟩ := sg_binJ hs; subst hn; exact lv_lmul hx hb hd (kk ls lr)
  | lcmp =>
    simp only [sr_sim] at hs
    split at hs
    · cases hs; subst hn; exact W.lcmp hx hb hd (kk ls lr)
    · cases hs
  | i2l =>
    simp only [sr_sim] at hs
    split at hs
    · cases hs; subst hn; exact lv_i2l hx hb hd rfl (kk ls lr)
    · cases hs
  | l2i =>
    simp only [sr_sim] at hs
    split at hs
    · cases hs; subst hn; exact lv_l2i hx hb hd rfl (kk ls lr)
    · cases hs
  | i2b =>
    simp only [sr_sim] at hs
    split at hs
    · cases hs; subst hn; exact lv_i2b hx hb hd rfl (kk ls lr)
    · cases hs
  | dup =>
    simp only [sr_sim] at hs
    split at hs
    · cases hs; subst hn; exact lv_dup hx hb hd rfl (kk ls lr)
    · cases hs; subst hn; exact lv_dup hx hb hd rfl (kk ls lr)
    · cases hs
  | dup2 =>
    simp only [sr_sim] at hs
    split at hs
    · cases hs; subst hn; exact lv_dup2_11 hx hb hd rfl rfl (kk ls lr)
    · cases hs
  | pop =>
    simp only [sr_sim] at hs
    split at hs
    · cases hs; subst hn; exact lv_pop hx hb hd rfl (kk ls lr)
    · cases hs
  | _ => simp [sr_sim] at hs
end SG
end
section
/-! the heap's instructions -/
def sr_tyc (t : FieldType) : Nat := match t with
  | .int => 0
  | .long => 1
  | .object _ => 2
  | .array _ => 2
  | _ => 9
theorem sr_cl {ci : Nat} {C : String} {T : u_T} {N : Nat} (h : vwCl[ci]? = some (C, T, N)) : ci < 6 ∧ C = sr_R ci ∧ (∀ w ∈ u_ws C T N, w ∈ sr_T) ∧ N = (sr_ts ci).length ∧ (∀ k, k < N → (T k).1 = sr_R ci) ∧ ∃ ty : Nat → FieldType, (∀ k, k < N → parseFieldDescriptor (T k).2.2.1 = some (ty k)) ∧ (∀ a, a < N → ∀ b, b < N → a ≠ b → (T a).2.1 ≠ (T b).2.1) ∧ ∀ k, k < N → sr_tyc (ty k) = (sr_ts ci).getD k 0 := by
  have good : ∀ {C : String} {T : u_T} {N : Nat}, (∀ w ∈ u_ws C T N, w ∈ lw_tbl) → ∀ w ∈ u_ws C T N, w ∈ sr_T := by
    intro C T N h w hw
    refine sr_inT (h w hw) ?_
    obtain ⟨k, -, rfl⟩ := List.mem_map.mp hw
    unfold u_lay
    split <;> rfl
  match ci, h with
  | 0, h => cases h; exact ⟨by decide, rfl, good sr_c_0, rfl, by decide +kernel, tyX0, tyX0_ok, nmX0, by decide +kernel⟩
  | 1, h => cases h; exact ⟨by decide, rfl, good sr_c_1, rfl, by decide +kernel, tyX1, tyX1_ok, nmX1, by decide +kernel⟩
  | 2, h => cases h; exact ⟨by decide, rfl, good sr_c_2, rfl, by decide +kernel, tyX2, tyX2_ok, nmX2, by decide +kernel⟩
  | 3, h => cases h; exact ⟨by decide, rfl, good sr_c_3, rfl, by decide +kernel, tyX3, tyX3_ok, nmX3, by decide +kernel⟩
  | 4, h => cases h; exact ⟨by decide, rfl, good sr_c_4, rfl, by decide +kernel, tyX4, tyX4_ok, nmX4, by decide +kernel⟩
  | 5, h => cases h; exact ⟨by decide, rfl, good sr_c_5, rfl, by decide +kernel, tyX5, tyX5_ok, nmX5, by decide +kernel⟩
  | n + 6, h => simp [vwCl] at h
theorem sr_cv_av (G : sr_G) (h : sr_H) (r k t : Nat) : sr_cv G (sr_av h r k t) = sr_fv G h r k t := by
  unfold sr_av sr_fv
  split
  · rfl
  · rfl
  · cases h.2.2.2.2 r k <;> rfl
theorem sr_fs_len (G : sr_G) (h : sr_H) (r c : Nat) : (sr_fs G h r c).length = (sr_ts c).length := by simp [sr_fs]
theorem sr_fs_at (G : sr_G) (h : sr_H) (r c : Nat) {k : Nat} (hk : k < (sr_ts c).length) : (sr_fs G h r c)[k]? = some (sr_fv G h r k ((sr_ts c).getD k 0)) := by
  unfold sr_fs
  rw [List.getElem?_map, List.getElem?_range hk]
  rfl
theorem sr_ce_obj {G : sr_G} {h : sr_H} {r c : Nat} (hk : (h.2.1 r).1 = c) (hc : c < 6) : sr_ce G h r = .inr (c, sr_fs G h r c) := by
  unfold sr_ce
  rw [hk, if_neg (by omega), if_neg (by omega)]
theorem sr_ce_int {G : sr_G} {h : sr_H} {r c : Nat} (hk : (h.2.1 r).1 = c) (hc : 6 ≤ c) (hc2 : c < 9) : sr_ce G h r = .inl (G.2.2.1 c, (h.2.1 r).2, .inl (h.2.2.1 r)) := by
  unfold sr_ce
  rw [hk, if_neg (by omega), if_pos hc]
theorem sr_ce_ref {G : sr_G} {h : sr_H} {r : Nat} (hk : (h.2.1 r).1 = 9) : sr_ce G h r = .inl (G.2.2.1 9, (h.2.1 r).2, .inr (.inr (.inr (.inr (fun j => (h.2.2.2.2 r j).map (sr_cr G)))))) := by
  unfold sr_ce
  rw [if_pos hk]
theorem sr_ce_congr {G : sr_G} {h h' : sr_H} {r : Nat} (h1 : h'.2.1 r = h.2.1 r) (h2 : h'.2.2.1 r = h.2.2.1 r) (h3 : h'.2.2.2.1 r = h.2.2.2.1 r) (h4 : h'.2.2.2.2 r = h.2.2.2.2 r) : sr_ce G h' r = sr_ce G h r := by
  unfold sr_ce sr_fs sr_fv
  rw [h1, h2, h3, h4]
theorem sr_cr_lo {G : sr_G} {r : Nat} (h : r < 1000000) : sr_cr G r = G.1 + r := if_pos h
/-- one cell has changed -/
theorem sr_hw_set {G : sr_G} {h h' : sr_H} {s : State} {H H1 : Heap} {r : Nat} (w : sr_hw G h s H) (hn : h'.1 = h.1) (hK : h'.2.1 = h.2.1) (hr : r < 1000000) (ho2 : ∀ q, q ≠ r → h'.2.2.1 q = h.2.2.1 q) (ho3 : ∀ q, q ≠ r → h'.2.2.2.1 q = h.2.2.2.1 q) (ho4 : ∀ q, q ≠ r → h'.2.2.2.2 q = h.2.2.2.2 q)
    (e : va_at G.2.1 vwCl (G.1 + r, sr_ce G h' r) H1) (z : H1.size = H.size) (oq : ∀ q, q ≠ G.1 + r → H1[q]? = H[q]?) : sr_hw G h' s H1 := by
  obtain ⟨w1, w2, w3, w4, w5, w6⟩ := w
  refine ⟨by rw [z, w1, hn], by rw [hn]; exact w2, fun q hq hq2 => ?_, fun q => by rw [hK]; exact w4 q, fun q hq hq2 => ?_, fun i hi => ?_⟩
  · rw [hK] at hq
    obtain ⟨a1, a2⟩ := w3 q hq hq2
    refine ⟨by rw [hn]; exact a1, ?_⟩
    by_cases hqr : q = r
    · subst hqr; exact e
    · rw [sr_ce_congr (h := h) (by rw [hK]) (ho2 q hqr) (ho3 q hqr) (ho4 q hqr)]
      exact a2.kept (oq _ (by show G.1 + q ≠ G.1 + r; omega))
  · rw [hK] at hq ⊢
    obtain ⟨a1, a2⟩ := w5 q hq hq2
    refine ⟨a1, ?_⟩
    rw [ho2 q (by omega)]
    exact a2.kept (fun a _ h2 => oq a (fun e9 => h2 (by rw [e9]; omega)))
  · exact (w6 i hi).kept (fun a _ h2 => oq a (fun e9 => h2 (by rw [e9]; omega)))
/-- one cell has come -/
theorem sr_hw_new {G : sr_G} {h : sr_H} {s : State} {H H1 : Heap} {kd : Nat × Nat} (w : sr_hw G h s H) (hn : h.1 < 1000000) (hk2 : kd.2 < 2147483648)
    (e : va_at G.2.1 vwCl (G.1 + h.1, sr_ce G (sr_new h kd) h.1) H1) (z : H1.size = H.size + 1) (oq : ∀ q, q < H.size → H1[q]? = H[q]?) : sr_hw G (sr_new h kd) s H1 := by
  obtain ⟨w1, w2, w3, w4, w5, w6⟩ := w
  have hK : ∀ q, q ≠ h.1 → (sr_new h kd).2.1 q = h.2.1 q := fun q hq => if_neg hq
  have h2 : ∀ q, q ≠ h.1 → (sr_new h kd).2.2.1 q = h.2.2.1 q := fun q hq => by funext k; exact if_neg hq
  have h3 : ∀ q, q ≠ h.1 → (sr_new h kd).2.2.2.1 q = h.2.2.2.1 q := fun q hq => by funext k; exact if_neg hq
  have h4 : ∀ q, q ≠ h.1 → (sr_new h kd).2.2.2.2 q = h.2.2.2.2 q := fun q hq => by funext k; exact if_neg hq
  refine ⟨by rw [z, w1]; rfl, hn, fun q hq hq2 => ?_, fun q => ?_, fun q hq hq2 => ?_, fun i hi => ?_⟩
  · by_cases hqr : q = h.1
    · subst hqr; exact ⟨Nat.lt_succ_self _, e⟩
    · rw [hK q hqr] at hq
      obtain ⟨a1, a2⟩ := w3 q hq hq2
      refine ⟨Nat.lt_succ_of_lt a1, ?_⟩
      rw [sr_ce_congr (hK q hqr) (h2 q hqr) (h3 q hqr) (h4 q hqr)]
      exact a2.kept (oq _ a2.lt)
  · by_cases hqr : q = h.1
    · subst hqr; show (if h.1 = h.1 then kd else h.2.1 h.1).2 < _; rw [if_pos rfl]; exact hk2
    · rw [hK q hqr]; exact w4 q
  · have hqr : q ≠ h.1 := by omega
    rw [hK q hqr] at hq ⊢
    obtain ⟨a1, a2⟩ := w5 q hq hq2
    refine ⟨a1, ?_⟩
    rw [h2 q hqr]
    exact a2.kept (fun a h1 _ => oq a h1)
  · exact (w6 i hi).kept (fun a h1 _ => oq a h1)
section SP
variable {p : Program} {l : Launch} {e : Env} {R : Room} {s : State} {m : MethodId} {args : Array Value} {below : List Frame} {meth : Method} {c : Code} {H : Heap} {locs : List Loc} {cells slots : Nat} {Q : State → Prop}
variable {cc : ByteArray} {pc : Nat} {ls : Array Slot} {rest : List Value} {D : va_G} {cl : List vw_C} {a : Nat} {tys : List (ClassId × FieldType)}
theorem sr_put (hexec : p.tables.exec = Jvm.exec) (hb : c.code = cc) {own C : String} {T : u_T} {N ci index : Nat} {Ts : List Cond} (hts : ∀ w ∈ Ts, w.before args s = true) (hin : ∀ w ∈ u_ws C T N, w ∈ Ts) (ty0 : Nat → FieldType) (hty : ∀ k, k < N → parseFieldDescriptor (T k).2.2.1 = some (ty0 k)) (hnm : ∀ a, a < N → ∀ b, b < N → a ≠ b → (T a).2.1 ≠ (T b).2.1) (hown : s.vm.findClass own = some m.cls) (hK : va_K D cl tys s) {fs : List Value} (he : va_at D cl (a, .inr (ci, fs)) H) (hc : cl[ci]? = some (C, T, N)) (k : Nat) (hk : k < N) (hlink : (Cond.fieldLink own index (T k).1 (T k).2.1 (T k).2.2.1).before args s = true)
    (hfin : (T k).2.2.2 = false ∨ (meth.name = "<init>" ∧ (T k).1 = own)) {v : Value} (hn : narrow (ty0 k) v = v) (hfit : fits (ty0 k) v = true) (hl : k < fs.length)
    (hdg : decode cc pc = .ok (.putfield index, 3)) (kk : ∀ (H1 : Heap) (z : Nat), va_at D cl (a, .inr (ci, fs.set k v)) H1 → H1.size = H.size → (∀ q, q ≠ a → H1[q]? = H[q]?) → W p l e R s m args below meth c H1 (locs ++ [⟨a, z⟩]) cells slots Q (F0 m (pc + 3) ls rest)) : W p l e R s m args below meth c H locs cells slots Q (F0 m pc ls (v :: .ref a :: rest)) := by
  have hap := va_apart (own := own) hts hin ty0 hty hnm hK hc
  obtain ⟨r, h1, cell, q1, q2, q3, q4⟩ := he
  have hr : r = (C, T, N) := Option.some.inj (h1.symm.trans hc)
  subst hr
  obtain ⟨hS, hfc, kC, hkC, hkind⟩ := hK.1 ci _ hc
  obtain ⟨cf, kf, fi, f, hi, hsl⟩ := hS k hk
  have hlay := hts _ (hin _ (u_in_lay hk))
  unfold u_lay at hlay
  have hst := (u_facts hfc hkC (u_lays hts hin hk) hi).1
  by_cases hf : (T k).2.2.2 = true
  · rw [if_pos hf] at hlay
    rcases hfin with hfin | ⟨hin2, hdecl⟩
    · rw [hfin] at hf; cases hf
    have hcf : m.cls = cf := by
      obtain ⟨_, _, c', _, _, _, -, -, hf', -, -, -, hown2, -⟩ := Cond.laysFinal_spec hlay
      have e1 : c' = cf := by have := hi.symm.trans hf'; simp at this; exact this.1.symm
      rw [hdecl] at hown2
      rw [← e1]; exact Option.some.inj (hown.symm.trans hown2)
    have h6 := u_fits hfc hkC hkind (Or.inr hlay) hi (hty k hk) hn hfit
    refine W.putFinK hexec hb hown hlink hi hst hcf hin2 (by rw [q2]; exact h6) q1 q3 (by rw [hsl]; exact k2_hasslot (q4 k hk)) rfl rfl hdg fun H' e1 e2 e3 => ?_
    rw [hsl] at e1 ⊢
    exact kk H' _ ⟨_, hc, t_OB.to (V := updV (vp_V fs) k v) ⟨_, e1, q2, q3, t_set q4 hap hk v⟩ (fun j _ => vp_updV_set hl v j)⟩ e2 e3
  · rw [if_neg hf] at hlay
    have h6 := u_store hfc hkC hkind hlay hi (hty k hk) hn hfit
    refine W.putK hexec hb (f := f) ⟨hown, hlink, ⟨_, _, _, hi⟩, hst⟩ (by rw [q2]; exact h6) q1 q3 (by rw [hsl]; exact k2_hasslot (q4 k hk)) rfl rfl hdg fun H' e1 e2 e3 => ?_
    rw [hsl] at e1 ⊢
    exact kk H' _ ⟨_, hc, t_OB.to (V := updV (vp_V fs) k v) ⟨_, e1, q2, q3, t_set q4 hap hk v⟩ (fun j _ => vp_updV_set hl v j)⟩ e2 e3
end SP
end
section
/-! the rows of the abstract machine -/
theorem sr_lkF {own idx : Nat} {q : Nat × Nat} (ho : own < 9) (h : (sr_fls own).lookup idx = some q) : sr_okF own idx q.1 q.2 := sr_fls_ok ho _ (sr_lookup h)
theorem sr_P1 {D : va_G} {x : Nat × va_E} {H : Heap} (h : va_at D vwCl x H) : va_P D vwCl [x] H := by
  intro k q hq
  match k, hq with
  | 0, hq => cases hq; exact h
  | k + 1, hq => simp at hq
section SI
variable {md : sr_MD} {d pc nx tg : Nat} {L L' : sr_L} {st st' : List Value} {b : Nat × Nat} {h : sr_H} {P : Option Value → sr_H → Prop}
theorem sg_get {idx r : Nat} {q : Nat × Nat} (hd : decode md.2.2.1 pc = .ok (.getfield idx, 3)) (hq : (sr_fls md.1).lookup idx = some q) (hk : (h.2.1 r).1 = q.1) (hr : r < 1000000) (k : sr_Go md d (pc + 3) L (sr_av h r q.2 ((sr_ts q.1).getD q.2 0) :: st) b h P) : sr_Go md d pc L (.ref r :: st) b h P := by
  intro G p l e R s m args below meth c H locs cells slots Q ls F Rt hw lr hlen hlc hc1 hc2
  obtain ⟨hx, hb, hr_, hml, hown, hts, hlk, hnm, hK, hd1, hd2, ho⟩ := id F
  obtain ⟨C, T, N, hc, hkN, hl⟩ := sr_lkF ho hq
  obtain ⟨hc6, hCR, hin, hN, hT1, ty, hty, hnd, htc⟩ := sr_cl hc
  have hat := (hw.2.2.1 r (by rw [hk]; omega) hr).2
  rw [sr_ce_obj hk hc6] at hat
  have kk := k G p l e R s m args below meth c H locs cells slots Q ls F Rt hw lr hlen hlc hc1 hc2
  rw [List.map_cons, sr_cv_av] at kk
  rw [List.map_cons]
  show W p l e R s m args below meth c H locs cells slots Q (F0 m pc ls (.ref (sr_cr G r) :: _))
  rw [sr_cr_lo hr]
  exact va_get hx hb hts hin hown hK.1 (sr_P1 hat) 0 rfl hc q.2 hkN (hts _ (sr_inT hl rfl)) (fun _ h9 => h9) (sr_fs_at G h r q.1 (by rw [← hN]; exact hkN)) hd kk
theorem sr_fs_set {G : sr_G} {h h' : sr_H} {r c k : Nat} {v : Value} (hk : k < (sr_ts c).length) (hv : sr_fv G h' r k ((sr_ts c).getD k 0) = v) (ho : ∀ j t, j ≠ k → sr_fv G h' r j t = sr_fv G h r j t) : (sr_fs G h r c).set k v = sr_fs G h' r c := by
  apply List.ext_getElem?
  intro j
  by_cases hjk : k = j
  · subst hjk
    rw [List.getElem?_set_self (by rw [sr_fs_len]; exact hk), sr_fs_at G h' r c hk, hv]
  · rw [List.getElem?_set_ne hjk]
    by_cases hj : j < (sr_ts c).length
    · rw [sr_fs_at G h r c hj, sr_fs_at G h' r c hj, ho j _ (fun e => hjk e.symm)]
    · rw [List.getElem?_eq_none (by rw [sr_fs_len]; omega), List.getElem?_eq_none (by rw [sr_fs_len]; omega)]
theorem sr_locs {G : sr_G} {locs : List Loc} {a z : Nat} (h : ∀ q ∈ locs, G.1 ≤ q.base) (ha : G.1 ≤ a) : ∀ q ∈ locs ++ [⟨a, z⟩], G.1 ≤ q.base := by
  intro q hq
  rcases List.mem_append.mp hq with h1 | h1
  · exact h q h1
  · rw [List.mem_singleton.mp h1]; exact ha
theorem sg_put {h' : sr_H} {idx r : Nat} {q : Nat × Nat} {v : Value} (hd : decode md.2.2.1 pc = .ok (.putfield idx, 3)) (hq : (sr_fls md.1).lookup idx = some q) (hk : (h.2.1 r).1 = q.1) (hr : r < 1000000) (hfin : sr_fin q.1 q.2 = false ∨ (md.2.1.name = "<init>" ∧ md.1 = q.1))
    (hty : ∀ t : FieldType, sr_tyc t = (sr_ts q.1).getD q.2 0 → ∀ G : sr_G, narrow t (sr_cv G v) = sr_cv G v ∧ fits t (sr_cv G v) = true)
    (h1 : h'.1 = h.1) (h2 : h'.2.1 = h.2.1) (ho2 : ∀ z, z ≠ r → h'.2.2.1 z = h.2.2.1 z) (ho3 : ∀ z, z ≠ r → h'.2.2.2.1 z = h.2.2.2.1 z) (ho4 : ∀ z, z ≠ r → h'.2.2.2.2 z = h.2.2.2.2 z)
    (hv : ∀ G : sr_G, sr_fv G h' r q.2 ((sr_ts q.1).getD q.2 0) = sr_cv G v) (hv2 : ∀ (G : sr_G) (j t : Nat), j ≠ q.2 → sr_fv G h' r j t = sr_fv G h r j t)
    (k : sr_Go md d (pc + 3) L st b h' P) : sr_Go md d pc L (v :: .ref r :: st) b h P := by
  intro G p l e R s m args below meth c H locs cells slots Q ls F Rt hw lr hlen hlc hc1 hc2
  obtain ⟨hx, hb, hr_, hml, hown, hts, hlk, hnm, hK, hd1, hd2, ho⟩ := id F
  obtain ⟨C, T, N, hc, hkN, hl⟩ := sr_lkF ho hq
  obtain ⟨hc6, hCR, hin, hN, hT1, ty, hty', hnd, htc⟩ := sr_cl hc
  have hat := (hw.2.2.1 r (by rw [hk]; omega) hr).2
  rw [sr_ce_obj hk hc6] at hat
  rw [List.map_cons, List.map_cons]
  show W p l e R s m args below meth c H locs cells slots Q (F0 m pc ls (sr_cv G v :: .ref (sr_cr G r) :: _))
  rw [sr_cr_lo hr]
  obtain ⟨hn1, hn2⟩ := hty _ (htc q.2 hkN) G
  refine sr_put hx hb hts hin ty hty' hnd hown hK.1 hat hc q.2 hkN (hts _ (sr_inT hl rfl)) ?_ hn1 hn2 (by rw [sr_fs_len, ← hN]; exact hkN) hd (fun H1 z e1 e2 e3 => ?_)
  · rcases hfin with hf | ⟨hf1, hf2⟩
    · refine Or.inl ?_
      unfold sr_fin at hf
      rw [hc] at hf
      exact hf
    · refine Or.inr ⟨by rw [hnm]; exact hf1, by rw [hT1 q.2 hkN, hf2]⟩
  · rw [sr_fs_set (by rw [← hN]; exact hkN) (hv G) (hv2 G)] at e1
    have hk' : (h'.2.1 r).1 = q.1 := by rw [h2]; exact hk
    rw [← sr_ce_obj hk' hc6] at e1
    exact k G p l e R s m args below meth c H1 _ cells slots Q ls F Rt (sr_hw_set hw h1 h2 hr ho2 ho3 ho4 e1 e2 e3) lr hlen (sr_locs hlc (by omega)) hc1 hc2
theorem sr_u_same {α : Type} (f : Nat → Nat → α) (r k : Nat) (v : α) : sr_u f r k v r k = v := if_pos ⟨rfl, rfl⟩
theorem sr_u_ne {α : Type} (f : Nat → Nat → α) {r k j : Nat} (v : α) (h : j ≠ k) : sr_u f r k v r j = f r j := if_neg (fun e => h e.2)
theorem sr_u_row {α : Type} (f : Nat → Nat → α) {r k z : Nat} (v : α) (h : z ≠ r) : sr_u f r k v z = f z := by funext j; exact if_neg (fun e => h e.1)
theorem sg_putI {idx r : Nat} {q : Nat × Nat} {x : Int32} (hd : decode md.2.2.1 pc = .ok (.putfield idx, 3)) (hq : (sr_fls md.1).lookup idx = some q) (hk : (h.2.1 r).1 = q.1) (hr : r < 1000000) (hfin : sr_fin q.1 q.2 = false ∨ (md.2.1.name = "<init>" ∧ md.1 = q.1)) (ht : (sr_ts q.1).getD q.2 0 = 0) (k : sr_Go md d (pc + 3) L st b (sr_setI h r q.2 x) P) : sr_Go md d pc L (.int x :: .ref r :: st) b h P := by
  refine sg_put (h' := sr_setI h r q.2 x) hd hq hk hr hfin ?_ rfl rfl (fun z hz => sr_u_row _ _ hz) (fun _ _ => rfl) (fun _ _ => rfl) ?_ ?_ k
  · intro t ht2 G
    rw [ht] at ht2
    cases t <;> first | exact ⟨rfl, rfl⟩ | (simp [sr_tyc] at ht2; done)
  · intro G
    rw [ht]
    show Value.int (sr_u h.2.2.1 r q.2 x r q.2) = _
    rw [sr_u_same]; rfl
  · intro G j t hj
    unfold sr_fv sr_setI
    split
    · show Value.int (sr_u h.2.2.1 r q.2 x r j) = _
      rw [sr_u_ne _ _ hj]
    · rfl
    · rfl
theorem sg_putJ {idx r : Nat} {q : Nat × Nat} {x : Int64} (hd : decode md.2.2.1 pc = .ok (.putfield idx, 3)) (hq : (sr_fls md.1).lookup idx = some q) (hk : (h.2.1 r).1 = q.1) (hr : r < 1000000) (hfin : sr_fin q.1 q.2 = false ∨ (md.2.1.name = "<init>" ∧ md.1 = q.1)) (ht : (sr_ts q.1).getD q.2 0 = 1) (k : sr_Go md d (pc + 3) L st b (sr_setJ h r q.2 x) P) : sr_Go md d pc L (.long x :: .ref r :: st) b h P := by
  refine sg_put (h' := sr_setJ h r q.2 x) hd hq hk hr hfin ?_ rfl rfl (fun _ _ => rfl) (fun z hz => sr_u_row _ _ hz) (fun _ _ => rfl) ?_ ?_ k
  · intro t ht2 G
    rw [ht] at ht2
    cases t <;> first | exact ⟨rfl, rfl⟩ | (simp [sr_tyc] at ht2; done)
  · intro G
    rw [ht]
    show Value.long (sr_u h.2.2.2.1 r q.2 x r q.2) = _
    rw [sr_u_same]; rfl
  · intro G j t hj
    unfold sr_fv sr_setJ
    split
    · rfl
    · show Value.long (sr_u h.2.2.2.1 r q.2 x r j) = _
      rw [sr_u_ne _ _ hj]
    · rfl
theorem sg_putR {idx r : Nat} {q : Nat × Nat} {x : Option Nat} (hd : decode md.2.2.1 pc = .ok (.putfield idx, 3)) (hq : (sr_fls md.1).lookup idx = some q) (hk : (h.2.1 r).1 = q.1) (hr : r < 1000000) (hfin : sr_fin q.1 q.2 = false ∨ (md.2.1.name = "<init>" ∧ md.1 = q.1)) (ht : (sr_ts q.1).getD q.2 0 = 2) (k : sr_Go md d (pc + 3) L st b (sr_setR h r q.2 x) P) : sr_Go md d pc L (va_rf x :: .ref r :: st) b h P := by
  refine sg_put (h' := sr_setR h r q.2 x) hd hq hk hr hfin ?_ rfl rfl (fun _ _ => rfl) (fun _ _ => rfl) (fun z hz => sr_u_row _ _ hz) ?_ ?_ k
  · intro t ht2 G
    rw [ht] at ht2
    cases x <;> cases t <;> first | exact ⟨rfl, rfl⟩ | (simp [sr_tyc] at ht2; done)
  · intro G
    rw [ht]
    show va_rf ((sr_u h.2.2.2.2 r q.2 x r q.2).map (sr_cr G)) = _
    rw [sr_u_same]
    cases x <;> rfl
  · intro G j t hj
    unfold sr_fv sr_setR
    split
    · rfl
    · rfl
    · show va_rf ((sr_u h.2.2.2.2 r q.2 x r j).map (sr_cr G)) = _
      rw [sr_u_ne _ _ hj]
theorem sg_gets {idx j : Nat} (hd : decode md.2.2.1 pc = .ok (.getstatic idx, 3)) (hq : (sr_sls md.1).lookup idx = some j) (k : sr_Go md d (pc + 3) L (.ref (1000000 + j) :: st) b h P) : sr_Go md d pc L st b h P := by
  intro G p l e R s m args below meth c H locs cells slots Q ls F Rt hw lr hlen hlc hc1 hc2
  obtain ⟨hx, hb, hr_, hml, hown, hts, hlk, hnm, hK, hd1, hd2, ho⟩ := id F
  have hl := sr_sls_ok ho _ (sr_lookup hq)
  have hj : j < 2 := by
    have h1 := sr_lookup hq
    have h2 : ∀ own, own < 9 → ∀ q ∈ sr_sls own, q.2 < 2 := by decide +kernel
    exact h2 _ ho _ h1
  have kk := k G p l e R s m args below meth c H locs cells slots Q ls F Rt hw lr hlen hlc hc1 hc2
  have e1 : sr_cr G (1000000 + j) = G.2.2.2 j := by
    unfold sr_cr
    rw [if_neg (by omega), Nat.add_sub_cancel_left]
  obtain ⟨cf, kf, fi, f, a, cell, z1, z2, z3, z4, z5, z6, z7, z8⟩ := hw.2.2.2.2.2 j hj
  rw [List.map_cons] at kk
  have kk : W p l e R s m args below meth c H locs cells slots Q (F0 m (pc + 3) ls (.ref (G.2.2.2 j) :: st.map (sr_cv G))) := by rw [← e1]; exact kk
  exact va_WgetsN hx hb hown (va_Nw.use rfl (hK.2.1 _ (List.mem_filter.mpr ⟨hl, rfl⟩))) z1 z2 z3 z4 z5 (fun e => by rw [e] at z6; cases z6) z7 rfl hd kk
theorem sr_ix {k n : Nat} (hk : k < n) (hn : n < 2147483648) : (nI k).toNatClampNeg = k ∧ vp_in (nI k) n := ⟨nI_clamp (by omega), vp_in_nI hk (by omega)⟩
theorem sr_ty {G : sr_G} {s : State} (hK : sr_kn G s) : ∀ c : Nat, 6 ≤ c → c < 10 → ∃ (t : Nat) (ty : FieldType), (sr_tys G)[t]? = some (G.2.2.1 c, ty) := by
  intro c h1 h2
  match c, h1, h2 with
  | 6, _, _ => exact ⟨0, _, rfl⟩
  | 7, _, _ => exact ⟨1, _, rfl⟩
  | 8, _, _ => exact ⟨2, _, rfl⟩
  | 9, _, _ => exact ⟨3, _, rfl⟩
theorem sg_alen {r : Nat} (hd : decode md.2.2.1 pc = .ok (.arraylength, 1)) (h1 : 6 ≤ (h.2.1 r).1) (h2 : (h.2.1 r).1 < 10) (k : sr_Go md d (pc + 1) L (.int (nI (h.2.1 r).2) :: st) b h P) : sr_Go md d pc L (.ref r :: st) b h P := by
  intro G p l e R s m args below meth c H locs cells slots Q ls F Rt hw lr hlen hlc hc1 hc2
  obtain ⟨hx, hb, hr_, hml, hown, hts, hlk, hnm, hK, hd1, hd2, ho⟩ := id F
  have kk := k G p l e R s m args below meth c H locs cells slots Q ls F Rt hw lr hlen hlc hc1 hc2
  rw [List.map_cons] at kk ⊢
  show W p l e R s m args below meth c H locs cells slots Q (F0 m pc ls (.ref (sr_cr G r) :: _))
  by_cases hr : r < 1000000
  · have hat := (hw.2.2.1 r h2 hr).2
    rw [sr_cr_lo hr]
    obtain ⟨t, ty, ht⟩ := sr_ty hK _ h1 h2
    by_cases h9 : (h.2.1 r).1 = 9
    · rw [sr_ce_ref h9] at hat
      rw [h9] at ht
      exact va_alen hx hb hK.1 (sr_P1 hat) 0 t rfl ht rfl hd kk
    · rw [sr_ce_int rfl h1 (by omega)] at hat
      exact va_alen hx hb hK.1 (sr_P1 hat) 0 t rfl ht rfl hd kk
  · obtain ⟨-, cell, z1, z2, z3, z4, z5, z6, z7⟩ := hw.2.2.2.2.1 r h2 hr
    exact W.alen (n := nI (h.2.1 r).2) hx hb z1 z2 z5 rfl rfl hd kk
theorem sg_iald {r k : Nat} {i : Int32} (hd : decode md.2.2.1 pc = .ok (.iaload, 1)) (h1 : (h.2.1 r).1 = 7) (hi : i = nI k) (hk : k < (h.2.1 r).2) (kk : sr_Go md d (pc + 1) L (.int (h.2.2.1 r k) :: st) b h P) : sr_Go md d pc L (.int i :: .ref r :: st) b h P := by
  intro G p l e R s m args below meth c H locs cells slots Q ls F Rt hw lr hlen hlc hc1 hc2
  obtain ⟨hx, hb, hr_, hml, hown, hts, hlk, hnm, hK, hd1, hd2, ho⟩ := id F
  have kk := kk G p l e R s m args below meth c H locs cells slots Q ls F Rt hw lr hlen hlc hc1 hc2
  obtain ⟨ic, iv⟩ := sr_ix hk (hw.2.2.2.1 r)
  subst hi
  rw [List.map_cons] at kk ⊢
  rw [List.map_cons]
  show W p l e R s m args below meth c H locs cells slots Q (F0 m pc ls (.int (nI k) :: .ref (sr_cr G r) :: _))
  by_cases hr : r < 1000000
  · have hat := (hw.2.2.1 r (by omega) hr).2
    rw [sr_cr_lo hr]
    rw [sr_ce_int h1 (by omega) (by omega)] at hat
    exact va_iald hx hb hK.1 (sr_P1 hat) 0 1 rfl rfl iv hd (by rw [ic]; exact kk)
  · obtain ⟨-, cell, z1, z2, z3, z4, z5, z6, z7⟩ := hw.2.2.2.2.1 r (by omega) hr
    exact W.iald (v := .int (h.2.2.1 r k)) hx hb z1 z2 z3 (by rw [ic]; exact fun q => q.elim (fun q => iv (Or.inl q)) (fun q => by omega)) (by rw [ic]; exact z6 k hk) rfl rfl hd kk
theorem sg_bald {r k : Nat} {i : Int32} (hd : decode md.2.2.1 pc = .ok (.baload, 1)) (h1 : (h.2.1 r).1 = 6 ∨ (h.2.1 r).1 = 8) (hr : r < 1000000) (hi : i = nI k) (hk : k < (h.2.1 r).2) (kk : sr_Go md d (pc + 1) L (.int (h.2.2.1 r k) :: st) b h P) : sr_Go md d pc L (.int i :: .ref r :: st) b h P := by
  intro G p l e R s m args below meth c H locs cells slots Q ls F Rt hw lr hlen hlc hc1 hc2
  obtain ⟨hx, hb, hr_, hml, hown, hts, hlk, hnm, hK, hd1, hd2, ho⟩ := id F
  have kk := kk G p l e R s m args below meth c H locs cells slots Q ls F Rt hw lr hlen hlc hc1 hc2
  obtain ⟨ic, iv⟩ := sr_ix hk (hw.2.2.2.1 r)
  subst hi
  rw [List.map_cons] at kk ⊢
  rw [List.map_cons]
  show W p l e R s m args below meth c H locs cells slots Q (F0 m pc ls (.int (nI k) :: .ref (sr_cr G r) :: _))
  have hat := (hw.2.2.1 r (by omega) hr).2
  rw [sr_cr_lo hr]
  have hin : ∀ cA n f, n = (h.2.1 r).2 → ¬ (nI k < 0 ∨ (arrV cA n f).slots.size ≤ (nI k).toNatClampNeg) := fun cA n f hn => by rw [arrV_size, hn]; exact iv
  rcases h1 with h1 | h1
  · rw [sr_ce_int h1 (by omega) (by omega)] at hat
    exact W.bald (v := .int (h.2.2.1 r k)) hx hb hat ((hK.1.2 0 _ rfl).1 _ _) (fun q => by cases q) (hin _ _ _ rfl) (by rw [ic]; exact arrV_read _ _ hk) rfl rfl hd kk
  · rw [sr_ce_int h1 (by omega) (by omega)] at hat
    exact W.zald (v := .int (h.2.2.1 r k)) hx hb hat ((hK.1.2 2 _ rfl).1 _ _) (fun q => by cases q) (hin _ _ _ rfl) (by rw [ic]; exact arrV_read _ _ hk) rfl rfl hd kk
theorem sg_aald {r k : Nat} {i : Int32} (hd : decode md.2.2.1 pc = .ok (.aaload, 1)) (h1 : (h.2.1 r).1 = 9) (hr : r < 1000000) (hi : i = nI k) (hk : k < (h.2.1 r).2) (kk : sr_Go md d (pc + 1) L (va_rf (h.2.2.2.2 r k) :: st) b h P) : sr_Go md d pc L (.int i :: .ref r :: st) b h P := by
  intro G p l e R s m args below meth c H locs cells slots Q ls F Rt hw lr hlen hlc hc1 hc2
  obtain ⟨hx, hb, hr_, hml, hown, hts, hlk, hnm, hK, hd1, hd2, ho⟩ := id F
  have kk := kk G p l e R s m args below meth c H locs cells slots Q ls F Rt hw lr hlen hlc hc1 hc2
  obtain ⟨ic, iv⟩ := sr_ix hk (hw.2.2.2.1 r)
  subst hi
  rw [List.map_cons] at kk ⊢
  rw [List.map_cons]
  show W p l e R s m args below meth c H locs cells slots Q (F0 m pc ls (.int (nI k) :: .ref (sr_cr G r) :: _))
  have hat := (hw.2.2.1 r (by omega) hr).2
  rw [sr_cr_lo hr]
  rw [sr_ce_ref h1] at hat
  have e1 : sr_cv G (va_rf (h.2.2.2.2 r k)) = va_rf ((h.2.2.2.2 r k).map (sr_cr G)) := by cases h.2.2.2.2 r k <;> rfl
  rw [e1] at kk
  exact va_aldq hx hb hK.1 (sr_P1 hat) 0 3 rfl rfl iv hd (by rw [ic]; exact kk)
end SI
end
section
/-! stores, new cells -/
section SJ
variable {md : sr_MD} {d pc nx tg : Nat} {L L' : sr_L} {st st' : List Value} {b : Nat × Nat} {h : sr_H} {P : Option Value → sr_H → Prop}
theorem sr_ceI {G : sr_G} {r k : Nat} {x : Int32} {c : Nat} (h1 : (h.2.1 r).1 = c) (hc : 6 ≤ c) (hc2 : c < 9) : sr_ce G (sr_setI h r k x) r = .inl (G.2.2.1 c, (h.2.1 r).2, .inl (upd (h.2.2.1 r) k x)) := by
  rw [sr_ce_int (h := sr_setI h r k x) h1 hc hc2]
  have e1 : (sr_setI h r k x).2.2.1 r = upd (h.2.2.1 r) k x := by
    funext j
    show sr_u h.2.2.1 r k x r j = _
    by_cases hj : j = k
    · subst hj; rw [sr_u_same]; exact (if_pos rfl).symm
    · rw [sr_u_ne _ _ hj]; exact (if_neg hj).symm
  rw [e1]; rfl
theorem sr_updI {f : Nat → Int32} {k : Nat} {x : Int32} : updV (fun j => .int (f j)) k (.int x) = fun j => .int (upd f k x j) := by
  funext j
  by_cases hj : j = k
  · subst hj; simp [updV, upd]
  · simp [updV, upd, hj]
theorem sg_iast {r k : Nat} {i x : Int32} (hd : decode md.2.2.1 pc = .ok (.iastore, 1)) (h1 : (h.2.1 r).1 = 7) (hr : r < 1000000) (hi : i = nI k) (hk : k < (h.2.1 r).2) (kk : sr_Go md d (pc + 1) L st b (sr_setI h r k x) P) : sr_Go md d pc L (.int x :: .int i :: .ref r :: st) b h P := by
  intro G p l e R s m args below meth c H locs cells slots Q ls F Rt hw lr hlen hlc hc1 hc2
  obtain ⟨hx, hb, hr_, hml, hown, hts, hlk, hnm, hK, hd1, hd2, ho⟩ := id F
  obtain ⟨ic, iv⟩ := sr_ix hk (hw.2.2.2.1 r)
  subst hi
  have hat := (hw.2.2.1 r (by omega) hr).2
  rw [sr_ce_int h1 (by omega) (by omega)] at hat
  show W p l e R s m args below meth c H locs cells slots Q (F0 m pc ls (.int x :: .int (nI k) :: .ref (sr_cr G r) :: _))
  rw [sr_cr_lo hr]
  refine W.iast hx hb hat ((hK.1.2 1 _ rfl).1 _ _) (fun q => by cases q) (by show ¬ (nI k < 0 ∨ (arrV _ _ _).slots.size ≤ _); rw [arrV_size]; exact iv) rfl rfl hd fun H1 e z oq => ?_
  refine kk G p l _ R s m args below meth c H1 _ cells slots Q ls F Rt (sr_hw_set hw rfl rfl hr (fun z hz => sr_u_row _ _ hz) (fun _ _ => rfl) (fun _ _ => rfl) ?_ z oq) lr hlen (sr_locs hlc (by omega)) hc1 hc2
  rw [sr_ceI h1 (by omega) (by omega)]
  show H1[G.1 + r]? = some (vp_cell _ _)
  rw [e, vp_cell_i, vp_cell_i, arrV_store, ic, sr_updI]
theorem sg_bast {r k : Nat} {i x : Int32} (hd : decode md.2.2.1 pc = .ok (.bastore, 1)) (h1 : (h.2.1 r).1 = 6) (hr : r < 1000000) (hi : i = nI k) (hk : k < (h.2.1 r).2) (kk : sr_Go md d (pc + 1) L st b (sr_setI h r k x.toInt8.toInt32) P) : sr_Go md d pc L (.int x :: .int i :: .ref r :: st) b h P := by
  intro G p l e R s m args below meth c H locs cells slots Q ls F Rt hw lr hlen hlc hc1 hc2
  obtain ⟨hx, hb, hr_, hml, hown, hts, hlk, hnm, hK, hd1, hd2, ho⟩ := id F
  obtain ⟨ic, iv⟩ := sr_ix hk (hw.2.2.2.1 r)
  subst hi
  have hat := (hw.2.2.1 r (by omega) hr).2
  rw [sr_ce_int h1 (by omega) (by omega)] at hat
  show W p l e R s m args below meth c H locs cells slots Q (F0 m pc ls (.int x :: .int (nI k) :: .ref (sr_cr G r) :: _))
  rw [sr_cr_lo hr]
  refine W.bast hx hb hat ((hK.1.2 0 _ rfl).1 _ _) (fun q => by cases q) (by show ¬ (nI k < 0 ∨ (arrV _ _ _).slots.size ≤ _); rw [arrV_size]; exact iv) rfl rfl hd fun H1 e z oq => ?_
  refine kk G p l _ R s m args below meth c H1 _ cells slots Q ls F Rt (sr_hw_set hw rfl rfl hr (fun z hz => sr_u_row _ _ hz) (fun _ _ => rfl) (fun _ _ => rfl) ?_ z oq) lr hlen (sr_locs hlc (by omega)) hc1 hc2
  rw [sr_ceI h1 (by omega) (by omega)]
  show H1[G.1 + r]? = some (vp_cell _ _)
  rw [e, vp_cell_i, vp_cell_i, arrV_store, ic, narrow_byte, sr_updI]
theorem sg_zast {r k : Nat} {i x : Int32} (hd : decode md.2.2.1 pc = .ok (.bastore, 1)) (h1 : (h.2.1 r).1 = 8) (hr : r < 1000000) (hi : i = nI k) (hk : k < (h.2.1 r).2) (hx01 : x = 0 ∨ x = 1) (kk : sr_Go md d (pc + 1) L st b (sr_setI h r k x) P) : sr_Go md d pc L (.int x :: .int i :: .ref r :: st) b h P := by
  intro G p l e R s m args below meth c H locs cells slots Q ls F Rt hw lr hlen hlc hc1 hc2
  obtain ⟨hx, hb, hr_, hml, hown, hts, hlk, hnm, hK, hd1, hd2, ho⟩ := id F
  obtain ⟨ic, iv⟩ := sr_ix hk (hw.2.2.2.1 r)
  subst hi
  have hat := (hw.2.2.1 r (by omega) hr).2
  rw [sr_ce_int h1 (by omega) (by omega)] at hat
  show W p l e R s m args below meth c H locs cells slots Q (F0 m pc ls (.int x :: .int (nI k) :: .ref (sr_cr G r) :: _))
  rw [sr_cr_lo hr]
  refine W.zast hx hb hat ((hK.1.2 2 _ rfl).1 _ _) (fun q => by cases q) (by show ¬ (nI k < 0 ∨ (arrV _ _ _).slots.size ≤ _); rw [arrV_size]; exact iv) rfl rfl hd fun H1 e z oq => ?_
  refine kk G p l _ R s m args below meth c H1 _ cells slots Q ls F Rt (sr_hw_set hw rfl rfl hr (fun z hz => sr_u_row _ _ hz) (fun _ _ => rfl) (fun _ _ => rfl) ?_ z oq) lr hlen (sr_locs hlc (by omega)) hc1 hc2
  rw [sr_ceI h1 (by omega) (by omega)]
  show H1[G.1 + r]? = some (vp_cell _ _)
  have en : narrow .boolean (.int x) = .int x := by rcases hx01 with rfl | rfl <;> decide +kernel
  rw [e, vp_cell_i, vp_cell_i, arrV_store, ic, en, sr_updI]
theorem sg_aast {r k v : Nat} {i : Int32} (hd : decode md.2.2.1 pc = .ok (.aastore, 1)) (h1 : (h.2.1 r).1 = 9) (hr : r < 1000000) (hv1 : (h.2.1 v).1 = 1) (hv : v < 1000000) (hi : i = nI k) (hk : k < (h.2.1 r).2) (kk : sr_Go md d (pc + 1) L st b (sr_setR h r k (some v)) P) : sr_Go md d pc L (.ref v :: .int i :: .ref r :: st) b h P := by
  intro G p l e R s m args below meth c H locs cells slots Q ls F Rt hw lr hlen hlc hc1 hc2
  obtain ⟨hx, hb, hr_, hml, hown, hts, hlk, hnm, hK, hd1, hd2, ho⟩ := id F
  obtain ⟨ic, iv⟩ := sr_ix hk (hw.2.2.2.1 r)
  subst hi
  have hat := (hw.2.2.1 r (by omega) hr).2
  rw [sr_ce_ref h1] at hat
  have hatv := (hw.2.2.1 v (by omega) hv).2
  rw [sr_ce_obj hv1 (by omega)] at hatv
  show W p l e R s m args below meth c H locs cells slots Q (F0 m pc ls (.ref (sr_cr G v) :: .int (nI k) :: .ref (sr_cr G r) :: _))
  rw [sr_cr_lo hr, sr_cr_lo hv]
  have hlt : (nI k).toNatClampNeg < (h.2.1 r).2 := by rw [ic]; exact hk
  have h0 : ¬ nI k < 0 := fun q => iv (Or.inl q)
  obtain ⟨r', hr', cellV, g1, g2, g3, -⟩ := hatv
  have hcls := (hK.1.1 1 (RX1, TX1, 7) rfl).2
  obtain ⟨kA, comp, k1, k2, k3, -⟩ := (hK.1.2 3 _ rfl).2
  have hcomp : comp = G.2.1.1 1 := Option.some.inj (k3.symm.trans hcls.1)
  subst hcomp
  obtain ⟨kC, hkC, -⟩ := hcls.2
  refine W.aast hx hb hat (fun q h => by cases h) (fun h => by cases h) k1 k2 rfl hkC ⟨h0, by show _ < (arrV _ _ _).slots.size; rw [arrV_size]; exact hlt⟩ g1 (fun q h => by rw [g3] at h; cases h) (by rw [g2]; exact hkC) (by rw [g2]; exact va_assign hcls) rfl rfl hd fun H1 e z oq => ?_
  refine kk G p l _ R s m args below meth c H1 _ cells slots Q ls F Rt (sr_hw_set hw rfl rfl hr (fun _ _ => rfl) (fun _ _ => rfl) (fun z hz => sr_u_row _ _ hz) ?_ z oq) lr hlen (sr_locs hlc (by omega)) hc1 hc2
  rw [sr_ce_ref (h := sr_setR h r k (some v)) h1]
  show H1[G.1 + r]? = some (vp_cell _ _)
  rw [e, vp_cell_q, vp_cell_q, arrV_store, ic]
  congr 2
  funext j
  show updV _ k (.ref (G.1 + v)) j = va_rf ((sr_u h.2.2.2.2 r k (some v) r j).map (sr_cr G))
  by_cases hj : j = k
  · subst hj
    rw [sr_u_same]
    simp [updV, va_rf, sr_cr_lo hv]
  · rw [sr_u_ne _ _ hj]
    simp [updV, hj]
theorem sr_new_K (h : sr_H) (kd : Nat × Nat) : (sr_new h kd).2.1 h.1 = kd := if_pos rfl
theorem sr_new_I (h : sr_H) (kd : Nat × Nat) : (sr_new h kd).2.2.1 h.1 = fun _ => 0 := by funext k; exact if_pos rfl
theorem sr_new_J (h : sr_H) (kd : Nat × Nat) : (sr_new h kd).2.2.2.1 h.1 = fun _ => 0 := by funext k; exact if_pos rfl
theorem sr_new_R (h : sr_H) (kd : Nat × Nat) : (sr_new h kd).2.2.2.2 h.1 = fun _ => none := by funext k; exact if_pos rfl
theorem sr_ts_lt (c k : Nat) : (sr_ts c).getD k 0 < 3 := by
  by_cases hc : c < 6
  · by_cases hk : k < 40
    · have : ∀ c, c < 6 → ∀ k, k < 40 → (sr_ts c).getD k 0 < 3 := by decide +kernel
      exact this c hc k hk
    · have : ∀ c, c < 6 → (sr_ts c).length ≤ 40 := by decide +kernel
      rw [List.getD_eq_getElem?_getD, List.getElem?_eq_none (by have := this c hc; omega)]; decide
  · have e : sr_ts c = [] := by
      unfold sr_ts
      rw [List.getD_eq_getElem?_getD, List.getElem?_eq_none (by show 6 ≤ c; omega)]; rfl
    simp [e]
theorem sg_new {idx cn : Nat} (hd : decode md.2.2.1 pc = .ok (.new idx, 3)) (hq : (sr_nls md.1).lookup idx = some cn) (hb1 : 1 ≤ b.1) (hb2 : (sr_ts cn).length ≤ b.2) (hn : h.1 < 1000000) (kk : sr_Go md d (pc + 3) L (.ref h.1 :: st) (b.1 - 1, b.2 - (sr_ts cn).length) (sr_new h (cn, 0)) P) : sr_Go md d pc L st b h P := by
  intro G p l e R s m args below meth c H locs cells slots Q ls F Rt hw lr hlen hlc hc1 hc2
  obtain ⟨hx, hb, hr_, hml, hown, hts, hlk, hnm, hK, hd1, hd2, ho⟩ := id F
  obtain ⟨C, T, N, hc, hl1, hl2, hl3⟩ := sr_nls_ok ho _ (sr_lookup hq)
  dsimp only at hc hl1
  obtain ⟨hc6, hCR, hin, hN, hT1, ty, hty, hnd, htc⟩ := sr_cl hc
  have hKn := hK.1.1 cn _ hc
  subst hN
  refine W.newcK hx hb hown (hts _ (sr_inT hl1 rfl)) (hts _ (sr_inT hl2 rfl)) (hts _ (sr_inT hl3 rfl)) rfl hd (by omega) (by omega) hKn.2.1 rfl fun H1 kC hkC e1 z1 o1 => ?_
  rw [hw.1]
  have kk := kk G p l e R s m args below meth c H1 locs (cells + 1) (slots + (sr_ts cn).length) Q ls F Rt (sr_hw_new hw hn (by show 0 < 2147483648; omega) ?_ z1 o1) lr hlen hlc (by show cells + 1 + (b.1 - 1) ≤ _; omega) (by show slots + _ + (b.2 - _) ≤ _; omega)
  · have e2 : sr_cv G (.ref h.1) = .ref (G.1 + h.1) := by
      show Value.ref (sr_cr G h.1) = _
      rw [sr_cr_lo hn]
    rw [List.map_cons, e2] at kk
    exact kk
  · rw [sr_ce_obj (c := cn) (by rw [sr_new_K]) hc6]
    rw [hw.1] at e1
    refine ⟨_, hc, (u_born ty hts hin hKn hkC e1 hty).to ?_⟩
    intro j hj
    have hj : j < (sr_ts cn).length := hj
    unfold vp_V
    rw [List.getD_eq_getElem?_getD, sr_fs_at G _ h.1 cn hj]
    show defaultValue (ty j) = sr_fv G _ h.1 j _
    have ht := htc j hj
    unfold sr_fv
    rw [sr_new_I, sr_new_J, sr_new_R, ← ht]
    cases hty9 : ty j <;> first | rfl | exact absurd (sr_ts_lt cn j) (by rw [← ht, hty9]; decide)
end SJ
end
section
/-! arrays that come, copies, calls, returns -/
section SK
variable {md : sr_MD} {d pc nx tg : Nat} {L L' : sr_L} {st st' : List Value} {b : Nat × Nat} {h : sr_H} {P : Option Value → sr_H → Prop}
theorem sr_nI_pos {N : Nat} (h : N < 2147483648) : ¬ nI N < 0 := nI_pos (by omega)
theorem sr_arrW : Cond.arrayClass .int ∈ lw_tbl ∧ Cond.arrayClass .byte ∈ lw_tbl ∧ Cond.arrayClass .boolean ∈ lw_tbl := by decide +kernel
theorem sg_newa {t : ArrayType} {n : Int32} {N : Nat} (hd : decode md.2.2.1 pc = .ok (.newarray t, 2)) (hn : n = nI N) (hN : N < 100000) (hb1 : 1 ≤ b.1) (hb2 : N ≤ b.2) (hn1 : h.1 < 1000000) (ht : sr_ak t < 10) (kk : sr_Go md d (pc + 2) L (.ref h.1 :: st) (b.1 - 1, b.2 - N) (sr_new h (sr_ak t, N)) P) : sr_Go md d pc L (.int n :: st) b h P := by
  intro G p l e R s m args below meth c H locs cells slots Q ls F Rt hw lr hlen hlc hc1 hc2
  obtain ⟨hx, hb, hr_, hml, hown, hts, hlk, hnm, hK, hd1, hd2, ho⟩ := id F
  subst hn
  have hcl : (nI N).toNatClampNeg = N := nI_clamp (by omega)
  have e2 : sr_cv G (.ref h.1) = .ref (G.1 + h.1) := by
    show Value.ref (sr_cr G h.1) = _
    rw [sr_cr_lo hn1]
  have key : ∀ (H1 : Heap) (cA : ClassId), cA = G.2.2.1 (sr_ak t) → 6 ≤ sr_ak t → sr_ak t < 9 → H1[G.1 + h.1]? = some (arrV cA N (fun _ => .int 0)) → H1.size = G.1 + h.1 + 1 → (∀ q, q < G.1 + h.1 → H1[q]? = H[q]?) → W p l e R s m args below meth c H1 locs (cells + 1) (slots + N) Q (F0 m (pc + 2) ls (.ref (G.1 + h.1) :: st.map (sr_cv G))) := by
    intro H1 cA hcA h6 h9 e1 z1 o1
    have kk := kk G p l e R s m args below meth c H1 locs (cells + 1) (slots + N) Q ls F Rt (sr_hw_new hw hn1 (by show N < 2147483648; omega) ?_ (by rw [z1, hw.1]) (fun q hq => o1 q (by rw [← hw.1]; exact hq))) lr hlen hlc (by show cells + 1 + (b.1 - 1) ≤ _; omega) (by show slots + _ + (b.2 - _) ≤ _; omega)
    · rw [List.map_cons, e2] at kk
      exact kk
    · rw [sr_ce_int (c := sr_ak t) (by rw [sr_new_K]) h6 h9, sr_new_I, sr_new_K, ← hcA]
      show H1[G.1 + h.1]? = some (vp_cell _ _)
      rw [e1, vp_cell_i]
  cases t with
  | int =>
    refine va_newaK (atype := .int) hx hb (hts _ (sr_inT sr_arrW.1 rfl)) rfl hd rfl (sr_nI_pos (by omega)) hcl (by show N * 4 ≤ _; omega) (by omega) (by omega) hw.1 fun H1 cA e1 z1 o1 hAr hNm => ?_
    exact key H1 cA (Option.some.inj (hNm.symm.trans (hK.1.2 1 _ rfl).2)) (by decide) (by decide) e1 z1 o1
  | byte =>
    refine va_newaK (atype := .byte) hx hb (hts _ (sr_inT sr_arrW.2.1 rfl)) rfl hd rfl (sr_nI_pos (by omega)) hcl (by show N * 1 ≤ _; omega) (by omega) (by omega) hw.1 fun H1 cA e1 z1 o1 hAr hNm => ?_
    exact key H1 cA (Option.some.inj (hNm.symm.trans (hK.1.2 0 _ rfl).2)) (by decide) (by decide) e1 z1 o1
  | boolean =>
    refine va_newaK (atype := .boolean) hx hb (hts _ (sr_inT sr_arrW.2.2 rfl)) rfl hd rfl (sr_nI_pos (by omega)) hcl (by show N * 1 ≤ _; omega) (by omega) (by omega) hw.1 fun H1 cA e1 z1 o1 hAr hNm => ?_
    exact key H1 cA (Option.some.inj (hNm.symm.trans (hK.1.2 2 _ rfl).2)) (by decide) (by decide) e1 z1 o1
  | _ => exact absurd ht (by decide)
theorem sg_anew {idx : Nat} {n : Int32} {N : Nat} (hd : decode md.2.2.1 pc = .ok (.anewarray idx, 3)) (hq : (sr_nls md.1).lookup idx = some 1) (hn : n = nI N) (hN : N < 100000) (hb1 : 1 ≤ b.1) (hb2 : N ≤ b.2) (hn1 : h.1 < 1000000) (kk : sr_Go md d (pc + 3) L (.ref h.1 :: st) (b.1 - 1, b.2 - N) (sr_new h (9, N)) P) : sr_Go md d pc L (.int n :: st) b h P := by
  intro G p l e R s m args below meth c H locs cells slots Q ls F Rt hw lr hlen hlc hc1 hc2
  obtain ⟨hx, hb, hr_, hml, hown, hts, hlk, hnm, hK, hd1, hd2, ho⟩ := id F
  obtain ⟨C, T, N9, hc, hl1, hl2, hl3⟩ := sr_nls_ok ho _ (sr_lookup hq)
  cases hc
  subst hn
  have hcl : (nI N).toNatClampNeg = N := nI_clamp (by omega)
  have e2 : sr_cv G (.ref h.1) = .ref (G.1 + h.1) := by
    show Value.ref (sr_cr G h.1) = _
    rw [sr_cr_lo hn1]
  refine W.anew hx hb hown (hts _ (sr_inT hl1 rfl)) (va_AO.use hK.2.2) rfl hd rfl (sr_nI_pos (by omega)) (by rw [hcl]; omega) (by omega) (by rw [hcl]; omega) fun cA kA comp f1 f2 f3 f4 => ?_
  rw [hcl]
  generalize hH1 : H.push ({ cls := cA, slots := Array.replicate N .null, vm := .none } : Cell) = H1
  have z1 : H1.size = H.size + 1 := by rw [← hH1, Array.size_push]
  have e1 : H1[H.size]? = some (arrV cA N (fun _ => .null)) := by rw [← hH1, Array.getElem?_push_size, ← arrV_new]
  have o1 : ∀ q : Nat, q < H.size → H1[q]? = H[q]? := fun q hq => by rw [← hH1, Array.getElem?_push, if_neg (Nat.ne_of_lt hq)]
  obtain ⟨kA', comp', k1, k2, k3, k4⟩ := (hK.1.2 3 _ rfl).2
  have hcA : cA = G.2.2.1 9 := Option.some.inj (f1.symm.trans k4)
  have kk := kk G p l e R s m args below meth c H1 locs (cells + 1) (slots + N) Q ls F Rt (sr_hw_new hw hn1 (by show N < 2147483648; omega) ?_ z1 o1) lr hlen hlc (by show cells + 1 + (b.1 - 1) ≤ _; omega) (by show slots + _ + (b.2 - _) ≤ _; omega)
  · rw [List.map_cons, e2] at kk
    rw [hw.1]
    exact kk
  · rw [sr_ce_ref (by rw [sr_new_K]), sr_new_R, sr_new_K, ← hcA]
    show H1[G.1 + h.1]? = some (vp_cell _ _)
    rw [hw.1] at e1
    rw [e1, vp_cell_q]
    rfl
theorem sr_objW : Cond.instanceMethod objectInit ∈ lw_tbl ∧ Cond.code objectInit ⟨#[0xb1]⟩ 1 none ∈ lw_tbl := ⟨List.mem_append_right _ (List.mem_of_getElem? (i := 16) (by decide +kernel)), List.mem_append_right _ (List.mem_of_getElem? (i := 17) (by decide +kernel))⟩
theorem sr_wsum {G : sr_G} {rest : List Value} (h : (rest.map fun v => v.category).sum ≤ 8) : ((rest.map (sr_cv G)).map fun v => v.category).sum ≤ 8 := by rw [sr_cat_map]; exact h
theorem sg_obj {idx r : Nat} {md' : sr_MD} (hd : decode md.2.2.1 pc = .ok (.invokespecial idx, 3)) (hq : (sr_mls md.1).lookup idx = some (3, md')) (h8 : (st.map fun v => v.category).sum ≤ 8) (hd0 : 0 < d) (kk : sr_Go md d (pc + 3) L st b h P) : sr_Go md d pc L (.ref r :: st) b h P := by
  intro G p l e R s m args below meth c H locs cells slots Q ls F Rt hw lr hlen hlc hc1 hc2
  obtain ⟨hx, hb, hr_, hml, hown, hts, hlk, hnm, hK, hd1, hd2, ho⟩ := id F
  have hl : Cond.methodLink (sr_R md.1) idx objectInit ∈ lw_tbl := sr_mls_ok ho _ (sr_lookup hq)
  refine W.objInit hx hb hown (hts _ (sr_inT hl rfl)) (hts _ (sr_inT sr_objW.1 rfl)) (hts _ (sr_inT sr_objW.2 rfl)) rfl ?_ rfl hd (by omega) ?_ (kk G p l e R s m args below meth c H locs cells slots Q ls F Rt hw lr hlen hlc hc1 hc2)
  · show ls.size = _; rw [lr.1, hlen, hml]
  · have := sr_wsum (G := G) h8
    show 2 * 0 + _ + 12 ≤ _
    omega
theorem sr_maxW : Cond.static Lib.Math.max.name ∈ lw_tbl ∧ Cond.initialized "java/lang/Math" ∈ lw_tbl ∧ Cond.code Lib.Math.max.name Lib.Math.max.code 2 (some .int) ∈ lw_tbl := ⟨by decide +kernel, by decide +kernel, by decide +kernel⟩
theorem sg_max {idx : Nat} {md' : sr_MD} {x y : Int32} (hd : decode md.2.2.1 pc = .ok (.invokestatic idx, 3)) (hq : (sr_mls md.1).lookup idx = some (6, md')) (h8 : (st.map fun v => v.category).sum ≤ 8) (hd0 : 0 < d) (kk : sr_Go md d (pc + 3) L (.int (if x < y then y else x) :: st) b h P) : sr_Go md d pc L (.int y :: .int x :: st) b h P := by
  intro G p l e R s m args below meth c H locs cells slots Q ls F Rt hw lr hlen hlc hc1 hc2
  obtain ⟨hx, hb, hr_, hml, hown, hts, hlk, hnm, hK, hd1, hd2, ho⟩ := id F
  have hl : Cond.methodLink (sr_R md.1) idx yJ9_max_7cf53 ∈ lw_tbl := sr_mls_ok ho _ (sr_lookup hq)
  have h9 := sr_wsum (G := G) h8
  refine va_mmax hx hb (by rw [hml, ← hlen, lr.1]) hown (hts _ (sr_inT hl rfl)) (hts _ (sr_inT sr_maxW.1 rfl)) (hts _ (sr_inT sr_maxW.2.1 rfl)) (hts _ (sr_inT sr_maxW.2.2 rfl)) (by omega) (by omega) (by omega) (by omega) hd (kk G p l e R s m args below meth c H locs cells slots Q ls F Rt hw lr hlen hlc hc1 hc2)
end SK
end
section
/-! copies, contracts, calls -/
section SL
variable {md : sr_MD} {d pc nx tg : Nat} {L L' : sr_L} {st st' : List Value} {b : Nat × Nat} {h : sr_H} {P : Option Value → sr_H → Prop}
theorem sr_cpyW : Cond.native arraycopyName ∈ lw_tbl ∧ Cond.static arraycopyName ∈ lw_tbl ∧ Cond.initialized "java/lang/System" ∈ lw_tbl := ⟨List.mem_append_right _ (List.mem_of_getElem? (i := 256) (by decide +kernel)), List.mem_append_right _ (List.mem_of_getElem? (i := 255) (by decide +kernel)), List.mem_append_right _ (List.mem_of_getElem? (i := 7) (by decide +kernel))⟩
theorem sg_copy {idx a a0 i j k : Nat} {md' : sr_MD} {sp dp n : Int32} (hd : decode md.2.2.1 pc = .ok (.invokestatic idx, 3)) (hq : (sr_mls md.1).lookup idx = some (4, md')) (ha : (h.2.1 a).1 = 7) (ha0 : (h.2.1 a0).1 = 7) (hr : a < 1000000) (hr0 : a0 < 1000000) (h8 : (st.map fun v => v.category).sum ≤ 8) (hd0 : 0 < d)
    (hsp : sp = nI i) (hdp : dp = nI j) (hn : n = nI k) (h4 : i + k ≤ (h.2.1 a0).2) (h5 : j + k ≤ (h.2.1 a).2)
    (kk : sr_Go md d (pc + 3) L st b (sr_setA h a (va_cpy (h.2.2.1 a0) (h.2.2.1 a) i j k)) P) : sr_Go md d pc L (.int n :: .int dp :: .ref a :: .int sp :: .ref a0 :: st) b h P := by
  intro G p l e R s m args below meth c H locs cells slots Q ls F Rt hw lr hlen hlc hc1 hc2
  obtain ⟨hx, hb, hr_, hml, hown, hts, hlk, hnm, hK, hd1, hd2, ho⟩ := id F
  have hl : Cond.methodLink (sr_R md.1) idx arraycopyName ∈ lw_tbl := sr_mls_ok ho _ (sr_lookup hq)
  subst hsp; subst hdp; subst hn
  have b0 := hw.2.2.2.1 a0
  have b1 := hw.2.2.2.1 a
  have ci : (nI i).toNatClampNeg = i := nI_clamp (by omega)
  have cj : (nI j).toNatClampNeg = j := nI_clamp (by omega)
  have ck : (nI k).toNatClampNeg = k := nI_clamp (by omega)
  have ti : (nI i).toInt = (i : Int) := nI_toInt (by omega)
  have tj : (nI j).toInt = (j : Int) := nI_toInt (by omega)
  have tk : (nI k).toInt = (k : Int) := nI_toInt (by omega)
  have hat := (hw.2.2.1 a (by omega) hr).2
  rw [sr_ce_int ha (by omega) (by omega)] at hat
  have hat0 := (hw.2.2.1 a0 (by omega) hr0).2
  rw [sr_ce_int ha0 (by omega) (by omega)] at hat0
  have hc0 : H[G.1 + a0]? = some (vp_cell (G.2.2.1 7) ((h.2.1 a0).2, .inl (h.2.2.1 a0))) := hat0
  have hc1' : H[G.1 + a]? = some (vp_cell (G.2.2.1 7) ((h.2.1 a).2, .inl (h.2.2.1 a))) := hat
  obtain ⟨-, k0, hk0, cm0, hkk0⟩ := (hK.1.2 1 _ rfl).1 (h.2.1 a0).2 (fun j => .int (h.2.2.1 a0 j))
  obtain ⟨-, k1, hk1, cm1, hkk1⟩ := (hK.1.2 1 _ rfl).1 (h.2.1 a).2 (fun j => .int (h.2.2.1 a j))
  have h9 := sr_wsum (G := G) h8
  have hnf : nativeFrameWords "java/lang/System" "arraycopy" 5 ≤ 21 := by decide +kernel
  show W p l e R s m args below meth c H locs cells slots Q (F0 m pc ls (.int (nI k) :: .int (nI j) :: .ref (sr_cr G a) :: .int (nI i) :: .ref (sr_cr G a0) :: _))
  rw [sr_cr_lo hr, sr_cr_lo hr0]
  intro T hT X
  obtain ⟨vm', X', step⟩ := X.arraycopy hx hown (hts _ (sr_inT hl rfl)) (hts _ (sr_inT sr_cpyW.1 rfl)) (hts _ (sr_inT sr_cpyW.2.1 rfl)) (hts _ (sr_inT sr_cpyW.2.2 rfl)) (src := G.1 + a0) (dst := G.1 + a) (cs := vp_cell (G.2.2.1 7) ((h.2.1 a0).2, .inl (h.2.2.1 a0))) (cd := vp_cell (G.2.2.1 7) ((h.2.1 a).2, .inl (h.2.2.1 a))) (srcPos := nI i) (destPos := nI j) (n := nI k) (by rw [hT]; exact hc0) (by rw [hT]; exact hc1')
    (fun _ h => by cases h) (fun _ h => by cases h) (fun h => by cases h) (fun h => by cases h) hk0 hk1 hkk0 hkk1 (by rfl) (sr_nI_pos (by omega)) (sr_nI_pos (by omega)) (sr_nI_pos (by omega))
    (by rw [ti, tk]; show ¬ _ > ((arrV (G.2.2.1 7) (h.2.1 a0).2 (fun j => .int (h.2.2.1 a0 j))).slots.size : Int); rw [arrV_size]; omega)
    (by rw [tj, tk]; show ¬ _ > ((arrV (G.2.2.1 7) (h.2.1 a).2 (fun j => .int (h.2.2.1 a j))).slots.size : Int); rw [arrV_size]; omega)
    (fun vm₁ _ z hz => by
      rw [ck] at hz
      have e : (vp_cell (G.2.2.1 7) ((h.2.1 a0).2, .inl (h.2.2.1 a0))).slots.getD ((nI i).toNatClampNeg + z) .null = .int (h.2.2.1 a0 (i + z)) := by
        rw [ci]
        show (arrV (G.2.2.1 7) (h.2.1 a0).2 (fun j => .int (h.2.2.1 a0 j))).slots.getD _ _ = _
        rw [Array.getD_eq_getD_getElem?, arrV_read _ _ (by omega)]
        rfl
      refine ⟨?_, ?_⟩
      · rw [e]
        rfl
      · rw [e]
        exact trivial)
    (g := F0 m pc ls (.int (nI k) :: .int (nI j) :: .ref (G.1 + a) :: .int (nI i) :: .ref (G.1 + a0) :: st.map (sr_cv G))) rfl (by rw [hml, ← hlen, ← lr.1]) (rest := st.map (sr_cv G)) rfl (by rw [hb]; exact hd) (by omega) (by show 2 * 0 + _ + _ ≤ _; omega)
  have e1 : copied (vp_cell (G.2.2.1 7) ((h.2.1 a0).2, .inl (h.2.2.1 a0))) (vp_cell (G.2.2.1 7) ((h.2.1 a).2, .inl (h.2.2.1 a))) (nI i) (nI j) (nI k) = vp_cell (G.2.2.1 7) ((h.2.1 a).2, .inl (va_cpy (h.2.2.1 a0) (h.2.2.1 a) i j k)) := by
    have := va_copied (fun z => .int z) (G.2.2.1 7) (G.2.2.1 7) (n0 := (h.2.1 a0).2) (n1 := (h.2.1 a).2) (dp := j) (h.2.2.1 a0) (h.2.2.1 a) h4
    unfold copied
    rw [ci, cj, ck]
    exact this
  rw [e1] at X' step
  have hl9 : G.1 + a < H.size := (Array.getElem?_eq_some_iff.mp hc1').1
  generalize hv : vp_cell (G.2.2.1 7) ((h.2.1 a).2, .inl (va_cpy (h.2.2.1 a0) (h.2.2.1 a) i j k)) = v at X' step
  have hheap : ((T.setVm vm').setCell (G.1 + a) v).heap = H.setIfInBounds (G.1 + a) v := by rw [← hT]; rfl
  have oq : ∀ q : Nat, q ≠ G.1 + a → (H.setIfInBounds (G.1 + a) v)[q]? = H[q]? := fun q hq => by simp [Array.getElem?_setIfInBounds, Ne.symm hq]
  have ea : (sr_setA h a (va_cpy (h.2.2.1 a0) (h.2.2.1 a) i j k)).2.2.1 a = va_cpy (h.2.2.1 a0) (h.2.2.1 a) i j k := by funext z; exact if_pos rfl
  obtain ⟨t, a1, b1⟩ := kk G p l e R s m args below meth c (H.setIfInBounds (G.1 + a) v) _ cells slots Q ls F Rt (sr_hw_set hw rfl rfl hr (fun z hz => by funext y; exact if_neg hz) (fun _ _ => rfl) (fun _ _ => rfl) (by
      rw [sr_ce_int (h := sr_setA h a (va_cpy (h.2.2.1 a0) (h.2.2.1 a) i j k)) ha (by omega) (by omega), ea]
      show (H.setIfInBounds (G.1 + a) v)[G.1 + a]? = some (vp_cell _ _)
      rw [← hv]
      simp [Array.getElem?_setIfInBounds, hl9]
      rfl) (by simp) oq) lr hlen (by
      intro q hq
      rcases List.mem_append.mp hq with h | h
      · exact hlc q h
      · obtain ⟨z, -, hz⟩ := List.mem_map.mp h
        rw [← hz]
        exact Nat.le_add_right _ _) hc1 hc2 _ hheap X'
  exact ⟨t, step t a1, b1⟩
theorem sr_fl_cons (v : Value) (As : List Value) : sr_fl (v :: As) = sr_fl [v] ++ sr_fl As := by simp [sr_fl]
theorem lg_sl_cons (v : Value) (As : List Value) : lg_sl (v :: As) = lg_sl [v] ++ lg_sl As := by simp [lg_sl]
theorem sr_fl_len (G : sr_G) (As : List Value) : (lg_sl (As.map (sr_cv G))).length = (sr_fl As).length := by
  induction As with
  | nil => rfl
  | cons v As ih =>
    rw [List.map_cons, lg_sl_cons, sr_fl_cons, List.length_append, List.length_append, ih]
    cases v <;> rfl
theorem sr_fl_at (G : sr_G) (As : List Value) : ∀ (i : Nat) (v : Value), (sr_fl As)[i]? = some (some v) → (lg_sl (As.map (sr_cv G)))[i]? = some (.val (sr_cv G v)) := by
  induction As with
  | nil => intro i v h; simp [sr_fl] at h
  | cons w As ih =>
    intro i v h
    rw [sr_fl_cons] at h
    rw [List.map_cons, lg_sl_cons]
    have hlen : (lg_sl [sr_cv G w]).length = (sr_fl [w]).length := sr_fl_len G [w]
    by_cases hi : i < (sr_fl [w]).length
    · rw [List.getElem?_append_left hi] at h
      rw [List.getElem?_append_left (by rw [hlen]; exact hi)]
      cases w <;> (first
        | (match i, h with
           | 0, h => cases h; rfl
           | 1, h => simp [sr_fl] at h
           | n + 2, h => simp [sr_fl] at h))
    · rw [List.getElem?_append_right (by omega)] at h
      rw [List.getElem?_append_right (by omega), hlen]
      exact ih _ _ h
abbrev sr_ws (md : sr_MD) : List Cond := Cond.code md.2.1 md.2.2.1 md.2.2.2.1 md.2.2.2.2.1 :: sr_T
abbrev sr_rm (md : sr_MD) (d : Nat) : Room := { frames := d, cells := md.2.2.2.2.2.2.1, slots := md.2.2.2.2.2.2.2, locals := 40 * d }
abbrev sr_Pc (G : sr_G) (As : List Value) (h : sr_H) : Array Value → State → Prop := va_Pc (As.map (sr_cv G)) (fun U => sr_hw G h U U.heap ∧ sr_kn G U)
abbrev sr_Qc (G : sr_G) (P : Option Value → sr_H → Prop) : Array Value → State → Outcome → State → Prop := fun _ _ o t => ∃ (r : Option Value) (h' : sr_H), o = .returned (r.map (sr_cv G)) ∧ P r h' ∧ sr_hw G h' t t.heap
theorem sr_met {As : List Value} (hok : sr_okY md) (hAs : (sr_fl As).length ≤ md.2.2.2.1) (ho : md.1 < 9) (hc : sr_Call md d As h P) (G : sr_G) (l : Launch) : Met l md.2.1 (sr_ws md) (sr_rm md d) (sr_Pc G As h) (sr_Qc G P) md.2.2.2.2.2.2.1 md.2.2.2.2.2.2.2 (fun q => G.1 ≤ q) := by
  obtain ⟨hcode, hini, hcls, hplain, hmaxL, hdesc⟩ := hok
  refine Met.ofW (cc := md.2.2.1) (maxL := md.2.2.2.1) (ret := md.2.2.2.2.1) hplain rfl ?_
  intro p e s m args below meth c s₁ B hml hv
  obtain ⟨rfl, hw, hK⟩ := hv
  have hts := atoms_spec (ws := sr_ws md) B.pre
  have hown : s.vm.findClass (sr_R md.1) = some m.cls := by rw [← hcls]; exact findClass_of_methodNamed B.named
  have hnm : meth.name = md.2.1.name := (name_of_methodNamed B.named B.method).1
  have hlk := B.notSynchronized
  have hlen : (sr_en As md.2.2.2.1).length = md.2.2.2.1 := by
    unfold sr_en
    rw [List.length_append, List.length_replicate]
    omega
  have hle := lv_entry (As.map (sr_cv G)) (n := md.2.2.2.1) (by rw [sr_fl_len]; exact hAs)
  rw [lg_entry_eq]
  have lr : sr_lr G ((lg_sl (As.map (sr_cv G)) ++ List.replicate (md.2.2.2.1 - (lg_sl (As.map (sr_cv G))).length) Slot.unset).toArray) (sr_en As md.2.2.2.1) := by
    refine ⟨by rw [hlen]; exact hle.1, hle.2.1, fun i v hi => ?_⟩
    unfold sr_en at hi
    have hi2 : i < (sr_fl As).length := by
      by_cases h9 : i < (sr_fl As).length
      · exact h9
      · rw [List.getElem?_append_right (by omega)] at hi
        rw [List.getElem?_replicate] at hi
        split at hi <;> cases hi
    rw [List.getElem?_append_left hi2] at hi
    rw [List.getElem?_toArray, List.getElem?_append_left (by rw [sr_fl_len]; exact hi2)]
    exact sr_fl_at G As i v hi
  refine hc G p l e (sr_rm md d) s m _ below meth c s.heap [] 0 0 _ _ ⟨B.exec, B.bytes, B.returns, hml, hown, fun w hw => hts w (List.mem_cons_of_mem _ hw), hlk, hnm, hK, Nat.le_refl _, Nat.le_refl _, ho⟩ ?_ hw lr hlen (fun q hq => by cases hq) (Nat.le_of_eq (Nat.zero_add _)) (Nat.le_of_eq (Nat.zero_add _))
  intro r h' H' locs' cells' slots' pc' ls' hP hw' hlc' hc1' hc2' hri
  refine W.widen (k := md.2.2.2.2.2.2.1) (n := md.2.2.2.2.2.2.2) hc1' hc2' ?_
  rcases hri with ⟨v, rfl, hdec, hrt⟩ | ⟨v, rfl, hdec, hrt⟩ | ⟨rfl, hdec, hrt⟩
  · rcases hrt with hrt | ⟨hrt, h01⟩
    · exact W.iret (v := v) B.exec B.bytes (by rw [B.returns]; exact hrt) (fun t ht hW => ⟨_, h', rfl, hP, by rw [ht]; exact sr_hw_moved hW.alike hw'⟩) hlc' hdec
    · exact W.zret (v := v) (ty := .boolean) B.exec B.bytes (by rw [B.returns]; exact hrt) (by rcases h01 with rfl | rfl <;> decide +kernel) (fun t ht hW => ⟨_, h', rfl, hP, by rw [ht]; exact sr_hw_moved hW.alike hw'⟩) hlc' hdec
  · exact W.lret (v := v) B.exec B.bytes (by rw [B.returns]; exact hrt) (fun t ht hW => ⟨_, h', rfl, hP, by rw [ht]; exact sr_hw_moved hW.alike hw'⟩) hlc' hdec
  · exact W.vret B.exec B.bytes (by rw [B.returns]; exact hrt) (fun t ht hW => ⟨_, h', rfl, hP, by rw [ht]; exact sr_hw_moved hW.alike hw'⟩) hlc' hdec
end SL
end
section
/-! calls, jumps; the condition implies the walk -/
theorem sr_pop_spec {n : Nat} : ∀ {st As Bs rest : List Value}, sr_pop n st As = some (Bs, rest) → ∃ Cs, Cs.length = n ∧ st = Cs ++ rest ∧ Bs = Cs.reverse ++ As := by
  induction n with
  | zero => intro st As Bs rest h; unfold sr_pop at h; cases h; exact ⟨[], rfl, rfl, rfl⟩
  | succ n ih =>
    intro st As Bs rest h
    cases st with
    | nil => simp [sr_pop] at h
    | cons v st =>
      obtain ⟨Cs, h1, h2, h3⟩ := ih (show sr_pop n st (v :: As) = some (Bs, rest) from h)
      exact ⟨v :: Cs, by simp [h1], by simp [h2], by simp [h3]⟩
theorem sr_blind (G : sr_G) (As : List Value) (h : sr_H) : FrameBlind (sr_Pc G As h) := fun a U g mk q => ⟨q.1, sr_hw_moved (s := U) (U := U.calling g mk a) (Vm.Alike.refl U.vm) q.2.1, sr_kn_same (s := U) (U := U.calling g mk a) rfl q.2.2⟩
section SM
variable {md md' : sr_MD} {d d' pc nx tg idx : Nat} {L L' : sr_L} {st st' As rest : List Value} {b : Nat × Nat} {h : sr_H} {P P' : Option Value → sr_H → Prop}
theorem sg_run {G : sr_G} {p : Program} {l : Launch} {e : Env} {R : Room} {s : State} {m : MethodId} {args a : Array Value} {below : List Frame} {meth : Method} {c : Code} {H : Heap} {locs : List Loc} {cells slots : Nat} {Q : State → Prop} {ls : Array Slot} {stk : List Value}
    (hr : va_Run p l e R s m args below meth c H locs cells slots md'.2.2.2.2.2.2.1 md'.2.2.2.2.2.2.2 (F0 m pc ls stk) (rest.map (sr_cv G)) (sr_Qc G P' a) (fun q => G.1 ≤ q))
    (F : sr_Fx G md d p R s m args meth c) (Rt : sr_Rt G md P p l e R s m args below meth c Q) (lr : sr_lr G ls L) (hlen : L.length = md.2.2.2.1) (hlc : ∀ q ∈ locs, G.1 ≤ q.base) (hc1 : cells + b.1 ≤ R.cells) (hc2 : slots + b.2 ≤ R.slots) (hb1 : md'.2.2.2.2.2.2.1 ≤ b.1) (hb2 : md'.2.2.2.2.2.2.2 ≤ b.2)
    (kk : ∀ v h1, P' v h1 → sr_Go md d (pc + 3) L (v.toList ++ rest) (b.1 - md'.2.2.2.2.2.2.1, b.2 - md'.2.2.2.2.2.2.2) h1 P) : W p l e R s m args below meth c H locs cells slots Q (F0 m pc ls stk) := by
  intro T hT X
  obtain ⟨v, st₀, t, T', L9, h0, X', hL, e1, e2, ⟨r, h', hv, hp, hw'⟩, stp⟩ := hr T hT X
  have hv : v = r.map (sr_cv G) := by injection hv
  have hw2 : sr_hw G h' s T'.heap := by
    rw [e1]
    exact sr_hw_moved (by rw [← e2]; exact X'.warmed.alike.symm) hw'
  have hl2 : ∀ q ∈ locs ++ L9, G.1 ≤ q.base := fun q hq => (List.mem_append.mp hq).elim (hlc q) (hL q)
  have es : v.toList ++ rest.map (sr_cv G) = (r.toList ++ rest).map (sr_cv G) := by
    rw [hv, List.map_append]
    cases r <;> rfl
  obtain ⟨t2, a1, b1⟩ := kk r h' hp G p l e R s m args below meth c T'.heap (locs ++ L9) (cells + md'.2.2.2.2.2.2.1) (slots + md'.2.2.2.2.2.2.2) Q ls F Rt hw2 lr hlen hl2 (by show cells + _ + (b.1 - _) ≤ _; omega) (by show slots + _ + (b.2 - _) ≤ _; omega) T' rfl X'
  refine ⟨t2, stp t2 ?_, b1⟩
  rw [es]
  exact a1
theorem sr_cls {ci : Nat} (h : ci < 6) : ∃ (T : u_T) (N : Nat), vwCl[ci]? = some (sr_R ci, T, N) := by
  match ci, h with
  | 0, _ => exact ⟨_, _, rfl⟩
  | 1, _ => exact ⟨_, _, rfl⟩
  | 2, _ => exact ⟨_, _, rfl⟩
  | 3, _ => exact ⟨_, _, rfl⟩
  | 4, _ => exact ⟨_, _, rfl⟩
  | 5, _ => exact ⟨_, _, rfl⟩
theorem sr_ws_in (hok : sr_okY md') : ∀ w ∈ sr_ws md', w ∈ sr_T := by
  intro w hw
  rcases List.mem_cons.mp hw with rfl | hw
  · exact sr_inT hok.1 rfl
  · exact hw
theorem sr_roomW {R : Room} (hd1 : d + 1 ≤ R.frames) (hd2 : 40 * (d + 1) ≤ R.locals) (hm : md'.2.2.2.1 ≤ 20) : (sr_rm md' d).frames + 1 ≤ R.frames ∧ 8 + (md'.2.2.2.1 + 11) + (sr_rm md' d).locals ≤ R.locals := ⟨hd1, by show 8 + _ + 40 * d ≤ _; omega⟩
theorem sr_args (G : sr_G) {r : Nat} (hr : r < 1000000) : (Value.ref r :: As).map (sr_cv G) = .ref (G.1 + r) :: As.map (sr_cv G) := by
  rw [List.map_cons]
  show Value.ref (sr_cr G r) :: _ = _
  rw [sr_cr_lo hr]
theorem sg_invV {r : Nat} (hd : decode md.2.2.1 pc = .ok (.invokevirtual idx, 3)) (hq : (sr_mls md.1).lookup idx = some (0, md')) (hst : st = As.reverse ++ .ref r :: rest) (hn : As.length = md'.2.2.2.2.2.1) (hk : (h.2.1 r).1 = md'.1) (hr : r < 1000000) (hAs : (sr_fl (.ref r :: As)).length ≤ md'.2.2.2.1) (h8 : (rest.map fun v => v.category).sum ≤ 8) (hb1 : md'.2.2.2.2.2.2.1 ≤ b.1) (hb2 : md'.2.2.2.2.2.2.2 ≤ b.2)
    (hc : sr_Call md' d (.ref r :: As) h P') (kk : ∀ v h1, P' v h1 → sr_Go md (d + 1) (pc + 3) L (v.toList ++ rest) (b.1 - md'.2.2.2.2.2.2.1, b.2 - md'.2.2.2.2.2.2.2) h1 P) : sr_Go md (d + 1) pc L st b h P := by
  intro G p l e R s m args below meth c H locs cells slots Q ls F Rt hw lr hlen hlc hc1 hc2
  obtain ⟨hx, hb, hr_, hml, hown, hts, hlk, hnm, hK, hd1, hd2, ho⟩ := id F
  obtain ⟨hl, hokY, hinst, hsel, h6⟩ : Cond.methodLink (sr_R md.1) idx md'.2.1 ∈ lw_tbl ∧ sr_okV md' := sr_mls_ok ho _ (sr_lookup hq)
  obtain ⟨hcode, hini, hcls, hplain, hmaxL, hdesc⟩ := id hokY
  have hat := (hw.2.2.1 r (by omega) hr).2
  rw [sr_ce_obj hk h6] at hat
  obtain ⟨T9, N9, hT9⟩ := sr_cls h6
  obtain ⟨cellB, cb1, cb2, cb3⟩ := va_recv hK.1 (sr_P1 hat) hT9 (q0 := 0) rfl
  have cw : CallW R s args (sr_R md.1) md'.2.1.cls idx md'.2.1 md'.2.2.1 md'.2.2.2.1 md'.2.2.2.2.1 (sr_ws md') (sr_rm md' d) md'.2.2.2.2.2.2.1 md'.2.2.2.2.2.2.2 md'.2.2.2.2.2.1 := by
    refine cwV _ hts (sr_goodIn ?_) rfl rfl rfl ⟨rfl, hdesc⟩ (sr_roomW hd1 hd2 hmaxL)
    intro w hw
    rcases List.mem_append.mp hw with hw | hw
    · rcases List.mem_cons.mp hw with rfl | hw
      · exact sr_inT hl rfl
      rcases List.mem_cons.mp hw with rfl | hw
      · exact sr_inT hinst rfl
      rcases List.mem_cons.mp hw with rfl | hw
      · exact sr_inT hsel rfl
      rcases List.mem_cons.mp hw with rfl | hw
      · exact sr_inT hini rfl
      · cases hw
    · exact sr_ws_in hokY w hw
  have hM := sr_met hokY hAs (by omega) hc G l
  have hrun := va_runV (As := As.map (sr_cv G)) (rest := rest.map (sr_cv G)) (b := G.1 + r) (H := H) (g := F0 m pc ls (st.map (sr_cv G))) (locs := locs) (cells := cells) (slots := slots) (below := below) (meth := meth) (e := e) ⟨hx, hb, hml, hown, hts⟩ hM cw ⟨sr_blind G _ h, ⟨cellB, cb1, cb2, by rw [hcls]; exact cb3⟩, fun U hU hW => ⟨by rw [sr_args G hr], by rw [hU]; exact sr_hw_moved hW.alike hw, sr_kn_moved hW hK⟩⟩ rfl (by rw [List.length_map, hn]) (by show ls.size = _; rw [lr.1, hlen]) (by show st.map (sr_cv G) = _; rw [hst, List.map_append, List.map_reverse, sr_args G hr]) (lv_room (sr_wsum h8)) hd ⟨by omega, by omega⟩
  exact sg_run hrun F Rt lr hlen hlc hc1 hc2 hb1 hb2 kk
theorem sg_invS (hd : decode md.2.2.1 pc = .ok (.invokestatic idx, 3)) (hq : (sr_mls md.1).lookup idx = some (1, md')) (hst : st = As.reverse ++ rest) (hn : As.length = md'.2.2.2.2.2.1) (ho9 : md'.1 < 9) (hAs : (sr_fl As).length ≤ md'.2.2.2.1) (h8 : (rest.map fun v => v.category).sum ≤ 8) (hb1 : md'.2.2.2.2.2.2.1 ≤ b.1) (hb2 : md'.2.2.2.2.2.2.2 ≤ b.2)
    (hc : sr_Call md' d As h P') (kk : ∀ v h1, P' v h1 → sr_Go md (d + 1) (pc + 3) L (v.toList ++ rest) (b.1 - md'.2.2.2.2.2.2.1, b.2 - md'.2.2.2.2.2.2.2) h1 P) : sr_Go md (d + 1) pc L st b h P := by
  intro G p l e R s m args below meth c H locs cells slots Q ls F Rt hw lr hlen hlc hc1 hc2
  obtain ⟨hx, hb, hr_, hml, hown, hts, hlk, hnm, hK, hd1, hd2, ho⟩ := id F
  obtain ⟨hl, hokY, hstat⟩ : Cond.methodLink (sr_R md.1) idx md'.2.1 ∈ lw_tbl ∧ sr_okS md' := sr_mls_ok ho _ (sr_lookup hq)
  obtain ⟨hcode, hini, hcls, hplain, hmaxL, hdesc⟩ := id hokY
  have cw : CallB R s args (sr_R md.1) idx md'.2.1 md'.2.2.1 md'.2.2.2.1 md'.2.2.2.2.1 (sr_ws md') (sr_rm md' d) md'.2.2.2.2.2.2.1 md'.2.2.2.2.2.2.2 md'.2.2.2.2.2.1 ∧ (Cond.static md'.2.1).before args s = true := by
    refine va_cwS _ hts (sr_goodIn ?_) rfl rfl rfl hdesc (sr_roomW hd1 hd2 hmaxL)
    intro w hw
    rcases List.mem_append.mp hw with hw | hw
    · rcases List.mem_cons.mp hw with rfl | hw
      · exact sr_inT hl rfl
      rcases List.mem_cons.mp hw with rfl | hw
      · exact sr_inT hstat rfl
      rcases List.mem_cons.mp hw with rfl | hw
      · exact sr_inT hini rfl
      · cases hw
    · exact sr_ws_in hokY w hw
  have hM := sr_met hokY hAs ho9 hc G l
  have hrun := va_runS (As := As.map (sr_cv G)) (rest := rest.map (sr_cv G)) (H := H) (g := F0 m pc ls (st.map (sr_cv G))) (locs := locs) (cells := cells) (slots := slots) (below := below) (meth := meth) (e := e) ⟨hx, hb, hml, hown, hts⟩ hM cw ⟨sr_blind G _ h, fun U hU hW => ⟨rfl, by rw [hU]; exact sr_hw_moved hW.alike hw, sr_kn_moved hW hK⟩⟩ rfl (by rw [List.length_map, hn]) (by show ls.size = _; rw [lr.1, hlen]) (by show st.map (sr_cv G) = _; rw [hst, List.map_append, List.map_reverse]) (lv_room (sr_wsum h8)) hd ⟨by omega, by omega⟩
  exact sg_run hrun F Rt lr hlen hlc hc1 hc2 hb1 hb2 kk
theorem sg_invI {r kd : Nat} (hd : decode md.2.2.1 pc = .ok (.invokespecial idx, 3)) (hkd : kd = 2 ∨ kd = 5) (hq : (sr_mls md.1).lookup idx = some (kd, md')) (hst : st = As.reverse ++ .ref r :: rest) (hn : As.length = md'.2.2.2.2.2.1) (hr : r < 1000000) (ho9 : md'.1 < 9) (hAs : (sr_fl (.ref r :: As)).length ≤ md'.2.2.2.1) (h8 : (rest.map fun v => v.category).sum ≤ 8) (hb1 : md'.2.2.2.2.2.2.1 ≤ b.1) (hb2 : md'.2.2.2.2.2.2.2 ≤ b.2)
    (hc : sr_Call md' d (.ref r :: As) h P') (kk : ∀ v h1, P' v h1 → sr_Go md (d + 1) (pc + 3) L (v.toList ++ rest) (b.1 - md'.2.2.2.2.2.2.1, b.2 - md'.2.2.2.2.2.2.2) h1 P) : sr_Go md (d + 1) pc L st b h P := by
  intro G p l e R s m args below meth c H locs cells slots Q ls F Rt hw lr hlen hlc hc1 hc2
  obtain ⟨hx, hb, hr_, hml, hown, hts, hlk, hnm, hK, hd1, hd2, ho⟩ := id F
  have hl9 := sr_mls_ok ho _ (sr_lookup hq)
  have hokI : sr_okI md' := by rcases hkd with rfl | rfl <;> exact hl9.2
  obtain ⟨hokY, hinst, hnm9, hret9⟩ := id hokI
  obtain ⟨hcode, hini, hcls, hplain, hmaxL, hdesc⟩ := id hokY
  have hM := sr_met hokY hAs ho9 hc G l
  have hG : GoodIn sr_T (sr_ws md') := sr_goodIn (sr_ws_in hokY)
  have hpre : PreS s H (sr_Pc G (.ref r :: As) h) (.ref (G.1 + r) :: As.map (sr_cv G)) := ⟨sr_blind G _ h, fun U hU hW => ⟨by rw [sr_args G hr], by rw [hU]; exact sr_hw_moved hW.alike hw, sr_kn_moved hW hK⟩⟩
  have hstk : (F0 m pc ls (st.map (sr_cv G))).stack = (As.map (sr_cv G)).reverse ++ .ref (G.1 + r) :: rest.map (sr_cv G) := by show st.map (sr_cv G) = _; rw [hst, List.map_append, List.map_reverse, sr_args G hr]
  have hwn : sr_ws md' = Cond.code md'.2.1 md'.2.2.1 md'.2.2.2.1 none :: sr_T := by rw [← hret9]
  have hrun : va_Run p l e R s m args below meth c H locs cells slots md'.2.2.2.2.2.2.1 md'.2.2.2.2.2.2.2 (F0 m pc ls (st.map (sr_cv G))) (rest.map (sr_cv G)) (sr_Qc G P' (Value.ref (G.1 + r) :: As.map (sr_cv G)).toArray) (fun q => G.1 ≤ q) := by
    rcases hkd with rfl | rfl
    · have hl : Cond.methodLink (sr_R md.1) idx md'.2.1 ∈ lw_tbl := hl9.1
      have cw := cwI (R := R) md'.2.2.2.2.2.1 hts hG hwn (rm := sr_rm md' d) rfl rfl (hts _ (sr_inT hini rfl)) (hts _ (sr_inT hl rfl)) (hts _ (sr_inT hinst rfl)) hnm9 hdesc (sr_roomW hd1 hd2 hmaxL)
      exact va_runI (As := As.map (sr_cv G)) (rest := rest.map (sr_cv G)) (b := G.1 + r) ⟨hx, hb, hml, hown, hts⟩ hM cw hpre rfl (by rw [List.length_map, hn]) (by show ls.size = _; rw [lr.1, hlen]) hstk (lv_room (sr_wsum h8)) hd ⟨by omega, by omega⟩
    · have hl : Cond.methodLinkNest (sr_R md.1) idx md'.2.1 "SecondRoom" ∈ lw_tbl := hl9.1
      have cw := va_cnB (R := R) (own := sr_R md.1) (index := idx) (host := "SecondRoom") md'.2.2.2.2.2.1 hts hG hwn (rm := sr_rm md' d) rfl rfl (hK.2.1 _ (List.mem_filter.mpr ⟨hl, rfl⟩)) (hts _ (sr_inT hini rfl)) hdesc (sr_roomW hd1 hd2 hmaxL)
      exact va_runIN (As := As.map (sr_cv G)) (rest := rest.map (sr_cv G)) (b := G.1 + r) ⟨hx, hb, hml, hown, hts⟩ hM ⟨cw, hnm9, hts _ (sr_inT hinst rfl)⟩ hpre rfl (by rw [List.length_map, hn]) (by show ls.size = _; rw [lr.1, hlen]) hstk (lv_room (sr_wsum h8)) hd ⟨by omega, by omega⟩
  exact sg_run hrun F Rt lr hlen hlc hc1 hc2 hb1 hb2 kk
end SM
end
section
/-! jumps, switches, returns; the main row -/
section SN
variable {md md' : sr_MD} {d d' pc nx tg idx : Nat} {L L' : sr_L} {st st' As rest : List Value} {b : Nat × Nat} {h : sr_H} {P P' : Option Value → sr_H → Prop}
theorem sr_nlt {x y : Int32} : ¬ x < y ↔ y ≤ x := Int32.not_lt
theorem sr_nle {x y : Int32} : ¬ x ≤ y ↔ y < x := Int32.not_le
theorem sr_ite {c A B : Prop} [i : Decidable c] (f : c → A) (g : ¬ c → B) : (if c then A else B) := by
  by_cases h : c
  · rw [if_pos h]; exact f h
  · rw [if_neg h]; exact g h
theorem sr_iteT {c A B : Prop} [Decidable c] (w : if c then A else B) (hc : c) : A := by rw [if_pos hc] at w; exact w
theorem sr_iteF {c A B : Prop} [Decidable c] (w : if c then A else B) (hc : ¬ c) : B := by rw [if_neg hc] at w; exact w
theorem sg_goto {o : Int} (hd : decode md.2.2.1 pc = .ok (.goto o, 3)) (ht : (pc : Int) + o = tg) (k : sr_Go md d tg L st b h P) : sr_Go md d pc L st b h P := by
  intro G p l e R s m args below meth c H locs cells slots Q ls F Rt hw lr hlen hlc hc1 hc2
  exact lv_goto F.1 F.2.1 hd ht (k G p l e R s m args below meth c H locs cells slots Q ls F Rt hw lr hlen hlc hc1 hc2)
theorem sg_if {cd : Jvm.ClassFile.Cond} {o : Int} {x : Int32} (hd : decode md.2.2.1 pc = .ok (.ifCond cd o, 3)) (ht : (pc : Int) + o = tg) (w : match cd with
    | .eq => if x = 0 then sr_Go md d tg L st b h P else sr_Go md d (pc + 3) L st b h P
    | .ne => if x = 0 then sr_Go md d (pc + 3) L st b h P else sr_Go md d tg L st b h P
    | .lt => if x < 0 then sr_Go md d tg L st b h P else sr_Go md d (pc + 3) L st b h P
    | .ge => if x < 0 then sr_Go md d (pc + 3) L st b h P else sr_Go md d tg L st b h P
    | .gt => if 0 < x then sr_Go md d tg L st b h P else sr_Go md d (pc + 3) L st b h P
    | .le => if 0 < x then sr_Go md d (pc + 3) L st b h P else sr_Go md d tg L st b h P) : sr_Go md d pc L (.int x :: st) b h P := by
  intro G p l e R s m args below meth c H locs cells slots Q ls F Rt hw lr hlen hlc hc1 hc2
  have go : ∀ q, sr_Go md d q L st b h P → W p l e R s m args below meth c H locs cells slots Q (F0 m q ls (st.map (sr_cv G))) := fun q k => k G p l e R s m args below meth c H locs cells slots Q ls F Rt hw lr hlen hlc hc1 hc2
  cases cd with
  | eq => exact lv_if_eq F.1 F.2.1 hd ht (fun hc => go _ (sr_iteT w hc)) (fun hc => go _ (sr_iteF w hc))
  | ne => exact lv_if_ne F.1 F.2.1 hd ht (fun hc => go _ (sr_iteF w hc)) (fun hc => go _ (sr_iteT w hc))
  | lt => exact lv_if_lt F.1 F.2.1 hd ht (fun hc => go _ (sr_iteT w hc)) (fun hc => go _ (sr_iteF w hc))
  | ge => exact lv_if_ge F.1 F.2.1 hd ht (fun hc => go _ (sr_iteF w (sr_nlt.mpr hc))) (fun hc => go _ (sr_iteT w (sr_nle.mp hc)))
  | gt => exact lv_if_gt F.1 F.2.1 hd ht (fun hc => go _ (sr_iteT w hc)) (fun hc => go _ (sr_iteF w hc))
  | le => exact lv_if_le F.1 F.2.1 hd ht (fun hc => go _ (sr_iteF w (sr_nlt.mpr hc))) (fun hc => go _ (sr_iteT w (sr_nle.mp hc)))
theorem sg_icmp {cd : Jvm.ClassFile.Cond} {o : Int} {x y : Int32} (hd : decode md.2.2.1 pc = .ok (.if_icmp cd o, 3)) (ht : (pc : Int) + o = tg) (w : match cd with
    | .eq => if x = y then sr_Go md d tg L st b h P else sr_Go md d (pc + 3) L st b h P
    | .ne => if x = y then sr_Go md d (pc + 3) L st b h P else sr_Go md d tg L st b h P
    | .lt => if x < y then sr_Go md d tg L st b h P else sr_Go md d (pc + 3) L st b h P
    | .ge => if x < y then sr_Go md d (pc + 3) L st b h P else sr_Go md d tg L st b h P
    | .gt => if y < x then sr_Go md d tg L st b h P else sr_Go md d (pc + 3) L st b h P
    | .le => if y < x then sr_Go md d (pc + 3) L st b h P else sr_Go md d tg L st b h P) : sr_Go md d pc L (.int y :: .int x :: st) b h P := by
  intro G p l e R s m args below meth c H locs cells slots Q ls F Rt hw lr hlen hlc hc1 hc2
  have go : ∀ q, sr_Go md d q L st b h P → W p l e R s m args below meth c H locs cells slots Q (F0 m q ls (st.map (sr_cv G))) := fun q k => k G p l e R s m args below meth c H locs cells slots Q ls F Rt hw lr hlen hlc hc1 hc2
  cases cd with
  | eq => exact lv_icmp_eq F.1 F.2.1 hd ht (fun hc => go _ (sr_iteT w hc)) (fun hc => go _ (sr_iteF w hc))
  | ne => exact lv_icmp_ne F.1 F.2.1 hd ht (fun hc => go _ (sr_iteF w hc)) (fun hc => go _ (sr_iteT w hc))
  | lt => exact lv_icmp_lt F.1 F.2.1 hd ht (fun hc => go _ (sr_iteT w hc)) (fun hc => go _ (sr_iteF w hc))
  | ge => exact lv_icmp_ge F.1 F.2.1 hd ht (fun hc => go _ (sr_iteF w (sr_nlt.mpr hc))) (fun hc => go _ (sr_iteT w (sr_nle.mp hc)))
  | gt => exact lv_icmp_gt F.1 F.2.1 hd ht (fun hc => go _ (sr_iteT w hc)) (fun hc => go _ (sr_iteF w hc))
  | le => exact lv_icmp_le F.1 F.2.1 hd ht (fun hc => go _ (sr_iteF w (sr_nlt.mpr hc))) (fun hc => go _ (sr_iteT w (sr_nle.mp hc)))
theorem sr_kt {v : Int} (h1 : -1000 ≤ v) (h2 : v ≤ 1000) : (sr_k v).toInt = v := by
  unfold sr_k
  exact Int32.toInt_ofInt_of_le (by omega) (by omega)
theorem sg_sw {dflt lo hi : Int} {offs : Array Int} {len : Nat} {x : Int32} (hd : decode md.2.2.1 pc = .ok (.tableswitch dflt lo hi offs, len)) (h0 : 0 ≤ (pc : Int) + dflt) (h1 : ∀ o ∈ offs.toList, 0 ≤ (pc : Int) + o) (h2 : lo + offs.toList.length = hi + 1) (h3 : -1000 ≤ lo) (h4 : hi ≤ 1000) (w : sr_sw md d pc L st b h P x dflt lo offs.toList) : sr_Go md d pc L (.int x :: st) b h P := by
  intro G p l e R s m args below meth c H locs cells slots Q ls F Rt hw lr hlen hlc hc1 hc2
  have go : ∀ q, sr_Go md d q L st b h P → W p l e R s m args below meth c H locs cells slots Q (F0 m q ls (st.map (sr_cv G))) := fun q k => k G p l e R s m args below meth c H locs cells slots Q ls F Rt hw lr hlen hlc hc1 hc2
  have key : ∀ (os : List Int) (j : Nat), os = offs.toList.drop j → sr_sw md d pc L st b h P x dflt (lo + j) os → (¬ (lo ≤ x.toInt ∧ x.toInt < lo + j)) → j ≤ offs.toList.length →
      ((x.toInt < lo ∨ hi < x.toInt) ∧ sr_Go md d ((pc : Int) + dflt).toNat L st b h P) ∨ (∃ o, offs.toList[(x.toInt - lo).toNat]? = some o ∧ ¬ x.toInt < lo ∧ ¬ hi < x.toInt ∧ sr_Go md d ((pc : Int) + o).toNat L st b h P) := by
    intro os
    induction os with
    | nil =>
      intro j hos w hx hj
      have : offs.toList.length ≤ j := by
        have := congrArg List.length hos
        rw [List.length_drop, List.length_nil] at this
        omega
      refine Or.inl ⟨?_, w⟩
      omega
    | cons o os ih =>
      intro j hos w hx hj
      have hjl : j < offs.toList.length := by
        have := congrArg List.length hos
        rw [List.length_drop, List.length_cons] at this
        omega
      have hoj : offs.toList[j]? = some o := by
        have : (offs.toList.drop j)[0]? = some o := by rw [← hos]; rfl
        rw [List.getElem?_drop] at this
        simpa using this
      unfold sr_sw at w
      by_cases hxe : x = sr_k (lo + j)
      · rw [if_pos hxe] at w
        have hxt : x.toInt = lo + j := by rw [hxe]; exact sr_kt (by omega) (by omega)
        refine Or.inr ⟨o, ?_, by omega, by omega, w⟩
        rw [hxt, show (lo + (j : Int) - lo).toNat = j by omega]
        exact hoj
      · rw [if_neg hxe] at w
        refine ih (j + 1) ?_ ?_ ?_ (by omega)
        · have := congrArg List.tail hos
          simpa [List.tail_drop] using this
        · have e9 : lo + (j : Int) + 1 = lo + ((j + 1 : Nat) : Int) := by omega
          rw [← e9]; exact w
        · intro hc
          have hne : x.toInt ≠ lo + j := fun e => hxe (Int32.toInt_inj.mp (by rw [e]; exact (sr_kt (by omega) (by omega)).symm))
          omega
  rcases key offs.toList 0 rfl (by simpa using w) (by omega) (by omega) with ⟨hr, k⟩ | ⟨o, ho, hr1, hr2, k⟩
  · exact lv_tableOut F.1 F.2.1 hd hr (by omega) (go _ k)
  · have ho2 : offs[(x.toInt - lo).toNat]? = some o := by rw [← Array.getElem?_toList]; exact ho
    have := h1 o (List.mem_of_getElem? ho)
    exact lv_tableIn F.1 F.2.1 hd hr1 hr2 ho2 (by omega) (go _ k)
theorem sg_lsw {dflt : Int} {ps : Array (Int × Int)} {len : Nat} {x : Int32} (hd : decode md.2.2.1 pc = .ok (.lookupswitch dflt ps, len)) (h0 : 0 ≤ (pc : Int) + dflt) (h1 : ∀ q ∈ ps.toList, 0 ≤ (pc : Int) + q.2 ∧ -1000 ≤ q.1 ∧ q.1 ≤ 1000) (h2 : (ps.toList.zip (ps.toList.drop 1)).all (fun q => decide (q.1.1 < q.2.1)) = true) (w : sr_lsw md d pc L st b h P x dflt ps.toList) : sr_Go md d pc L (.int x :: st) b h P := by
  intro G p l e R s m args below meth c H locs cells slots Q ls F Rt hw lr hlen hlc hc1 hc2
  have go : ∀ q, sr_Go md d q L st b h P → W p l e R s m args below meth c H locs cells slots Q (F0 m q ls (st.map (sr_cv G))) := fun q k => k G p l e R s m args below meth c H locs cells slots Q ls F Rt hw lr hlen hlc hc1 hc2
  have key : ∀ (os : List (Int × Int)), (∀ q ∈ os, 0 ≤ (pc : Int) + q.2 ∧ -1000 ≤ q.1 ∧ q.1 ≤ 1000) → sr_lsw md d pc L st b h P x dflt os → ∃ o : Int, Op.lookupswitch.offset os dflt x.toInt = o ∧ 0 ≤ (pc : Int) + o ∧ sr_Go md d ((pc : Int) + o).toNat L st b h P := by
    intro os
    induction os with
    | nil => intro _ w; exact ⟨dflt, rfl, h0, w⟩
    | cons q os ih =>
      intro hq w
      obtain ⟨k, o⟩ := q
      obtain ⟨q1, q2, q3⟩ := hq (k, o) List.mem_cons_self
      unfold sr_lsw at w
      by_cases hxe : x = sr_k k
      · rw [if_pos hxe] at w
        refine ⟨o, ?_, q1, w⟩
        rw [Op.lookupswitch.offset_cons, if_pos]
        rw [hxe, sr_kt q2 q3]
      · rw [if_neg hxe] at w
        obtain ⟨o', e1, e2, e3⟩ := ih (fun z hz => hq z (List.mem_cons_of_mem _ hz)) w
        refine ⟨o', ?_, e2, e3⟩
        rw [lv_osw hxe (sr_kt q2 q3)]
        exact e1
  obtain ⟨o, e1, e2, e3⟩ := key ps.toList h1 w
  exact lv_lookup F.1 F.2.1 hd h2 e1 (by omega) (go _ e3)
theorem sg_ret {r : Option Value} (hri : sr_ri md r pc) (w : P r h) : sr_Go md d pc L r.toList b h P := by
  intro G p l e R s m args below meth c H locs cells slots Q ls F Rt hw lr hlen hlc hc1 hc2
  exact Rt r h H locs cells slots pc ls w hw hlc (by omega) (by omega) hri
theorem sg_nullR {o : Int} {r : Nat} (hd : decode md.2.2.1 pc = .ok (.ifnull o, 3)) (k : sr_Go md d (pc + 3) L st b h P) : sr_Go md d pc L (.ref r :: st) b h P := by
  intro G p l e R s m args below meth c H locs cells slots Q ls F Rt hw lr hlen hlc hc1 hc2
  exact lv_ifnull F.1 F.2.1 hd (k G p l e R s m args below meth c H locs cells slots Q ls F Rt hw lr hlen hlc hc1 hc2)
theorem sg_nullN {o : Int} (hd : decode md.2.2.1 pc = .ok (.ifnull o, 3)) (ht : (pc : Int) + o = tg) (k : sr_Go md d tg L st b h P) : sr_Go md d pc L (.null :: st) b h P := by
  intro G p l e R s m args below meth c H locs cells slots Q ls F Rt hw lr hlen hlc hc1 hc2
  exact lv_ifnullN F.1 F.2.1 hd ht (k G p l e R s m args below meth c H locs cells slots Q ls F Rt hw lr hlen hlc hc1 hc2)
theorem sg_nonnR {o : Int} {r : Nat} (hd : decode md.2.2.1 pc = .ok (.ifnonnull o, 3)) (ht : (pc : Int) + o = tg) (k : sr_Go md d tg L st b h P) : sr_Go md d pc L (.ref r :: st) b h P := by
  intro G p l e R s m args below meth c H locs cells slots Q ls F Rt hw lr hlen hlc hc1 hc2
  exact lv_ifnonnull F.1 F.2.1 hd ht (k G p l e R s m args below meth c H locs cells slots Q ls F Rt hw lr hlen hlc hc1 hc2)
theorem sg_nonnN {o : Int} (hd : decode md.2.2.1 pc = .ok (.ifnonnull o, 3)) (k : sr_Go md d (pc + 3) L st b h P) : sr_Go md d pc L (.null :: st) b h P := by
  intro G p l e R s m args below meth c H locs cells slots Q ls F Rt hw lr hlen hlc hc1 hc2
  exact lv_ifnonnullN F.1 F.2.1 hd (k G p l e R s m args below meth c H locs cells slots Q ls F Rt hw lr hlen hlc hc1 hc2)
theorem sg_idiv {x y : Int32} (hd : decode md.2.2.1 pc = .ok (.idiv, 1)) (hy : ¬ y = 0) (k : sr_Go md d (pc + 1) L (.int (x / y) :: st) b h P) : sr_Go md d pc L (.int y :: .int x :: st) b h P := by
  intro G p l e R s m args below meth c H locs cells slots Q ls F Rt hw lr hlen hlc hc1 hc2
  exact lv_idiv F.1 F.2.1 hd hy (k G p l e R s m args below meth c H locs cells slots Q ls F Rt hw lr hlen hlc hc1 hc2)
theorem sg_irem {x y : Int32} (hd : decode md.2.2.1 pc = .ok (.irem, 1)) (hy : ¬ y = 0) (k : sr_Go md d (pc + 1) L (.int (x - x / y * y) :: st) b h P) : sr_Go md d pc L (.int y :: .int x :: st) b h P := by
  intro G p l e R s m args below meth c H locs cells slots Q ls F Rt hw lr hlen hlc hc1 hc2
  exact lv_irem F.1 F.2.1 hd hy (k G p l e R s m args below meth c H locs cells slots Q ls F Rt hw lr hlen hlc hc1 hc2)
theorem sg_ldiv {x y : Int64} (hd : decode md.2.2.1 pc = .ok (.ldiv, 1)) (hy : ¬ y = 0) (k : sr_Go md d (pc + 1) L (.long (x / y) :: st) b h P) : sr_Go md d pc L (.long y :: .long x :: st) b h P := by
  intro G p l e R s m args below meth c H locs cells slots Q ls F Rt hw lr hlen hlc hc1 hc2
  exact lv_ldiv F.1 F.2.1 hd hy (k G p l e R s m args below meth c H locs cells slots Q ls F Rt hw lr hlen hlc hc1 hc2)
theorem sg_lrem {x y : Int64} (hd : decode md.2.2.1 pc = .ok (.lrem, 1)) (hy : ¬ y = 0) (k : sr_Go md d (pc + 1) L (.long (x - x / y * y) :: st) b h P) : sr_Go md d pc L (.long y :: .long x :: st) b h P := by
  intro G p l e R s m args below meth c H locs cells slots Q ls F Rt hw lr hlen hlc hc1 hc2
  exact lv_lrem F.1 F.2.1 hd hy (k G p l e R s m args below meth c H locs cells slots Q ls F Rt hw lr hlen hlc hc1 hc2)
end SN
end
section
theorem sr_bif {c : Bool} {A : Prop} (w : bif c then A else False) : c = true ∧ A := by
  cases c with
  | false => exact w.elim
  | true => exact ⟨rfl, w⟩
theorem sr_beq {a b : Nat} (h : Nat.beq a b = true) : a = b := Nat.eq_of_beq_eq_true h
theorem sr_blt {a b : Nat} (h : Nat.blt a b = true) : a < b := Nat.le_of_ble_eq_true h
theorem sr_ble {a b : Nat} (h : Nat.ble a b = true) : a ≤ b := Nat.le_of_ble_eq_true h
theorem sr_own (md : sr_MD) {own idx k : Nat} (ho : own < 9) (hq : (sr_mls own).lookup idx = some (k, md)) : md.1 < 9 := by
  have h2 : ∀ own, own < 9 → ∀ q ∈ sr_mls own, q.2.2.1 < 9 := by decide +kernel
  exact h2 own ho _ (sr_lookup hq)
set_option maxHeartbeats 4000000 in
theorem sr_wp_go {md : sr_MD} {d : Nat} : ∀ {is : List (Instr × Nat × Nat)} {pc : Nat} {L : sr_L} {st : List Value} {b : Nat × Nat} {h : sr_H} {P : Option Value → sr_H → Prop}, sr_is md.2.2.1 pc is = true → sr_wp md d is pc L st b h P → sr_Go md d pc L st b h P := by
  intro is
  induction is with
  | nil => intro pc L st b h P _ w; exact w
  | cons a is ih =>
    intro pc L st b h P hc w
    obtain ⟨i, nx, tg⟩ := a
    simp only [sr_is, Bool.and_eq_true, decide_eq_true_eq] at hc
    obtain ⟨⟨⟨hn, hd⟩, ht⟩, hrest⟩ := hc
    unfold sr_wp at w
    cases hs : sr_sim md.1 i L st with
    | some q => rw [hs] at w; exact sg_sim hn hd hs (ih hrest w)
    | none =>
      rw [hs] at w
      dsimp only at w
      generalize nx - pc = z at hn hd
      cases i with
      | goto o => exact sg_goto hd (of_decide_eq_true ht) w
      | ifCond c o =>
        subst hn
        dsimp only at w
        split at w
        · refine sg_if hd (of_decide_eq_true ht) ?_
          cases c with
          | eq => exact sr_ite (fun c9 => sr_iteT w c9) (fun c9 => ih hrest (sr_iteF w c9))
          | ne => exact sr_ite (fun c9 => ih hrest (sr_iteT w c9)) (fun c9 => sr_iteF w c9)
          | lt => exact sr_ite (fun c9 => sr_iteT w c9) (fun c9 => ih hrest (sr_iteF w c9))
          | ge => exact sr_ite (fun c9 => ih hrest (sr_iteT w c9)) (fun c9 => sr_iteF w c9)
          | gt => exact sr_ite (fun c9 => sr_iteT w c9) (fun c9 => ih hrest (sr_iteF w c9))
          | le => exact sr_ite (fun c9 => ih hrest (sr_iteT w c9)) (fun c9 => sr_iteF w c9)
        · exact w.elim
      | if_icmp c o =>
        subst hn
        dsimp only at w
        split at w
        · refine sg_icmp hd (of_decide_eq_true ht) ?_
          cases c with
          | eq => exact sr_ite (fun c9 => sr_iteT w c9) (fun c9 => ih hrest (sr_iteF w c9))
          | ne => exact sr_ite (fun c9 => ih hrest (sr_iteT w c9)) (fun c9 => sr_iteF w c9)
          | lt => exact sr_ite (fun c9 => sr_iteT w c9) (fun c9 => ih hrest (sr_iteF w c9))
          | ge => exact sr_ite (fun c9 => ih hrest (sr_iteT w c9)) (fun c9 => sr_iteF w c9)
          | gt => exact sr_ite (fun c9 => sr_iteT w c9) (fun c9 => ih hrest (sr_iteF w c9))
          | le => exact sr_ite (fun c9 => ih hrest (sr_iteT w c9)) (fun c9 => sr_iteF w c9)
        · exact w.elim
      | ifnull o =>
        subst hn
        dsimp only at w
        split at w
        · exact sg_nullR hd (ih hrest w)
        · exact sg_nullN hd (of_decide_eq_true ht) w
        · exact w.elim
      | ifnonnull o =>
        subst hn
        dsimp only at w
        split at w
        · exact sg_nonnR hd (of_decide_eq_true ht) w
        · exact sg_nonnN hd (ih hrest w)
        · exact w.elim
      | tableswitch dflt lo hi offs =>
        dsimp only at w
        split at w
        · simp only [sr_tgs, Bool.and_eq_true, decide_eq_true_eq, List.all_eq_true] at ht
          exact sg_sw hd ht.1.1.1.1 ht.1.1.1.2 ht.1.1.2 ht.1.2 ht.2 w
        · exact w.elim
      | lookupswitch dflt ps =>
        dsimp only at w
        split at w
        · simp only [sr_tgs, Bool.and_eq_true] at ht
          refine sg_lsw hd (of_decide_eq_true ht.1.1) ?_ ht.2 w
          intro q hq
          have := List.all_eq_true.mp ht.1.2 q hq
          simp only [Bool.and_eq_true, decide_eq_true_eq] at this
          exact ⟨this.1.1, this.1.2, this.2⟩
        · exact w.elim
      | idiv => subst hn; dsimp only at w; split at w; exact sg_idiv hd w.1 (ih hrest w.2); exact w.elim
      | irem => subst hn; dsimp only at w; split at w; exact sg_irem hd w.1 (ih hrest w.2); exact w.elim
      | ldiv => subst hn; dsimp only at w; split at w; exact sg_ldiv hd w.1 (ih hrest w.2); exact w.elim
      | lrem => subst hn; dsimp only at w; split at w; exact sg_lrem hd w.1 (ih hrest w.2); exact w.elim
      | getfield idx =>
        subst hn
        dsimp only at w
        split at w
        · split at w
          · next q hq =>
            obtain ⟨hb, w⟩ := sr_bif w
            simp only [Bool.and_eq_true] at hb
            exact sg_get hd hq (sr_beq hb.1) (sr_blt hb.2) (ih hrest w)
          · exact w.elim
        · exact w.elim
      | putfield idx =>
        subst hn
        dsimp only at w
        split at w
        · split at w
          · next q hq =>
            obtain ⟨hb, w⟩ := sr_bif w
            simp only [Bool.and_eq_true, Bool.or_eq_true, Bool.not_eq_true', decide_eq_true_eq] at hb
            obtain ⟨⟨hb1, hb2⟩, hb3⟩ := hb
            have hfin : sr_fin q.1 q.2 = false ∨ (md.2.1.name = "<init>" ∧ md.1 = q.1) := hb3.imp id (fun x => ⟨x.1, sr_beq x.2⟩)
            split at w
            · exact sg_putI hd hq (sr_beq hb1) (sr_blt hb2) hfin (by assumption) (ih hrest w)
            · exact sg_putJ hd hq (sr_beq hb1) (sr_blt hb2) hfin (by assumption) (ih hrest w)
            · exact sg_putR (x := some _) hd hq (sr_beq hb1) (sr_blt hb2) hfin (by assumption) (ih hrest w)
            · exact sg_putR (x := none) hd hq (sr_beq hb1) (sr_blt hb2) hfin (by assumption) (ih hrest w)
            · exact w.elim
          · exact w.elim
        · exact w.elim
      | getstatic idx =>
        subst hn
        dsimp only at w
        split at w
        · next j hq => exact sg_gets hd hq (ih hrest w)
        · exact w.elim
      | arraylength =>
        subst hn
        dsimp only at w
        split at w
        · obtain ⟨hb, w⟩ := sr_bif w
          simp only [Bool.and_eq_true] at hb
          exact sg_alen hd (sr_ble hb.1) (sr_blt hb.2) (ih hrest w)
        · exact w.elim
      | iaload =>
        subst hn
        dsimp only at w
        split at w
        · obtain ⟨hb, k, ⟨h1, h2⟩, w⟩ := sr_bif w
          exact sg_iald hd (sr_beq hb) h1 h2 (ih hrest w)
        · exact w.elim
      | baload =>
        subst hn
        dsimp only at w
        split at w
        · obtain ⟨hb, k, ⟨h1, h2⟩, w⟩ := sr_bif w
          simp only [Bool.and_eq_true, Bool.or_eq_true] at hb
          exact sg_bald hd (hb.1.imp sr_beq sr_beq) (sr_blt hb.2) h1 h2 (ih hrest w)
        · exact w.elim
      | aaload =>
        subst hn
        dsimp only at w
        split at w
        · obtain ⟨hb, k, ⟨h1, h2⟩, w⟩ := sr_bif w
          simp only [Bool.and_eq_true] at hb
          exact sg_aald hd (sr_beq hb.1) (sr_blt hb.2) h1 h2 (ih hrest w)
        · exact w.elim
      | iastore =>
        subst hn
        dsimp only at w
        split at w
        · obtain ⟨hb, k, ⟨h1, h2⟩, w⟩ := sr_bif w
          simp only [Bool.and_eq_true] at hb
          exact sg_iast hd (sr_beq hb.1) (sr_blt hb.2) h1 h2 (ih hrest w)
        · exact w.elim
      | bastore =>
        subst hn
        dsimp only at w
        split at w
        · next x i9 r st9 =>
          cases hb6 : (Nat.beq (h.2.1 r).1 6 && Nat.blt r 1000000) with
          | true =>
            rw [hb6] at w
            obtain ⟨k, ⟨h1, h2⟩, w⟩ := w
            simp only [Bool.and_eq_true] at hb6
            exact sg_bast hd (sr_beq hb6.1) (sr_blt hb6.2) h1 h2 (ih hrest w)
          | false =>
            rw [hb6] at w
            obtain ⟨hb, k, ⟨h1, h2, h3⟩, w⟩ := sr_bif w
            simp only [Bool.and_eq_true] at hb
            exact sg_zast hd (sr_beq hb.1) (sr_blt hb.2) h1 h2 h3 (ih hrest w)
        · exact w.elim
      | aastore =>
        subst hn
        dsimp only at w
        split at w
        · obtain ⟨hb, k, ⟨h1, h2⟩, w⟩ := sr_bif w
          simp only [Bool.and_eq_true] at hb
          exact sg_aast hd (sr_beq hb.1.1) (sr_blt hb.1.2) (sr_beq hb.2.1) (sr_blt hb.2.2) h1 h2 (ih hrest w)
        · exact w.elim
      | new idx =>
        subst hn
        dsimp only at w
        split at w
        · next c hq => exact sg_new hd hq w.1.1 w.1.2.1 w.1.2.2 (ih hrest w.2)
        · exact w.elim
      | newarray t =>
        subst hn
        dsimp only at w
        split at w
        · obtain ⟨N, ⟨h1, h2, h3, h4, h5, h6⟩, w⟩ := w
          exact sg_newa hd h1 h2 h3 h4 h5 h6 (ih hrest w)
        · exact w.elim
      | anewarray idx =>
        subst hn
        dsimp only at w
        split at w
        · obtain ⟨hq, N, ⟨h1, h2, h3, h4, h5⟩, w⟩ := w
          exact sg_anew hd hq h1 h2 h3 h4 h5 (ih hrest w)
        · exact w.elim
      | ireturn =>
        subst hn
        dsimp only at w
        split at w
        · split at w
          · next hr => exact sg_ret (Or.inl ⟨_, rfl, hd, Or.inl hr⟩) w
          · next hr => exact sg_ret (Or.inl ⟨_, rfl, hd, Or.inr ⟨hr, w.1⟩⟩) w.2
          · exact w.elim
        · exact w.elim
      | lreturn =>
        subst hn
        dsimp only at w
        split at w
        · split at w
          · next hr => exact sg_ret (Or.inr (Or.inl ⟨_, rfl, hd, hr⟩)) w
          · exact w.elim
        · exact w.elim
      | return_ =>
        subst hn
        dsimp only at w
        split at w
        · split at w
          · next hr => exact sg_ret (r := none) (Or.inr (Or.inr ⟨rfl, hd, hr⟩)) w
          · exact w.elim
        · exact w.elim
      | invokevirtual idx =>
        subst hn
        dsimp only at w
        split at w
        · next md' hq =>
          split at w
          · next As r rest hp =>
            obtain ⟨hb, w⟩ := sr_bif w
            simp only [Bool.and_eq_true] at hb
            obtain ⟨⟨⟨⟨b1, b2⟩, b3⟩, b4⟩, b5, b6⟩ := hb
            obtain ⟨Cs, c1, c2, c3⟩ := sr_pop_spec hp
            cases d with
            | zero => exact w.elim
            | succ d' =>
              refine sg_invV hd hq (As := As) (r := r) (rest := rest) ?_ ?_ (sr_beq b1) (sr_blt b2) (sr_ble b3) (sr_ble b4) (sr_ble b5) (sr_ble b6) w (fun v h1 w1 => ih hrest w1)
              · rw [c2, c3, List.append_nil, List.reverse_reverse]
              · rw [c3, List.append_nil, List.length_reverse, c1]
          · exact w.elim
        · exact w.elim
      | invokestatic idx =>
        subst hn
        dsimp only at w
        split at w
        · next md' hq =>
          split at w
          · next As rest hp =>
            obtain ⟨hb, w⟩ := sr_bif w
            simp only [Bool.and_eq_true] at hb
            obtain ⟨⟨b3, b4⟩, b5, b6⟩ := hb
            obtain ⟨Cs, c1, c2, c3⟩ := sr_pop_spec hp
            cases d with
            | zero => exact w.elim
            | succ d' =>
              intro G p l e R s m args below meth c H locs cells slots Q ls F
              refine sg_invS hd hq (As := As) (rest := rest) ?_ ?_ (sr_own _ F.2.2.2.2.2.2.2.2.2.2.2 hq) (sr_ble b3) (sr_ble b4) (sr_ble b5) (sr_ble b6) w (fun v h1 w1 => ih hrest w1) G p l e R s m args below meth c H locs cells slots Q ls F
              · rw [c2, c3, List.append_nil, List.reverse_reverse]
              · rw [c3, List.append_nil, List.length_reverse, c1]
          · exact w.elim
        · next hq =>
          split at w
          · obtain ⟨hb, i, j, k, ⟨h1, h2, h3, h4, h5⟩, w⟩ := sr_bif w
            simp only [Bool.and_eq_true] at hb
            exact sg_copy hd hq (sr_beq hb.1.1.1.1.1) (sr_beq hb.1.1.1.1.2) (sr_blt hb.1.1.1.2) (sr_blt hb.1.1.2) (sr_ble hb.1.2) (sr_blt hb.2) h1 h2 h3 h4 h5 (ih hrest w)
          · exact w.elim
        · next hq =>
          split at w
          · obtain ⟨hb, w⟩ := sr_bif w
            simp only [Bool.and_eq_true] at hb
            exact sg_max hd hq (sr_ble hb.1) (sr_blt hb.2) (ih hrest w)
          · exact w.elim
        · exact w.elim
      | invokespecial idx =>
        subst hn
        dsimp only at w
        split at w
        · next hq =>
          split at w
          · obtain ⟨hb, w⟩ := sr_bif w
            simp only [Bool.and_eq_true] at hb
            exact sg_obj hd hq (sr_ble hb.1) (sr_blt hb.2) (ih hrest w)
          · exact w.elim
        · next k md' hne hq =>
          split at w
          · next As r rest hp =>
            obtain ⟨hb, w⟩ := sr_bif w
            simp only [Bool.and_eq_true, Bool.or_eq_true] at hb
            obtain ⟨⟨⟨⟨b1, b2⟩, b3⟩, b4⟩, b5, b6⟩ := hb
            obtain ⟨Cs, c1, c2, c3⟩ := sr_pop_spec hp
            cases d with
            | zero => exact w.elim
            | succ d' =>
              intro G p l e R s m args below meth c H locs cells slots Q ls F
              refine sg_invI hd (b1.imp sr_beq sr_beq) hq (As := As) (r := r) (rest := rest) ?_ ?_ (sr_blt b2) (sr_own _ F.2.2.2.2.2.2.2.2.2.2.2 hq) (sr_ble b3) (sr_ble b4) (sr_ble b5) (sr_ble b6) w (fun v h1 w1 => ih hrest w1) G p l e R s m args below meth c H locs cells slots Q ls F
              · rw [c2, c3, List.append_nil, List.reverse_reverse]
              · rw [c3, List.append_nil, List.length_reverse, c1]
          · exact w.elim
        · exact w.elim
      | _ => exact w.elim
end
