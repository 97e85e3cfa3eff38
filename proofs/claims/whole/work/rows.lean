section
-- ===== PART A: goes FIRST, ahead of the names: the tables' words, and 'selects' of the private methods out of them =====
/-- a private method of a class that the tables say can be made, by its rows of tables_1 -/
def lw_okq (q : MethodName × Nat) : Prop := (q.1.cls ≠ "java/lang/invoke/MethodHandle" ∧ q.1.cls ≠ "java/lang/invoke/VarHandle") ∧ Cond.instantiable q.1.cls q.2 ∈ tables_1 ∧ Cond.privateMethod q.1 ∈ tables_1 ∧ Cond.instanceMethod q.1 ∈ tables_1
theorem lw_p0 : lw_okq (⟨"ConnectionDesk$Runs", "gatherRun", "(III)V"⟩, 9) := ⟨⟨by decide +kernel, by decide +kernel⟩, List.mem_of_getElem? (i := 256) (by decide +kernel), List.mem_of_getElem? (i := 593) (by decide +kernel), List.mem_of_getElem? (i := 594) (by decide +kernel)⟩
theorem lw_p1 : lw_okq (⟨"ConnectionDesk$Runs", "setTimes", "(III)V"⟩, 9) := ⟨⟨by decide +kernel, by decide +kernel⟩, List.mem_of_getElem? (i := 256) (by decide +kernel), List.mem_of_getElem? (i := 597) (by decide +kernel), List.mem_of_getElem? (i := 598) (by decide +kernel)⟩
theorem lw_p2 : lw_okq (⟨"ConnectionDesk$Places", "rowOf", "(II)I"⟩, 3) := ⟨⟨by decide +kernel, by decide +kernel⟩, List.mem_of_getElem? (i := 191) (by decide +kernel), List.mem_of_getElem? (i := 605) (by decide +kernel), List.mem_of_getElem? (i := 606) (by decide +kernel)⟩
theorem lw_p3 : lw_okq (⟨"ConnectionDesk$Search", "row", "(II)I"⟩, 11) := ⟨⟨by decide +kernel, by decide +kernel⟩, List.mem_of_getElem? (i := 302) (by decide +kernel), List.mem_of_getElem? (i := 618) (by decide +kernel), List.mem_of_getElem? (i := 619) (by decide +kernel)⟩
theorem lw_p4 : lw_okq (⟨"ConnectionDesk$Search", "getReady", "(I)V"⟩, 11) := ⟨⟨by decide +kernel, by decide +kernel⟩, List.mem_of_getElem? (i := 302) (by decide +kernel), List.mem_of_getElem? (i := 629) (by decide +kernel), List.mem_of_getElem? (i := 630) (by decide +kernel)⟩
theorem lw_p5 : lw_okq (⟨"ConnectionDesk$Walks", "nextBeginning", "(II)I"⟩, 9) := ⟨⟨by decide +kernel, by decide +kernel⟩, List.mem_of_getElem? (i := 148) (by decide +kernel), List.mem_of_getElem? (i := 647) (by decide +kernel), List.mem_of_getElem? (i := 648) (by decide +kernel)⟩
theorem lw_p6 : lw_okq (⟨"ConnectionDesk$Search", "ride", "(II)V"⟩, 11) := ⟨⟨by decide +kernel, by decide +kernel⟩, List.mem_of_getElem? (i := 302) (by decide +kernel), List.mem_of_getElem? (i := 652) (by decide +kernel), List.mem_of_getElem? (i := 653) (by decide +kernel)⟩
theorem lw_p7 : lw_okq (⟨"ConnectionDesk$Search", "getOff", "(III)V"⟩, 11) := ⟨⟨by decide +kernel, by decide +kernel⟩, List.mem_of_getElem? (i := 302) (by decide +kernel), List.mem_of_getElem? (i := 663) (by decide +kernel), List.mem_of_getElem? (i := 664) (by decide +kernel)⟩
theorem lw_p8 : lw_okq (⟨"ConnectionDesk$Search", "faresTo", "(I)I"⟩, 11) := ⟨⟨by decide +kernel, by decide +kernel⟩, List.mem_of_getElem? (i := 302) (by decide +kernel), List.mem_of_getElem? (i := 667) (by decide +kernel), List.mem_of_getElem? (i := 668) (by decide +kernel)⟩
theorem lw_p9 : lw_okq (⟨"ConnectionDesk$Search", "getOn", "(III)V"⟩, 11) := ⟨⟨by decide +kernel, by decide +kernel⟩, List.mem_of_getElem? (i := 302) (by decide +kernel), List.mem_of_getElem? (i := 671) (by decide +kernel), List.mem_of_getElem? (i := 672) (by decide +kernel)⟩
theorem lw_p10 : lw_okq (⟨"ConnectionDesk$Search", "canCost", "(II)Z"⟩, 11) := ⟨⟨by decide +kernel, by decide +kernel⟩, List.mem_of_getElem? (i := 302) (by decide +kernel), List.mem_of_getElem? (i := 694) (by decide +kernel), List.mem_of_getElem? (i := 695) (by decide +kernel)⟩
theorem lw_p11 : lw_okq (⟨"ConnectionDesk$Found", "isUnbeaten", "(II)Z"⟩, 11) := ⟨⟨by decide +kernel, by decide +kernel⟩, List.mem_of_getElem? (i := 348) (by decide +kernel), List.mem_of_getElem? (i := 699) (by decide +kernel), List.mem_of_getElem? (i := 700) (by decide +kernel)⟩
theorem lw_p12 : lw_okq (⟨"ConnectionDesk$Found", "trace", "(IIII)V"⟩, 11) := ⟨⟨by decide +kernel, by decide +kernel⟩, List.mem_of_getElem? (i := 348) (by decide +kernel), List.mem_of_getElem? (i := 712) (by decide +kernel), List.mem_of_getElem? (i := 713) (by decide +kernel)⟩
theorem lw_p13 : lw_okq (⟨"ConnectionDesk$Found", "leastWalk", "(IIIII)I"⟩, 11) := ⟨⟨by decide +kernel, by decide +kernel⟩, List.mem_of_getElem? (i := 348) (by decide +kernel), List.mem_of_getElem? (i := 716) (by decide +kernel), List.mem_of_getElem? (i := 717) (by decide +kernel)⟩
theorem lw_p14 : lw_okq (⟨"ConnectionDesk$Found", "leastRide", "(IIIIII)V"⟩, 11) := ⟨⟨by decide +kernel, by decide +kernel⟩, List.mem_of_getElem? (i := 348) (by decide +kernel), List.mem_of_getElem? (i := 722) (by decide +kernel), List.mem_of_getElem? (i := 723) (by decide +kernel)⟩
theorem lw_p15 : lw_okq (⟨"ConnectionDesk$Found", "callsInTime", "(IIIII)I"⟩, 11) := ⟨⟨by decide +kernel, by decide +kernel⟩, List.mem_of_getElem? (i := 348) (by decide +kernel), List.mem_of_getElem? (i := 726) (by decide +kernel), List.mem_of_getElem? (i := 727) (by decide +kernel)⟩
def lw_privs_1 : List (MethodName × Nat) := [(⟨"ConnectionDesk$Runs", "gatherRun", "(III)V"⟩, 9), (⟨"ConnectionDesk$Runs", "setTimes", "(III)V"⟩, 9), (⟨"ConnectionDesk$Places", "rowOf", "(II)I"⟩, 3), (⟨"ConnectionDesk$Search", "row", "(II)I"⟩, 11), (⟨"ConnectionDesk$Search", "getReady", "(I)V"⟩, 11), (⟨"ConnectionDesk$Walks", "nextBeginning", "(II)I"⟩, 9), (⟨"ConnectionDesk$Search", "ride", "(II)V"⟩, 11), (⟨"ConnectionDesk$Search", "getOff", "(III)V"⟩, 11), (⟨"ConnectionDesk$Search", "faresTo", "(I)I"⟩, 11), (⟨"ConnectionDesk$Search", "getOn", "(III)V"⟩, 11), (⟨"ConnectionDesk$Search", "canCost", "(II)Z"⟩, 11), (⟨"ConnectionDesk$Found", "isUnbeaten", "(II)Z"⟩, 11), (⟨"ConnectionDesk$Found", "trace", "(IIII)V"⟩, 11), (⟨"ConnectionDesk$Found", "leastWalk", "(IIIII)I"⟩, 11), (⟨"ConnectionDesk$Found", "leastRide", "(IIIIII)V"⟩, 11), (⟨"ConnectionDesk$Found", "callsInTime", "(IIIII)I"⟩, 11)]
theorem lw_r1 : ∀ q ∈ lw_privs_1, lw_okq q := List.forall_mem_cons.mpr ⟨lw_p0, List.forall_mem_cons.mpr ⟨lw_p1, List.forall_mem_cons.mpr ⟨lw_p2, List.forall_mem_cons.mpr ⟨lw_p3, List.forall_mem_cons.mpr ⟨lw_p4, List.forall_mem_cons.mpr ⟨lw_p5, List.forall_mem_cons.mpr ⟨lw_p6, List.forall_mem_cons.mpr ⟨lw_p7, List.forall_mem_cons.mpr ⟨lw_p8, List.forall_mem_cons.mpr ⟨lw_p9, List.forall_mem_cons.mpr ⟨lw_p10, List.forall_mem_cons.mpr ⟨lw_p11, List.forall_mem_cons.mpr ⟨lw_p12, List.forall_mem_cons.mpr ⟨lw_p13, List.forall_mem_cons.mpr ⟨lw_p14, List.forall_mem_cons.mpr ⟨lw_p15, fun _ h => absurd h List.not_mem_nil⟩⟩⟩⟩⟩⟩⟩⟩⟩⟩⟩⟩⟩⟩⟩⟩
theorem lw_p16 : lw_okq (⟨"ConnectionDesk$Found", "firstOff", "(III)I"⟩, 11) := ⟨⟨by decide +kernel, by decide +kernel⟩, List.mem_of_getElem? (i := 348) (by decide +kernel), List.mem_of_getElem? (i := 731) (by decide +kernel), List.mem_of_getElem? (i := 732) (by decide +kernel)⟩
theorem lw_p17 : lw_okq (⟨"ConnectionDesk$Found", "canGetOn", "(IIIII)Z"⟩, 11) := ⟨⟨by decide +kernel, by decide +kernel⟩, List.mem_of_getElem? (i := 348) (by decide +kernel), List.mem_of_getElem? (i := 735) (by decide +kernel), List.mem_of_getElem? (i := 736) (by decide +kernel)⟩
theorem lw_p18 : lw_okq (⟨"ConnectionDesk$Found", "write", "(III)V"⟩, 11) := ⟨⟨by decide +kernel, by decide +kernel⟩, List.mem_of_getElem? (i := 348) (by decide +kernel), List.mem_of_getElem? (i := 747) (by decide +kernel), List.mem_of_getElem? (i := 748) (by decide +kernel)⟩
theorem lw_p19 : lw_okq (⟨"ConnectionDesk$Found", "writeRide", "(IIII)I"⟩, 11) := ⟨⟨by decide +kernel, by decide +kernel⟩, List.mem_of_getElem? (i := 348) (by decide +kernel), List.mem_of_getElem? (i := 751) (by decide +kernel), List.mem_of_getElem? (i := 752) (by decide +kernel)⟩
theorem lw_p20 : lw_okq (⟨"ConnectionDesk$Found", "writeWalk", "(III)I"⟩, 11) := ⟨⟨by decide +kernel, by decide +kernel⟩, List.mem_of_getElem? (i := 348) (by decide +kernel), List.mem_of_getElem? (i := 755) (by decide +kernel), List.mem_of_getElem? (i := 756) (by decide +kernel)⟩
theorem lw_p21 : lw_okq (⟨"ConnectionDesk$Tickets", "hasPlaces", "(LConnectionDesk$Found;I)Z"⟩, 13) := ⟨⟨by decide +kernel, by decide +kernel⟩, List.mem_of_getElem? (i := 207) (by decide +kernel), List.mem_of_getElem? (i := 795) (by decide +kernel), List.mem_of_getElem? (i := 796) (by decide +kernel)⟩
theorem lw_p22 : lw_okq (⟨"ConnectionDesk$Tickets", "hasPlacesOn", "(LConnectionDesk$Found;II)Z"⟩, 13) := ⟨⟨by decide +kernel, by decide +kernel⟩, List.mem_of_getElem? (i := 207) (by decide +kernel), List.mem_of_getElem? (i := 801) (by decide +kernel), List.mem_of_getElem? (i := 802) (by decide +kernel)⟩
theorem lw_p23 : lw_okq (⟨"ConnectionDesk$Tickets", "changePlaces", "(II)V"⟩, 13) := ⟨⟨by decide +kernel, by decide +kernel⟩, List.mem_of_getElem? (i := 207) (by decide +kernel), List.mem_of_getElem? (i := 813) (by decide +kernel), List.mem_of_getElem? (i := 814) (by decide +kernel)⟩
theorem lw_p24 : lw_okq (⟨"ConnectionDesk$Places", "newRow", "(II)I"⟩, 3) := ⟨⟨by decide +kernel, by decide +kernel⟩, List.mem_of_getElem? (i := 191) (by decide +kernel), List.mem_of_getElem? (i := 821) (by decide +kernel), List.mem_of_getElem? (i := 822) (by decide +kernel)⟩
theorem lw_p25 : lw_okq (⟨"ConnectionDesk$Tickets", "changeAt", "(I)I"⟩, 13) := ⟨⟨by decide +kernel, by decide +kernel⟩, List.mem_of_getElem? (i := 207) (by decide +kernel), List.mem_of_getElem? (i := 846) (by decide +kernel), List.mem_of_getElem? (i := 847) (by decide +kernel)⟩
theorem lw_p26 : lw_okq (⟨"ConnectionDesk$Tickets", "canRide", "(II)Z"⟩, 13) := ⟨⟨by decide +kernel, by decide +kernel⟩, List.mem_of_getElem? (i := 207) (by decide +kernel), List.mem_of_getElem? (i := 850) (by decide +kernel), List.mem_of_getElem? (i := 851) (by decide +kernel)⟩
theorem lw_p27 : lw_okq (⟨"ConnectionDesk", "gather", "(III)V"⟩, 11) := ⟨⟨by decide +kernel, by decide +kernel⟩, List.mem_of_getElem? (i := 17) (by decide +kernel), List.mem_of_getElem? (i := 893) (by decide +kernel), List.mem_of_getElem? (i := 894) (by decide +kernel)⟩
theorem lw_p28 : lw_okq (⟨"ConnectionDesk$Board", "gatherTrip", "(III)V"⟩, 2) := ⟨⟨by decide +kernel, by decide +kernel⟩, List.mem_of_getElem? (i := 408) (by decide +kernel), List.mem_of_getElem? (i := 912) (by decide +kernel), List.mem_of_getElem? (i := 913) (by decide +kernel)⟩
theorem lw_p29 : lw_okq (⟨"ConnectionDeskModel", "isTrip", "(I)Z"⟩, 60) := ⟨⟨by decide +kernel, by decide +kernel⟩, List.mem_of_getElem? (i := 929) (by decide +kernel), List.mem_of_getElem? (i := 1142) (by decide +kernel), List.mem_of_getElem? (i := 1143) (by decide +kernel)⟩
theorem lw_p30 : lw_okq (⟨"ConnectionDeskModel", "isStop", "(I)Z"⟩, 60) := ⟨⟨by decide +kernel, by decide +kernel⟩, List.mem_of_getElem? (i := 929) (by decide +kernel), List.mem_of_getElem? (i := 1146) (by decide +kernel), List.mem_of_getElem? (i := 1147) (by decide +kernel)⟩
theorem lw_p31 : lw_okq (⟨"ConnectionDeskModel", "isCall", "(II)Z"⟩, 60) := ⟨⟨by decide +kernel, by decide +kernel⟩, List.mem_of_getElem? (i := 929) (by decide +kernel), List.mem_of_getElem? (i := 1154) (by decide +kernel), List.mem_of_getElem? (i := 1155) (by decide +kernel)⟩
def lw_privs_2 : List (MethodName × Nat) := [(⟨"ConnectionDesk$Found", "firstOff", "(III)I"⟩, 11), (⟨"ConnectionDesk$Found", "canGetOn", "(IIIII)Z"⟩, 11), (⟨"ConnectionDesk$Found", "write", "(III)V"⟩, 11), (⟨"ConnectionDesk$Found", "writeRide", "(IIII)I"⟩, 11), (⟨"ConnectionDesk$Found", "writeWalk", "(III)I"⟩, 11), (⟨"ConnectionDesk$Tickets", "hasPlaces", "(LConnectionDesk$Found;I)Z"⟩, 13), (⟨"ConnectionDesk$Tickets", "hasPlacesOn", "(LConnectionDesk$Found;II)Z"⟩, 13), (⟨"ConnectionDesk$Tickets", "changePlaces", "(II)V"⟩, 13), (⟨"ConnectionDesk$Places", "newRow", "(II)I"⟩, 3), (⟨"ConnectionDesk$Tickets", "changeAt", "(I)I"⟩, 13), (⟨"ConnectionDesk$Tickets", "canRide", "(II)Z"⟩, 13), (⟨"ConnectionDesk", "gather", "(III)V"⟩, 11), (⟨"ConnectionDesk$Board", "gatherTrip", "(III)V"⟩, 2), (⟨"ConnectionDeskModel", "isTrip", "(I)Z"⟩, 60), (⟨"ConnectionDeskModel", "isStop", "(I)Z"⟩, 60), (⟨"ConnectionDeskModel", "isCall", "(II)Z"⟩, 60)]
theorem lw_r2 : ∀ q ∈ lw_privs_2, lw_okq q := List.forall_mem_cons.mpr ⟨lw_p16, List.forall_mem_cons.mpr ⟨lw_p17, List.forall_mem_cons.mpr ⟨lw_p18, List.forall_mem_cons.mpr ⟨lw_p19, List.forall_mem_cons.mpr ⟨lw_p20, List.forall_mem_cons.mpr ⟨lw_p21, List.forall_mem_cons.mpr ⟨lw_p22, List.forall_mem_cons.mpr ⟨lw_p23, List.forall_mem_cons.mpr ⟨lw_p24, List.forall_mem_cons.mpr ⟨lw_p25, List.forall_mem_cons.mpr ⟨lw_p26, List.forall_mem_cons.mpr ⟨lw_p27, List.forall_mem_cons.mpr ⟨lw_p28, List.forall_mem_cons.mpr ⟨lw_p29, List.forall_mem_cons.mpr ⟨lw_p30, List.forall_mem_cons.mpr ⟨lw_p31, fun _ h => absurd h List.not_mem_nil⟩⟩⟩⟩⟩⟩⟩⟩⟩⟩⟩⟩⟩⟩⟩⟩
theorem lw_p32 : lw_okq (⟨"ConnectionDeskModel", "isWalk", "(I)Z"⟩, 60) := ⟨⟨by decide +kernel, by decide +kernel⟩, List.mem_of_getElem? (i := 929) (by decide +kernel), List.mem_of_getElem? (i := 1166) (by decide +kernel), List.mem_of_getElem? (i := 1167) (by decide +kernel)⟩
theorem lw_p33 : lw_okq (⟨"ConnectionDeskModel", "lateAt", "(III)I"⟩, 60) := ⟨⟨by decide +kernel, by decide +kernel⟩, List.mem_of_getElem? (i := 929) (by decide +kernel), List.mem_of_getElem? (i := 1178) (by decide +kernel), List.mem_of_getElem? (i := 1179) (by decide +kernel)⟩
theorem lw_p34 : lw_okq (⟨"ConnectionDeskModel", "look", "(II)V"⟩, 60) := ⟨⟨by decide +kernel, by decide +kernel⟩, List.mem_of_getElem? (i := 929) (by decide +kernel), List.mem_of_getElem? (i := 1190) (by decide +kernel), List.mem_of_getElem? (i := 1191) (by decide +kernel)⟩
theorem lw_p35 : lw_okq (⟨"ConnectionDeskModel", "runs", "(II)Z"⟩, 60) := ⟨⟨by decide +kernel, by decide +kernel⟩, List.mem_of_getElem? (i := 929) (by decide +kernel), List.mem_of_getElem? (i := 1194) (by decide +kernel), List.mem_of_getElem? (i := 1195) (by decide +kernel)⟩
theorem lw_p36 : lw_okq (⟨"ConnectionDeskModel", "comesAt", "(III)I"⟩, 60) := ⟨⟨by decide +kernel, by decide +kernel⟩, List.mem_of_getElem? (i := 929) (by decide +kernel), List.mem_of_getElem? (i := 1198) (by decide +kernel), List.mem_of_getElem? (i := 1199) (by decide +kernel)⟩
theorem lw_p37 : lw_okq (⟨"ConnectionDeskModel", "leavesAt", "(III)I"⟩, 60) := ⟨⟨by decide +kernel, by decide +kernel⟩, List.mem_of_getElem? (i := 929) (by decide +kernel), List.mem_of_getElem? (i := 1202) (by decide +kernel), List.mem_of_getElem? (i := 1203) (by decide +kernel)⟩
theorem lw_p38 : lw_okq (⟨"ConnectionDeskModel", "go", "(II)V"⟩, 60) := ⟨⟨by decide +kernel, by decide +kernel⟩, List.mem_of_getElem? (i := 929) (by decide +kernel), List.mem_of_getElem? (i := 1206) (by decide +kernel), List.mem_of_getElem? (i := 1207) (by decide +kernel)⟩
theorem lw_p39 : lw_okq (⟨"ConnectionDeskModel", "behind", "(III)I"⟩, 60) := ⟨⟨by decide +kernel, by decide +kernel⟩, List.mem_of_getElem? (i := 929) (by decide +kernel), List.mem_of_getElem? (i := 1214) (by decide +kernel), List.mem_of_getElem? (i := 1215) (by decide +kernel)⟩
theorem lw_p40 : lw_okq (⟨"ConnectionDeskModel", "begins", "(III)I"⟩, 60) := ⟨⟨by decide +kernel, by decide +kernel⟩, List.mem_of_getElem? (i := 929) (by decide +kernel), List.mem_of_getElem? (i := 1218) (by decide +kernel), List.mem_of_getElem? (i := 1219) (by decide +kernel)⟩
theorem lw_p41 : lw_okq (⟨"ConnectionDeskModel", "ride", "(II)V"⟩, 60) := ⟨⟨by decide +kernel, by decide +kernel⟩, List.mem_of_getElem? (i := 929) (by decide +kernel), List.mem_of_getElem? (i := 1225) (by decide +kernel), List.mem_of_getElem? (i := 1226) (by decide +kernel)⟩
theorem lw_p42 : lw_okq (⟨"ConnectionDeskModel", "hasPlace", "(IIII)Z"⟩, 60) := ⟨⟨by decide +kernel, by decide +kernel⟩, List.mem_of_getElem? (i := 929) (by decide +kernel), List.mem_of_getElem? (i := 1229) (by decide +kernel), List.mem_of_getElem? (i := 1230) (by decide +kernel)⟩
theorem lw_p43 : lw_okq (⟨"ConnectionDeskModel", "fareOf", "(III)I"⟩, 60) := ⟨⟨by decide +kernel, by decide +kernel⟩, List.mem_of_getElem? (i := 929) (by decide +kernel), List.mem_of_getElem? (i := 1233) (by decide +kernel), List.mem_of_getElem? (i := 1234) (by decide +kernel)⟩
theorem lw_p44 : lw_okq (⟨"ConnectionDeskModel", "arrival", "(III)I"⟩, 60) := ⟨⟨by decide +kernel, by decide +kernel⟩, List.mem_of_getElem? (i := 929) (by decide +kernel), List.mem_of_getElem? (i := 1237) (by decide +kernel), List.mem_of_getElem? (i := 1238) (by decide +kernel)⟩
theorem lw_p45 : lw_okq (⟨"ConnectionDeskModel", "isBeaten", "(IIII)Z"⟩, 60) := ⟨⟨by decide +kernel, by decide +kernel⟩, List.mem_of_getElem? (i := 929) (by decide +kernel), List.mem_of_getElem? (i := 1241) (by decide +kernel), List.mem_of_getElem? (i := 1242) (by decide +kernel)⟩
theorem lw_p46 : lw_okq (⟨"ConnectionDeskModel", "findWay", "(IIII)V"⟩, 60) := ⟨⟨by decide +kernel, by decide +kernel⟩, List.mem_of_getElem? (i := 929) (by decide +kernel), List.mem_of_getElem? (i := 1245) (by decide +kernel), List.mem_of_getElem? (i := 1246) (by decide +kernel)⟩
theorem lw_p47 : lw_okq (⟨"ConnectionDeskModel", "walkAhead", "(IIIZI)I"⟩, 60) := ⟨⟨by decide +kernel, by decide +kernel⟩, List.mem_of_getElem? (i := 929) (by decide +kernel), List.mem_of_getElem? (i := 1249) (by decide +kernel), List.mem_of_getElem? (i := 1250) (by decide +kernel)⟩
def lw_privs_3 : List (MethodName × Nat) := [(⟨"ConnectionDeskModel", "isWalk", "(I)Z"⟩, 60), (⟨"ConnectionDeskModel", "lateAt", "(III)I"⟩, 60), (⟨"ConnectionDeskModel", "look", "(II)V"⟩, 60), (⟨"ConnectionDeskModel", "runs", "(II)Z"⟩, 60), (⟨"ConnectionDeskModel", "comesAt", "(III)I"⟩, 60), (⟨"ConnectionDeskModel", "leavesAt", "(III)I"⟩, 60), (⟨"ConnectionDeskModel", "go", "(II)V"⟩, 60), (⟨"ConnectionDeskModel", "behind", "(III)I"⟩, 60), (⟨"ConnectionDeskModel", "begins", "(III)I"⟩, 60), (⟨"ConnectionDeskModel", "ride", "(II)V"⟩, 60), (⟨"ConnectionDeskModel", "hasPlace", "(IIII)Z"⟩, 60), (⟨"ConnectionDeskModel", "fareOf", "(III)I"⟩, 60), (⟨"ConnectionDeskModel", "arrival", "(III)I"⟩, 60), (⟨"ConnectionDeskModel", "isBeaten", "(IIII)Z"⟩, 60), (⟨"ConnectionDeskModel", "findWay", "(IIII)V"⟩, 60), (⟨"ConnectionDeskModel", "walkAhead", "(IIIZI)I"⟩, 60)]
theorem lw_r3 : ∀ q ∈ lw_privs_3, lw_okq q := List.forall_mem_cons.mpr ⟨lw_p32, List.forall_mem_cons.mpr ⟨lw_p33, List.forall_mem_cons.mpr ⟨lw_p34, List.forall_mem_cons.mpr ⟨lw_p35, List.forall_mem_cons.mpr ⟨lw_p36, List.forall_mem_cons.mpr ⟨lw_p37, List.forall_mem_cons.mpr ⟨lw_p38, List.forall_mem_cons.mpr ⟨lw_p39, List.forall_mem_cons.mpr ⟨lw_p40, List.forall_mem_cons.mpr ⟨lw_p41, List.forall_mem_cons.mpr ⟨lw_p42, List.forall_mem_cons.mpr ⟨lw_p43, List.forall_mem_cons.mpr ⟨lw_p44, List.forall_mem_cons.mpr ⟨lw_p45, List.forall_mem_cons.mpr ⟨lw_p46, List.forall_mem_cons.mpr ⟨lw_p47, fun _ h => absurd h List.not_mem_nil⟩⟩⟩⟩⟩⟩⟩⟩⟩⟩⟩⟩⟩⟩⟩⟩
theorem lw_p48 : lw_okq (⟨"ConnectionDeskModel", "findRide", "(IIIIZI)Z"⟩, 60) := ⟨⟨by decide +kernel, by decide +kernel⟩, List.mem_of_getElem? (i := 929) (by decide +kernel), List.mem_of_getElem? (i := 1253) (by decide +kernel), List.mem_of_getElem? (i := 1254) (by decide +kernel)⟩
theorem lw_p49 : lw_okq (⟨"ConnectionDeskModel", "putWalk", "(I)V"⟩, 60) := ⟨⟨by decide +kernel, by decide +kernel⟩, List.mem_of_getElem? (i := 929) (by decide +kernel), List.mem_of_getElem? (i := 1257) (by decide +kernel), List.mem_of_getElem? (i := 1258) (by decide +kernel)⟩
theorem lw_p50 : lw_okq (⟨"ConnectionDeskModel", "putRide", "(III)V"⟩, 60) := ⟨⟨by decide +kernel, by decide +kernel⟩, List.mem_of_getElem? (i := 929) (by decide +kernel), List.mem_of_getElem? (i := 1261) (by decide +kernel), List.mem_of_getElem? (i := 1262) (by decide +kernel)⟩
theorem lw_p51 : lw_okq (⟨"ConnectionDeskModel", "add", "(III)V"⟩, 60) := ⟨⟨by decide +kernel, by decide +kernel⟩, List.mem_of_getElem? (i := 929) (by decide +kernel), List.mem_of_getElem? (i := 1265) (by decide +kernel), List.mem_of_getElem? (i := 1266) (by decide +kernel)⟩
theorem lw_p52 : lw_okq (⟨"ConnectionDeskModel", "places", "([IIII)Z"⟩, 60) := ⟨⟨by decide +kernel, by decide +kernel⟩, List.mem_of_getElem? (i := 929) (by decide +kernel), List.mem_of_getElem? (i := 1281) (by decide +kernel), List.mem_of_getElem? (i := 1282) (by decide +kernel)⟩
theorem lw_p53 : lw_okq (⟨"ConnectionDeskModel", "isTicket", "(I)Z"⟩, 60) := ⟨⟨by decide +kernel, by decide +kernel⟩, List.mem_of_getElem? (i := 929) (by decide +kernel), List.mem_of_getElem? (i := 1289) (by decide +kernel), List.mem_of_getElem? (i := 1290) (by decide +kernel)⟩
theorem lw_p54 : lw_okq (⟨"ConnectionDeskModel", "isInTime", "(IIII)Z"⟩, 60) := ⟨⟨by decide +kernel, by decide +kernel⟩, List.mem_of_getElem? (i := 929) (by decide +kernel), List.mem_of_getElem? (i := 1310) (by decide +kernel), List.mem_of_getElem? (i := 1311) (by decide +kernel)⟩
theorem lw_p55 : lw_okq (⟨"ConnectionDeskModel", "soonestOf", "(I)I"⟩, 60) := ⟨⟨by decide +kernel, by decide +kernel⟩, List.mem_of_getElem? (i := 929) (by decide +kernel), List.mem_of_getElem? (i := 1314) (by decide +kernel), List.mem_of_getElem? (i := 1315) (by decide +kernel)⟩
theorem lw_p56 : lw_okq (⟨"ConnectionDeskModel", "isInTable", "(IIII)Z"⟩, 60) := ⟨⟨by decide +kernel, by decide +kernel⟩, List.mem_of_getElem? (i := 929) (by decide +kernel), List.mem_of_getElem? (i := 1334) (by decide +kernel), List.mem_of_getElem? (i := 1335) (by decide +kernel)⟩
theorem lw_p57 : lw_okq (⟨"ConnectionDeskModel", "isAhead", "(IIIII)Z"⟩, 60) := ⟨⟨by decide +kernel, by decide +kernel⟩, List.mem_of_getElem? (i := 929) (by decide +kernel), List.mem_of_getElem? (i := 1338) (by decide +kernel), List.mem_of_getElem? (i := 1339) (by decide +kernel)⟩
def lw_privs_4 : List (MethodName × Nat) := [(⟨"ConnectionDeskModel", "findRide", "(IIIIZI)Z"⟩, 60), (⟨"ConnectionDeskModel", "putWalk", "(I)V"⟩, 60), (⟨"ConnectionDeskModel", "putRide", "(III)V"⟩, 60), (⟨"ConnectionDeskModel", "add", "(III)V"⟩, 60), (⟨"ConnectionDeskModel", "places", "([IIII)Z"⟩, 60), (⟨"ConnectionDeskModel", "isTicket", "(I)Z"⟩, 60), (⟨"ConnectionDeskModel", "isInTime", "(IIII)Z"⟩, 60), (⟨"ConnectionDeskModel", "soonestOf", "(I)I"⟩, 60), (⟨"ConnectionDeskModel", "isInTable", "(IIII)Z"⟩, 60), (⟨"ConnectionDeskModel", "isAhead", "(IIIII)Z"⟩, 60)]
theorem lw_r4 : ∀ q ∈ lw_privs_4, lw_okq q := List.forall_mem_cons.mpr ⟨lw_p48, List.forall_mem_cons.mpr ⟨lw_p49, List.forall_mem_cons.mpr ⟨lw_p50, List.forall_mem_cons.mpr ⟨lw_p51, List.forall_mem_cons.mpr ⟨lw_p52, List.forall_mem_cons.mpr ⟨lw_p53, List.forall_mem_cons.mpr ⟨lw_p54, List.forall_mem_cons.mpr ⟨lw_p55, List.forall_mem_cons.mpr ⟨lw_p56, List.forall_mem_cons.mpr ⟨lw_p57, fun _ h => absurd h List.not_mem_nil⟩⟩⟩⟩⟩⟩⟩⟩⟩⟩
def lw_privs : List (MethodName × Nat) := lw_privs_1 ++ (lw_privs_2 ++ (lw_privs_3 ++ (lw_privs_4)))
def lw_tbl : List Cond := k2_sels lw_privs ++ tables_1
theorem lw_privs_ok : ∀ q ∈ lw_privs, lw_okq q := by
  show ∀ q ∈ lw_privs_1 ++ (lw_privs_2 ++ (lw_privs_3 ++ (lw_privs_4))), lw_okq q
  exact List.forall_mem_append.mpr ⟨lw_r1, List.forall_mem_append.mpr ⟨lw_r2, List.forall_mem_append.mpr ⟨lw_r3, lw_r4⟩⟩⟩
-- ===== end of PART A; then your names; then what follows =====
end
section
def RX0 : String := "ConnectionDesk$Board"
def TX0 : u_T := fun k => match k with
  | 0 => ("ConnectionDesk$Board", "trips", "LConnectionDesk$Trips;", true)
  | _ => ("ConnectionDesk$Board", "keys", "LConnectionDesk$Sorted;", true)
def tyX0 : Nat → FieldType := fun k => match k with
  | 0 => .object "ConnectionDesk$Trips"
  | _ => .object "ConnectionDesk$Sorted"
abbrev wsX00 : List Cond := u_ws RX0 TX0 2
theorem nmX0 : ∀ a, a < 2 → ∀ b, b < 2 → a ≠ b → (TX0 a).2.1 ≠ (TX0 b).2.1 := by decide +kernel
theorem tyX0_ok : ∀ k, k < 2 → parseFieldDescriptor (TX0 k).2.2.1 = some (tyX0 k) := by decide +kernel
abbrev cX0_init : ByteArray := prog_2_method_1_code
def yX0_init : MethodName := ⟨RX0, "<init>", "(LConnectionDesk$Trips;)V"⟩
abbrev cX0_gather : ByteArray := prog_2_method_2_code
def yX0_gather : MethodName := ⟨RX0, "gather", "(II)I"⟩
abbrev cX0_of : ByteArray := prog_2_method_3_code
def yX0_of : MethodName := ⟨RX0, "of", "(III)I"⟩
abbrev cX0_gatherTrip : ByteArray := prog_2_method_4_code
def yX0_gatherTrip : MethodName := ⟨RX0, "gatherTrip", "(III)V"⟩
def RX1 : String := "ConnectionDesk$Delays"
def TX1 : u_T := fun k => match k with
  | 0 => ("ConnectionDesk$Delays", "trip", "[I", true)
  | 1 => ("ConnectionDesk$Delays", "day", "[I", true)
  | 2 => ("ConnectionDesk$Delays", "call", "[I", true)
  | 3 => ("ConnectionDesk$Delays", "minutes", "[I", true)
  | 4 => ("ConnectionDesk$Delays", "size", "I", false)
  | _ => ("ConnectionDesk$Delays", "total", "I", false)
def tyX1 : Nat → FieldType := fun k => match k with
  | 0 => .array .int
  | 1 => .array .int
  | 2 => .array .int
  | 3 => .array .int
  | 4 => .int
  | _ => .int
abbrev wsX10 : List Cond := u_ws RX1 TX1 6
theorem nmX1 : ∀ a, a < 6 → ∀ b, b < 6 → a ≠ b → (TX1 a).2.1 ≠ (TX1 b).2.1 := by decide +kernel
theorem tyX1_ok : ∀ k, k < 6 → parseFieldDescriptor (TX1 k).2.2.1 = some (tyX1 k) := by decide +kernel
abbrev cX1_init : ByteArray := prog_3_method_1_code
def yX1_init : MethodName := ⟨RX1, "<init>", "()V"⟩
abbrev cX1_tell : ByteArray := prog_3_method_2_code
def yX1_tell : MethodName := ⟨RX1, "tell", "(IIII)I"⟩
abbrev cX1_sum : ByteArray := prog_3_method_3_code
def yX1_sum : MethodName := ⟨RX1, "sum", "(III)I"⟩
def RX2 : String := "ConnectionDesk$Found"
def TX2 : u_T := fun k => match k with
  | 0 => ("ConnectionDesk$Found", "search", "LConnectionDesk$Search;", true)
  | 1 => ("ConnectionDesk$Found", "heads", "[I", true)
  | 2 => ("ConnectionDesk$Found", "legs", "[I", true)
  | 3 => ("ConnectionDesk$Found", "keys", "LConnectionDesk$Sorted;", true)
  | 4 => ("ConnectionDesk$Found", "least", "[I", true)
  | 5 => ("ConnectionDesk$Found", "walkBehind", "[I", true)
  | 6 => ("ConnectionDesk$Found", "run", "[I", true)
  | 7 => ("ConnectionDesk$Found", "on", "[I", true)
  | 8 => ("ConnectionDesk$Found", "off", "[I", true)
  | 9 => ("ConnectionDesk$Found", "size", "I", false)
  | _ => ("ConnectionDesk$Found", "askedAt", "I", false)
def tyX2 : Nat → FieldType := fun k => match k with
  | 0 => .object "ConnectionDesk$Search"
  | 1 => .array .int
  | 2 => .array .int
  | 3 => .object "ConnectionDesk$Sorted"
  | 4 => .array .int
  | 5 => .array .int
  | 6 => .array .int
  | 7 => .array .int
  | 8 => .array .int
  | 9 => .int
  | _ => .int
abbrev wsX20 : List Cond := u_ws RX2 TX2 11
theorem nmX2 : ∀ a, a < 11 → ∀ b, b < 11 → a ≠ b → (TX2 a).2.1 ≠ (TX2 b).2.1 := by decide +kernel
theorem tyX2_ok : ∀ k, k < 11 → parseFieldDescriptor (TX2 k).2.2.1 = some (tyX2 k) := by decide +kernel
abbrev cX2_init : ByteArray := prog_4_method_1_code
def yX2_init : MethodName := ⟨RX2, "<init>", "(LConnectionDesk$Search;)V"⟩
abbrev cX2_has : ByteArray := prog_4_method_2_code
def yX2_has : MethodName := ⟨RX2, "has", "(I)Z"⟩
abbrev cX2_hasLeg : ByteArray := prog_4_method_3_code
def yX2_hasLeg : MethodName := ⟨RX2, "hasLeg", "(II)Z"⟩
abbrev cX2_ofWay : ByteArray := prog_4_method_4_code
def yX2_ofWay : MethodName := ⟨RX2, "ofWay", "(II)I"⟩
abbrev cX2_ofLeg : ByteArray := prog_4_method_5_code
def yX2_ofLeg : MethodName := ⟨RX2, "ofLeg", "(III)I"⟩
abbrev cX2_ridesOver : ByteArray := prog_4_method_6_code
def yX2_ridesOver : MethodName := ⟨RX2, "ridesOver", "(IIII)I"⟩
abbrev cX2_collect : ByteArray := prog_4_method_7_code
def yX2_collect : MethodName := ⟨RX2, "collect", "(I)I"⟩
abbrev cX2_isUnbeaten : ByteArray := prog_4_method_8_code
def yX2_isUnbeaten : MethodName := ⟨RX2, "isUnbeaten", "(II)Z"⟩
abbrev cX2_trace : ByteArray := prog_4_method_9_code
def yX2_trace : MethodName := ⟨RX2, "trace", "(IIII)V"⟩
abbrev cX2_leastWalk : ByteArray := prog_4_method_10_code
def yX2_leastWalk : MethodName := ⟨RX2, "leastWalk", "(IIIII)I"⟩
abbrev cX2_leastRide : ByteArray := prog_4_method_11_code
def yX2_leastRide : MethodName := ⟨RX2, "leastRide", "(IIIIII)V"⟩
abbrev cX2_callsInTime : ByteArray := prog_4_method_12_code
def yX2_callsInTime : MethodName := ⟨RX2, "callsInTime", "(IIIII)I"⟩
abbrev cX2_firstOff : ByteArray := prog_4_method_13_code
def yX2_firstOff : MethodName := ⟨RX2, "firstOff", "(III)I"⟩
abbrev cX2_canGetOn : ByteArray := prog_4_method_14_code
def yX2_canGetOn : MethodName := ⟨RX2, "canGetOn", "(IIIII)Z"⟩
abbrev cX2_write : ByteArray := prog_4_method_15_code
def yX2_write : MethodName := ⟨RX2, "write", "(III)V"⟩
abbrev cX2_writeRide : ByteArray := prog_4_method_16_code
def yX2_writeRide : MethodName := ⟨RX2, "writeRide", "(IIII)I"⟩
abbrev cX2_writeWalk : ByteArray := prog_4_method_17_code
def yX2_writeWalk : MethodName := ⟨RX2, "writeWalk", "(III)I"⟩
def RX3 : String := "ConnectionDesk$Places"
def TX3 : u_T := fun k => match k with
  | 0 => ("ConnectionDesk$Places", "keys", "[I", true)
  | 1 => ("ConnectionDesk$Places", "taken", "[I", true)
  | _ => ("ConnectionDesk$Places", "size", "I", false)
def tyX3 : Nat → FieldType := fun k => match k with
  | 0 => .array .int
  | 1 => .array .int
  | _ => .int
abbrev wsX30 : List Cond := u_ws RX3 TX3 3
theorem nmX3 : ∀ a, a < 3 → ∀ b, b < 3 → a ≠ b → (TX3 a).2.1 ≠ (TX3 b).2.1 := by decide +kernel
theorem tyX3_ok : ∀ k, k < 3 → parseFieldDescriptor (TX3 k).2.2.1 = some (tyX3 k) := by decide +kernel
abbrev cX3_init : ByteArray := prog_5_method_1_code
def yX3_init : MethodName := ⟨RX3, "<init>", "()V"⟩
abbrev cX3_at : ByteArray := prog_5_method_2_code
def yX3_at : MethodName := ⟨RX3, "at", "(III)I"⟩
abbrev cX3_change : ByteArray := prog_5_method_3_code
def yX3_change : MethodName := ⟨RX3, "change", "(IIIII)V"⟩
abbrev cX3_full : ByteArray := prog_5_method_4_code
def yX3_full : MethodName := ⟨RX3, "full", "(III)I"⟩
abbrev cX3_rowOf : ByteArray := prog_5_method_5_code
def yX3_rowOf : MethodName := ⟨RX3, "rowOf", "(II)I"⟩
abbrev cX3_newRow : ByteArray := prog_5_method_6_code
def yX3_newRow : MethodName := ⟨RX3, "newRow", "(II)I"⟩
def RX4 : String := "ConnectionDesk$Runs"
def TX4 : u_T := fun k => match k with
  | 0 => ("ConnectionDesk$Runs", "trip", "[I", true)
  | 1 => ("ConnectionDesk$Runs", "day", "[I", true)
  | 2 => ("ConnectionDesk$Runs", "full", "[I", true)
  | 3 => ("ConnectionDesk$Runs", "comes", "[I", true)
  | 4 => ("ConnectionDesk$Runs", "leaves", "[I", true)
  | 5 => ("ConnectionDesk$Runs", "size", "I", false)
  | 6 => ("ConnectionDesk$Runs", "end", "I", false)
  | 7 => ("ConnectionDesk$Runs", "trips", "LConnectionDesk$Trips;", true)
  | _ => ("ConnectionDesk$Runs", "places", "LConnectionDesk$Places;", true)
def tyX4 : Nat → FieldType := fun k => match k with
  | 0 => .array .int
  | 1 => .array .int
  | 2 => .array .int
  | 3 => .array .int
  | 4 => .array .int
  | 5 => .int
  | 6 => .int
  | 7 => .object "ConnectionDesk$Trips"
  | _ => .object "ConnectionDesk$Places"
abbrev wsX40 : List Cond := u_ws RX4 TX4 9
theorem nmX4 : ∀ a, a < 9 → ∀ b, b < 9 → a ≠ b → (TX4 a).2.1 ≠ (TX4 b).2.1 := by decide +kernel
theorem tyX4_ok : ∀ k, k < 9 → parseFieldDescriptor (TX4 k).2.2.1 = some (tyX4 k) := by decide +kernel
abbrev cX4_init : ByteArray := prog_6_method_1_code
def yX4_init : MethodName := ⟨RX4, "<init>", "(LConnectionDesk$Trips;LConnectionDesk$Places;)V"⟩
abbrev cX4_gather : ByteArray := prog_6_method_2_code
def yX4_gather : MethodName := ⟨RX4, "gather", "(II)V"⟩
abbrev cX4_gatherRun : ByteArray := prog_6_method_3_code
def yX4_gatherRun : MethodName := ⟨RX4, "gatherRun", "(III)V"⟩
abbrev cX4_setTimes : ByteArray := prog_6_method_4_code
def yX4_setTimes : MethodName := ⟨RX4, "setTimes", "(III)V"⟩
def RX5 : String := "ConnectionDesk$Search"
def TX5 : u_T := fun k => match k with
  | 0 => ("ConnectionDesk$Search", "stops", "LConnectionDesk$Stops;", true)
  | 1 => ("ConnectionDesk$Search", "trips", "LConnectionDesk$Trips;", true)
  | 2 => ("ConnectionDesk$Search", "walks", "LConnectionDesk$Walks;", true)
  | 3 => ("ConnectionDesk$Search", "runs", "LConnectionDesk$Runs;", true)
  | 4 => ("ConnectionDesk$Search", "ended", "[I", true)
  | 5 => ("ConnectionDesk$Search", "ready", "[I", true)
  | 6 => ("ConnectionDesk$Search", "soonest", "[I", true)
  | 7 => ("ConnectionDesk$Search", "best", "[I", true)
  | 8 => ("ConnectionDesk$Search", "aboard", "[I", true)
  | 9 => ("ConnectionDesk$Search", "askedAt", "I", false)
  | _ => ("ConnectionDesk$Search", "dearest", "I", false)
def tyX5 : Nat → FieldType := fun k => match k with
  | 0 => .object "ConnectionDesk$Stops"
  | 1 => .object "ConnectionDesk$Trips"
  | 2 => .object "ConnectionDesk$Walks"
  | 3 => .object "ConnectionDesk$Runs"
  | 4 => .array .int
  | 5 => .array .int
  | 6 => .array .int
  | 7 => .array .int
  | 8 => .array .int
  | 9 => .int
  | _ => .int
abbrev wsX50 : List Cond := u_ws RX5 TX5 11
theorem nmX5 : ∀ a, a < 11 → ∀ b, b < 11 → a ≠ b → (TX5 a).2.1 ≠ (TX5 b).2.1 := by decide +kernel
theorem tyX5_ok : ∀ k, k < 11 → parseFieldDescriptor (TX5 k).2.2.1 = some (tyX5 k) := by decide +kernel
abbrev cX5_init : ByteArray := prog_7_method_1_code
def yX5_init : MethodName := ⟨RX5, "<init>", "(LConnectionDesk$Stops;LConnectionDesk$Trips;LConnectionDesk$Walks;LConnectionDesk$Runs;)V"⟩
abbrev cX5_ask : ByteArray := prog_7_method_2_code
def yX5_ask : MethodName := ⟨RX5, "ask", "(III)V"⟩
abbrev cX5_askSoonest : ByteArray := prog_7_method_3_code
def yX5_askSoonest : MethodName := ⟨RX5, "askSoonest", "(II)V"⟩
abbrev cX5_mostFare : ByteArray := prog_7_method_4_code
def yX5_mostFare : MethodName := ⟨RX5, "mostFare", "(I)I"⟩
abbrev cX5_endedAt : ByteArray := prog_7_method_5_code
def yX5_endedAt : MethodName := ⟨RX5, "endedAt", "(III)I"⟩
abbrev cX5_readyAt : ByteArray := prog_7_method_6_code
def yX5_readyAt : MethodName := ⟨RX5, "readyAt", "(III)I"⟩
abbrev cX5_arrival : ByteArray := prog_7_method_7_code
def yX5_arrival : MethodName := ⟨RX5, "arrival", "(III)I"⟩
abbrev cX5_canCost : ByteArray := prog_7_method_8_code
def yX5_canCost : MethodName := ⟨RX5, "canCost", "(II)Z"⟩
abbrev cX5_row : ByteArray := prog_7_method_9_code
def yX5_row : MethodName := ⟨RX5, "row", "(II)I"⟩
abbrev cX5_getReady : ByteArray := prog_7_method_10_code
def yX5_getReady : MethodName := ⟨RX5, "getReady", "(I)V"⟩
abbrev cX5_ride : ByteArray := prog_7_method_11_code
def yX5_ride : MethodName := ⟨RX5, "ride", "(II)V"⟩
abbrev cX5_getOff : ByteArray := prog_7_method_12_code
def yX5_getOff : MethodName := ⟨RX5, "getOff", "(III)V"⟩
abbrev cX5_faresTo : ByteArray := prog_7_method_13_code
def yX5_faresTo : MethodName := ⟨RX5, "faresTo", "(I)I"⟩
abbrev cX5_getOn : ByteArray := prog_7_method_14_code
def yX5_getOn : MethodName := ⟨RX5, "getOn", "(III)V"⟩
def RX6 : String := "ConnectionDesk$Sorted"
def TX6 : u_T := fun k => match k with
  | 0 => ("ConnectionDesk$Sorted", "keys", "[I", true)
  | _ => ("ConnectionDesk$Sorted", "size", "I", false)
def tyX6 : Nat → FieldType := fun k => match k with
  | 0 => .array .int
  | _ => .int
abbrev wsX60 : List Cond := u_ws RX6 TX6 2
theorem nmX6 : ∀ a, a < 2 → ∀ b, b < 2 → a ≠ b → (TX6 a).2.1 ≠ (TX6 b).2.1 := by decide +kernel
theorem tyX6_ok : ∀ k, k < 2 → parseFieldDescriptor (TX6 k).2.2.1 = some (tyX6 k) := by decide +kernel
abbrev cX6_init : ByteArray := prog_8_method_1_code
def yX6_init : MethodName := ⟨RX6, "<init>", "(I)V"⟩
abbrev cX6_get : ByteArray := prog_8_method_2_code
def yX6_get : MethodName := ⟨RX6, "get", "(I)I"⟩
abbrev cX6_clear : ByteArray := prog_8_method_3_code
def yX6_clear : MethodName := ⟨RX6, "clear", "()V"⟩
abbrev cX6_insert : ByteArray := prog_8_method_4_code
def yX6_insert : MethodName := ⟨RX6, "insert", "(I)V"⟩
def RX7 : String := "ConnectionDesk$Stops"
def TX7 : u_T := fun k => match k with
  | 0 => ("ConnectionDesk$Stops", "change", "[I", true)
  | 1 => ("ConnectionDesk$Stops", "zone", "[I", true)
  | 2 => ("ConnectionDesk$Stops", "prices", "[I", true)
  | _ => ("ConnectionDesk$Stops", "size", "I", false)
def tyX7 : Nat → FieldType := fun k => match k with
  | 0 => .array .int
  | 1 => .array .int
  | 2 => .array .int
  | _ => .int
abbrev wsX70 : List Cond := u_ws RX7 TX7 4
theorem nmX7 : ∀ a, a < 4 → ∀ b, b < 4 → a ≠ b → (TX7 a).2.1 ≠ (TX7 b).2.1 := by decide +kernel
theorem tyX7_ok : ∀ k, k < 4 → parseFieldDescriptor (TX7 k).2.2.1 = some (tyX7 k) := by decide +kernel
abbrev cX7_init : ByteArray := prog_9_method_1_code
def yX7_init : MethodName := ⟨RX7, "<init>", "()V"⟩
abbrev cX7_has : ByteArray := prog_9_method_2_code
def yX7_has : MethodName := ⟨RX7, "has", "(I)Z"⟩
abbrev cX7_add : ByteArray := prog_9_method_3_code
def yX7_add : MethodName := ⟨RX7, "add", "(II)I"⟩
abbrev cX7_price : ByteArray := prog_9_method_4_code
def yX7_price : MethodName := ⟨RX7, "price", "(III)I"⟩
abbrev cX7_priceOfRide : ByteArray := prog_9_method_5_code
def yX7_priceOfRide : MethodName := ⟨RX7, "priceOfRide", "(II)I"⟩
abbrev cX7_dearest : ByteArray := prog_9_method_6_code
def yX7_dearest : MethodName := ⟨RX7, "dearest", "()I"⟩
def RX8 : String := "ConnectionDesk$Tickets"
def TX8 : u_T := fun k => match k with
  | 0 => ("ConnectionDesk$Tickets", "stops", "LConnectionDesk$Stops;", true)
  | 1 => ("ConnectionDesk$Tickets", "trips", "LConnectionDesk$Trips;", true)
  | 2 => ("ConnectionDesk$Tickets", "walks", "LConnectionDesk$Walks;", true)
  | 3 => ("ConnectionDesk$Tickets", "places", "LConnectionDesk$Places;", true)
  | 4 => ("ConnectionDesk$Tickets", "askedAt", "[I", true)
  | 5 => ("ConnectionDesk$Tickets", "legs", "[I", true)
  | 6 => ("ConnectionDesk$Tickets", "isGiven", "[Z", true)
  | 7 => ("ConnectionDesk$Tickets", "number", "[I", true)
  | 8 => ("ConnectionDesk$Tickets", "day", "[I", true)
  | 9 => ("ConnectionDesk$Tickets", "on", "[I", true)
  | 10 => ("ConnectionDesk$Tickets", "off", "[I", true)
  | 11 => ("ConnectionDesk$Tickets", "size", "I", false)
  | _ => ("ConnectionDesk$Tickets", "out", "I", false)
def tyX8 : Nat → FieldType := fun k => match k with
  | 0 => .object "ConnectionDesk$Stops"
  | 1 => .object "ConnectionDesk$Trips"
  | 2 => .object "ConnectionDesk$Walks"
  | 3 => .object "ConnectionDesk$Places"
  | 4 => .array .int
  | 5 => .array .int
  | 6 => .array .boolean
  | 7 => .array .int
  | 8 => .array .int
  | 9 => .array .int
  | 10 => .array .int
  | 11 => .int
  | _ => .int
abbrev wsX80 : List Cond := u_ws RX8 TX8 13
theorem nmX8 : ∀ a, a < 13 → ∀ b, b < 13 → a ≠ b → (TX8 a).2.1 ≠ (TX8 b).2.1 := by decide +kernel
theorem tyX8_ok : ∀ k, k < 13 → parseFieldDescriptor (TX8 k).2.2.1 = some (tyX8 k) := by decide +kernel
abbrev cX8_init : ByteArray := prog_10_method_1_code
def yX8_init : MethodName := ⟨RX8, "<init>", "(LConnectionDesk$Stops;LConnectionDesk$Trips;LConnectionDesk$Walks;LConnectionDesk$Places;)V"⟩
abbrev cX8_isOut : ByteArray := prog_10_method_2_code
def yX8_isOut : MethodName := ⟨RX8, "isOut", "(I)Z"⟩
abbrev cX8_make : ByteArray := prog_10_method_3_code
def yX8_make : MethodName := ⟨RX8, "make", "(LConnectionDesk$Found;I)I"⟩
abbrev cX8_giveBack : ByteArray := prog_10_method_4_code
def yX8_giveBack : MethodName := ⟨RX8, "giveBack", "(I)V"⟩
abbrev cX8_travel : ByteArray := prog_10_method_5_code
def yX8_travel : MethodName := ⟨RX8, "travel", "(I)I"⟩
abbrev cX8_changeAt : ByteArray := prog_10_method_6_code
def yX8_changeAt : MethodName := ⟨RX8, "changeAt", "(I)I"⟩
abbrev cX8_canRide : ByteArray := prog_10_method_7_code
def yX8_canRide : MethodName := ⟨RX8, "canRide", "(II)Z"⟩
abbrev cX8_changePlaces : ByteArray := prog_10_method_8_code
def yX8_changePlaces : MethodName := ⟨RX8, "changePlaces", "(II)V"⟩
abbrev cX8_hasPlaces : ByteArray := prog_10_method_9_code
def yX8_hasPlaces : MethodName := ⟨RX8, "hasPlaces", "(LConnectionDesk$Found;I)Z"⟩
abbrev cX8_hasPlacesOn : ByteArray := prog_10_method_10_code
def yX8_hasPlacesOn : MethodName := ⟨RX8, "hasPlacesOn", "(LConnectionDesk$Found;II)Z"⟩
def RX9 : String := "ConnectionDesk$Trips"
def TX9 : u_T := fun k => match k with
  | 0 => ("ConnectionDesk$Trips", "kind", "[I", true)
  | 1 => ("ConnectionDesk$Trips", "days", "[I", true)
  | 2 => ("ConnectionDesk$Trips", "seats", "[I", true)
  | 3 => ("ConnectionDesk$Trips", "calls", "[I", true)
  | 4 => ("ConnectionDesk$Trips", "missed", "[I", true)
  | 5 => ("ConnectionDesk$Trips", "stopAt", "[I", true)
  | 6 => ("ConnectionDesk$Trips", "arrives", "[I", true)
  | 7 => ("ConnectionDesk$Trips", "departs", "[I", true)
  | 8 => ("ConnectionDesk$Trips", "kindOfDay", "[I", true)
  | 9 => ("ConnectionDesk$Trips", "goneOn", "[I", true)
  | 10 => ("ConnectionDesk$Trips", "delays", "LConnectionDesk$Delays;", true)
  | _ => ("ConnectionDesk$Trips", "size", "I", false)
def tyX9 : Nat → FieldType := fun k => match k with
  | 0 => .array .int
  | 1 => .array .int
  | 2 => .array .int
  | 3 => .array .int
  | 4 => .array .int
  | 5 => .array .int
  | 6 => .array .int
  | 7 => .array .int
  | 8 => .array .int
  | 9 => .array .int
  | 10 => .object "ConnectionDesk$Delays"
  | _ => .int
abbrev wsX90 : List Cond := u_ws RX9 TX9 12
theorem nmX9 : ∀ a, a < 12 → ∀ b, b < 12 → a ≠ b → (TX9 a).2.1 ≠ (TX9 b).2.1 := by decide +kernel
theorem tyX9_ok : ∀ k, k < 12 → parseFieldDescriptor (TX9 k).2.2.1 = some (tyX9 k) := by decide +kernel
abbrev cX9_init : ByteArray := prog_11_method_1_code
def yX9_init : MethodName := ⟨RX9, "<init>", "()V"⟩
abbrev cX9_has : ByteArray := prog_11_method_2_code
def yX9_has : MethodName := ⟨RX9, "has", "(I)Z"⟩
abbrev cX9_hasCall : ByteArray := prog_11_method_3_code
def yX9_hasCall : MethodName := ⟨RX9, "hasCall", "(II)Z"⟩
abbrev cX9_add : ByteArray := prog_11_method_4_code
def yX9_add : MethodName := ⟨RX9, "add", "(III)I"⟩
abbrev cX9_addCall : ByteArray := prog_11_method_5_code
def yX9_addCall : MethodName := ⟨RX9, "addCall", "(IIII)I"⟩
abbrev cX9_setMissed : ByteArray := prog_11_method_6_code
def yX9_setMissed : MethodName := ⟨RX9, "setMissed", "(IIZ)I"⟩
abbrev cX9_setGone : ByteArray := prog_11_method_7_code
def yX9_setGone : MethodName := ⟨RX9, "setGone", "(IIZ)I"⟩
abbrev cX9_isOpen : ByteArray := prog_11_method_8_code
def yX9_isOpen : MethodName := ⟨RX9, "isOpen", "(II)Z"⟩
abbrev cX9_runsOn : ByteArray := prog_11_method_9_code
def yX9_runsOn : MethodName := ⟨RX9, "runsOn", "(II)Z"⟩
abbrev cX9_comesAt : ByteArray := prog_11_method_10_code
def yX9_comesAt : MethodName := ⟨RX9, "comesAt", "(III)I"⟩
abbrev cX9_leavesAt : ByteArray := prog_11_method_11_code
def yX9_leavesAt : MethodName := ⟨RX9, "leavesAt", "(III)I"⟩
def RX10 : String := "ConnectionDesk$Walks"
def TX10 : u_T := fun k => match k with
  | 0 => ("ConnectionDesk$Walks", "from", "[I", true)
  | 1 => ("ConnectionDesk$Walks", "to", "[I", true)
  | 2 => ("ConnectionDesk$Walks", "minutes", "[I", true)
  | 3 => ("ConnectionDesk$Walks", "kind", "[I", true)
  | 4 => ("ConnectionDesk$Walks", "first", "[I", true)
  | 5 => ("ConnectionDesk$Walks", "last", "[I", true)
  | 6 => ("ConnectionDesk$Walks", "every", "[I", true)
  | 7 => ("ConnectionDesk$Walks", "ahead", "[I", true)
  | _ => ("ConnectionDesk$Walks", "size", "I", false)
def tyX10 : Nat → FieldType := fun k => match k with
  | 0 => .array .int
  | 1 => .array .int
  | 2 => .array .int
  | 3 => .array .int
  | 4 => .array .int
  | 5 => .array .int
  | 6 => .array .int
  | 7 => .array .int
  | _ => .int
abbrev wsX100 : List Cond := u_ws RX10 TX10 9
theorem nmX10 : ∀ a, a < 9 → ∀ b, b < 9 → a ≠ b → (TX10 a).2.1 ≠ (TX10 b).2.1 := by decide +kernel
theorem tyX10_ok : ∀ k, k < 9 → parseFieldDescriptor (TX10 k).2.2.1 = some (tyX10 k) := by decide +kernel
abbrev cX10_init : ByteArray := prog_12_method_1_code
def yX10_init : MethodName := ⟨RX10, "<init>", "()V"⟩
abbrev cX10_has : ByteArray := prog_12_method_2_code
def yX10_has : MethodName := ⟨RX10, "has", "(I)Z"⟩
abbrev cX10_add : ByteArray := prog_12_method_3_code
def yX10_add : MethodName := ⟨RX10, "add", "(III)I"⟩
abbrev cX10_makeShuttle : ByteArray := prog_12_method_4_code
def yX10_makeShuttle : MethodName := ⟨RX10, "makeShuttle", "(IIII)I"⟩
abbrev cX10_makeAsked : ByteArray := prog_12_method_5_code
def yX10_makeAsked : MethodName := ⟨RX10, "makeAsked", "(II)I"⟩
abbrev cX10_beginsAt : ByteArray := prog_12_method_6_code
def yX10_beginsAt : MethodName := ⟨RX10, "beginsAt", "(III)I"⟩
abbrev cX10_endsAt : ByteArray := prog_12_method_7_code
def yX10_endsAt : MethodName := ⟨RX10, "endsAt", "(III)I"⟩
abbrev cX10_nextBeginning : ByteArray := prog_12_method_8_code
def yX10_nextBeginning : MethodName := ⟨RX10, "nextBeginning", "(II)I"⟩
def RX11 : String := "ConnectionDesk"
def TX11 : u_T := fun k => match k with
  | 0 => ("ConnectionDesk", "stops", "LConnectionDesk$Stops;", true)
  | 1 => ("ConnectionDesk", "trips", "LConnectionDesk$Trips;", true)
  | 2 => ("ConnectionDesk", "walks", "LConnectionDesk$Walks;", true)
  | 3 => ("ConnectionDesk", "places", "LConnectionDesk$Places;", true)
  | 4 => ("ConnectionDesk", "tickets", "LConnectionDesk$Tickets;", true)
  | 5 => ("ConnectionDesk", "runs", "LConnectionDesk$Runs;", true)
  | 6 => ("ConnectionDesk", "search", "LConnectionDesk$Search;", true)
  | 7 => ("ConnectionDesk", "found", "LConnectionDesk$Found;", true)
  | 8 => ("ConnectionDesk", "board", "LConnectionDesk$Board;", true)
  | 9 => ("ConnectionDesk", "gathered", "[I", true)
  | _ => ("ConnectionDesk", "metAt", "I", false)
def tyX11 : Nat → FieldType := fun k => match k with
  | 0 => .object "ConnectionDesk$Stops"
  | 1 => .object "ConnectionDesk$Trips"
  | 2 => .object "ConnectionDesk$Walks"
  | 3 => .object "ConnectionDesk$Places"
  | 4 => .object "ConnectionDesk$Tickets"
  | 5 => .object "ConnectionDesk$Runs"
  | 6 => .object "ConnectionDesk$Search"
  | 7 => .object "ConnectionDesk$Found"
  | 8 => .object "ConnectionDesk$Board"
  | 9 => .array .int
  | _ => .int
abbrev wsX110 : List Cond := u_ws RX11 TX11 11
theorem nmX11 : ∀ a, a < 11 → ∀ b, b < 11 → a ≠ b → (TX11 a).2.1 ≠ (TX11 b).2.1 := by decide +kernel
theorem tyX11_ok : ∀ k, k < 11 → parseFieldDescriptor (TX11 k).2.2.1 = some (tyX11 k) := by decide +kernel
abbrev cX11_init : ByteArray := prog_1_method_1_code
def yX11_init : MethodName := ⟨RX11, "<init>", "()V"⟩
abbrev cX11_stop : ByteArray := prog_1_method_2_code
def yX11_stop : MethodName := ⟨RX11, "stop", "(II)I"⟩
abbrev cX11_fare : ByteArray := prog_1_method_3_code
def yX11_fare : MethodName := ⟨RX11, "fare", "(III)I"⟩
abbrev cX11_day : ByteArray := prog_1_method_4_code
def yX11_day : MethodName := ⟨RX11, "day", "(II)I"⟩
abbrev cX11_trip : ByteArray := prog_1_method_5_code
def yX11_trip : MethodName := ⟨RX11, "trip", "(III)I"⟩
abbrev cX11_call : ByteArray := prog_1_method_6_code
def yX11_call : MethodName := ⟨RX11, "call", "(IIII)I"⟩
abbrev cX11_miss : ByteArray := prog_1_method_7_code
def yX11_miss : MethodName := ⟨RX11, "miss", "(IIZ)I"⟩
abbrev cX11_walk : ByteArray := prog_1_method_8_code
def yX11_walk : MethodName := ⟨RX11, "walk", "(III)I"⟩
abbrev cX11_shuttle : ByteArray := prog_1_method_9_code
def yX11_shuttle : MethodName := ⟨RX11, "shuttle", "(IIII)I"⟩
abbrev cX11_asked : ByteArray := prog_1_method_10_code
def yX11_asked : MethodName := ⟨RX11, "asked", "(II)I"⟩
abbrev cX11_late : ByteArray := prog_1_method_11_code
def yX11_late : MethodName := ⟨RX11, "late", "(IIII)I"⟩
abbrev cX11_gone : ByteArray := prog_1_method_12_code
def yX11_gone : MethodName := ⟨RX11, "gone", "(IIZ)I"⟩
abbrev cX11_ways : ByteArray := prog_1_method_13_code
def yX11_ways : MethodName := ⟨RX11, "ways", "(IIII)I"⟩
abbrev cX11_way : ByteArray := prog_1_method_14_code
def yX11_way : MethodName := ⟨RX11, "way", "(II)I"⟩
abbrev cX11_leg : ByteArray := prog_1_method_15_code
def yX11_leg : MethodName := ⟨RX11, "leg", "(III)I"⟩
abbrev cX11_take : ByteArray := prog_1_method_16_code
def yX11_take : MethodName := ⟨RX11, "take", "(I)I"⟩
abbrev cX11_give : ByteArray := prog_1_method_17_code
def yX11_give : MethodName := ⟨RX11, "give", "(I)I"⟩
abbrev cX11_still : ByteArray := prog_1_method_18_code
def yX11_still : MethodName := ⟨RX11, "still", "(I)I"⟩
abbrev cX11_comes : ByteArray := prog_1_method_19_code
def yX11_comes : MethodName := ⟨RX11, "comes", "(I)I"⟩
abbrev cX11_taken : ByteArray := prog_1_method_20_code
def yX11_taken : MethodName := ⟨RX11, "taken", "(III)I"⟩
abbrev cX11_latest : ByteArray := prog_1_method_21_code
def yX11_latest : MethodName := ⟨RX11, "latest", "(IIII)I"⟩
abbrev cX11_reach : ByteArray := prog_1_method_22_code
def yX11_reach : MethodName := ⟨RX11, "reach", "(IIII)I"⟩
abbrev cX11_meet : ByteArray := prog_1_method_23_code
def yX11_meet : MethodName := ⟨RX11, "meet", "(III)I"⟩
abbrev cX11_met : ByteArray := prog_1_method_24_code
def yX11_met : MethodName := ⟨RX11, "met", "()I"⟩
abbrev cX11_table : ByteArray := prog_1_method_25_code
def yX11_table : MethodName := ⟨RX11, "table", "(IIII)I"⟩
abbrev cX11_count : ByteArray := prog_1_method_26_code
def yX11_count : MethodName := ⟨RX11, "count", "(I)I"⟩
abbrev cX11_gather : ByteArray := prog_1_method_27_code
def yX11_gather : MethodName := ⟨RX11, "gather", "(III)V"⟩
abbrev cX11_between : ByteArray := prog_1_method_28_code
def yX11_between : MethodName := ⟨RX11, "between", "(III)Z"⟩
abbrev cX11_isZone : ByteArray := prog_1_method_29_code
def yX11_isZone : MethodName := ⟨RX11, "isZone", "(I)Z"⟩
abbrev cX11_isDay : ByteArray := prog_1_method_30_code
def yX11_isDay : MethodName := ⟨RX11, "isDay", "(I)Z"⟩
abbrev cX11_isMinute : ByteArray := prog_1_method_31_code
def yX11_isMinute : MethodName := ⟨RX11, "isMinute", "(I)Z"⟩
def RX12 : String := "ConnectionDeskModel"
def TX12 : u_T := fun k => match k with
  | 0 => ("ConnectionDeskModel", "stops", "I", false)
  | 1 => ("ConnectionDeskModel", "trips", "I", false)
  | 2 => ("ConnectionDeskModel", "walks", "I", false)
  | 3 => ("ConnectionDeskModel", "lates", "I", false)
  | 4 => ("ConnectionDeskModel", "tickets", "I", false)
  | 5 => ("ConnectionDeskModel", "change", "[I", true)
  | 6 => ("ConnectionDeskModel", "zone", "[I", true)
  | 7 => ("ConnectionDeskModel", "fares", "[I", true)
  | 8 => ("ConnectionDeskModel", "dayKind", "[I", true)
  | 9 => ("ConnectionDeskModel", "tripKind", "[I", true)
  | 10 => ("ConnectionDeskModel", "tripDays", "[I", true)
  | 11 => ("ConnectionDeskModel", "seats", "[I", true)
  | 12 => ("ConnectionDeskModel", "calls", "[I", true)
  | 13 => ("ConnectionDeskModel", "callStop", "[I", true)
  | 14 => ("ConnectionDeskModel", "callComes", "[I", true)
  | 15 => ("ConnectionDeskModel", "callLeaves", "[I", true)
  | 16 => ("ConnectionDeskModel", "missed", "[Z", true)
  | 17 => ("ConnectionDeskModel", "isGone", "[Z", true)
  | 18 => ("ConnectionDeskModel", "walkFrom", "[I", true)
  | 19 => ("ConnectionDeskModel", "walkTo", "[I", true)
  | 20 => ("ConnectionDeskModel", "walkMinutes", "[I", true)
  | 21 => ("ConnectionDeskModel", "walkKind", "[I", true)
  | 22 => ("ConnectionDeskModel", "first", "[I", true)
  | 23 => ("ConnectionDeskModel", "last", "[I", true)
  | 24 => ("ConnectionDeskModel", "every", "[I", true)
  | 25 => ("ConnectionDeskModel", "ahead", "[I", true)
  | 26 => ("ConnectionDeskModel", "lateTrip", "[I", true)
  | 27 => ("ConnectionDeskModel", "lateDay", "[I", true)
  | 28 => ("ConnectionDeskModel", "lateCall", "[I", true)
  | 29 => ("ConnectionDeskModel", "lateBy", "[I", true)
  | 30 => ("ConnectionDeskModel", "places", "[I", true)
  | 31 => ("ConnectionDeskModel", "question", "I", false)
  | 32 => ("ConnectionDeskModel", "limit", "I", false)
  | 33 => ("ConnectionDeskModel", "runMany", "I", false)
  | 34 => ("ConnectionDeskModel", "runTrip", "[I", true)
  | 35 => ("ConnectionDeskModel", "runDay", "[I", true)
  | 36 => ("ConnectionDeskModel", "runComes", "[I", true)
  | 37 => ("ConnectionDeskModel", "runLeaves", "[I", true)
  | 38 => ("ConnectionDeskModel", "soonest", "[I", true)
  | 39 => ("ConnectionDeskModel", "ready", "[I", true)
  | 40 => ("ConnectionDeskModel", "from", "I", false)
  | 41 => ("ConnectionDeskModel", "many", "I", false)
  | 42 => ("ConnectionDeskModel", "wayArrival", "[I", true)
  | 43 => ("ConnectionDeskModel", "wayRides", "[I", true)
  | 44 => ("ConnectionDeskModel", "wayFare", "[I", true)
  | 45 => ("ConnectionDeskModel", "wayLegs", "[I", true)
  | 46 => ("ConnectionDeskModel", "wayAsk", "[I", true)
  | 47 => ("ConnectionDeskModel", "legs", "[I", true)
  | 48 => ("ConnectionDeskModel", "back", "[I", true)
  | 49 => ("ConnectionDeskModel", "backMany", "I", false)
  | 50 => ("ConnectionDeskModel", "foundRun", "I", false)
  | 51 => ("ConnectionDeskModel", "foundOn", "I", false)
  | 52 => ("ConnectionDeskModel", "foundOff", "I", false)
  | 53 => ("ConnectionDeskModel", "ticketLegs", "[I", true)
  | 54 => ("ConnectionDeskModel", "ticketAsk", "[I", true)
  | 55 => ("ConnectionDeskModel", "ticketLeg", "[I", true)
  | 56 => ("ConnectionDeskModel", "isGiven", "[Z", true)
  | 57 => ("ConnectionDeskModel", "ticketComes", "I", false)
  | 58 => ("ConnectionDeskModel", "met", "I", false)
  | _ => ("ConnectionDeskModel", "allThere", "[I", true)
def tyX12 : Nat → FieldType := fun k => match k with
  | 0 => .int
  | 1 => .int
  | 2 => .int
  | 3 => .int
  | 4 => .int
  | 5 => .array .int
  | 6 => .array .int
  | 7 => .array .int
  | 8 => .array .int
  | 9 => .array .int
  | 10 => .array .int
  | 11 => .array .int
  | 12 => .array .int
  | 13 => .array .int
  | 14 => .array .int
  | 15 => .array .int
  | 16 => .array .boolean
  | 17 => .array .boolean
  | 18 => .array .int
  | 19 => .array .int
  | 20 => .array .int
  | 21 => .array .int
  | 22 => .array .int
  | 23 => .array .int
  | 24 => .array .int
  | 25 => .array .int
  | 26 => .array .int
  | 27 => .array .int
  | 28 => .array .int
  | 29 => .array .int
  | 30 => .array .int
  | 31 => .int
  | 32 => .int
  | 33 => .int
  | 34 => .array .int
  | 35 => .array .int
  | 36 => .array .int
  | 37 => .array .int
  | 38 => .array .int
  | 39 => .array .int
  | 40 => .int
  | 41 => .int
  | 42 => .array .int
  | 43 => .array .int
  | 44 => .array .int
  | 45 => .array .int
  | 46 => .array .int
  | 47 => .array .int
  | 48 => .array .int
  | 49 => .int
  | 50 => .int
  | 51 => .int
  | 52 => .int
  | 53 => .array .int
  | 54 => .array .int
  | 55 => .array .int
  | 56 => .array .boolean
  | 57 => .int
  | 58 => .int
  | _ => .array .int
abbrev wsX120 : List Cond := u_ws RX12 TX12 60
theorem nmX12 : ∀ a, a < 60 → ∀ b, b < 60 → a ≠ b → (TX12 a).2.1 ≠ (TX12 b).2.1 := by decide +kernel
theorem tyX12_ok : ∀ k, k < 60 → parseFieldDescriptor (TX12 k).2.2.1 = some (tyX12 k) := by decide +kernel
abbrev cX12_init : ByteArray := prog_14_method_1_code
def yX12_init : MethodName := ⟨RX12, "<init>", "()V"⟩
abbrev cX12_in : ByteArray := prog_14_method_3_code
def yX12_in : MethodName := ⟨RX12, "in", "(III)Z"⟩
abbrev cX12_isStop : ByteArray := prog_14_method_4_code
def yX12_isStop : MethodName := ⟨RX12, "isStop", "(I)Z"⟩
abbrev cX12_isDay : ByteArray := prog_14_method_5_code
def yX12_isDay : MethodName := ⟨RX12, "isDay", "(I)Z"⟩
abbrev cX12_isTrip : ByteArray := prog_14_method_6_code
def yX12_isTrip : MethodName := ⟨RX12, "isTrip", "(I)Z"⟩
abbrev cX12_isCall : ByteArray := prog_14_method_7_code
def yX12_isCall : MethodName := ⟨RX12, "isCall", "(II)Z"⟩
abbrev cX12_isWalk : ByteArray := prog_14_method_8_code
def yX12_isWalk : MethodName := ⟨RX12, "isWalk", "(I)Z"⟩
abbrev cX12_stop : ByteArray := prog_14_method_9_code
def yX12_stop : MethodName := ⟨RX12, "stop", "(II)I"⟩
abbrev cX12_fare : ByteArray := prog_14_method_10_code
def yX12_fare : MethodName := ⟨RX12, "fare", "(III)I"⟩
abbrev cX12_day : ByteArray := prog_14_method_11_code
def yX12_day : MethodName := ⟨RX12, "day", "(II)I"⟩
abbrev cX12_trip : ByteArray := prog_14_method_12_code
def yX12_trip : MethodName := ⟨RX12, "trip", "(III)I"⟩
abbrev cX12_call : ByteArray := prog_14_method_13_code
def yX12_call : MethodName := ⟨RX12, "call", "(IIII)I"⟩
abbrev cX12_miss : ByteArray := prog_14_method_14_code
def yX12_miss : MethodName := ⟨RX12, "miss", "(IIZ)I"⟩
abbrev cX12_walk : ByteArray := prog_14_method_15_code
def yX12_walk : MethodName := ⟨RX12, "walk", "(III)I"⟩
abbrev cX12_shuttle : ByteArray := prog_14_method_16_code
def yX12_shuttle : MethodName := ⟨RX12, "shuttle", "(IIII)I"⟩
abbrev cX12_asked : ByteArray := prog_14_method_17_code
def yX12_asked : MethodName := ⟨RX12, "asked", "(II)I"⟩
abbrev cX12_lateAt : ByteArray := prog_14_method_18_code
def yX12_lateAt : MethodName := ⟨RX12, "lateAt", "(III)I"⟩
abbrev cX12_late : ByteArray := prog_14_method_19_code
def yX12_late : MethodName := ⟨RX12, "late", "(IIII)I"⟩
abbrev cX12_gone : ByteArray := prog_14_method_20_code
def yX12_gone : MethodName := ⟨RX12, "gone", "(IIZ)I"⟩
abbrev cX12_runs : ByteArray := prog_14_method_21_code
def yX12_runs : MethodName := ⟨RX12, "runs", "(II)Z"⟩
abbrev cX12_comesAt : ByteArray := prog_14_method_22_code
def yX12_comesAt : MethodName := ⟨RX12, "comesAt", "(III)I"⟩
abbrev cX12_leavesAt : ByteArray := prog_14_method_23_code
def yX12_leavesAt : MethodName := ⟨RX12, "leavesAt", "(III)I"⟩
abbrev cX12_begins : ByteArray := prog_14_method_24_code
def yX12_begins : MethodName := ⟨RX12, "begins", "(III)I"⟩
abbrev cX12_behind : ByteArray := prog_14_method_25_code
def yX12_behind : MethodName := ⟨RX12, "behind", "(III)I"⟩
abbrev cX12_look : ByteArray := prog_14_method_26_code
def yX12_look : MethodName := ⟨RX12, "look", "(II)V"⟩
abbrev cX12_at : ByteArray := prog_14_method_27_code
def yX12_at : MethodName := ⟨RX12, "at", "(III)I"⟩
abbrev cX12_fareOf : ByteArray := prog_14_method_28_code
def yX12_fareOf : MethodName := ⟨RX12, "fareOf", "(III)I"⟩
abbrev cX12_hasPlace : ByteArray := prog_14_method_29_code
def yX12_hasPlace : MethodName := ⟨RX12, "hasPlace", "(IIII)Z"⟩
abbrev cX12_go : ByteArray := prog_14_method_30_code
def yX12_go : MethodName := ⟨RX12, "go", "(II)V"⟩
abbrev cX12_least : ByteArray := prog_14_method_31_code
def yX12_least : MethodName := ⟨RX12, "least", "([III)V"⟩
abbrev cX12_ride : ByteArray := prog_14_method_32_code
def yX12_ride : MethodName := ⟨RX12, "ride", "(II)V"⟩
abbrev cX12_arrival : ByteArray := prog_14_method_33_code
def yX12_arrival : MethodName := ⟨RX12, "arrival", "(III)I"⟩
abbrev cX12_soonestOf : ByteArray := prog_14_method_34_code
def yX12_soonestOf : MethodName := ⟨RX12, "soonestOf", "(I)I"⟩
abbrev cX12_putWalk : ByteArray := prog_14_method_35_code
def yX12_putWalk : MethodName := ⟨RX12, "putWalk", "(I)V"⟩
abbrev cX12_putRide : ByteArray := prog_14_method_36_code
def yX12_putRide : MethodName := ⟨RX12, "putRide", "(III)V"⟩
abbrev cX12_findRide : ByteArray := prog_14_method_37_code
def yX12_findRide : MethodName := ⟨RX12, "findRide", "(IIIIZI)Z"⟩
abbrev cX12_findWay : ByteArray := prog_14_method_38_code
def yX12_findWay : MethodName := ⟨RX12, "findWay", "(IIII)V"⟩
abbrev cX12_walkAhead : ByteArray := prog_14_method_39_code
def yX12_walkAhead : MethodName := ⟨RX12, "walkAhead", "(IIIZI)I"⟩
abbrev cX12_isBeaten : ByteArray := prog_14_method_40_code
def yX12_isBeaten : MethodName := ⟨RX12, "isBeaten", "(IIII)Z"⟩
abbrev cX12_add : ByteArray := prog_14_method_41_code
def yX12_add : MethodName := ⟨RX12, "add", "(III)V"⟩
abbrev cX12_ways : ByteArray := prog_14_method_42_code
def yX12_ways : MethodName := ⟨RX12, "ways", "(IIII)I"⟩
abbrev cX12_way : ByteArray := prog_14_method_43_code
def yX12_way : MethodName := ⟨RX12, "way", "(II)I"⟩
abbrev cX12_leg : ByteArray := prog_14_method_44_code
def yX12_leg : MethodName := ⟨RX12, "leg", "(III)I"⟩
abbrev cX12_places : ByteArray := prog_14_method_45_code
def yX12_places : MethodName := ⟨RX12, "places", "([IIII)Z"⟩
abbrev cX12_take : ByteArray := prog_14_method_46_code
def yX12_take : MethodName := ⟨RX12, "take", "(I)I"⟩
abbrev cX12_isTicket : ByteArray := prog_14_method_47_code
def yX12_isTicket : MethodName := ⟨RX12, "isTicket", "(I)Z"⟩
abbrev cX12_give : ByteArray := prog_14_method_48_code
def yX12_give : MethodName := ⟨RX12, "give", "(I)I"⟩
abbrev cX12_still : ByteArray := prog_14_method_49_code
def yX12_still : MethodName := ⟨RX12, "still", "(I)I"⟩
abbrev cX12_comes : ByteArray := prog_14_method_50_code
def yX12_comes : MethodName := ⟨RX12, "comes", "(I)I"⟩
abbrev cX12_taken : ByteArray := prog_14_method_51_code
def yX12_taken : MethodName := ⟨RX12, "taken", "(III)I"⟩
abbrev cX12_latest : ByteArray := prog_14_method_52_code
def yX12_latest : MethodName := ⟨RX12, "latest", "(IIII)I"⟩
abbrev cX12_isInTime : ByteArray := prog_14_method_53_code
def yX12_isInTime : MethodName := ⟨RX12, "isInTime", "(IIII)Z"⟩
abbrev cX12_reach : ByteArray := prog_14_method_54_code
def yX12_reach : MethodName := ⟨RX12, "reach", "(IIII)I"⟩
abbrev cX12_meet : ByteArray := prog_14_method_55_code
def yX12_meet : MethodName := ⟨RX12, "meet", "(III)I"⟩
abbrev cX12_met : ByteArray := prog_14_method_56_code
def yX12_met : MethodName := ⟨RX12, "met", "()I"⟩
abbrev cX12_isAhead : ByteArray := prog_14_method_57_code
def yX12_isAhead : MethodName := ⟨RX12, "isAhead", "(IIIII)Z"⟩
abbrev cX12_isInTable : ByteArray := prog_14_method_58_code
def yX12_isInTable : MethodName := ⟨RX12, "isInTable", "(IIII)Z"⟩
abbrev cX12_table : ByteArray := prog_14_method_59_code
def yX12_table : MethodName := ⟨RX12, "table", "(IIII)I"⟩
abbrev cX12_count : ByteArray := prog_14_method_60_code
def yX12_count : MethodName := ⟨RX12, "count", "(I)I"⟩
def RJ9 : String := "java/lang/Math"
def TJ9 : u_T := fun k => match k with
  | _ => ("", "", "", false)
def tyJ9 : Nat → FieldType := fun k => match k with
  | _ => .int
abbrev wsJ90 : List Cond := u_ws RJ9 TJ9 0
theorem nmJ9 : ∀ a, a < 0 → ∀ b, b < 0 → a ≠ b → (TJ9 a).2.1 ≠ (TJ9 b).2.1 := by decide +kernel
theorem tyJ9_ok : ∀ k, k < 0 → parseFieldDescriptor (TJ9 k).2.2.1 = some (tyJ9 k) := by decide +kernel
abbrev cJ9_floorDiv_7cf53 : ByteArray := prog_15_method_47_code
def yJ9_floorDiv_7cf53 : MethodName := ⟨RJ9, "floorDiv", "(II)I"⟩
abbrev cJ9_max_7cf53 : ByteArray := prog_15_method_65_code
def yJ9_max_7cf53 : MethodName := ⟨RJ9, "max", "(II)I"⟩
abbrev cJ9_min_7cf53 : ByteArray := prog_15_method_69_code
def yJ9_min_7cf53 : MethodName := ⟨RJ9, "min", "(II)I"⟩
def RJ7 : String := "java/util/Arrays"
def TJ7 : u_T := fun k => match k with
  | _ => ("", "", "", false)
def tyJ7 : Nat → FieldType := fun k => match k with
  | _ => .int
abbrev wsJ70 : List Cond := u_ws RJ7 TJ7 0
theorem nmJ7 : ∀ a, a < 0 → ∀ b, b < 0 → a ≠ b → (TJ7 a).2.1 ≠ (TJ7 b).2.1 := by decide +kernel
theorem tyJ7_ok : ∀ k, k < 0 → parseFieldDescriptor (TJ7 k).2.2.1 = some (tyJ7 k) := by decide +kernel
abbrev cJ7_rangeCheck_23922 : ByteArray := prog_16_method_30_code
def yJ7_rangeCheck_23922 : MethodName := ⟨RJ7, "rangeCheck", "(III)V"⟩
abbrev cJ7_fill_53178 : ByteArray := prog_16_method_103_code
def yJ7_fill_53178 : MethodName := ⟨RJ7, "fill", "([II)V"⟩
abbrev cJ7_fill_fda19 : ByteArray := prog_16_method_104_code
def yJ7_fill_fda19 : MethodName := ⟨RJ7, "fill", "([IIII)V"⟩
def RL : String := "ConnectionDeskLaw"
abbrev cL_law : ByteArray := code
def yL_law : MethodName := ⟨RL, "law", "([I)Z"⟩
abbrev vwCl : List vw_C := [(RX0, TX0, 2), (RX1, TX1, 6), (RX2, TX2, 11), (RX3, TX3, 3), (RX4, TX4, 9), (RX5, TX5, 11), (RX6, TX6, 2), (RX7, TX7, 4), (RX8, TX8, 13), (RX9, TX9, 12), (RX10, TX10, 9), (RX11, TX11, 11), (RX12, TX12, 60)]
end
section
theorem dX0_init_0 : decode cX0_init 0 = .ok (.aload_n 0, 1) := by decide +kernel
theorem dX0_init_1 : decode cX0_init 1 = .ok (.invokespecial 3, 3) := by decide +kernel
theorem dX0_init_4 : decode cX0_init 4 = .ok (.aload_n 0, 1) := by decide +kernel
theorem dX0_init_5 : decode cX0_init 5 = .ok (.new 9, 3) := by decide +kernel
theorem dX0_init_8 : decode cX0_init 8 = .ok (.dup, 1) := by decide +kernel
theorem dX0_init_9 : decode cX0_init 9 = .ok (.sipush 192, 3) := by decide +kernel
theorem dX0_init_12 : decode cX0_init 12 = .ok (.invokespecial 11, 3) := by decide +kernel
theorem dX0_init_15 : decode cX0_init 15 = .ok (.putfield 14, 3) := by decide +kernel
theorem dX0_init_18 : decode cX0_init 18 = .ok (.aload_n 0, 1) := by decide +kernel
theorem dX0_init_19 : decode cX0_init 19 = .ok (.aload_n 1, 1) := by decide +kernel
theorem dX0_init_20 : decode cX0_init 20 = .ok (.putfield 20, 3) := by decide +kernel
theorem dX0_init_23 : decode cX0_init 23 = .ok (.return_, 1) := by decide +kernel
theorem dX0_gather_0 : decode cX0_gather 0 = .ok (.aload_n 0, 1) := by decide +kernel
theorem dX0_gather_1 : decode cX0_gather 1 = .ok (.getfield 14, 3) := by decide +kernel
theorem dX0_gather_4 : decode cX0_gather 4 = .ok (.invokevirtual 24, 3) := by decide +kernel
theorem dX0_gather_7 : decode cX0_gather 7 = .ok (.iconst 0, 1) := by decide +kernel
theorem dX0_gather_8 : decode cX0_gather 8 = .ok (.istore_n 3, 1) := by decide +kernel
theorem dX0_gather_9 : decode cX0_gather 9 = .ok (.iload_n 3, 1) := by decide +kernel
theorem dX0_gather_10 : decode cX0_gather 10 = .ok (.aload_n 0, 1) := by decide +kernel
theorem dX0_gather_11 : decode cX0_gather 11 = .ok (.getfield 20, 3) := by decide +kernel
theorem dX0_gather_14 : decode cX0_gather 14 = .ok (.getfield 27, 3) := by decide +kernel
theorem dX0_gather_17 : decode cX0_gather 17 = .ok (.if_icmp .ge 28, 3) := by decide +kernel
theorem dX0_gather_20 : decode cX0_gather 20 = .ok (.aload_n 0, 1) := by decide +kernel
theorem dX0_gather_21 : decode cX0_gather 21 = .ok (.getfield 20, 3) := by decide +kernel
theorem dX0_gather_24 : decode cX0_gather 24 = .ok (.iload_n 3, 1) := by decide +kernel
theorem dX0_gather_25 : decode cX0_gather 25 = .ok (.iload_n 2, 1) := by decide +kernel
theorem dX0_gather_26 : decode cX0_gather 26 = .ok (.invokevirtual 33, 3) := by decide +kernel
theorem dX0_gather_29 : decode cX0_gather 29 = .ok (.ifCond .eq 10, 3) := by decide +kernel
theorem dX0_gather_32 : decode cX0_gather 32 = .ok (.aload_n 0, 1) := by decide +kernel
theorem dX0_gather_33 : decode cX0_gather 33 = .ok (.iload_n 3, 1) := by decide +kernel
theorem dX0_gather_34 : decode cX0_gather 34 = .ok (.iload_n 1, 1) := by decide +kernel
theorem dX0_gather_35 : decode cX0_gather 35 = .ok (.iload_n 2, 1) := by decide +kernel
theorem dX0_gather_36 : decode cX0_gather 36 = .ok (.invokevirtual 37, 3) := by decide +kernel
theorem dX0_gather_39 : decode cX0_gather 39 = .ok (.iinc 3 1, 3) := by decide +kernel
theorem dX0_gather_42 : decode cX0_gather 42 = .ok (.goto (-33), 3) := by decide +kernel
theorem dX0_gather_45 : decode cX0_gather 45 = .ok (.aload_n 0, 1) := by decide +kernel
theorem dX0_gather_46 : decode cX0_gather 46 = .ok (.getfield 14, 3) := by decide +kernel
theorem dX0_gather_49 : decode cX0_gather 49 = .ok (.getfield 41, 3) := by decide +kernel
theorem dX0_gather_52 : decode cX0_gather 52 = .ok (.ireturn, 1) := by decide +kernel
theorem dX0_of_0 : decode cX0_of 0 = .ok (.aload_n 0, 1) := by decide +kernel
theorem dX0_of_1 : decode cX0_of 1 = .ok (.getfield 14, 3) := by decide +kernel
theorem dX0_of_4 : decode cX0_of 4 = .ok (.iload_n 1, 1) := by decide +kernel
theorem dX0_of_5 : decode cX0_of 5 = .ok (.invokevirtual 42, 3) := by decide +kernel
theorem dX0_of_8 : decode cX0_of 8 = .ok (.bipush 8, 2) := by decide +kernel
theorem dX0_of_10 : decode cX0_of 10 = .ok (.idiv, 1) := by decide +kernel
theorem dX0_of_11 : decode cX0_of 11 = .ok (.bipush 24, 2) := by decide +kernel
theorem dX0_of_13 : decode cX0_of 13 = .ok (.irem, 1) := by decide +kernel
theorem dX0_of_14 : decode cX0_of 14 = .ok (.istore 4, 2) := by decide +kernel
theorem dX0_of_16 : decode cX0_of 16 = .ok (.aload_n 0, 1) := by decide +kernel
theorem dX0_of_17 : decode cX0_of 17 = .ok (.getfield 14, 3) := by decide +kernel
theorem dX0_of_20 : decode cX0_of 20 = .ok (.iload_n 1, 1) := by decide +kernel
theorem dX0_of_21 : decode cX0_of 21 = .ok (.invokevirtual 42, 3) := by decide +kernel
theorem dX0_of_24 : decode cX0_of 24 = .ok (.bipush 8, 2) := by decide +kernel
theorem dX0_of_26 : decode cX0_of 26 = .ok (.irem, 1) := by decide +kernel
theorem dX0_of_27 : decode cX0_of 27 = .ok (.istore 5, 2) := by decide +kernel
theorem dX0_of_29 : decode cX0_of 29 = .ok (.iload_n 3, 1) := by decide +kernel
theorem dX0_of_30 : decode cX0_of 30 = .ok (.tableswitch 51 0 2 #[26, 29, 32], 26) := by decide +kernel
theorem dX0_of_56 : decode cX0_of 56 = .ok (.iload 4, 2) := by decide +kernel
theorem dX0_of_58 : decode cX0_of 58 = .ok (.ireturn, 1) := by decide +kernel
theorem dX0_of_59 : decode cX0_of 59 = .ok (.iload 5, 2) := by decide +kernel
theorem dX0_of_61 : decode cX0_of 61 = .ok (.ireturn, 1) := by decide +kernel
theorem dX0_of_62 : decode cX0_of 62 = .ok (.aload_n 0, 1) := by decide +kernel
theorem dX0_of_63 : decode cX0_of 63 = .ok (.getfield 20, 3) := by decide +kernel
theorem dX0_of_66 : decode cX0_of 66 = .ok (.iload 4, 2) := by decide +kernel
theorem dX0_of_68 : decode cX0_of 68 = .ok (.iload_n 2, 1) := by decide +kernel
theorem dX0_of_69 : decode cX0_of 69 = .ok (.iload 5, 2) := by decide +kernel
theorem dX0_of_71 : decode cX0_of 71 = .ok (.invokevirtual 46, 3) := by decide +kernel
theorem dX0_of_74 : decode cX0_of 74 = .ok (.sipush 1440, 3) := by decide +kernel
theorem dX0_of_77 : decode cX0_of 77 = .ok (.iload_n 2, 1) := by decide +kernel
theorem dX0_of_78 : decode cX0_of 78 = .ok (.imul, 1) := by decide +kernel
theorem dX0_of_79 : decode cX0_of 79 = .ok (.isub, 1) := by decide +kernel
theorem dX0_of_80 : decode cX0_of 80 = .ok (.ireturn, 1) := by decide +kernel
theorem dX0_of_81 : decode cX0_of 81 = .ok (.aload_n 0, 1) := by decide +kernel
theorem dX0_of_82 : decode cX0_of 82 = .ok (.getfield 20, 3) := by decide +kernel
theorem dX0_of_85 : decode cX0_of 85 = .ok (.iload 4, 2) := by decide +kernel
theorem dX0_of_87 : decode cX0_of 87 = .ok (.iload_n 2, 1) := by decide +kernel
theorem dX0_of_88 : decode cX0_of 88 = .ok (.iload 5, 2) := by decide +kernel
theorem dX0_of_90 : decode cX0_of 90 = .ok (.invokevirtual 50, 3) := by decide +kernel
theorem dX0_of_93 : decode cX0_of 93 = .ok (.sipush 1440, 3) := by decide +kernel
theorem dX0_of_96 : decode cX0_of 96 = .ok (.iload_n 2, 1) := by decide +kernel
theorem dX0_of_97 : decode cX0_of 97 = .ok (.imul, 1) := by decide +kernel
theorem dX0_of_98 : decode cX0_of 98 = .ok (.isub, 1) := by decide +kernel
theorem dX0_of_99 : decode cX0_of 99 = .ok (.ireturn, 1) := by decide +kernel
theorem dX0_gatherTrip_0 : decode cX0_gatherTrip 0 = .ok (.iconst 0, 1) := by decide +kernel
theorem dX0_gatherTrip_1 : decode cX0_gatherTrip 1 = .ok (.istore 4, 2) := by decide +kernel
theorem dX0_gatherTrip_3 : decode cX0_gatherTrip 3 = .ok (.iload 4, 2) := by decide +kernel
theorem dX0_gatherTrip_5 : decode cX0_gatherTrip 5 = .ok (.aload_n 0, 1) := by decide +kernel
theorem dX0_gatherTrip_6 : decode cX0_gatherTrip 6 = .ok (.getfield 20, 3) := by decide +kernel
theorem dX0_gatherTrip_9 : decode cX0_gatherTrip 9 = .ok (.getfield 53, 3) := by decide +kernel
theorem dX0_gatherTrip_12 : decode cX0_gatherTrip 12 = .ok (.iload_n 1, 1) := by decide +kernel
theorem dX0_gatherTrip_13 : decode cX0_gatherTrip 13 = .ok (.iaload, 1) := by decide +kernel
theorem dX0_gatherTrip_14 : decode cX0_gatherTrip 14 = .ok (.if_icmp .ge 80, 3) := by decide +kernel
theorem dX0_gatherTrip_17 : decode cX0_gatherTrip 17 = .ok (.aload_n 0, 1) := by decide +kernel
theorem dX0_gatherTrip_18 : decode cX0_gatherTrip 18 = .ok (.getfield 20, 3) := by decide +kernel
theorem dX0_gatherTrip_21 : decode cX0_gatherTrip 21 = .ok (.getfield 57, 3) := by decide +kernel
theorem dX0_gatherTrip_24 : decode cX0_gatherTrip 24 = .ok (.iload_n 1, 1) := by decide +kernel
theorem dX0_gatherTrip_25 : decode cX0_gatherTrip 25 = .ok (.bipush 8, 2) := by decide +kernel
theorem dX0_gatherTrip_27 : decode cX0_gatherTrip 27 = .ok (.imul, 1) := by decide +kernel
theorem dX0_gatherTrip_28 : decode cX0_gatherTrip 28 = .ok (.iload 4, 2) := by decide +kernel
theorem dX0_gatherTrip_30 : decode cX0_gatherTrip 30 = .ok (.iadd, 1) := by decide +kernel
theorem dX0_gatherTrip_31 : decode cX0_gatherTrip 31 = .ok (.iaload, 1) := by decide +kernel
theorem dX0_gatherTrip_32 : decode cX0_gatherTrip 32 = .ok (.iload_n 2, 1) := by decide +kernel
theorem dX0_gatherTrip_33 : decode cX0_gatherTrip 33 = .ok (.if_icmp .ne 55, 3) := by decide +kernel
theorem dX0_gatherTrip_36 : decode cX0_gatherTrip 36 = .ok (.aload_n 0, 1) := by decide +kernel
theorem dX0_gatherTrip_37 : decode cX0_gatherTrip 37 = .ok (.getfield 20, 3) := by decide +kernel
theorem dX0_gatherTrip_40 : decode cX0_gatherTrip 40 = .ok (.iload_n 1, 1) := by decide +kernel
theorem dX0_gatherTrip_41 : decode cX0_gatherTrip 41 = .ok (.iload 4, 2) := by decide +kernel
theorem dX0_gatherTrip_43 : decode cX0_gatherTrip 43 = .ok (.invokevirtual 60, 3) := by decide +kernel
theorem dX0_gatherTrip_46 : decode cX0_gatherTrip 46 = .ok (.ifCond .eq 42, 3) := by decide +kernel
theorem dX0_gatherTrip_49 : decode cX0_gatherTrip 49 = .ok (.aload_n 0, 1) := by decide +kernel
theorem dX0_gatherTrip_50 : decode cX0_gatherTrip 50 = .ok (.getfield 20, 3) := by decide +kernel
theorem dX0_gatherTrip_53 : decode cX0_gatherTrip 53 = .ok (.iload_n 1, 1) := by decide +kernel
theorem dX0_gatherTrip_54 : decode cX0_gatherTrip 54 = .ok (.iload_n 3, 1) := by decide +kernel
theorem dX0_gatherTrip_55 : decode cX0_gatherTrip 55 = .ok (.iload 4, 2) := by decide +kernel
theorem dX0_gatherTrip_57 : decode cX0_gatherTrip 57 = .ok (.invokevirtual 50, 3) := by decide +kernel
theorem dX0_gatherTrip_60 : decode cX0_gatherTrip 60 = .ok (.sipush 1440, 3) := by decide +kernel
theorem dX0_gatherTrip_63 : decode cX0_gatherTrip 63 = .ok (.iload_n 3, 1) := by decide +kernel
theorem dX0_gatherTrip_64 : decode cX0_gatherTrip 64 = .ok (.imul, 1) := by decide +kernel
theorem dX0_gatherTrip_65 : decode cX0_gatherTrip 65 = .ok (.isub, 1) := by decide +kernel
theorem dX0_gatherTrip_66 : decode cX0_gatherTrip 66 = .ok (.istore 5, 2) := by decide +kernel
theorem dX0_gatherTrip_68 : decode cX0_gatherTrip 68 = .ok (.aload_n 0, 1) := by decide +kernel
theorem dX0_gatherTrip_69 : decode cX0_gatherTrip 69 = .ok (.getfield 14, 3) := by decide +kernel
theorem dX0_gatherTrip_72 : decode cX0_gatherTrip 72 = .ok (.iload 5, 2) := by decide +kernel
theorem dX0_gatherTrip_74 : decode cX0_gatherTrip 74 = .ok (.bipush 24, 2) := by decide +kernel
theorem dX0_gatherTrip_76 : decode cX0_gatherTrip 76 = .ok (.imul, 1) := by decide +kernel
theorem dX0_gatherTrip_77 : decode cX0_gatherTrip 77 = .ok (.iload_n 1, 1) := by decide +kernel
theorem dX0_gatherTrip_78 : decode cX0_gatherTrip 78 = .ok (.iadd, 1) := by decide +kernel
theorem dX0_gatherTrip_79 : decode cX0_gatherTrip 79 = .ok (.bipush 8, 2) := by decide +kernel
theorem dX0_gatherTrip_81 : decode cX0_gatherTrip 81 = .ok (.imul, 1) := by decide +kernel
theorem dX0_gatherTrip_82 : decode cX0_gatherTrip 82 = .ok (.iload 4, 2) := by decide +kernel
theorem dX0_gatherTrip_84 : decode cX0_gatherTrip 84 = .ok (.iadd, 1) := by decide +kernel
theorem dX0_gatherTrip_85 : decode cX0_gatherTrip 85 = .ok (.invokevirtual 63, 3) := by decide +kernel
theorem dX0_gatherTrip_88 : decode cX0_gatherTrip 88 = .ok (.iinc 4 1, 3) := by decide +kernel
theorem dX0_gatherTrip_91 : decode cX0_gatherTrip 91 = .ok (.goto (-88), 3) := by decide +kernel
theorem dX0_gatherTrip_94 : decode cX0_gatherTrip 94 = .ok (.return_, 1) := by decide +kernel
theorem dX1_init_0 : decode cX1_init 0 = .ok (.aload_n 0, 1) := by decide +kernel
theorem dX1_init_1 : decode cX1_init 1 = .ok (.invokespecial 3, 3) := by decide +kernel
theorem dX1_init_4 : decode cX1_init 4 = .ok (.aload_n 0, 1) := by decide +kernel
theorem dX1_init_5 : decode cX1_init 5 = .ok (.bipush 60, 2) := by decide +kernel
theorem dX1_init_7 : decode cX1_init 7 = .ok (.newarray .int, 2) := by decide +kernel
theorem dX1_init_9 : decode cX1_init 9 = .ok (.putfield 9, 3) := by decide +kernel
theorem dX1_init_12 : decode cX1_init 12 = .ok (.aload_n 0, 1) := by decide +kernel
theorem dX1_init_13 : decode cX1_init 13 = .ok (.bipush 60, 2) := by decide +kernel
theorem dX1_init_15 : decode cX1_init 15 = .ok (.newarray .int, 2) := by decide +kernel
theorem dX1_init_17 : decode cX1_init 17 = .ok (.putfield 15, 3) := by decide +kernel
theorem dX1_init_20 : decode cX1_init 20 = .ok (.aload_n 0, 1) := by decide +kernel
theorem dX1_init_21 : decode cX1_init 21 = .ok (.bipush 60, 2) := by decide +kernel
theorem dX1_init_23 : decode cX1_init 23 = .ok (.newarray .int, 2) := by decide +kernel
theorem dX1_init_25 : decode cX1_init 25 = .ok (.putfield 18, 3) := by decide +kernel
theorem dX1_init_28 : decode cX1_init 28 = .ok (.aload_n 0, 1) := by decide +kernel
theorem dX1_init_29 : decode cX1_init 29 = .ok (.bipush 60, 2) := by decide +kernel
theorem dX1_init_31 : decode cX1_init 31 = .ok (.newarray .int, 2) := by decide +kernel
theorem dX1_init_33 : decode cX1_init 33 = .ok (.putfield 21, 3) := by decide +kernel
theorem dX1_init_36 : decode cX1_init 36 = .ok (.return_, 1) := by decide +kernel
theorem dX1_tell_0 : decode cX1_tell 0 = .ok (.aload_n 0, 1) := by decide +kernel
theorem dX1_tell_1 : decode cX1_tell 1 = .ok (.getfield 24, 3) := by decide +kernel
theorem dX1_tell_4 : decode cX1_tell 4 = .ok (.bipush 60, 2) := by decide +kernel
theorem dX1_tell_6 : decode cX1_tell 6 = .ok (.if_icmp .lt 6, 3) := by decide +kernel
theorem dX1_tell_9 : decode cX1_tell 9 = .ok (.bipush (-2), 2) := by decide +kernel
theorem dX1_tell_11 : decode cX1_tell 11 = .ok (.ireturn, 1) := by decide +kernel
theorem dX1_tell_12 : decode cX1_tell 12 = .ok (.aload_n 0, 1) := by decide +kernel
theorem dX1_tell_13 : decode cX1_tell 13 = .ok (.getfield 9, 3) := by decide +kernel
theorem dX1_tell_16 : decode cX1_tell 16 = .ok (.aload_n 0, 1) := by decide +kernel
theorem dX1_tell_17 : decode cX1_tell 17 = .ok (.getfield 24, 3) := by decide +kernel
theorem dX1_tell_20 : decode cX1_tell 20 = .ok (.iload_n 1, 1) := by decide +kernel
theorem dX1_tell_21 : decode cX1_tell 21 = .ok (.iastore, 1) := by decide +kernel
theorem dX1_tell_22 : decode cX1_tell 22 = .ok (.aload_n 0, 1) := by decide +kernel
theorem dX1_tell_23 : decode cX1_tell 23 = .ok (.getfield 15, 3) := by decide +kernel
theorem dX1_tell_26 : decode cX1_tell 26 = .ok (.aload_n 0, 1) := by decide +kernel
theorem dX1_tell_27 : decode cX1_tell 27 = .ok (.getfield 24, 3) := by decide +kernel
theorem dX1_tell_30 : decode cX1_tell 30 = .ok (.iload_n 2, 1) := by decide +kernel
theorem dX1_tell_31 : decode cX1_tell 31 = .ok (.iastore, 1) := by decide +kernel
theorem dX1_tell_32 : decode cX1_tell 32 = .ok (.aload_n 0, 1) := by decide +kernel
theorem dX1_tell_33 : decode cX1_tell 33 = .ok (.getfield 18, 3) := by decide +kernel
theorem dX1_tell_36 : decode cX1_tell 36 = .ok (.aload_n 0, 1) := by decide +kernel
theorem dX1_tell_37 : decode cX1_tell 37 = .ok (.getfield 24, 3) := by decide +kernel
theorem dX1_tell_40 : decode cX1_tell 40 = .ok (.iload_n 3, 1) := by decide +kernel
theorem dX1_tell_41 : decode cX1_tell 41 = .ok (.iastore, 1) := by decide +kernel
theorem dX1_tell_42 : decode cX1_tell 42 = .ok (.aload_n 0, 1) := by decide +kernel
theorem dX1_tell_43 : decode cX1_tell 43 = .ok (.getfield 21, 3) := by decide +kernel
theorem dX1_tell_46 : decode cX1_tell 46 = .ok (.aload_n 0, 1) := by decide +kernel
theorem dX1_tell_47 : decode cX1_tell 47 = .ok (.getfield 24, 3) := by decide +kernel
theorem dX1_tell_50 : decode cX1_tell 50 = .ok (.iload 4, 2) := by decide +kernel
theorem dX1_tell_52 : decode cX1_tell 52 = .ok (.iastore, 1) := by decide +kernel
theorem dX1_tell_53 : decode cX1_tell 53 = .ok (.aload_n 0, 1) := by decide +kernel
theorem dX1_tell_54 : decode cX1_tell 54 = .ok (.dup, 1) := by decide +kernel
theorem dX1_tell_55 : decode cX1_tell 55 = .ok (.getfield 24, 3) := by decide +kernel
theorem dX1_tell_58 : decode cX1_tell 58 = .ok (.iconst 1, 1) := by decide +kernel
theorem dX1_tell_59 : decode cX1_tell 59 = .ok (.iadd, 1) := by decide +kernel
theorem dX1_tell_60 : decode cX1_tell 60 = .ok (.putfield 24, 3) := by decide +kernel
theorem dX1_tell_63 : decode cX1_tell 63 = .ok (.aload_n 0, 1) := by decide +kernel
theorem dX1_tell_64 : decode cX1_tell 64 = .ok (.dup, 1) := by decide +kernel
theorem dX1_tell_65 : decode cX1_tell 65 = .ok (.getfield 28, 3) := by decide +kernel
theorem dX1_tell_68 : decode cX1_tell 68 = .ok (.iload 4, 2) := by decide +kernel
theorem dX1_tell_70 : decode cX1_tell 70 = .ok (.iadd, 1) := by decide +kernel
theorem dX1_tell_71 : decode cX1_tell 71 = .ok (.putfield 28, 3) := by decide +kernel
theorem dX1_tell_74 : decode cX1_tell 74 = .ok (.aload_n 0, 1) := by decide +kernel
theorem dX1_tell_75 : decode cX1_tell 75 = .ok (.iload_n 1, 1) := by decide +kernel
theorem dX1_tell_76 : decode cX1_tell 76 = .ok (.iload_n 2, 1) := by decide +kernel
theorem dX1_tell_77 : decode cX1_tell 77 = .ok (.iload_n 3, 1) := by decide +kernel
theorem dX1_tell_78 : decode cX1_tell 78 = .ok (.invokevirtual 31, 3) := by decide +kernel
theorem dX1_tell_81 : decode cX1_tell 81 = .ok (.ireturn, 1) := by decide +kernel
theorem dX1_sum_0 : decode cX1_sum 0 = .ok (.iconst 0, 1) := by decide +kernel
theorem dX1_sum_1 : decode cX1_sum 1 = .ok (.istore 4, 2) := by decide +kernel
theorem dX1_sum_3 : decode cX1_sum 3 = .ok (.iconst 0, 1) := by decide +kernel
theorem dX1_sum_4 : decode cX1_sum 4 = .ok (.istore 5, 2) := by decide +kernel
theorem dX1_sum_6 : decode cX1_sum 6 = .ok (.iload 5, 2) := by decide +kernel
theorem dX1_sum_8 : decode cX1_sum 8 = .ok (.aload_n 0, 1) := by decide +kernel
theorem dX1_sum_9 : decode cX1_sum 9 = .ok (.getfield 24, 3) := by decide +kernel
theorem dX1_sum_12 : decode cX1_sum 12 = .ok (.if_icmp .ge 54, 3) := by decide +kernel
theorem dX1_sum_15 : decode cX1_sum 15 = .ok (.aload_n 0, 1) := by decide +kernel
theorem dX1_sum_16 : decode cX1_sum 16 = .ok (.getfield 9, 3) := by decide +kernel
theorem dX1_sum_19 : decode cX1_sum 19 = .ok (.iload 5, 2) := by decide +kernel
theorem dX1_sum_21 : decode cX1_sum 21 = .ok (.iaload, 1) := by decide +kernel
theorem dX1_sum_22 : decode cX1_sum 22 = .ok (.iload_n 1, 1) := by decide +kernel
theorem dX1_sum_23 : decode cX1_sum 23 = .ok (.if_icmp .ne 37, 3) := by decide +kernel
theorem dX1_sum_26 : decode cX1_sum 26 = .ok (.aload_n 0, 1) := by decide +kernel
theorem dX1_sum_27 : decode cX1_sum 27 = .ok (.getfield 15, 3) := by decide +kernel
theorem dX1_sum_30 : decode cX1_sum 30 = .ok (.iload 5, 2) := by decide +kernel
theorem dX1_sum_32 : decode cX1_sum 32 = .ok (.iaload, 1) := by decide +kernel
theorem dX1_sum_33 : decode cX1_sum 33 = .ok (.iload_n 2, 1) := by decide +kernel
theorem dX1_sum_34 : decode cX1_sum 34 = .ok (.if_icmp .ne 26, 3) := by decide +kernel
theorem dX1_sum_37 : decode cX1_sum 37 = .ok (.aload_n 0, 1) := by decide +kernel
theorem dX1_sum_38 : decode cX1_sum 38 = .ok (.getfield 18, 3) := by decide +kernel
theorem dX1_sum_41 : decode cX1_sum 41 = .ok (.iload 5, 2) := by decide +kernel
theorem dX1_sum_43 : decode cX1_sum 43 = .ok (.iaload, 1) := by decide +kernel
theorem dX1_sum_44 : decode cX1_sum 44 = .ok (.iload_n 3, 1) := by decide +kernel
theorem dX1_sum_45 : decode cX1_sum 45 = .ok (.if_icmp .gt 15, 3) := by decide +kernel
theorem dX1_sum_48 : decode cX1_sum 48 = .ok (.iload 4, 2) := by decide +kernel
theorem dX1_sum_50 : decode cX1_sum 50 = .ok (.aload_n 0, 1) := by decide +kernel
theorem dX1_sum_51 : decode cX1_sum 51 = .ok (.getfield 21, 3) := by decide +kernel
theorem dX1_sum_54 : decode cX1_sum 54 = .ok (.iload 5, 2) := by decide +kernel
theorem dX1_sum_56 : decode cX1_sum 56 = .ok (.iaload, 1) := by decide +kernel
theorem dX1_sum_57 : decode cX1_sum 57 = .ok (.iadd, 1) := by decide +kernel
theorem dX1_sum_58 : decode cX1_sum 58 = .ok (.istore 4, 2) := by decide +kernel
theorem dX1_sum_60 : decode cX1_sum 60 = .ok (.iinc 5 1, 3) := by decide +kernel
theorem dX1_sum_63 : decode cX1_sum 63 = .ok (.goto (-57), 3) := by decide +kernel
theorem dX1_sum_66 : decode cX1_sum 66 = .ok (.iload 4, 2) := by decide +kernel
theorem dX1_sum_68 : decode cX1_sum 68 = .ok (.ireturn, 1) := by decide +kernel
theorem dX2_init_0 : decode cX2_init 0 = .ok (.aload_n 0, 1) := by decide +kernel
theorem dX2_init_1 : decode cX2_init 1 = .ok (.invokespecial 3, 3) := by decide +kernel
theorem dX2_init_4 : decode cX2_init 4 = .ok (.aload_n 0, 1) := by decide +kernel
theorem dX2_init_5 : decode cX2_init 5 = .ok (.sipush 290, 3) := by decide +kernel
theorem dX2_init_8 : decode cX2_init 8 = .ok (.newarray .int, 2) := by decide +kernel
theorem dX2_init_10 : decode cX2_init 10 = .ok (.putfield 9, 3) := by decide +kernel
theorem dX2_init_13 : decode cX2_init 13 = .ok (.aload_n 0, 1) := by decide +kernel
theorem dX2_init_14 : decode cX2_init 14 = .ok (.sipush 3654, 3) := by decide +kernel
theorem dX2_init_17 : decode cX2_init 17 = .ok (.newarray .int, 2) := by decide +kernel
theorem dX2_init_19 : decode cX2_init 19 = .ok (.putfield 15, 3) := by decide +kernel
theorem dX2_init_22 : decode cX2_init 22 = .ok (.aload_n 0, 1) := by decide +kernel
theorem dX2_init_23 : decode cX2_init 23 = .ok (.new 18, 3) := by decide +kernel
theorem dX2_init_26 : decode cX2_init 26 = .ok (.dup, 1) := by decide +kernel
theorem dX2_init_27 : decode cX2_init 27 = .ok (.bipush 58, 2) := by decide +kernel
theorem dX2_init_29 : decode cX2_init 29 = .ok (.invokespecial 20, 3) := by decide +kernel
theorem dX2_init_32 : decode cX2_init 32 = .ok (.putfield 23, 3) := by decide +kernel
theorem dX2_init_35 : decode cX2_init 35 = .ok (.aload_n 0, 1) := by decide +kernel
theorem dX2_init_36 : decode cX2_init 36 = .ok (.bipush 28, 2) := by decide +kernel
theorem dX2_init_38 : decode cX2_init 38 = .ok (.newarray .int, 2) := by decide +kernel
theorem dX2_init_40 : decode cX2_init 40 = .ok (.putfield 27, 3) := by decide +kernel
theorem dX2_init_43 : decode cX2_init 43 = .ok (.aload_n 0, 1) := by decide +kernel
theorem dX2_init_44 : decode cX2_init 44 = .ok (.iconst 4, 1) := by decide +kernel
theorem dX2_init_45 : decode cX2_init 45 = .ok (.newarray .int, 2) := by decide +kernel
theorem dX2_init_47 : decode cX2_init 47 = .ok (.putfield 30, 3) := by decide +kernel
theorem dX2_init_50 : decode cX2_init 50 = .ok (.aload_n 0, 1) := by decide +kernel
theorem dX2_init_51 : decode cX2_init 51 = .ok (.iconst 4, 1) := by decide +kernel
theorem dX2_init_52 : decode cX2_init 52 = .ok (.newarray .int, 2) := by decide +kernel
theorem dX2_init_54 : decode cX2_init 54 = .ok (.putfield 33, 3) := by decide +kernel
theorem dX2_init_57 : decode cX2_init 57 = .ok (.aload_n 0, 1) := by decide +kernel
theorem dX2_init_58 : decode cX2_init 58 = .ok (.iconst 4, 1) := by decide +kernel
theorem dX2_init_59 : decode cX2_init 59 = .ok (.newarray .int, 2) := by decide +kernel
theorem dX2_init_61 : decode cX2_init 61 = .ok (.putfield 36, 3) := by decide +kernel
theorem dX2_init_64 : decode cX2_init 64 = .ok (.aload_n 0, 1) := by decide +kernel
theorem dX2_init_65 : decode cX2_init 65 = .ok (.iconst 4, 1) := by decide +kernel
theorem dX2_init_66 : decode cX2_init 66 = .ok (.newarray .int, 2) := by decide +kernel
theorem dX2_init_68 : decode cX2_init 68 = .ok (.putfield 39, 3) := by decide +kernel
theorem dX2_init_71 : decode cX2_init 71 = .ok (.aload_n 0, 1) := by decide +kernel
theorem dX2_init_72 : decode cX2_init 72 = .ok (.aload_n 1, 1) := by decide +kernel
theorem dX2_init_73 : decode cX2_init 73 = .ok (.putfield 42, 3) := by decide +kernel
theorem dX2_init_76 : decode cX2_init 76 = .ok (.return_, 1) := by decide +kernel
theorem dX2_has_0 : decode cX2_has 0 = .ok (.iload_n 1, 1) := by decide +kernel
theorem dX2_has_1 : decode cX2_has 1 = .ok (.ifCond .lt 15, 3) := by decide +kernel
theorem dX2_has_4 : decode cX2_has 4 = .ok (.iload_n 1, 1) := by decide +kernel
theorem dX2_has_5 : decode cX2_has 5 = .ok (.aload_n 0, 1) := by decide +kernel
theorem dX2_has_6 : decode cX2_has 6 = .ok (.getfield 46, 3) := by decide +kernel
theorem dX2_has_9 : decode cX2_has 9 = .ok (.if_icmp .ge 7, 3) := by decide +kernel
theorem dX2_has_12 : decode cX2_has 12 = .ok (.iconst 1, 1) := by decide +kernel
theorem dX2_has_13 : decode cX2_has 13 = .ok (.goto 4, 3) := by decide +kernel
theorem dX2_has_16 : decode cX2_has 16 = .ok (.iconst 0, 1) := by decide +kernel
theorem dX2_has_17 : decode cX2_has 17 = .ok (.ireturn, 1) := by decide +kernel
theorem dX2_hasLeg_0 : decode cX2_hasLeg 0 = .ok (.aload_n 0, 1) := by decide +kernel
theorem dX2_hasLeg_1 : decode cX2_hasLeg 1 = .ok (.iload_n 1, 1) := by decide +kernel
theorem dX2_hasLeg_2 : decode cX2_hasLeg 2 = .ok (.invokevirtual 50, 3) := by decide +kernel
theorem dX2_hasLeg_5 : decode cX2_hasLeg 5 = .ok (.ifCond .eq 21, 3) := by decide +kernel
theorem dX2_hasLeg_8 : decode cX2_hasLeg 8 = .ok (.iload_n 2, 1) := by decide +kernel
theorem dX2_hasLeg_9 : decode cX2_hasLeg 9 = .ok (.ifCond .lt 17, 3) := by decide +kernel
theorem dX2_hasLeg_12 : decode cX2_hasLeg 12 = .ok (.iload_n 2, 1) := by decide +kernel
theorem dX2_hasLeg_13 : decode cX2_hasLeg 13 = .ok (.aload_n 0, 1) := by decide +kernel
theorem dX2_hasLeg_14 : decode cX2_hasLeg 14 = .ok (.iload_n 1, 1) := by decide +kernel
theorem dX2_hasLeg_15 : decode cX2_hasLeg 15 = .ok (.iconst 4, 1) := by decide +kernel
theorem dX2_hasLeg_16 : decode cX2_hasLeg 16 = .ok (.invokevirtual 54, 3) := by decide +kernel
theorem dX2_hasLeg_19 : decode cX2_hasLeg 19 = .ok (.if_icmp .ge 7, 3) := by decide +kernel
theorem dX2_hasLeg_22 : decode cX2_hasLeg 22 = .ok (.iconst 1, 1) := by decide +kernel
theorem dX2_hasLeg_23 : decode cX2_hasLeg 23 = .ok (.goto 4, 3) := by decide +kernel
theorem dX2_hasLeg_26 : decode cX2_hasLeg 26 = .ok (.iconst 0, 1) := by decide +kernel
theorem dX2_hasLeg_27 : decode cX2_hasLeg 27 = .ok (.ireturn, 1) := by decide +kernel
theorem dX2_ofWay_0 : decode cX2_ofWay 0 = .ok (.aload_n 0, 1) := by decide +kernel
theorem dX2_ofWay_1 : decode cX2_ofWay 1 = .ok (.getfield 9, 3) := by decide +kernel
theorem dX2_ofWay_4 : decode cX2_ofWay 4 = .ok (.iload_n 1, 1) := by decide +kernel
theorem dX2_ofWay_5 : decode cX2_ofWay 5 = .ok (.iconst 5, 1) := by decide +kernel
theorem dX2_ofWay_6 : decode cX2_ofWay 6 = .ok (.imul, 1) := by decide +kernel
theorem dX2_ofWay_7 : decode cX2_ofWay 7 = .ok (.iload_n 2, 1) := by decide +kernel
theorem dX2_ofWay_8 : decode cX2_ofWay 8 = .ok (.iadd, 1) := by decide +kernel
theorem dX2_ofWay_9 : decode cX2_ofWay 9 = .ok (.iaload, 1) := by decide +kernel
theorem dX2_ofWay_10 : decode cX2_ofWay 10 = .ok (.ireturn, 1) := by decide +kernel
theorem dX2_ofLeg_0 : decode cX2_ofLeg 0 = .ok (.aload_n 0, 1) := by decide +kernel
theorem dX2_ofLeg_1 : decode cX2_ofLeg 1 = .ok (.getfield 15, 3) := by decide +kernel
theorem dX2_ofLeg_4 : decode cX2_ofLeg 4 = .ok (.iload_n 1, 1) := by decide +kernel
theorem dX2_ofLeg_5 : decode cX2_ofLeg 5 = .ok (.bipush 7, 2) := by decide +kernel
theorem dX2_ofLeg_7 : decode cX2_ofLeg 7 = .ok (.imul, 1) := by decide +kernel
theorem dX2_ofLeg_8 : decode cX2_ofLeg 8 = .ok (.iload_n 2, 1) := by decide +kernel
theorem dX2_ofLeg_9 : decode cX2_ofLeg 9 = .ok (.iadd, 1) := by decide +kernel
theorem dX2_ofLeg_10 : decode cX2_ofLeg 10 = .ok (.bipush 9, 2) := by decide +kernel
theorem dX2_ofLeg_12 : decode cX2_ofLeg 12 = .ok (.imul, 1) := by decide +kernel
theorem dX2_ofLeg_13 : decode cX2_ofLeg 13 = .ok (.iload_n 3, 1) := by decide +kernel
theorem dX2_ofLeg_14 : decode cX2_ofLeg 14 = .ok (.iadd, 1) := by decide +kernel
theorem dX2_ofLeg_15 : decode cX2_ofLeg 15 = .ok (.iaload, 1) := by decide +kernel
theorem dX2_ofLeg_16 : decode cX2_ofLeg 16 = .ok (.ireturn, 1) := by decide +kernel
theorem dX2_ridesOver_0 : decode cX2_ridesOver 0 = .ok (.iconst 0, 1) := by decide +kernel
theorem dX2_ridesOver_1 : decode cX2_ridesOver 1 = .ok (.istore 5, 2) := by decide +kernel
theorem dX2_ridesOver_3 : decode cX2_ridesOver 3 = .ok (.iconst 0, 1) := by decide +kernel
theorem dX2_ridesOver_4 : decode cX2_ridesOver 4 = .ok (.istore 6, 2) := by decide +kernel
theorem dX2_ridesOver_6 : decode cX2_ridesOver 6 = .ok (.iload 6, 2) := by decide +kernel
theorem dX2_ridesOver_8 : decode cX2_ridesOver 8 = .ok (.aload_n 0, 1) := by decide +kernel
theorem dX2_ridesOver_9 : decode cX2_ridesOver 9 = .ok (.iload_n 1, 1) := by decide +kernel
theorem dX2_ridesOver_10 : decode cX2_ridesOver 10 = .ok (.iconst 4, 1) := by decide +kernel
theorem dX2_ridesOver_11 : decode cX2_ridesOver 11 = .ok (.invokevirtual 54, 3) := by decide +kernel
theorem dX2_ridesOver_14 : decode cX2_ridesOver 14 = .ok (.if_icmp .ge 65, 3) := by decide +kernel
theorem dX2_ridesOver_17 : decode cX2_ridesOver 17 = .ok (.aload_n 0, 1) := by decide +kernel
theorem dX2_ridesOver_18 : decode cX2_ridesOver 18 = .ok (.iload_n 1, 1) := by decide +kernel
theorem dX2_ridesOver_19 : decode cX2_ridesOver 19 = .ok (.iload 6, 2) := by decide +kernel
theorem dX2_ridesOver_21 : decode cX2_ridesOver 21 = .ok (.iconst 1, 1) := by decide +kernel
theorem dX2_ridesOver_22 : decode cX2_ridesOver 22 = .ok (.invokevirtual 58, 3) := by decide +kernel
theorem dX2_ridesOver_25 : decode cX2_ridesOver 25 = .ok (.iload_n 2, 1) := by decide +kernel
theorem dX2_ridesOver_26 : decode cX2_ridesOver 26 = .ok (.if_icmp .ne 47, 3) := by decide +kernel
theorem dX2_ridesOver_29 : decode cX2_ridesOver 29 = .ok (.aload_n 0, 1) := by decide +kernel
theorem dX2_ridesOver_30 : decode cX2_ridesOver 30 = .ok (.iload_n 1, 1) := by decide +kernel
theorem dX2_ridesOver_31 : decode cX2_ridesOver 31 = .ok (.iload 6, 2) := by decide +kernel
theorem dX2_ridesOver_33 : decode cX2_ridesOver 33 = .ok (.bipush 6, 2) := by decide +kernel
theorem dX2_ridesOver_35 : decode cX2_ridesOver 35 = .ok (.invokevirtual 58, 3) := by decide +kernel
theorem dX2_ridesOver_38 : decode cX2_ridesOver 38 = .ok (.iload_n 3, 1) := by decide +kernel
theorem dX2_ridesOver_39 : decode cX2_ridesOver 39 = .ok (.if_icmp .ne 34, 3) := by decide +kernel
theorem dX2_ridesOver_42 : decode cX2_ridesOver 42 = .ok (.aload_n 0, 1) := by decide +kernel
theorem dX2_ridesOver_43 : decode cX2_ridesOver 43 = .ok (.iload_n 1, 1) := by decide +kernel
theorem dX2_ridesOver_44 : decode cX2_ridesOver 44 = .ok (.iload 6, 2) := by decide +kernel
theorem dX2_ridesOver_46 : decode cX2_ridesOver 46 = .ok (.bipush 7, 2) := by decide +kernel
theorem dX2_ridesOver_48 : decode cX2_ridesOver 48 = .ok (.invokevirtual 58, 3) := by decide +kernel
theorem dX2_ridesOver_51 : decode cX2_ridesOver 51 = .ok (.iload 4, 2) := by decide +kernel
theorem dX2_ridesOver_53 : decode cX2_ridesOver 53 = .ok (.if_icmp .gt 20, 3) := by decide +kernel
theorem dX2_ridesOver_56 : decode cX2_ridesOver 56 = .ok (.iload 4, 2) := by decide +kernel
theorem dX2_ridesOver_58 : decode cX2_ridesOver 58 = .ok (.aload_n 0, 1) := by decide +kernel
theorem dX2_ridesOver_59 : decode cX2_ridesOver 59 = .ok (.iload_n 1, 1) := by decide +kernel
theorem dX2_ridesOver_60 : decode cX2_ridesOver 60 = .ok (.iload 6, 2) := by decide +kernel
theorem dX2_ridesOver_62 : decode cX2_ridesOver 62 = .ok (.bipush 8, 2) := by decide +kernel
theorem dX2_ridesOver_64 : decode cX2_ridesOver 64 = .ok (.invokevirtual 58, 3) := by decide +kernel
theorem dX2_ridesOver_67 : decode cX2_ridesOver 67 = .ok (.if_icmp .ge 6, 3) := by decide +kernel
theorem dX2_ridesOver_70 : decode cX2_ridesOver 70 = .ok (.iinc 5 1, 3) := by decide +kernel
theorem dX2_ridesOver_73 : decode cX2_ridesOver 73 = .ok (.iinc 6 1, 3) := by decide +kernel
theorem dX2_ridesOver_76 : decode cX2_ridesOver 76 = .ok (.goto (-70), 3) := by decide +kernel
theorem dX2_ridesOver_79 : decode cX2_ridesOver 79 = .ok (.iload 5, 2) := by decide +kernel
theorem dX2_ridesOver_81 : decode cX2_ridesOver 81 = .ok (.ireturn, 1) := by decide +kernel
theorem dX2_collect_0 : decode cX2_collect 0 = .ok (.aload_n 0, 1) := by decide +kernel
theorem dX2_collect_1 : decode cX2_collect 1 = .ok (.aload_n 0, 1) := by decide +kernel
theorem dX2_collect_2 : decode cX2_collect 2 = .ok (.getfield 42, 3) := by decide +kernel
theorem dX2_collect_5 : decode cX2_collect 5 = .ok (.getfield 62, 3) := by decide +kernel
theorem dX2_collect_8 : decode cX2_collect 8 = .ok (.putfield 67, 3) := by decide +kernel
theorem dX2_collect_11 : decode cX2_collect 11 = .ok (.aload_n 0, 1) := by decide +kernel
theorem dX2_collect_12 : decode cX2_collect 12 = .ok (.getfield 23, 3) := by decide +kernel
theorem dX2_collect_15 : decode cX2_collect 15 = .ok (.invokevirtual 68, 3) := by decide +kernel
theorem dX2_collect_18 : decode cX2_collect 18 = .ok (.aload_n 0, 1) := by decide +kernel
theorem dX2_collect_19 : decode cX2_collect 19 = .ok (.getfield 27, 3) := by decide +kernel
theorem dX2_collect_22 : decode cX2_collect 22 = .ok (.ldc 71, 2) := by decide +kernel
theorem dX2_collect_24 : decode cX2_collect 24 = .ok (.invokestatic 72, 3) := by decide +kernel
theorem dX2_collect_27 : decode cX2_collect 27 = .ok (.iconst 0, 1) := by decide +kernel
theorem dX2_collect_28 : decode cX2_collect 28 = .ok (.istore_n 2, 1) := by decide +kernel
theorem dX2_collect_29 : decode cX2_collect 29 = .ok (.iload_n 2, 1) := by decide +kernel
theorem dX2_collect_30 : decode cX2_collect 30 = .ok (.iconst 3, 1) := by decide +kernel
theorem dX2_collect_31 : decode cX2_collect 31 = .ok (.if_icmp .gt 74, 3) := by decide +kernel
theorem dX2_collect_34 : decode cX2_collect 34 = .ok (.iconst 0, 1) := by decide +kernel
theorem dX2_collect_35 : decode cX2_collect 35 = .ok (.istore_n 3, 1) := by decide +kernel
theorem dX2_collect_36 : decode cX2_collect 36 = .ok (.iload_n 3, 1) := by decide +kernel
theorem dX2_collect_37 : decode cX2_collect 37 = .ok (.aload_n 0, 1) := by decide +kernel
theorem dX2_collect_38 : decode cX2_collect 38 = .ok (.getfield 42, 3) := by decide +kernel
theorem dX2_collect_41 : decode cX2_collect 41 = .ok (.iload_n 2, 1) := by decide +kernel
theorem dX2_collect_42 : decode cX2_collect 42 = .ok (.invokevirtual 78, 3) := by decide +kernel
theorem dX2_collect_45 : decode cX2_collect 45 = .ok (.if_icmp .gt 54, 3) := by decide +kernel
theorem dX2_collect_48 : decode cX2_collect 48 = .ok (.aload_n 0, 1) := by decide +kernel
theorem dX2_collect_49 : decode cX2_collect 49 = .ok (.getfield 42, 3) := by decide +kernel
theorem dX2_collect_52 : decode cX2_collect 52 = .ok (.iload_n 2, 1) := by decide +kernel
theorem dX2_collect_53 : decode cX2_collect 53 = .ok (.iload_n 3, 1) := by decide +kernel
theorem dX2_collect_54 : decode cX2_collect 54 = .ok (.iload_n 1, 1) := by decide +kernel
theorem dX2_collect_55 : decode cX2_collect 55 = .ok (.invokevirtual 82, 3) := by decide +kernel
theorem dX2_collect_58 : decode cX2_collect 58 = .ok (.istore 4, 2) := by decide +kernel
theorem dX2_collect_60 : decode cX2_collect 60 = .ok (.aload_n 0, 1) := by decide +kernel
theorem dX2_collect_61 : decode cX2_collect 61 = .ok (.iload_n 3, 1) := by decide +kernel
theorem dX2_collect_62 : decode cX2_collect 62 = .ok (.iload 4, 2) := by decide +kernel
theorem dX2_collect_64 : decode cX2_collect 64 = .ok (.invokevirtual 85, 3) := by decide +kernel
theorem dX2_collect_67 : decode cX2_collect 67 = .ok (.ifCond .eq 26, 3) := by decide +kernel
theorem dX2_collect_70 : decode cX2_collect 70 = .ok (.aload_n 0, 1) := by decide +kernel
theorem dX2_collect_71 : decode cX2_collect 71 = .ok (.getfield 23, 3) := by decide +kernel
theorem dX2_collect_74 : decode cX2_collect 74 = .ok (.iload 4, 2) := by decide +kernel
theorem dX2_collect_76 : decode cX2_collect 76 = .ok (.aload_n 0, 1) := by decide +kernel
theorem dX2_collect_77 : decode cX2_collect 77 = .ok (.getfield 67, 3) := by decide +kernel
theorem dX2_collect_80 : decode cX2_collect 80 = .ok (.isub, 1) := by decide +kernel
theorem dX2_collect_81 : decode cX2_collect 81 = .ok (.iconst 4, 1) := by decide +kernel
theorem dX2_collect_82 : decode cX2_collect 82 = .ok (.imul, 1) := by decide +kernel
theorem dX2_collect_83 : decode cX2_collect 83 = .ok (.iload_n 2, 1) := by decide +kernel
theorem dX2_collect_84 : decode cX2_collect 84 = .ok (.iadd, 1) := by decide +kernel
theorem dX2_collect_85 : decode cX2_collect 85 = .ok (.bipush 28, 2) := by decide +kernel
theorem dX2_collect_87 : decode cX2_collect 87 = .ok (.imul, 1) := by decide +kernel
theorem dX2_collect_88 : decode cX2_collect 88 = .ok (.iload_n 3, 1) := by decide +kernel
theorem dX2_collect_89 : decode cX2_collect 89 = .ok (.iadd, 1) := by decide +kernel
theorem dX2_collect_90 : decode cX2_collect 90 = .ok (.invokevirtual 89, 3) := by decide +kernel
theorem dX2_collect_93 : decode cX2_collect 93 = .ok (.iinc 3 1, 3) := by decide +kernel
theorem dX2_collect_96 : decode cX2_collect 96 = .ok (.goto (-60), 3) := by decide +kernel
theorem dX2_collect_99 : decode cX2_collect 99 = .ok (.iinc 2 1, 3) := by decide +kernel
theorem dX2_collect_102 : decode cX2_collect 102 = .ok (.goto (-73), 3) := by decide +kernel
theorem dX2_collect_105 : decode cX2_collect 105 = .ok (.aload_n 0, 1) := by decide +kernel
theorem dX2_collect_106 : decode cX2_collect 106 = .ok (.aload_n 0, 1) := by decide +kernel
theorem dX2_collect_107 : decode cX2_collect 107 = .ok (.getfield 23, 3) := by decide +kernel
theorem dX2_collect_110 : decode cX2_collect 110 = .ok (.getfield 92, 3) := by decide +kernel
theorem dX2_collect_113 : decode cX2_collect 113 = .ok (.putfield 46, 3) := by decide +kernel
theorem dX2_collect_116 : decode cX2_collect 116 = .ok (.iconst 0, 1) := by decide +kernel
theorem dX2_collect_117 : decode cX2_collect 117 = .ok (.istore_n 2, 1) := by decide +kernel
theorem dX2_collect_118 : decode cX2_collect 118 = .ok (.iload_n 2, 1) := by decide +kernel
theorem dX2_collect_119 : decode cX2_collect 119 = .ok (.aload_n 0, 1) := by decide +kernel
theorem dX2_collect_120 : decode cX2_collect 120 = .ok (.getfield 46, 3) := by decide +kernel
theorem dX2_collect_123 : decode cX2_collect 123 = .ok (.if_icmp .ge 74, 3) := by decide +kernel
theorem dX2_collect_126 : decode cX2_collect 126 = .ok (.aload_n 0, 1) := by decide +kernel
theorem dX2_collect_127 : decode cX2_collect 127 = .ok (.getfield 23, 3) := by decide +kernel
theorem dX2_collect_130 : decode cX2_collect 130 = .ok (.iload_n 2, 1) := by decide +kernel
theorem dX2_collect_131 : decode cX2_collect 131 = .ok (.invokevirtual 93, 3) := by decide +kernel
theorem dX2_collect_134 : decode cX2_collect 134 = .ok (.bipush 28, 2) := by decide +kernel
theorem dX2_collect_136 : decode cX2_collect 136 = .ok (.irem, 1) := by decide +kernel
theorem dX2_collect_137 : decode cX2_collect 137 = .ok (.istore_n 3, 1) := by decide +kernel
theorem dX2_collect_138 : decode cX2_collect 138 = .ok (.aload_n 0, 1) := by decide +kernel
theorem dX2_collect_139 : decode cX2_collect 139 = .ok (.getfield 23, 3) := by decide +kernel
theorem dX2_collect_142 : decode cX2_collect 142 = .ok (.iload_n 2, 1) := by decide +kernel
theorem dX2_collect_143 : decode cX2_collect 143 = .ok (.invokevirtual 93, 3) := by decide +kernel
theorem dX2_collect_146 : decode cX2_collect 146 = .ok (.bipush 28, 2) := by decide +kernel
theorem dX2_collect_148 : decode cX2_collect 148 = .ok (.idiv, 1) := by decide +kernel
theorem dX2_collect_149 : decode cX2_collect 149 = .ok (.iconst 4, 1) := by decide +kernel
theorem dX2_collect_150 : decode cX2_collect 150 = .ok (.irem, 1) := by decide +kernel
theorem dX2_collect_151 : decode cX2_collect 151 = .ok (.istore 4, 2) := by decide +kernel
theorem dX2_collect_153 : decode cX2_collect 153 = .ok (.aload_n 0, 1) := by decide +kernel
theorem dX2_collect_154 : decode cX2_collect 154 = .ok (.getfield 67, 3) := by decide +kernel
theorem dX2_collect_157 : decode cX2_collect 157 = .ok (.aload_n 0, 1) := by decide +kernel
theorem dX2_collect_158 : decode cX2_collect 158 = .ok (.getfield 23, 3) := by decide +kernel
theorem dX2_collect_161 : decode cX2_collect 161 = .ok (.iload_n 2, 1) := by decide +kernel
theorem dX2_collect_162 : decode cX2_collect 162 = .ok (.invokevirtual 93, 3) := by decide +kernel
theorem dX2_collect_165 : decode cX2_collect 165 = .ok (.bipush 28, 2) := by decide +kernel
theorem dX2_collect_167 : decode cX2_collect 167 = .ok (.idiv, 1) := by decide +kernel
theorem dX2_collect_168 : decode cX2_collect 168 = .ok (.iconst 4, 1) := by decide +kernel
theorem dX2_collect_169 : decode cX2_collect 169 = .ok (.idiv, 1) := by decide +kernel
theorem dX2_collect_170 : decode cX2_collect 170 = .ok (.iadd, 1) := by decide +kernel
theorem dX2_collect_171 : decode cX2_collect 171 = .ok (.istore 5, 2) := by decide +kernel
theorem dX2_collect_173 : decode cX2_collect 173 = .ok (.aload_n 0, 1) := by decide +kernel
theorem dX2_collect_174 : decode cX2_collect 174 = .ok (.iload 4, 2) := by decide +kernel
theorem dX2_collect_176 : decode cX2_collect 176 = .ok (.iload_n 3, 1) := by decide +kernel
theorem dX2_collect_177 : decode cX2_collect 177 = .ok (.iload_n 1, 1) := by decide +kernel
theorem dX2_collect_178 : decode cX2_collect 178 = .ok (.iload 5, 2) := by decide +kernel
theorem dX2_collect_180 : decode cX2_collect 180 = .ok (.invokevirtual 96, 3) := by decide +kernel
theorem dX2_collect_183 : decode cX2_collect 183 = .ok (.aload_n 0, 1) := by decide +kernel
theorem dX2_collect_184 : decode cX2_collect 184 = .ok (.iload_n 2, 1) := by decide +kernel
theorem dX2_collect_185 : decode cX2_collect 185 = .ok (.iload 4, 2) := by decide +kernel
theorem dX2_collect_187 : decode cX2_collect 187 = .ok (.iload_n 3, 1) := by decide +kernel
theorem dX2_collect_188 : decode cX2_collect 188 = .ok (.invokevirtual 100, 3) := by decide +kernel
theorem dX2_collect_191 : decode cX2_collect 191 = .ok (.iinc 2 1, 3) := by decide +kernel
theorem dX2_collect_194 : decode cX2_collect 194 = .ok (.goto (-76), 3) := by decide +kernel
theorem dX2_collect_197 : decode cX2_collect 197 = .ok (.aload_n 0, 1) := by decide +kernel
theorem dX2_collect_198 : decode cX2_collect 198 = .ok (.getfield 46, 3) := by decide +kernel
theorem dX2_collect_201 : decode cX2_collect 201 = .ok (.ireturn, 1) := by decide +kernel
theorem dX2_isUnbeaten_0 : decode cX2_isUnbeaten 0 = .ok (.iload_n 2, 1) := by decide +kernel
theorem dX2_isUnbeaten_1 : decode cX2_isUnbeaten 1 = .ok (.aload_n 0, 1) := by decide +kernel
theorem dX2_isUnbeaten_2 : decode cX2_isUnbeaten 2 = .ok (.getfield 27, 3) := by decide +kernel
theorem dX2_isUnbeaten_5 : decode cX2_isUnbeaten 5 = .ok (.iload_n 1, 1) := by decide +kernel
theorem dX2_isUnbeaten_6 : decode cX2_isUnbeaten 6 = .ok (.iaload, 1) := by decide +kernel
theorem dX2_isUnbeaten_7 : decode cX2_isUnbeaten 7 = .ok (.if_icmp .lt 5, 3) := by decide +kernel
theorem dX2_isUnbeaten_10 : decode cX2_isUnbeaten 10 = .ok (.iconst 0, 1) := by decide +kernel
theorem dX2_isUnbeaten_11 : decode cX2_isUnbeaten 11 = .ok (.ireturn, 1) := by decide +kernel
theorem dX2_isUnbeaten_12 : decode cX2_isUnbeaten 12 = .ok (.iload_n 1, 1) := by decide +kernel
theorem dX2_isUnbeaten_13 : decode cX2_isUnbeaten 13 = .ok (.istore_n 3, 1) := by decide +kernel
theorem dX2_isUnbeaten_14 : decode cX2_isUnbeaten 14 = .ok (.iload_n 3, 1) := by decide +kernel
theorem dX2_isUnbeaten_15 : decode cX2_isUnbeaten 15 = .ok (.bipush 28, 2) := by decide +kernel
theorem dX2_isUnbeaten_17 : decode cX2_isUnbeaten 17 = .ok (.if_icmp .ge 25, 3) := by decide +kernel
theorem dX2_isUnbeaten_20 : decode cX2_isUnbeaten 20 = .ok (.aload_n 0, 1) := by decide +kernel
theorem dX2_isUnbeaten_21 : decode cX2_isUnbeaten 21 = .ok (.getfield 27, 3) := by decide +kernel
theorem dX2_isUnbeaten_24 : decode cX2_isUnbeaten 24 = .ok (.iload_n 3, 1) := by decide +kernel
theorem dX2_isUnbeaten_25 : decode cX2_isUnbeaten 25 = .ok (.aload_n 0, 1) := by decide +kernel
theorem dX2_isUnbeaten_26 : decode cX2_isUnbeaten 26 = .ok (.getfield 27, 3) := by decide +kernel
theorem dX2_isUnbeaten_29 : decode cX2_isUnbeaten 29 = .ok (.iload_n 3, 1) := by decide +kernel
theorem dX2_isUnbeaten_30 : decode cX2_isUnbeaten 30 = .ok (.iaload, 1) := by decide +kernel
theorem dX2_isUnbeaten_31 : decode cX2_isUnbeaten 31 = .ok (.iload_n 2, 1) := by decide +kernel
theorem dX2_isUnbeaten_32 : decode cX2_isUnbeaten 32 = .ok (.invokestatic 104, 3) := by decide +kernel
theorem dX2_isUnbeaten_35 : decode cX2_isUnbeaten 35 = .ok (.iastore, 1) := by decide +kernel
theorem dX2_isUnbeaten_36 : decode cX2_isUnbeaten 36 = .ok (.iinc 3 1, 3) := by decide +kernel
theorem dX2_isUnbeaten_39 : decode cX2_isUnbeaten 39 = .ok (.goto (-25), 3) := by decide +kernel
theorem dX2_isUnbeaten_42 : decode cX2_isUnbeaten 42 = .ok (.iconst 1, 1) := by decide +kernel
theorem dX2_isUnbeaten_43 : decode cX2_isUnbeaten 43 = .ok (.ireturn, 1) := by decide +kernel
theorem dX2_trace_0 : decode cX2_trace 0 = .ok (.iload_n 3, 1) := by decide +kernel
theorem dX2_trace_1 : decode cX2_trace 1 = .ok (.istore 5, 2) := by decide +kernel
theorem dX2_trace_3 : decode cX2_trace 3 = .ok (.iload 4, 2) := by decide +kernel
theorem dX2_trace_5 : decode cX2_trace 5 = .ok (.istore 6, 2) := by decide +kernel
theorem dX2_trace_7 : decode cX2_trace 7 = .ok (.iconst 0, 1) := by decide +kernel
theorem dX2_trace_8 : decode cX2_trace 8 = .ok (.istore 7, 2) := by decide +kernel
theorem dX2_trace_10 : decode cX2_trace 10 = .ok (.iload_n 2, 1) := by decide +kernel
theorem dX2_trace_11 : decode cX2_trace 11 = .ok (.istore 8, 2) := by decide +kernel
theorem dX2_trace_13 : decode cX2_trace 13 = .ok (.iload_n 1, 1) := by decide +kernel
theorem dX2_trace_14 : decode cX2_trace 14 = .ok (.istore 9, 2) := by decide +kernel
theorem dX2_trace_16 : decode cX2_trace 16 = .ok (.iload 9, 2) := by decide +kernel
theorem dX2_trace_18 : decode cX2_trace 18 = .ok (.ifCond .lt 207, 3) := by decide +kernel
theorem dX2_trace_21 : decode cX2_trace 21 = .ok (.aload_n 0, 1) := by decide +kernel
theorem dX2_trace_22 : decode cX2_trace 22 = .ok (.getfield 30, 3) := by decide +kernel
theorem dX2_trace_25 : decode cX2_trace 25 = .ok (.iload 9, 2) := by decide +kernel
theorem dX2_trace_27 : decode cX2_trace 27 = .ok (.aload_n 0, 1) := by decide +kernel
theorem dX2_trace_28 : decode cX2_trace 28 = .ok (.iload 9, 2) := by decide +kernel
theorem dX2_trace_30 : decode cX2_trace 30 = .ok (.iload 8, 2) := by decide +kernel
theorem dX2_trace_32 : decode cX2_trace 32 = .ok (.iload 5, 2) := by decide +kernel
theorem dX2_trace_34 : decode cX2_trace 34 = .ok (.iload 6, 2) := by decide +kernel
theorem dX2_trace_36 : decode cX2_trace 36 = .ok (.iload 7, 2) := by decide +kernel
theorem dX2_trace_38 : decode cX2_trace 38 = .ok (.invokevirtual 109, 3) := by decide +kernel
theorem dX2_trace_41 : decode cX2_trace 41 = .ok (.iastore, 1) := by decide +kernel
theorem dX2_trace_42 : decode cX2_trace 42 = .ok (.iload 9, 2) := by decide +kernel
theorem dX2_trace_44 : decode cX2_trace 44 = .ok (.ifCond .le 175, 3) := by decide +kernel
theorem dX2_trace_47 : decode cX2_trace 47 = .ok (.aload_n 0, 1) := by decide +kernel
theorem dX2_trace_48 : decode cX2_trace 48 = .ok (.iload 9, 2) := by decide +kernel
theorem dX2_trace_50 : decode cX2_trace 50 = .ok (.iload 8, 2) := by decide +kernel
theorem dX2_trace_52 : decode cX2_trace 52 = .ok (.aload_n 0, 1) := by decide +kernel
theorem dX2_trace_53 : decode cX2_trace 53 = .ok (.getfield 30, 3) := by decide +kernel
theorem dX2_trace_56 : decode cX2_trace 56 = .ok (.iload 9, 2) := by decide +kernel
theorem dX2_trace_58 : decode cX2_trace 58 = .ok (.iaload, 1) := by decide +kernel
theorem dX2_trace_59 : decode cX2_trace 59 = .ok (.iload 5, 2) := by decide +kernel
theorem dX2_trace_61 : decode cX2_trace 61 = .ok (.iload 6, 2) := by decide +kernel
theorem dX2_trace_63 : decode cX2_trace 63 = .ok (.iload 7, 2) := by decide +kernel
theorem dX2_trace_65 : decode cX2_trace 65 = .ok (.invokevirtual 113, 3) := by decide +kernel
theorem dX2_trace_68 : decode cX2_trace 68 = .ok (.aload_n 0, 1) := by decide +kernel
theorem dX2_trace_69 : decode cX2_trace 69 = .ok (.getfield 42, 3) := by decide +kernel
theorem dX2_trace_72 : decode cX2_trace 72 = .ok (.getfield 117, 3) := by decide +kernel
theorem dX2_trace_75 : decode cX2_trace 75 = .ok (.getfield 121, 3) := by decide +kernel
theorem dX2_trace_78 : decode cX2_trace 78 = .ok (.aload_n 0, 1) := by decide +kernel
theorem dX2_trace_79 : decode cX2_trace 79 = .ok (.getfield 33, 3) := by decide +kernel
theorem dX2_trace_82 : decode cX2_trace 82 = .ok (.iload 9, 2) := by decide +kernel
theorem dX2_trace_84 : decode cX2_trace 84 = .ok (.iaload, 1) := by decide +kernel
theorem dX2_trace_85 : decode cX2_trace 85 = .ok (.iaload, 1) := by decide +kernel
theorem dX2_trace_86 : decode cX2_trace 86 = .ok (.istore 10, 2) := by decide +kernel
theorem dX2_trace_88 : decode cX2_trace 88 = .ok (.aload_n 0, 1) := by decide +kernel
theorem dX2_trace_89 : decode cX2_trace 89 = .ok (.getfield 42, 3) := by decide +kernel
theorem dX2_trace_92 : decode cX2_trace 92 = .ok (.getfield 126, 3) := by decide +kernel
theorem dX2_trace_95 : decode cX2_trace 95 = .ok (.getfield 130, 3) := by decide +kernel
theorem dX2_trace_98 : decode cX2_trace 98 = .ok (.iload 10, 2) := by decide +kernel
theorem dX2_trace_100 : decode cX2_trace 100 = .ok (.bipush 8, 2) := by decide +kernel
theorem dX2_trace_102 : decode cX2_trace 102 = .ok (.imul, 1) := by decide +kernel
theorem dX2_trace_103 : decode cX2_trace 103 = .ok (.aload_n 0, 1) := by decide +kernel
theorem dX2_trace_104 : decode cX2_trace 104 = .ok (.getfield 36, 3) := by decide +kernel
theorem dX2_trace_107 : decode cX2_trace 107 = .ok (.iload 9, 2) := by decide +kernel
theorem dX2_trace_109 : decode cX2_trace 109 = .ok (.iaload, 1) := by decide +kernel
theorem dX2_trace_110 : decode cX2_trace 110 = .ok (.iadd, 1) := by decide +kernel
theorem dX2_trace_111 : decode cX2_trace 111 = .ok (.iaload, 1) := by decide +kernel
theorem dX2_trace_112 : decode cX2_trace 112 = .ok (.istore 11, 2) := by decide +kernel
theorem dX2_trace_114 : decode cX2_trace 114 = .ok (.aload_n 0, 1) := by decide +kernel
theorem dX2_trace_115 : decode cX2_trace 115 = .ok (.getfield 42, 3) := by decide +kernel
theorem dX2_trace_118 : decode cX2_trace 118 = .ok (.getfield 126, 3) := by decide +kernel
theorem dX2_trace_121 : decode cX2_trace 121 = .ok (.getfield 130, 3) := by decide +kernel
theorem dX2_trace_124 : decode cX2_trace 124 = .ok (.iload 10, 2) := by decide +kernel
theorem dX2_trace_126 : decode cX2_trace 126 = .ok (.bipush 8, 2) := by decide +kernel
theorem dX2_trace_128 : decode cX2_trace 128 = .ok (.imul, 1) := by decide +kernel
theorem dX2_trace_129 : decode cX2_trace 129 = .ok (.aload_n 0, 1) := by decide +kernel
theorem dX2_trace_130 : decode cX2_trace 130 = .ok (.getfield 39, 3) := by decide +kernel
theorem dX2_trace_133 : decode cX2_trace 133 = .ok (.iload 9, 2) := by decide +kernel
theorem dX2_trace_135 : decode cX2_trace 135 = .ok (.iaload, 1) := by decide +kernel
theorem dX2_trace_136 : decode cX2_trace 136 = .ok (.iadd, 1) := by decide +kernel
theorem dX2_trace_137 : decode cX2_trace 137 = .ok (.iaload, 1) := by decide +kernel
theorem dX2_trace_138 : decode cX2_trace 138 = .ok (.istore 12, 2) := by decide +kernel
theorem dX2_trace_140 : decode cX2_trace 140 = .ok (.iload 8, 2) := by decide +kernel
theorem dX2_trace_142 : decode cX2_trace 142 = .ok (.aload_n 0, 1) := by decide +kernel
theorem dX2_trace_143 : decode cX2_trace 143 = .ok (.getfield 42, 3) := by decide +kernel
theorem dX2_trace_146 : decode cX2_trace 146 = .ok (.getfield 135, 3) := by decide +kernel
theorem dX2_trace_149 : decode cX2_trace 149 = .ok (.iload 11, 2) := by decide +kernel
theorem dX2_trace_151 : decode cX2_trace 151 = .ok (.iload 12, 2) := by decide +kernel
theorem dX2_trace_153 : decode cX2_trace 153 = .ok (.invokevirtual 139, 3) := by decide +kernel
theorem dX2_trace_156 : decode cX2_trace 156 = .ok (.isub, 1) := by decide +kernel
theorem dX2_trace_157 : decode cX2_trace 157 = .ok (.istore 8, 2) := by decide +kernel
theorem dX2_trace_159 : decode cX2_trace 159 = .ok (.iload 11, 2) := by decide +kernel
theorem dX2_trace_161 : decode cX2_trace 161 = .ok (.istore 5, 2) := by decide +kernel
theorem dX2_trace_163 : decode cX2_trace 163 = .ok (.aload_n 0, 1) := by decide +kernel
theorem dX2_trace_164 : decode cX2_trace 164 = .ok (.getfield 42, 3) := by decide +kernel
theorem dX2_trace_167 : decode cX2_trace 167 = .ok (.getfield 117, 3) := by decide +kernel
theorem dX2_trace_170 : decode cX2_trace 170 = .ok (.getfield 144, 3) := by decide +kernel
theorem dX2_trace_173 : decode cX2_trace 173 = .ok (.aload_n 0, 1) := by decide +kernel
theorem dX2_trace_174 : decode cX2_trace 174 = .ok (.getfield 33, 3) := by decide +kernel
theorem dX2_trace_177 : decode cX2_trace 177 = .ok (.iload 9, 2) := by decide +kernel
theorem dX2_trace_179 : decode cX2_trace 179 = .ok (.iaload, 1) := by decide +kernel
theorem dX2_trace_180 : decode cX2_trace 180 = .ok (.bipush 8, 2) := by decide +kernel
theorem dX2_trace_182 : decode cX2_trace 182 = .ok (.imul, 1) := by decide +kernel
theorem dX2_trace_183 : decode cX2_trace 183 = .ok (.aload_n 0, 1) := by decide +kernel
theorem dX2_trace_184 : decode cX2_trace 184 = .ok (.getfield 36, 3) := by decide +kernel
theorem dX2_trace_187 : decode cX2_trace 187 = .ok (.iload 9, 2) := by decide +kernel
theorem dX2_trace_189 : decode cX2_trace 189 = .ok (.iaload, 1) := by decide +kernel
theorem dX2_trace_190 : decode cX2_trace 190 = .ok (.iadd, 1) := by decide +kernel
theorem dX2_trace_191 : decode cX2_trace 191 = .ok (.iaload, 1) := by decide +kernel
theorem dX2_trace_192 : decode cX2_trace 192 = .ok (.istore 6, 2) := by decide +kernel
theorem dX2_trace_194 : decode cX2_trace 194 = .ok (.iload 9, 2) := by decide +kernel
theorem dX2_trace_196 : decode cX2_trace 196 = .ok (.iconst 1, 1) := by decide +kernel
theorem dX2_trace_197 : decode cX2_trace 197 = .ok (.if_icmp .le 19, 3) := by decide +kernel
theorem dX2_trace_200 : decode cX2_trace 200 = .ok (.aload_n 0, 1) := by decide +kernel
theorem dX2_trace_201 : decode cX2_trace 201 = .ok (.getfield 42, 3) := by decide +kernel
theorem dX2_trace_204 : decode cX2_trace 204 = .ok (.getfield 135, 3) := by decide +kernel
theorem dX2_trace_207 : decode cX2_trace 207 = .ok (.getfield 147, 3) := by decide +kernel
theorem dX2_trace_210 : decode cX2_trace 210 = .ok (.iload 11, 2) := by decide +kernel
theorem dX2_trace_212 : decode cX2_trace 212 = .ok (.iaload, 1) := by decide +kernel
theorem dX2_trace_213 : decode cX2_trace 213 = .ok (.goto 4, 3) := by decide +kernel
theorem dX2_trace_216 : decode cX2_trace 216 = .ok (.iconst 0, 1) := by decide +kernel
theorem dX2_trace_217 : decode cX2_trace 217 = .ok (.istore 7, 2) := by decide +kernel
theorem dX2_trace_219 : decode cX2_trace 219 = .ok (.iinc 9 (-1), 3) := by decide +kernel
theorem dX2_trace_222 : decode cX2_trace 222 = .ok (.goto (-206), 3) := by decide +kernel
theorem dX2_trace_225 : decode cX2_trace 225 = .ok (.return_, 1) := by decide +kernel
theorem dX2_leastWalk_0 : decode cX2_leastWalk 0 = .ok (.aload_n 0, 1) := by decide +kernel
theorem dX2_leastWalk_1 : decode cX2_leastWalk 1 = .ok (.getfield 42, 3) := by decide +kernel
theorem dX2_leastWalk_4 : decode cX2_leastWalk 4 = .ok (.iload_n 1, 1) := by decide +kernel
theorem dX2_leastWalk_5 : decode cX2_leastWalk 5 = .ok (.iload_n 2, 1) := by decide +kernel
theorem dX2_leastWalk_6 : decode cX2_leastWalk 6 = .ok (.iload_n 3, 1) := by decide +kernel
theorem dX2_leastWalk_7 : decode cX2_leastWalk 7 = .ok (.invokevirtual 150, 3) := by decide +kernel
theorem dX2_leastWalk_10 : decode cX2_leastWalk 10 = .ok (.iload 5, 2) := by decide +kernel
theorem dX2_leastWalk_12 : decode cX2_leastWalk 12 = .ok (.iadd, 1) := by decide +kernel
theorem dX2_leastWalk_13 : decode cX2_leastWalk 13 = .ok (.iload 4, 2) := by decide +kernel
theorem dX2_leastWalk_15 : decode cX2_leastWalk 15 = .ok (.if_icmp .gt 5, 3) := by decide +kernel
theorem dX2_leastWalk_18 : decode cX2_leastWalk 18 = .ok (.iconst (-1), 1) := by decide +kernel
theorem dX2_leastWalk_19 : decode cX2_leastWalk 19 = .ok (.ireturn, 1) := by decide +kernel
theorem dX2_leastWalk_20 : decode cX2_leastWalk 20 = .ok (.aload_n 0, 1) := by decide +kernel
theorem dX2_leastWalk_21 : decode cX2_leastWalk 21 = .ok (.getfield 42, 3) := by decide +kernel
theorem dX2_leastWalk_24 : decode cX2_leastWalk 24 = .ok (.getfield 153, 3) := by decide +kernel
theorem dX2_leastWalk_27 : decode cX2_leastWalk 27 = .ok (.astore 6, 2) := by decide +kernel
theorem dX2_leastWalk_29 : decode cX2_leastWalk 29 = .ok (.iconst 0, 1) := by decide +kernel
theorem dX2_leastWalk_30 : decode cX2_leastWalk 30 = .ok (.istore 7, 2) := by decide +kernel
theorem dX2_leastWalk_32 : decode cX2_leastWalk 32 = .ok (.iload 7, 2) := by decide +kernel
theorem dX2_leastWalk_34 : decode cX2_leastWalk 34 = .ok (.aload 6, 2) := by decide +kernel
theorem dX2_leastWalk_36 : decode cX2_leastWalk 36 = .ok (.getfield 157, 3) := by decide +kernel
theorem dX2_leastWalk_39 : decode cX2_leastWalk 39 = .ok (.if_icmp .ge 57, 3) := by decide +kernel
theorem dX2_leastWalk_42 : decode cX2_leastWalk 42 = .ok (.aload 6, 2) := by decide +kernel
theorem dX2_leastWalk_44 : decode cX2_leastWalk 44 = .ok (.getfield 160, 3) := by decide +kernel
theorem dX2_leastWalk_47 : decode cX2_leastWalk 47 = .ok (.iload 7, 2) := by decide +kernel
theorem dX2_leastWalk_49 : decode cX2_leastWalk 49 = .ok (.iaload, 1) := by decide +kernel
theorem dX2_leastWalk_50 : decode cX2_leastWalk 50 = .ok (.iload_n 3, 1) := by decide +kernel
theorem dX2_leastWalk_51 : decode cX2_leastWalk 51 = .ok (.if_icmp .ne 39, 3) := by decide +kernel
theorem dX2_leastWalk_54 : decode cX2_leastWalk 54 = .ok (.aload 6, 2) := by decide +kernel
theorem dX2_leastWalk_56 : decode cX2_leastWalk 56 = .ok (.iload 7, 2) := by decide +kernel
theorem dX2_leastWalk_58 : decode cX2_leastWalk 58 = .ok (.aload_n 0, 1) := by decide +kernel
theorem dX2_leastWalk_59 : decode cX2_leastWalk 59 = .ok (.getfield 42, 3) := by decide +kernel
theorem dX2_leastWalk_62 : decode cX2_leastWalk 62 = .ok (.iload_n 1, 1) := by decide +kernel
theorem dX2_leastWalk_63 : decode cX2_leastWalk 63 = .ok (.iload_n 2, 1) := by decide +kernel
theorem dX2_leastWalk_64 : decode cX2_leastWalk 64 = .ok (.aload 6, 2) := by decide +kernel
theorem dX2_leastWalk_66 : decode cX2_leastWalk 66 = .ok (.getfield 163, 3) := by decide +kernel
theorem dX2_leastWalk_69 : decode cX2_leastWalk 69 = .ok (.iload 7, 2) := by decide +kernel
theorem dX2_leastWalk_71 : decode cX2_leastWalk 71 = .ok (.iaload, 1) := by decide +kernel
theorem dX2_leastWalk_72 : decode cX2_leastWalk 72 = .ok (.invokevirtual 150, 3) := by decide +kernel
theorem dX2_leastWalk_75 : decode cX2_leastWalk 75 = .ok (.aload_n 0, 1) := by decide +kernel
theorem dX2_leastWalk_76 : decode cX2_leastWalk 76 = .ok (.getfield 67, 3) := by decide +kernel
theorem dX2_leastWalk_79 : decode cX2_leastWalk 79 = .ok (.invokevirtual 166, 3) := by decide +kernel
theorem dX2_leastWalk_82 : decode cX2_leastWalk 82 = .ok (.iload 4, 2) := by decide +kernel
theorem dX2_leastWalk_84 : decode cX2_leastWalk 84 = .ok (.if_icmp .gt 6, 3) := by decide +kernel
theorem dX2_leastWalk_87 : decode cX2_leastWalk 87 = .ok (.iload 7, 2) := by decide +kernel
theorem dX2_leastWalk_89 : decode cX2_leastWalk 89 = .ok (.ireturn, 1) := by decide +kernel
theorem dX2_leastWalk_90 : decode cX2_leastWalk 90 = .ok (.iinc 7 1, 3) := by decide +kernel
theorem dX2_leastWalk_93 : decode cX2_leastWalk 93 = .ok (.goto (-61), 3) := by decide +kernel
theorem dX2_leastWalk_96 : decode cX2_leastWalk 96 = .ok (.iconst (-1), 1) := by decide +kernel
theorem dX2_leastWalk_97 : decode cX2_leastWalk 97 = .ok (.ireturn, 1) := by decide +kernel
theorem dX2_leastRide_0 : decode cX2_leastRide 0 = .ok (.iconst 0, 1) := by decide +kernel
theorem dX2_leastRide_1 : decode cX2_leastRide 1 = .ok (.istore 7, 2) := by decide +kernel
theorem dX2_leastRide_3 : decode cX2_leastRide 3 = .ok (.iload 7, 2) := by decide +kernel
theorem dX2_leastRide_5 : decode cX2_leastRide 5 = .ok (.aload_n 0, 1) := by decide +kernel
theorem dX2_leastRide_6 : decode cX2_leastRide 6 = .ok (.getfield 42, 3) := by decide +kernel
theorem dX2_leastRide_9 : decode cX2_leastRide 9 = .ok (.getfield 117, 3) := by decide +kernel
theorem dX2_leastRide_12 : decode cX2_leastRide 12 = .ok (.getfield 169, 3) := by decide +kernel
theorem dX2_leastRide_15 : decode cX2_leastRide 15 = .ok (.if_icmp .ge 104, 3) := by decide +kernel
theorem dX2_leastRide_18 : decode cX2_leastRide 18 = .ok (.aload_n 0, 1) := by decide +kernel
theorem dX2_leastRide_19 : decode cX2_leastRide 19 = .ok (.iload 7, 2) := by decide +kernel
theorem dX2_leastRide_21 : decode cX2_leastRide 21 = .ok (.iload_n 3, 1) := by decide +kernel
theorem dX2_leastRide_22 : decode cX2_leastRide 22 = .ok (.iload 4, 2) := by decide +kernel
theorem dX2_leastRide_24 : decode cX2_leastRide 24 = .ok (.iload 5, 2) := by decide +kernel
theorem dX2_leastRide_26 : decode cX2_leastRide 26 = .ok (.iload 6, 2) := by decide +kernel
theorem dX2_leastRide_28 : decode cX2_leastRide 28 = .ok (.invokevirtual 170, 3) := by decide +kernel
theorem dX2_leastRide_31 : decode cX2_leastRide 31 = .ok (.istore 8, 2) := by decide +kernel
theorem dX2_leastRide_33 : decode cX2_leastRide 33 = .ok (.iconst 0, 1) := by decide +kernel
theorem dX2_leastRide_34 : decode cX2_leastRide 34 = .ok (.istore 9, 2) := by decide +kernel
theorem dX2_leastRide_36 : decode cX2_leastRide 36 = .ok (.iload 8, 2) := by decide +kernel
theorem dX2_leastRide_38 : decode cX2_leastRide 38 = .ok (.ifCond .eq 75, 3) := by decide +kernel
theorem dX2_leastRide_41 : decode cX2_leastRide 41 = .ok (.iload 9, 2) := by decide +kernel
theorem dX2_leastRide_43 : decode cX2_leastRide 43 = .ok (.bipush 7, 2) := by decide +kernel
theorem dX2_leastRide_45 : decode cX2_leastRide 45 = .ok (.if_icmp .ge 68, 3) := by decide +kernel
theorem dX2_leastRide_48 : decode cX2_leastRide 48 = .ok (.aload_n 0, 1) := by decide +kernel
theorem dX2_leastRide_49 : decode cX2_leastRide 49 = .ok (.iload 7, 2) := by decide +kernel
theorem dX2_leastRide_51 : decode cX2_leastRide 51 = .ok (.iload 9, 2) := by decide +kernel
theorem dX2_leastRide_53 : decode cX2_leastRide 53 = .ok (.iload 8, 2) := by decide +kernel
theorem dX2_leastRide_55 : decode cX2_leastRide 55 = .ok (.invokevirtual 173, 3) := by decide +kernel
theorem dX2_leastRide_58 : decode cX2_leastRide 58 = .ok (.istore 10, 2) := by decide +kernel
theorem dX2_leastRide_60 : decode cX2_leastRide 60 = .ok (.iload 10, 2) := by decide +kernel
theorem dX2_leastRide_62 : decode cX2_leastRide 62 = .ok (.iload 9, 2) := by decide +kernel
theorem dX2_leastRide_64 : decode cX2_leastRide 64 = .ok (.if_icmp .le 43, 3) := by decide +kernel
theorem dX2_leastRide_67 : decode cX2_leastRide 67 = .ok (.aload_n 0, 1) := by decide +kernel
theorem dX2_leastRide_68 : decode cX2_leastRide 68 = .ok (.iload_n 1, 1) := by decide +kernel
theorem dX2_leastRide_69 : decode cX2_leastRide 69 = .ok (.iload_n 2, 1) := by decide +kernel
theorem dX2_leastRide_70 : decode cX2_leastRide 70 = .ok (.iload 7, 2) := by decide +kernel
theorem dX2_leastRide_72 : decode cX2_leastRide 72 = .ok (.iload 9, 2) := by decide +kernel
theorem dX2_leastRide_74 : decode cX2_leastRide 74 = .ok (.iload 10, 2) := by decide +kernel
theorem dX2_leastRide_76 : decode cX2_leastRide 76 = .ok (.invokevirtual 176, 3) := by decide +kernel
theorem dX2_leastRide_79 : decode cX2_leastRide 79 = .ok (.ifCond .eq 28, 3) := by decide +kernel
theorem dX2_leastRide_82 : decode cX2_leastRide 82 = .ok (.aload_n 0, 1) := by decide +kernel
theorem dX2_leastRide_83 : decode cX2_leastRide 83 = .ok (.getfield 33, 3) := by decide +kernel
theorem dX2_leastRide_86 : decode cX2_leastRide 86 = .ok (.iload_n 1, 1) := by decide +kernel
theorem dX2_leastRide_87 : decode cX2_leastRide 87 = .ok (.iload 7, 2) := by decide +kernel
theorem dX2_leastRide_89 : decode cX2_leastRide 89 = .ok (.iastore, 1) := by decide +kernel
theorem dX2_leastRide_90 : decode cX2_leastRide 90 = .ok (.aload_n 0, 1) := by decide +kernel
theorem dX2_leastRide_91 : decode cX2_leastRide 91 = .ok (.getfield 36, 3) := by decide +kernel
theorem dX2_leastRide_94 : decode cX2_leastRide 94 = .ok (.iload_n 1, 1) := by decide +kernel
theorem dX2_leastRide_95 : decode cX2_leastRide 95 = .ok (.iload 9, 2) := by decide +kernel
theorem dX2_leastRide_97 : decode cX2_leastRide 97 = .ok (.iastore, 1) := by decide +kernel
theorem dX2_leastRide_98 : decode cX2_leastRide 98 = .ok (.aload_n 0, 1) := by decide +kernel
theorem dX2_leastRide_99 : decode cX2_leastRide 99 = .ok (.getfield 39, 3) := by decide +kernel
theorem dX2_leastRide_102 : decode cX2_leastRide 102 = .ok (.iload_n 1, 1) := by decide +kernel
theorem dX2_leastRide_103 : decode cX2_leastRide 103 = .ok (.iload 10, 2) := by decide +kernel
theorem dX2_leastRide_105 : decode cX2_leastRide 105 = .ok (.iastore, 1) := by decide +kernel
theorem dX2_leastRide_106 : decode cX2_leastRide 106 = .ok (.return_, 1) := by decide +kernel
theorem dX2_leastRide_107 : decode cX2_leastRide 107 = .ok (.iinc 9 1, 3) := by decide +kernel
theorem dX2_leastRide_110 : decode cX2_leastRide 110 = .ok (.goto (-74), 3) := by decide +kernel
theorem dX2_leastRide_113 : decode cX2_leastRide 113 = .ok (.iinc 7 1, 3) := by decide +kernel
theorem dX2_leastRide_116 : decode cX2_leastRide 116 = .ok (.goto (-113), 3) := by decide +kernel
theorem dX2_leastRide_119 : decode cX2_leastRide 119 = .ok (.return_, 1) := by decide +kernel
theorem dX2_callsInTime_0 : decode cX2_callsInTime 0 = .ok (.iload_n 2, 1) := by decide +kernel
theorem dX2_callsInTime_1 : decode cX2_callsInTime 1 = .ok (.ifCond .ge 7, 3) := by decide +kernel
theorem dX2_callsInTime_4 : decode cX2_callsInTime 4 = .ok (.iload_n 3, 1) := by decide +kernel
theorem dX2_callsInTime_5 : decode cX2_callsInTime 5 = .ok (.goto 15, 3) := by decide +kernel
theorem dX2_callsInTime_8 : decode cX2_callsInTime 8 = .ok (.aload_n 0, 1) := by decide +kernel
theorem dX2_callsInTime_9 : decode cX2_callsInTime 9 = .ok (.getfield 42, 3) := by decide +kernel
theorem dX2_callsInTime_12 : decode cX2_callsInTime 12 = .ok (.getfield 153, 3) := by decide +kernel
theorem dX2_callsInTime_15 : decode cX2_callsInTime 15 = .ok (.getfield 163, 3) := by decide +kernel
theorem dX2_callsInTime_18 : decode cX2_callsInTime 18 = .ok (.iload_n 2, 1) := by decide +kernel
theorem dX2_callsInTime_19 : decode cX2_callsInTime 19 = .ok (.iaload, 1) := by decide +kernel
theorem dX2_callsInTime_20 : decode cX2_callsInTime 20 = .ok (.istore 6, 2) := by decide +kernel
theorem dX2_callsInTime_22 : decode cX2_callsInTime 22 = .ok (.aload_n 0, 1) := by decide +kernel
theorem dX2_callsInTime_23 : decode cX2_callsInTime 23 = .ok (.getfield 42, 3) := by decide +kernel
theorem dX2_callsInTime_26 : decode cX2_callsInTime 26 = .ok (.getfield 117, 3) := by decide +kernel
theorem dX2_callsInTime_29 : decode cX2_callsInTime 29 = .ok (.getfield 121, 3) := by decide +kernel
theorem dX2_callsInTime_32 : decode cX2_callsInTime 32 = .ok (.iload_n 1, 1) := by decide +kernel
theorem dX2_callsInTime_33 : decode cX2_callsInTime 33 = .ok (.iaload, 1) := by decide +kernel
theorem dX2_callsInTime_34 : decode cX2_callsInTime 34 = .ok (.istore 7, 2) := by decide +kernel
theorem dX2_callsInTime_36 : decode cX2_callsInTime 36 = .ok (.iconst 0, 1) := by decide +kernel
theorem dX2_callsInTime_37 : decode cX2_callsInTime 37 = .ok (.istore 8, 2) := by decide +kernel
theorem dX2_callsInTime_39 : decode cX2_callsInTime 39 = .ok (.iconst 0, 1) := by decide +kernel
theorem dX2_callsInTime_40 : decode cX2_callsInTime 40 = .ok (.istore 9, 2) := by decide +kernel
theorem dX2_callsInTime_42 : decode cX2_callsInTime 42 = .ok (.iload 9, 2) := by decide +kernel
theorem dX2_callsInTime_44 : decode cX2_callsInTime 44 = .ok (.aload_n 0, 1) := by decide +kernel
theorem dX2_callsInTime_45 : decode cX2_callsInTime 45 = .ok (.getfield 42, 3) := by decide +kernel
theorem dX2_callsInTime_48 : decode cX2_callsInTime 48 = .ok (.getfield 126, 3) := by decide +kernel
theorem dX2_callsInTime_51 : decode cX2_callsInTime 51 = .ok (.getfield 180, 3) := by decide +kernel
theorem dX2_callsInTime_54 : decode cX2_callsInTime 54 = .ok (.iload 7, 2) := by decide +kernel
theorem dX2_callsInTime_56 : decode cX2_callsInTime 56 = .ok (.iaload, 1) := by decide +kernel
theorem dX2_callsInTime_57 : decode cX2_callsInTime 57 = .ok (.if_icmp .ge 121, 3) := by decide +kernel
theorem dX2_callsInTime_60 : decode cX2_callsInTime 60 = .ok (.aload_n 0, 1) := by decide +kernel
theorem dX2_callsInTime_61 : decode cX2_callsInTime 61 = .ok (.getfield 42, 3) := by decide +kernel
theorem dX2_callsInTime_64 : decode cX2_callsInTime 64 = .ok (.getfield 126, 3) := by decide +kernel
theorem dX2_callsInTime_67 : decode cX2_callsInTime 67 = .ok (.getfield 130, 3) := by decide +kernel
theorem dX2_callsInTime_70 : decode cX2_callsInTime 70 = .ok (.iload 7, 2) := by decide +kernel
theorem dX2_callsInTime_72 : decode cX2_callsInTime 72 = .ok (.bipush 8, 2) := by decide +kernel
theorem dX2_callsInTime_74 : decode cX2_callsInTime 74 = .ok (.imul, 1) := by decide +kernel
theorem dX2_callsInTime_75 : decode cX2_callsInTime 75 = .ok (.iload 9, 2) := by decide +kernel
theorem dX2_callsInTime_77 : decode cX2_callsInTime 77 = .ok (.iadd, 1) := by decide +kernel
theorem dX2_callsInTime_78 : decode cX2_callsInTime 78 = .ok (.iaload, 1) := by decide +kernel
theorem dX2_callsInTime_79 : decode cX2_callsInTime 79 = .ok (.iload 6, 2) := by decide +kernel
theorem dX2_callsInTime_81 : decode cX2_callsInTime 81 = .ok (.if_icmp .ne 91, 3) := by decide +kernel
theorem dX2_callsInTime_84 : decode cX2_callsInTime 84 = .ok (.aload_n 0, 1) := by decide +kernel
theorem dX2_callsInTime_85 : decode cX2_callsInTime 85 = .ok (.getfield 42, 3) := by decide +kernel
theorem dX2_callsInTime_88 : decode cX2_callsInTime 88 = .ok (.getfield 126, 3) := by decide +kernel
theorem dX2_callsInTime_91 : decode cX2_callsInTime 91 = .ok (.iload 7, 2) := by decide +kernel
theorem dX2_callsInTime_93 : decode cX2_callsInTime 93 = .ok (.iload 9, 2) := by decide +kernel
theorem dX2_callsInTime_95 : decode cX2_callsInTime 95 = .ok (.invokevirtual 183, 3) := by decide +kernel
theorem dX2_callsInTime_98 : decode cX2_callsInTime 98 = .ok (.ifCond .eq 74, 3) := by decide +kernel
theorem dX2_callsInTime_101 : decode cX2_callsInTime 101 = .ok (.aload_n 0, 1) := by decide +kernel
theorem dX2_callsInTime_102 : decode cX2_callsInTime 102 = .ok (.getfield 42, 3) := by decide +kernel
theorem dX2_callsInTime_105 : decode cX2_callsInTime 105 = .ok (.getfield 117, 3) := by decide +kernel
theorem dX2_callsInTime_108 : decode cX2_callsInTime 108 = .ok (.getfield 186, 3) := by decide +kernel
theorem dX2_callsInTime_111 : decode cX2_callsInTime 111 = .ok (.iload_n 1, 1) := by decide +kernel
theorem dX2_callsInTime_112 : decode cX2_callsInTime 112 = .ok (.bipush 8, 2) := by decide +kernel
theorem dX2_callsInTime_114 : decode cX2_callsInTime 114 = .ok (.imul, 1) := by decide +kernel
theorem dX2_callsInTime_115 : decode cX2_callsInTime 115 = .ok (.iload 9, 2) := by decide +kernel
theorem dX2_callsInTime_117 : decode cX2_callsInTime 117 = .ok (.iadd, 1) := by decide +kernel
theorem dX2_callsInTime_118 : decode cX2_callsInTime 118 = .ok (.iaload, 1) := by decide +kernel
theorem dX2_callsInTime_119 : decode cX2_callsInTime 119 = .ok (.istore 10, 2) := by decide +kernel
theorem dX2_callsInTime_121 : decode cX2_callsInTime 121 = .ok (.iload_n 2, 1) := by decide +kernel
theorem dX2_callsInTime_122 : decode cX2_callsInTime 122 = .ok (.ifCond .ge 11, 3) := by decide +kernel
theorem dX2_callsInTime_125 : decode cX2_callsInTime 125 = .ok (.iload 10, 2) := by decide +kernel
theorem dX2_callsInTime_127 : decode cX2_callsInTime 127 = .ok (.iload 5, 2) := by decide +kernel
theorem dX2_callsInTime_129 : decode cX2_callsInTime 129 = .ok (.iadd, 1) := by decide +kernel
theorem dX2_callsInTime_130 : decode cX2_callsInTime 130 = .ok (.goto 20, 3) := by decide +kernel
theorem dX2_callsInTime_133 : decode cX2_callsInTime 133 = .ok (.aload_n 0, 1) := by decide +kernel
theorem dX2_callsInTime_134 : decode cX2_callsInTime 134 = .ok (.getfield 42, 3) := by decide +kernel
theorem dX2_callsInTime_137 : decode cX2_callsInTime 137 = .ok (.getfield 153, 3) := by decide +kernel
theorem dX2_callsInTime_140 : decode cX2_callsInTime 140 = .ok (.iload_n 2, 1) := by decide +kernel
theorem dX2_callsInTime_141 : decode cX2_callsInTime 141 = .ok (.iload 10, 2) := by decide +kernel
theorem dX2_callsInTime_143 : decode cX2_callsInTime 143 = .ok (.aload_n 0, 1) := by decide +kernel
theorem dX2_callsInTime_144 : decode cX2_callsInTime 144 = .ok (.getfield 67, 3) := by decide +kernel
theorem dX2_callsInTime_147 : decode cX2_callsInTime 147 = .ok (.invokevirtual 166, 3) := by decide +kernel
theorem dX2_callsInTime_150 : decode cX2_callsInTime 150 = .ok (.istore 11, 2) := by decide +kernel
theorem dX2_callsInTime_152 : decode cX2_callsInTime 152 = .ok (.iload 8, 2) := by decide +kernel
theorem dX2_callsInTime_154 : decode cX2_callsInTime 154 = .ok (.iload 11, 2) := by decide +kernel
theorem dX2_callsInTime_156 : decode cX2_callsInTime 156 = .ok (.iload 4, 2) := by decide +kernel
theorem dX2_callsInTime_158 : decode cX2_callsInTime 158 = .ok (.if_icmp .gt 10, 3) := by decide +kernel
theorem dX2_callsInTime_161 : decode cX2_callsInTime 161 = .ok (.iconst 1, 1) := by decide +kernel
theorem dX2_callsInTime_162 : decode cX2_callsInTime 162 = .ok (.iload 9, 2) := by decide +kernel
theorem dX2_callsInTime_164 : decode cX2_callsInTime 164 = .ok (.ishl, 1) := by decide +kernel
theorem dX2_callsInTime_165 : decode cX2_callsInTime 165 = .ok (.goto 4, 3) := by decide +kernel
theorem dX2_callsInTime_168 : decode cX2_callsInTime 168 = .ok (.iconst 0, 1) := by decide +kernel
theorem dX2_callsInTime_169 : decode cX2_callsInTime 169 = .ok (.ior, 1) := by decide +kernel
theorem dX2_callsInTime_170 : decode cX2_callsInTime 170 = .ok (.istore 8, 2) := by decide +kernel
theorem dX2_callsInTime_172 : decode cX2_callsInTime 172 = .ok (.iinc 9 1, 3) := by decide +kernel
theorem dX2_callsInTime_175 : decode cX2_callsInTime 175 = .ok (.goto (-133), 3) := by decide +kernel
theorem dX2_callsInTime_178 : decode cX2_callsInTime 178 = .ok (.iload 8, 2) := by decide +kernel
theorem dX2_callsInTime_180 : decode cX2_callsInTime 180 = .ok (.ireturn, 1) := by decide +kernel
theorem dX2_firstOff_0 : decode cX2_firstOff 0 = .ok (.iload_n 2, 1) := by decide +kernel
theorem dX2_firstOff_1 : decode cX2_firstOff 1 = .ok (.istore 4, 2) := by decide +kernel
theorem dX2_firstOff_3 : decode cX2_firstOff 3 = .ok (.iload 4, 2) := by decide +kernel
theorem dX2_firstOff_5 : decode cX2_firstOff 5 = .ok (.bipush 8, 2) := by decide +kernel
theorem dX2_firstOff_7 : decode cX2_firstOff 7 = .ok (.if_icmp .ge 49, 3) := by decide +kernel
theorem dX2_firstOff_10 : decode cX2_firstOff 10 = .ok (.iload 4, 2) := by decide +kernel
theorem dX2_firstOff_12 : decode cX2_firstOff 12 = .ok (.iload_n 2, 1) := by decide +kernel
theorem dX2_firstOff_13 : decode cX2_firstOff 13 = .ok (.if_icmp .le 15, 3) := by decide +kernel
theorem dX2_firstOff_16 : decode cX2_firstOff 16 = .ok (.iload_n 3, 1) := by decide +kernel
theorem dX2_firstOff_17 : decode cX2_firstOff 17 = .ok (.iload 4, 2) := by decide +kernel
theorem dX2_firstOff_19 : decode cX2_firstOff 19 = .ok (.ishr, 1) := by decide +kernel
theorem dX2_firstOff_20 : decode cX2_firstOff 20 = .ok (.iconst 1, 1) := by decide +kernel
theorem dX2_firstOff_21 : decode cX2_firstOff 21 = .ok (.iand, 1) := by decide +kernel
theorem dX2_firstOff_22 : decode cX2_firstOff 22 = .ok (.ifCond .eq 6, 3) := by decide +kernel
theorem dX2_firstOff_25 : decode cX2_firstOff 25 = .ok (.iload 4, 2) := by decide +kernel
theorem dX2_firstOff_27 : decode cX2_firstOff 27 = .ok (.ireturn, 1) := by decide +kernel
theorem dX2_firstOff_28 : decode cX2_firstOff 28 = .ok (.aload_n 0, 1) := by decide +kernel
theorem dX2_firstOff_29 : decode cX2_firstOff 29 = .ok (.getfield 42, 3) := by decide +kernel
theorem dX2_firstOff_32 : decode cX2_firstOff 32 = .ok (.getfield 117, 3) := by decide +kernel
theorem dX2_firstOff_35 : decode cX2_firstOff 35 = .ok (.getfield 189, 3) := by decide +kernel
theorem dX2_firstOff_38 : decode cX2_firstOff 38 = .ok (.iload_n 1, 1) := by decide +kernel
theorem dX2_firstOff_39 : decode cX2_firstOff 39 = .ok (.iaload, 1) := by decide +kernel
theorem dX2_firstOff_40 : decode cX2_firstOff 40 = .ok (.iload 4, 2) := by decide +kernel
theorem dX2_firstOff_42 : decode cX2_firstOff 42 = .ok (.ishr, 1) := by decide +kernel
theorem dX2_firstOff_43 : decode cX2_firstOff 43 = .ok (.iconst 1, 1) := by decide +kernel
theorem dX2_firstOff_44 : decode cX2_firstOff 44 = .ok (.iand, 1) := by decide +kernel
theorem dX2_firstOff_45 : decode cX2_firstOff 45 = .ok (.ifCond .eq 5, 3) := by decide +kernel
theorem dX2_firstOff_48 : decode cX2_firstOff 48 = .ok (.iconst (-1), 1) := by decide +kernel
theorem dX2_firstOff_49 : decode cX2_firstOff 49 = .ok (.ireturn, 1) := by decide +kernel
theorem dX2_firstOff_50 : decode cX2_firstOff 50 = .ok (.iinc 4 1, 3) := by decide +kernel
theorem dX2_firstOff_53 : decode cX2_firstOff 53 = .ok (.goto (-50), 3) := by decide +kernel
theorem dX2_firstOff_56 : decode cX2_firstOff 56 = .ok (.iconst (-1), 1) := by decide +kernel
theorem dX2_firstOff_57 : decode cX2_firstOff 57 = .ok (.ireturn, 1) := by decide +kernel
theorem dX2_canGetOn_0 : decode cX2_canGetOn 0 = .ok (.aload_n 0, 1) := by decide +kernel
theorem dX2_canGetOn_1 : decode cX2_canGetOn 1 = .ok (.getfield 42, 3) := by decide +kernel
theorem dX2_canGetOn_4 : decode cX2_canGetOn 4 = .ok (.getfield 117, 3) := by decide +kernel
theorem dX2_canGetOn_7 : decode cX2_canGetOn 7 = .ok (.getfield 121, 3) := by decide +kernel
theorem dX2_canGetOn_10 : decode cX2_canGetOn 10 = .ok (.iload_n 3, 1) := by decide +kernel
theorem dX2_canGetOn_11 : decode cX2_canGetOn 11 = .ok (.iaload, 1) := by decide +kernel
theorem dX2_canGetOn_12 : decode cX2_canGetOn 12 = .ok (.istore 6, 2) := by decide +kernel
theorem dX2_canGetOn_14 : decode cX2_canGetOn 14 = .ok (.aload_n 0, 1) := by decide +kernel
theorem dX2_canGetOn_15 : decode cX2_canGetOn 15 = .ok (.getfield 42, 3) := by decide +kernel
theorem dX2_canGetOn_18 : decode cX2_canGetOn 18 = .ok (.getfield 126, 3) := by decide +kernel
theorem dX2_canGetOn_21 : decode cX2_canGetOn 21 = .ok (.getfield 130, 3) := by decide +kernel
theorem dX2_canGetOn_24 : decode cX2_canGetOn 24 = .ok (.iload 6, 2) := by decide +kernel
theorem dX2_canGetOn_26 : decode cX2_canGetOn 26 = .ok (.bipush 8, 2) := by decide +kernel
theorem dX2_canGetOn_28 : decode cX2_canGetOn 28 = .ok (.imul, 1) := by decide +kernel
theorem dX2_canGetOn_29 : decode cX2_canGetOn 29 = .ok (.iload 4, 2) := by decide +kernel
theorem dX2_canGetOn_31 : decode cX2_canGetOn 31 = .ok (.iadd, 1) := by decide +kernel
theorem dX2_canGetOn_32 : decode cX2_canGetOn 32 = .ok (.iaload, 1) := by decide +kernel
theorem dX2_canGetOn_33 : decode cX2_canGetOn 33 = .ok (.istore 7, 2) := by decide +kernel
theorem dX2_canGetOn_35 : decode cX2_canGetOn 35 = .ok (.iload_n 2, 1) := by decide +kernel
theorem dX2_canGetOn_36 : decode cX2_canGetOn 36 = .ok (.aload_n 0, 1) := by decide +kernel
theorem dX2_canGetOn_37 : decode cX2_canGetOn 37 = .ok (.getfield 42, 3) := by decide +kernel
theorem dX2_canGetOn_40 : decode cX2_canGetOn 40 = .ok (.getfield 135, 3) := by decide +kernel
theorem dX2_canGetOn_43 : decode cX2_canGetOn 43 = .ok (.iload 7, 2) := by decide +kernel
theorem dX2_canGetOn_45 : decode cX2_canGetOn 45 = .ok (.aload_n 0, 1) := by decide +kernel
theorem dX2_canGetOn_46 : decode cX2_canGetOn 46 = .ok (.getfield 42, 3) := by decide +kernel
theorem dX2_canGetOn_49 : decode cX2_canGetOn 49 = .ok (.getfield 126, 3) := by decide +kernel
theorem dX2_canGetOn_52 : decode cX2_canGetOn 52 = .ok (.getfield 130, 3) := by decide +kernel
theorem dX2_canGetOn_55 : decode cX2_canGetOn 55 = .ok (.iload 6, 2) := by decide +kernel
theorem dX2_canGetOn_57 : decode cX2_canGetOn 57 = .ok (.bipush 8, 2) := by decide +kernel
theorem dX2_canGetOn_59 : decode cX2_canGetOn 59 = .ok (.imul, 1) := by decide +kernel
theorem dX2_canGetOn_60 : decode cX2_canGetOn 60 = .ok (.iload 5, 2) := by decide +kernel
theorem dX2_canGetOn_62 : decode cX2_canGetOn 62 = .ok (.iadd, 1) := by decide +kernel
theorem dX2_canGetOn_63 : decode cX2_canGetOn 63 = .ok (.iaload, 1) := by decide +kernel
theorem dX2_canGetOn_64 : decode cX2_canGetOn 64 = .ok (.invokevirtual 139, 3) := by decide +kernel
theorem dX2_canGetOn_67 : decode cX2_canGetOn 67 = .ok (.isub, 1) := by decide +kernel
theorem dX2_canGetOn_68 : decode cX2_canGetOn 68 = .ok (.istore 8, 2) := by decide +kernel
theorem dX2_canGetOn_70 : decode cX2_canGetOn 70 = .ok (.aload_n 0, 1) := by decide +kernel
theorem dX2_canGetOn_71 : decode cX2_canGetOn 71 = .ok (.getfield 42, 3) := by decide +kernel
theorem dX2_canGetOn_74 : decode cX2_canGetOn 74 = .ok (.getfield 126, 3) := by decide +kernel
theorem dX2_canGetOn_77 : decode cX2_canGetOn 77 = .ok (.iload 6, 2) := by decide +kernel
theorem dX2_canGetOn_79 : decode cX2_canGetOn 79 = .ok (.iload 4, 2) := by decide +kernel
theorem dX2_canGetOn_81 : decode cX2_canGetOn 81 = .ok (.invokevirtual 183, 3) := by decide +kernel
theorem dX2_canGetOn_84 : decode cX2_canGetOn 84 = .ok (.ifCond .eq 42, 3) := by decide +kernel
theorem dX2_canGetOn_87 : decode cX2_canGetOn 87 = .ok (.aload_n 0, 1) := by decide +kernel
theorem dX2_canGetOn_88 : decode cX2_canGetOn 88 = .ok (.getfield 42, 3) := by decide +kernel
theorem dX2_canGetOn_91 : decode cX2_canGetOn 91 = .ok (.iload_n 1, 1) := by decide +kernel
theorem dX2_canGetOn_92 : decode cX2_canGetOn 92 = .ok (.iconst 1, 1) := by decide +kernel
theorem dX2_canGetOn_93 : decode cX2_canGetOn 93 = .ok (.isub, 1) := by decide +kernel
theorem dX2_canGetOn_94 : decode cX2_canGetOn 94 = .ok (.iload 8, 2) := by decide +kernel
theorem dX2_canGetOn_96 : decode cX2_canGetOn 96 = .ok (.iload 7, 2) := by decide +kernel
theorem dX2_canGetOn_98 : decode cX2_canGetOn 98 = .ok (.invokevirtual 192, 3) := by decide +kernel
theorem dX2_canGetOn_101 : decode cX2_canGetOn 101 = .ok (.aload_n 0, 1) := by decide +kernel
theorem dX2_canGetOn_102 : decode cX2_canGetOn 102 = .ok (.getfield 42, 3) := by decide +kernel
theorem dX2_canGetOn_105 : decode cX2_canGetOn 105 = .ok (.getfield 117, 3) := by decide +kernel
theorem dX2_canGetOn_108 : decode cX2_canGetOn 108 = .ok (.getfield 144, 3) := by decide +kernel
theorem dX2_canGetOn_111 : decode cX2_canGetOn 111 = .ok (.iload_n 3, 1) := by decide +kernel
theorem dX2_canGetOn_112 : decode cX2_canGetOn 112 = .ok (.bipush 8, 2) := by decide +kernel
theorem dX2_canGetOn_114 : decode cX2_canGetOn 114 = .ok (.imul, 1) := by decide +kernel
theorem dX2_canGetOn_115 : decode cX2_canGetOn 115 = .ok (.iload 4, 2) := by decide +kernel
theorem dX2_canGetOn_117 : decode cX2_canGetOn 117 = .ok (.iadd, 1) := by decide +kernel
theorem dX2_canGetOn_118 : decode cX2_canGetOn 118 = .ok (.iaload, 1) := by decide +kernel
theorem dX2_canGetOn_119 : decode cX2_canGetOn 119 = .ok (.if_icmp .gt 7, 3) := by decide +kernel
theorem dX2_canGetOn_122 : decode cX2_canGetOn 122 = .ok (.iconst 1, 1) := by decide +kernel
theorem dX2_canGetOn_123 : decode cX2_canGetOn 123 = .ok (.goto 4, 3) := by decide +kernel
theorem dX2_canGetOn_126 : decode cX2_canGetOn 126 = .ok (.iconst 0, 1) := by decide +kernel
theorem dX2_canGetOn_127 : decode cX2_canGetOn 127 = .ok (.ireturn, 1) := by decide +kernel
theorem dX2_write_0 : decode cX2_write 0 = .ok (.aload_n 0, 1) := by decide +kernel
theorem dX2_write_1 : decode cX2_write 1 = .ok (.getfield 67, 3) := by decide +kernel
theorem dX2_write_4 : decode cX2_write 4 = .ok (.istore 4, 2) := by decide +kernel
theorem dX2_write_6 : decode cX2_write 6 = .ok (.iconst 0, 1) := by decide +kernel
theorem dX2_write_7 : decode cX2_write 7 = .ok (.istore 5, 2) := by decide +kernel
theorem dX2_write_9 : decode cX2_write 9 = .ok (.iconst 0, 1) := by decide +kernel
theorem dX2_write_10 : decode cX2_write 10 = .ok (.istore 6, 2) := by decide +kernel
theorem dX2_write_12 : decode cX2_write 12 = .ok (.iload 6, 2) := by decide +kernel
theorem dX2_write_14 : decode cX2_write 14 = .ok (.iload_n 2, 1) := by decide +kernel
theorem dX2_write_15 : decode cX2_write 15 = .ok (.if_icmp .gt 86, 3) := by decide +kernel
theorem dX2_write_18 : decode cX2_write 18 = .ok (.iload 6, 2) := by decide +kernel
theorem dX2_write_20 : decode cX2_write 20 = .ok (.ifCond .le 40, 3) := by decide +kernel
theorem dX2_write_23 : decode cX2_write 23 = .ok (.aload_n 0, 1) := by decide +kernel
theorem dX2_write_24 : decode cX2_write 24 = .ok (.iload_n 1, 1) := by decide +kernel
theorem dX2_write_25 : decode cX2_write 25 = .ok (.bipush 7, 2) := by decide +kernel
theorem dX2_write_27 : decode cX2_write 27 = .ok (.imul, 1) := by decide +kernel
theorem dX2_write_28 : decode cX2_write 28 = .ok (.iload 5, 2) := by decide +kernel
theorem dX2_write_30 : decode cX2_write 30 = .ok (.iinc 5 1, 3) := by decide +kernel
theorem dX2_write_33 : decode cX2_write 33 = .ok (.iadd, 1) := by decide +kernel
theorem dX2_write_34 : decode cX2_write 34 = .ok (.aload_n 0, 1) := by decide +kernel
theorem dX2_write_35 : decode cX2_write 35 = .ok (.getfield 33, 3) := by decide +kernel
theorem dX2_write_38 : decode cX2_write 38 = .ok (.iload 6, 2) := by decide +kernel
theorem dX2_write_40 : decode cX2_write 40 = .ok (.iaload, 1) := by decide +kernel
theorem dX2_write_41 : decode cX2_write 41 = .ok (.aload_n 0, 1) := by decide +kernel
theorem dX2_write_42 : decode cX2_write 42 = .ok (.getfield 36, 3) := by decide +kernel
theorem dX2_write_45 : decode cX2_write 45 = .ok (.iload 6, 2) := by decide +kernel
theorem dX2_write_47 : decode cX2_write 47 = .ok (.iaload, 1) := by decide +kernel
theorem dX2_write_48 : decode cX2_write 48 = .ok (.aload_n 0, 1) := by decide +kernel
theorem dX2_write_49 : decode cX2_write 49 = .ok (.getfield 39, 3) := by decide +kernel
theorem dX2_write_52 : decode cX2_write 52 = .ok (.iload 6, 2) := by decide +kernel
theorem dX2_write_54 : decode cX2_write 54 = .ok (.iaload, 1) := by decide +kernel
theorem dX2_write_55 : decode cX2_write 55 = .ok (.invokevirtual 195, 3) := by decide +kernel
theorem dX2_write_58 : decode cX2_write 58 = .ok (.istore 4, 2) := by decide +kernel
theorem dX2_write_60 : decode cX2_write 60 = .ok (.aload_n 0, 1) := by decide +kernel
theorem dX2_write_61 : decode cX2_write 61 = .ok (.getfield 30, 3) := by decide +kernel
theorem dX2_write_64 : decode cX2_write 64 = .ok (.iload 6, 2) := by decide +kernel
theorem dX2_write_66 : decode cX2_write 66 = .ok (.iaload, 1) := by decide +kernel
theorem dX2_write_67 : decode cX2_write 67 = .ok (.ifCond .lt 28, 3) := by decide +kernel
theorem dX2_write_70 : decode cX2_write 70 = .ok (.aload_n 0, 1) := by decide +kernel
theorem dX2_write_71 : decode cX2_write 71 = .ok (.iload_n 1, 1) := by decide +kernel
theorem dX2_write_72 : decode cX2_write 72 = .ok (.bipush 7, 2) := by decide +kernel
theorem dX2_write_74 : decode cX2_write 74 = .ok (.imul, 1) := by decide +kernel
theorem dX2_write_75 : decode cX2_write 75 = .ok (.iload 5, 2) := by decide +kernel
theorem dX2_write_77 : decode cX2_write 77 = .ok (.iinc 5 1, 3) := by decide +kernel
theorem dX2_write_80 : decode cX2_write 80 = .ok (.iadd, 1) := by decide +kernel
theorem dX2_write_81 : decode cX2_write 81 = .ok (.aload_n 0, 1) := by decide +kernel
theorem dX2_write_82 : decode cX2_write 82 = .ok (.getfield 30, 3) := by decide +kernel
theorem dX2_write_85 : decode cX2_write 85 = .ok (.iload 6, 2) := by decide +kernel
theorem dX2_write_87 : decode cX2_write 87 = .ok (.iaload, 1) := by decide +kernel
theorem dX2_write_88 : decode cX2_write 88 = .ok (.iload 4, 2) := by decide +kernel
theorem dX2_write_90 : decode cX2_write 90 = .ok (.invokevirtual 199, 3) := by decide +kernel
theorem dX2_write_93 : decode cX2_write 93 = .ok (.istore 4, 2) := by decide +kernel
theorem dX2_write_95 : decode cX2_write 95 = .ok (.iinc 6 1, 3) := by decide +kernel
theorem dX2_write_98 : decode cX2_write 98 = .ok (.goto (-86), 3) := by decide +kernel
theorem dX2_write_101 : decode cX2_write 101 = .ok (.iload_n 1, 1) := by decide +kernel
theorem dX2_write_102 : decode cX2_write 102 = .ok (.iconst 5, 1) := by decide +kernel
theorem dX2_write_103 : decode cX2_write 103 = .ok (.imul, 1) := by decide +kernel
theorem dX2_write_104 : decode cX2_write 104 = .ok (.istore 6, 2) := by decide +kernel
theorem dX2_write_106 : decode cX2_write 106 = .ok (.aload_n 0, 1) := by decide +kernel
theorem dX2_write_107 : decode cX2_write 107 = .ok (.getfield 9, 3) := by decide +kernel
theorem dX2_write_110 : decode cX2_write 110 = .ok (.iload 6, 2) := by decide +kernel
theorem dX2_write_112 : decode cX2_write 112 = .ok (.iconst 0, 1) := by decide +kernel
theorem dX2_write_113 : decode cX2_write 113 = .ok (.iadd, 1) := by decide +kernel
theorem dX2_write_114 : decode cX2_write 114 = .ok (.iload 5, 2) := by decide +kernel
theorem dX2_write_116 : decode cX2_write 116 = .ok (.ifCond .ne 10, 3) := by decide +kernel
theorem dX2_write_119 : decode cX2_write 119 = .ok (.aload_n 0, 1) := by decide +kernel
theorem dX2_write_120 : decode cX2_write 120 = .ok (.getfield 67, 3) := by decide +kernel
theorem dX2_write_123 : decode cX2_write 123 = .ok (.goto 10, 3) := by decide +kernel
theorem dX2_write_126 : decode cX2_write 126 = .ok (.aload_n 0, 1) := by decide +kernel
theorem dX2_write_127 : decode cX2_write 127 = .ok (.iload_n 1, 1) := by decide +kernel
theorem dX2_write_128 : decode cX2_write 128 = .ok (.iconst 0, 1) := by decide +kernel
theorem dX2_write_129 : decode cX2_write 129 = .ok (.iconst 4, 1) := by decide +kernel
theorem dX2_write_130 : decode cX2_write 130 = .ok (.invokevirtual 58, 3) := by decide +kernel
theorem dX2_write_133 : decode cX2_write 133 = .ok (.iastore, 1) := by decide +kernel
theorem dX2_write_134 : decode cX2_write 134 = .ok (.aload_n 0, 1) := by decide +kernel
theorem dX2_write_135 : decode cX2_write 135 = .ok (.getfield 9, 3) := by decide +kernel
theorem dX2_write_138 : decode cX2_write 138 = .ok (.iload 6, 2) := by decide +kernel
theorem dX2_write_140 : decode cX2_write 140 = .ok (.iconst 1, 1) := by decide +kernel
theorem dX2_write_141 : decode cX2_write 141 = .ok (.iadd, 1) := by decide +kernel
theorem dX2_write_142 : decode cX2_write 142 = .ok (.iload 4, 2) := by decide +kernel
theorem dX2_write_144 : decode cX2_write 144 = .ok (.iastore, 1) := by decide +kernel
theorem dX2_write_145 : decode cX2_write 145 = .ok (.aload_n 0, 1) := by decide +kernel
theorem dX2_write_146 : decode cX2_write 146 = .ok (.getfield 9, 3) := by decide +kernel
theorem dX2_write_149 : decode cX2_write 149 = .ok (.iload 6, 2) := by decide +kernel
theorem dX2_write_151 : decode cX2_write 151 = .ok (.iconst 2, 1) := by decide +kernel
theorem dX2_write_152 : decode cX2_write 152 = .ok (.iadd, 1) := by decide +kernel
theorem dX2_write_153 : decode cX2_write 153 = .ok (.iload_n 2, 1) := by decide +kernel
theorem dX2_write_154 : decode cX2_write 154 = .ok (.iastore, 1) := by decide +kernel
theorem dX2_write_155 : decode cX2_write 155 = .ok (.aload_n 0, 1) := by decide +kernel
theorem dX2_write_156 : decode cX2_write 156 = .ok (.getfield 9, 3) := by decide +kernel
theorem dX2_write_159 : decode cX2_write 159 = .ok (.iload 6, 2) := by decide +kernel
theorem dX2_write_161 : decode cX2_write 161 = .ok (.iconst 3, 1) := by decide +kernel
theorem dX2_write_162 : decode cX2_write 162 = .ok (.iadd, 1) := by decide +kernel
theorem dX2_write_163 : decode cX2_write 163 = .ok (.iload_n 3, 1) := by decide +kernel
theorem dX2_write_164 : decode cX2_write 164 = .ok (.iastore, 1) := by decide +kernel
theorem dX2_write_165 : decode cX2_write 165 = .ok (.aload_n 0, 1) := by decide +kernel
theorem dX2_write_166 : decode cX2_write 166 = .ok (.getfield 9, 3) := by decide +kernel
theorem dX2_write_169 : decode cX2_write 169 = .ok (.iload 6, 2) := by decide +kernel
theorem dX2_write_171 : decode cX2_write 171 = .ok (.iconst 4, 1) := by decide +kernel
theorem dX2_write_172 : decode cX2_write 172 = .ok (.iadd, 1) := by decide +kernel
theorem dX2_write_173 : decode cX2_write 173 = .ok (.iload 5, 2) := by decide +kernel
theorem dX2_write_175 : decode cX2_write 175 = .ok (.iastore, 1) := by decide +kernel
theorem dX2_write_176 : decode cX2_write 176 = .ok (.return_, 1) := by decide +kernel
theorem dX2_writeRide_0 : decode cX2_writeRide 0 = .ok (.iload_n 1, 1) := by decide +kernel
theorem dX2_writeRide_1 : decode cX2_writeRide 1 = .ok (.bipush 9, 2) := by decide +kernel
theorem dX2_writeRide_3 : decode cX2_writeRide 3 = .ok (.imul, 1) := by decide +kernel
theorem dX2_writeRide_4 : decode cX2_writeRide 4 = .ok (.istore 5, 2) := by decide +kernel
theorem dX2_writeRide_6 : decode cX2_writeRide 6 = .ok (.aload_n 0, 1) := by decide +kernel
theorem dX2_writeRide_7 : decode cX2_writeRide 7 = .ok (.getfield 42, 3) := by decide +kernel
theorem dX2_writeRide_10 : decode cX2_writeRide 10 = .ok (.getfield 117, 3) := by decide +kernel
theorem dX2_writeRide_13 : decode cX2_writeRide 13 = .ok (.getfield 121, 3) := by decide +kernel
theorem dX2_writeRide_16 : decode cX2_writeRide 16 = .ok (.iload_n 2, 1) := by decide +kernel
theorem dX2_writeRide_17 : decode cX2_writeRide 17 = .ok (.iaload, 1) := by decide +kernel
theorem dX2_writeRide_18 : decode cX2_writeRide 18 = .ok (.istore 6, 2) := by decide +kernel
theorem dX2_writeRide_20 : decode cX2_writeRide 20 = .ok (.aload_n 0, 1) := by decide +kernel
theorem dX2_writeRide_21 : decode cX2_writeRide 21 = .ok (.getfield 15, 3) := by decide +kernel
theorem dX2_writeRide_24 : decode cX2_writeRide 24 = .ok (.iload 5, 2) := by decide +kernel
theorem dX2_writeRide_26 : decode cX2_writeRide 26 = .ok (.iconst 0, 1) := by decide +kernel
theorem dX2_writeRide_27 : decode cX2_writeRide 27 = .ok (.iadd, 1) := by decide +kernel
theorem dX2_writeRide_28 : decode cX2_writeRide 28 = .ok (.aload_n 0, 1) := by decide +kernel
theorem dX2_writeRide_29 : decode cX2_writeRide 29 = .ok (.getfield 42, 3) := by decide +kernel
theorem dX2_writeRide_32 : decode cX2_writeRide 32 = .ok (.getfield 126, 3) := by decide +kernel
theorem dX2_writeRide_35 : decode cX2_writeRide 35 = .ok (.getfield 202, 3) := by decide +kernel
theorem dX2_writeRide_38 : decode cX2_writeRide 38 = .ok (.iload 6, 2) := by decide +kernel
theorem dX2_writeRide_40 : decode cX2_writeRide 40 = .ok (.iaload, 1) := by decide +kernel
theorem dX2_writeRide_41 : decode cX2_writeRide 41 = .ok (.iastore, 1) := by decide +kernel
theorem dX2_writeRide_42 : decode cX2_writeRide 42 = .ok (.aload_n 0, 1) := by decide +kernel
theorem dX2_writeRide_43 : decode cX2_writeRide 43 = .ok (.getfield 15, 3) := by decide +kernel
theorem dX2_writeRide_46 : decode cX2_writeRide 46 = .ok (.iload 5, 2) := by decide +kernel
theorem dX2_writeRide_48 : decode cX2_writeRide 48 = .ok (.iconst 1, 1) := by decide +kernel
theorem dX2_writeRide_49 : decode cX2_writeRide 49 = .ok (.iadd, 1) := by decide +kernel
theorem dX2_writeRide_50 : decode cX2_writeRide 50 = .ok (.iload 6, 2) := by decide +kernel
theorem dX2_writeRide_52 : decode cX2_writeRide 52 = .ok (.iastore, 1) := by decide +kernel
theorem dX2_writeRide_53 : decode cX2_writeRide 53 = .ok (.aload_n 0, 1) := by decide +kernel
theorem dX2_writeRide_54 : decode cX2_writeRide 54 = .ok (.getfield 15, 3) := by decide +kernel
theorem dX2_writeRide_57 : decode cX2_writeRide 57 = .ok (.iload 5, 2) := by decide +kernel
theorem dX2_writeRide_59 : decode cX2_writeRide 59 = .ok (.iconst 2, 1) := by decide +kernel
theorem dX2_writeRide_60 : decode cX2_writeRide 60 = .ok (.iadd, 1) := by decide +kernel
theorem dX2_writeRide_61 : decode cX2_writeRide 61 = .ok (.aload_n 0, 1) := by decide +kernel
theorem dX2_writeRide_62 : decode cX2_writeRide 62 = .ok (.getfield 42, 3) := by decide +kernel
theorem dX2_writeRide_65 : decode cX2_writeRide 65 = .ok (.getfield 126, 3) := by decide +kernel
theorem dX2_writeRide_68 : decode cX2_writeRide 68 = .ok (.getfield 130, 3) := by decide +kernel
theorem dX2_writeRide_71 : decode cX2_writeRide 71 = .ok (.iload 6, 2) := by decide +kernel
theorem dX2_writeRide_73 : decode cX2_writeRide 73 = .ok (.bipush 8, 2) := by decide +kernel
theorem dX2_writeRide_75 : decode cX2_writeRide 75 = .ok (.imul, 1) := by decide +kernel
theorem dX2_writeRide_76 : decode cX2_writeRide 76 = .ok (.iload_n 3, 1) := by decide +kernel
theorem dX2_writeRide_77 : decode cX2_writeRide 77 = .ok (.iadd, 1) := by decide +kernel
theorem dX2_writeRide_78 : decode cX2_writeRide 78 = .ok (.iaload, 1) := by decide +kernel
theorem dX2_writeRide_79 : decode cX2_writeRide 79 = .ok (.iastore, 1) := by decide +kernel
theorem dX2_writeRide_80 : decode cX2_writeRide 80 = .ok (.aload_n 0, 1) := by decide +kernel
theorem dX2_writeRide_81 : decode cX2_writeRide 81 = .ok (.getfield 15, 3) := by decide +kernel
theorem dX2_writeRide_84 : decode cX2_writeRide 84 = .ok (.iload 5, 2) := by decide +kernel
theorem dX2_writeRide_86 : decode cX2_writeRide 86 = .ok (.iconst 3, 1) := by decide +kernel
theorem dX2_writeRide_87 : decode cX2_writeRide 87 = .ok (.iadd, 1) := by decide +kernel
theorem dX2_writeRide_88 : decode cX2_writeRide 88 = .ok (.aload_n 0, 1) := by decide +kernel
theorem dX2_writeRide_89 : decode cX2_writeRide 89 = .ok (.getfield 42, 3) := by decide +kernel
theorem dX2_writeRide_92 : decode cX2_writeRide 92 = .ok (.getfield 126, 3) := by decide +kernel
theorem dX2_writeRide_95 : decode cX2_writeRide 95 = .ok (.getfield 130, 3) := by decide +kernel
theorem dX2_writeRide_98 : decode cX2_writeRide 98 = .ok (.iload 6, 2) := by decide +kernel
theorem dX2_writeRide_100 : decode cX2_writeRide 100 = .ok (.bipush 8, 2) := by decide +kernel
theorem dX2_writeRide_102 : decode cX2_writeRide 102 = .ok (.imul, 1) := by decide +kernel
theorem dX2_writeRide_103 : decode cX2_writeRide 103 = .ok (.iload 4, 2) := by decide +kernel
theorem dX2_writeRide_105 : decode cX2_writeRide 105 = .ok (.iadd, 1) := by decide +kernel
theorem dX2_writeRide_106 : decode cX2_writeRide 106 = .ok (.iaload, 1) := by decide +kernel
theorem dX2_writeRide_107 : decode cX2_writeRide 107 = .ok (.iastore, 1) := by decide +kernel
theorem dX2_writeRide_108 : decode cX2_writeRide 108 = .ok (.aload_n 0, 1) := by decide +kernel
theorem dX2_writeRide_109 : decode cX2_writeRide 109 = .ok (.getfield 15, 3) := by decide +kernel
theorem dX2_writeRide_112 : decode cX2_writeRide 112 = .ok (.iload 5, 2) := by decide +kernel
theorem dX2_writeRide_114 : decode cX2_writeRide 114 = .ok (.iconst 4, 1) := by decide +kernel
theorem dX2_writeRide_115 : decode cX2_writeRide 115 = .ok (.iadd, 1) := by decide +kernel
theorem dX2_writeRide_116 : decode cX2_writeRide 116 = .ok (.aload_n 0, 1) := by decide +kernel
theorem dX2_writeRide_117 : decode cX2_writeRide 117 = .ok (.getfield 42, 3) := by decide +kernel
theorem dX2_writeRide_120 : decode cX2_writeRide 120 = .ok (.getfield 117, 3) := by decide +kernel
theorem dX2_writeRide_123 : decode cX2_writeRide 123 = .ok (.getfield 144, 3) := by decide +kernel
theorem dX2_writeRide_126 : decode cX2_writeRide 126 = .ok (.iload_n 2, 1) := by decide +kernel
theorem dX2_writeRide_127 : decode cX2_writeRide 127 = .ok (.bipush 8, 2) := by decide +kernel
theorem dX2_writeRide_129 : decode cX2_writeRide 129 = .ok (.imul, 1) := by decide +kernel
theorem dX2_writeRide_130 : decode cX2_writeRide 130 = .ok (.iload_n 3, 1) := by decide +kernel
theorem dX2_writeRide_131 : decode cX2_writeRide 131 = .ok (.iadd, 1) := by decide +kernel
theorem dX2_writeRide_132 : decode cX2_writeRide 132 = .ok (.iaload, 1) := by decide +kernel
theorem dX2_writeRide_133 : decode cX2_writeRide 133 = .ok (.iastore, 1) := by decide +kernel
theorem dX2_writeRide_134 : decode cX2_writeRide 134 = .ok (.aload_n 0, 1) := by decide +kernel
theorem dX2_writeRide_135 : decode cX2_writeRide 135 = .ok (.getfield 15, 3) := by decide +kernel
theorem dX2_writeRide_138 : decode cX2_writeRide 138 = .ok (.iload 5, 2) := by decide +kernel
theorem dX2_writeRide_140 : decode cX2_writeRide 140 = .ok (.iconst 5, 1) := by decide +kernel
theorem dX2_writeRide_141 : decode cX2_writeRide 141 = .ok (.iadd, 1) := by decide +kernel
theorem dX2_writeRide_142 : decode cX2_writeRide 142 = .ok (.aload_n 0, 1) := by decide +kernel
theorem dX2_writeRide_143 : decode cX2_writeRide 143 = .ok (.getfield 42, 3) := by decide +kernel
theorem dX2_writeRide_146 : decode cX2_writeRide 146 = .ok (.getfield 117, 3) := by decide +kernel
theorem dX2_writeRide_149 : decode cX2_writeRide 149 = .ok (.getfield 186, 3) := by decide +kernel
theorem dX2_writeRide_152 : decode cX2_writeRide 152 = .ok (.iload_n 2, 1) := by decide +kernel
theorem dX2_writeRide_153 : decode cX2_writeRide 153 = .ok (.bipush 8, 2) := by decide +kernel
theorem dX2_writeRide_155 : decode cX2_writeRide 155 = .ok (.imul, 1) := by decide +kernel
theorem dX2_writeRide_156 : decode cX2_writeRide 156 = .ok (.iload 4, 2) := by decide +kernel
theorem dX2_writeRide_158 : decode cX2_writeRide 158 = .ok (.iadd, 1) := by decide +kernel
theorem dX2_writeRide_159 : decode cX2_writeRide 159 = .ok (.iaload, 1) := by decide +kernel
theorem dX2_writeRide_160 : decode cX2_writeRide 160 = .ok (.iastore, 1) := by decide +kernel
theorem dX2_writeRide_161 : decode cX2_writeRide 161 = .ok (.aload_n 0, 1) := by decide +kernel
theorem dX2_writeRide_162 : decode cX2_writeRide 162 = .ok (.getfield 15, 3) := by decide +kernel
theorem dX2_writeRide_165 : decode cX2_writeRide 165 = .ok (.iload 5, 2) := by decide +kernel
theorem dX2_writeRide_167 : decode cX2_writeRide 167 = .ok (.bipush 6, 2) := by decide +kernel
theorem dX2_writeRide_169 : decode cX2_writeRide 169 = .ok (.iadd, 1) := by decide +kernel
theorem dX2_writeRide_170 : decode cX2_writeRide 170 = .ok (.aload_n 0, 1) := by decide +kernel
theorem dX2_writeRide_171 : decode cX2_writeRide 171 = .ok (.getfield 42, 3) := by decide +kernel
theorem dX2_writeRide_174 : decode cX2_writeRide 174 = .ok (.getfield 117, 3) := by decide +kernel
theorem dX2_writeRide_177 : decode cX2_writeRide 177 = .ok (.getfield 205, 3) := by decide +kernel
theorem dX2_writeRide_180 : decode cX2_writeRide 180 = .ok (.iload_n 2, 1) := by decide +kernel
theorem dX2_writeRide_181 : decode cX2_writeRide 181 = .ok (.iaload, 1) := by decide +kernel
theorem dX2_writeRide_182 : decode cX2_writeRide 182 = .ok (.iastore, 1) := by decide +kernel
theorem dX2_writeRide_183 : decode cX2_writeRide 183 = .ok (.aload_n 0, 1) := by decide +kernel
theorem dX2_writeRide_184 : decode cX2_writeRide 184 = .ok (.getfield 15, 3) := by decide +kernel
theorem dX2_writeRide_187 : decode cX2_writeRide 187 = .ok (.iload 5, 2) := by decide +kernel
theorem dX2_writeRide_189 : decode cX2_writeRide 189 = .ok (.bipush 7, 2) := by decide +kernel
theorem dX2_writeRide_191 : decode cX2_writeRide 191 = .ok (.iadd, 1) := by decide +kernel
theorem dX2_writeRide_192 : decode cX2_writeRide 192 = .ok (.iload_n 3, 1) := by decide +kernel
theorem dX2_writeRide_193 : decode cX2_writeRide 193 = .ok (.iastore, 1) := by decide +kernel
theorem dX2_writeRide_194 : decode cX2_writeRide 194 = .ok (.aload_n 0, 1) := by decide +kernel
theorem dX2_writeRide_195 : decode cX2_writeRide 195 = .ok (.getfield 15, 3) := by decide +kernel
theorem dX2_writeRide_198 : decode cX2_writeRide 198 = .ok (.iload 5, 2) := by decide +kernel
theorem dX2_writeRide_200 : decode cX2_writeRide 200 = .ok (.bipush 8, 2) := by decide +kernel
theorem dX2_writeRide_202 : decode cX2_writeRide 202 = .ok (.iadd, 1) := by decide +kernel
theorem dX2_writeRide_203 : decode cX2_writeRide 203 = .ok (.iload 4, 2) := by decide +kernel
theorem dX2_writeRide_205 : decode cX2_writeRide 205 = .ok (.iastore, 1) := by decide +kernel
theorem dX2_writeRide_206 : decode cX2_writeRide 206 = .ok (.aload_n 0, 1) := by decide +kernel
theorem dX2_writeRide_207 : decode cX2_writeRide 207 = .ok (.getfield 15, 3) := by decide +kernel
theorem dX2_writeRide_210 : decode cX2_writeRide 210 = .ok (.iload 5, 2) := by decide +kernel
theorem dX2_writeRide_212 : decode cX2_writeRide 212 = .ok (.iconst 5, 1) := by decide +kernel
theorem dX2_writeRide_213 : decode cX2_writeRide 213 = .ok (.iadd, 1) := by decide +kernel
theorem dX2_writeRide_214 : decode cX2_writeRide 214 = .ok (.iaload, 1) := by decide +kernel
theorem dX2_writeRide_215 : decode cX2_writeRide 215 = .ok (.ireturn, 1) := by decide +kernel
theorem dX2_writeWalk_0 : decode cX2_writeWalk 0 = .ok (.iload_n 1, 1) := by decide +kernel
theorem dX2_writeWalk_1 : decode cX2_writeWalk 1 = .ok (.bipush 9, 2) := by decide +kernel
theorem dX2_writeWalk_3 : decode cX2_writeWalk 3 = .ok (.imul, 1) := by decide +kernel
theorem dX2_writeWalk_4 : decode cX2_writeWalk 4 = .ok (.istore 4, 2) := by decide +kernel
theorem dX2_writeWalk_6 : decode cX2_writeWalk 6 = .ok (.aload_n 0, 1) := by decide +kernel
theorem dX2_writeWalk_7 : decode cX2_writeWalk 7 = .ok (.getfield 42, 3) := by decide +kernel
theorem dX2_writeWalk_10 : decode cX2_writeWalk 10 = .ok (.getfield 153, 3) := by decide +kernel
theorem dX2_writeWalk_13 : decode cX2_writeWalk 13 = .ok (.astore 5, 2) := by decide +kernel
theorem dX2_writeWalk_15 : decode cX2_writeWalk 15 = .ok (.aload_n 0, 1) := by decide +kernel
theorem dX2_writeWalk_16 : decode cX2_writeWalk 16 = .ok (.getfield 15, 3) := by decide +kernel
theorem dX2_writeWalk_19 : decode cX2_writeWalk 19 = .ok (.iload 4, 2) := by decide +kernel
theorem dX2_writeWalk_21 : decode cX2_writeWalk 21 = .ok (.iconst 0, 1) := by decide +kernel
theorem dX2_writeWalk_22 : decode cX2_writeWalk 22 = .ok (.iadd, 1) := by decide +kernel
theorem dX2_writeWalk_23 : decode cX2_writeWalk 23 = .ok (.aload 5, 2) := by decide +kernel
theorem dX2_writeWalk_25 : decode cX2_writeWalk 25 = .ok (.getfield 208, 3) := by decide +kernel
theorem dX2_writeWalk_28 : decode cX2_writeWalk 28 = .ok (.iload_n 2, 1) := by decide +kernel
theorem dX2_writeWalk_29 : decode cX2_writeWalk 29 = .ok (.iaload, 1) := by decide +kernel
theorem dX2_writeWalk_30 : decode cX2_writeWalk 30 = .ok (.iastore, 1) := by decide +kernel
theorem dX2_writeWalk_31 : decode cX2_writeWalk 31 = .ok (.aload_n 0, 1) := by decide +kernel
theorem dX2_writeWalk_32 : decode cX2_writeWalk 32 = .ok (.getfield 15, 3) := by decide +kernel
theorem dX2_writeWalk_35 : decode cX2_writeWalk 35 = .ok (.iload 4, 2) := by decide +kernel
theorem dX2_writeWalk_37 : decode cX2_writeWalk 37 = .ok (.iconst 1, 1) := by decide +kernel
theorem dX2_writeWalk_38 : decode cX2_writeWalk 38 = .ok (.iadd, 1) := by decide +kernel
theorem dX2_writeWalk_39 : decode cX2_writeWalk 39 = .ok (.iload_n 2, 1) := by decide +kernel
theorem dX2_writeWalk_40 : decode cX2_writeWalk 40 = .ok (.iastore, 1) := by decide +kernel
theorem dX2_writeWalk_41 : decode cX2_writeWalk 41 = .ok (.aload_n 0, 1) := by decide +kernel
theorem dX2_writeWalk_42 : decode cX2_writeWalk 42 = .ok (.getfield 15, 3) := by decide +kernel
theorem dX2_writeWalk_45 : decode cX2_writeWalk 45 = .ok (.iload 4, 2) := by decide +kernel
theorem dX2_writeWalk_47 : decode cX2_writeWalk 47 = .ok (.iconst 2, 1) := by decide +kernel
theorem dX2_writeWalk_48 : decode cX2_writeWalk 48 = .ok (.iadd, 1) := by decide +kernel
theorem dX2_writeWalk_49 : decode cX2_writeWalk 49 = .ok (.aload 5, 2) := by decide +kernel
theorem dX2_writeWalk_51 : decode cX2_writeWalk 51 = .ok (.getfield 163, 3) := by decide +kernel
theorem dX2_writeWalk_54 : decode cX2_writeWalk 54 = .ok (.iload_n 2, 1) := by decide +kernel
theorem dX2_writeWalk_55 : decode cX2_writeWalk 55 = .ok (.iaload, 1) := by decide +kernel
theorem dX2_writeWalk_56 : decode cX2_writeWalk 56 = .ok (.iastore, 1) := by decide +kernel
theorem dX2_writeWalk_57 : decode cX2_writeWalk 57 = .ok (.aload_n 0, 1) := by decide +kernel
theorem dX2_writeWalk_58 : decode cX2_writeWalk 58 = .ok (.getfield 15, 3) := by decide +kernel
theorem dX2_writeWalk_61 : decode cX2_writeWalk 61 = .ok (.iload 4, 2) := by decide +kernel
theorem dX2_writeWalk_63 : decode cX2_writeWalk 63 = .ok (.iconst 3, 1) := by decide +kernel
theorem dX2_writeWalk_64 : decode cX2_writeWalk 64 = .ok (.iadd, 1) := by decide +kernel
theorem dX2_writeWalk_65 : decode cX2_writeWalk 65 = .ok (.aload 5, 2) := by decide +kernel
theorem dX2_writeWalk_67 : decode cX2_writeWalk 67 = .ok (.getfield 160, 3) := by decide +kernel
theorem dX2_writeWalk_70 : decode cX2_writeWalk 70 = .ok (.iload_n 2, 1) := by decide +kernel
theorem dX2_writeWalk_71 : decode cX2_writeWalk 71 = .ok (.iaload, 1) := by decide +kernel
theorem dX2_writeWalk_72 : decode cX2_writeWalk 72 = .ok (.iastore, 1) := by decide +kernel
theorem dX2_writeWalk_73 : decode cX2_writeWalk 73 = .ok (.aload_n 0, 1) := by decide +kernel
theorem dX2_writeWalk_74 : decode cX2_writeWalk 74 = .ok (.getfield 15, 3) := by decide +kernel
theorem dX2_writeWalk_77 : decode cX2_writeWalk 77 = .ok (.iload 4, 2) := by decide +kernel
theorem dX2_writeWalk_79 : decode cX2_writeWalk 79 = .ok (.iconst 4, 1) := by decide +kernel
theorem dX2_writeWalk_80 : decode cX2_writeWalk 80 = .ok (.iadd, 1) := by decide +kernel
theorem dX2_writeWalk_81 : decode cX2_writeWalk 81 = .ok (.aload 5, 2) := by decide +kernel
theorem dX2_writeWalk_83 : decode cX2_writeWalk 83 = .ok (.iload_n 2, 1) := by decide +kernel
theorem dX2_writeWalk_84 : decode cX2_writeWalk 84 = .ok (.iload_n 3, 1) := by decide +kernel
theorem dX2_writeWalk_85 : decode cX2_writeWalk 85 = .ok (.aload_n 0, 1) := by decide +kernel
theorem dX2_writeWalk_86 : decode cX2_writeWalk 86 = .ok (.getfield 67, 3) := by decide +kernel
theorem dX2_writeWalk_89 : decode cX2_writeWalk 89 = .ok (.invokevirtual 209, 3) := by decide +kernel
theorem dX2_writeWalk_92 : decode cX2_writeWalk 92 = .ok (.iastore, 1) := by decide +kernel
theorem dX2_writeWalk_93 : decode cX2_writeWalk 93 = .ok (.aload_n 0, 1) := by decide +kernel
theorem dX2_writeWalk_94 : decode cX2_writeWalk 94 = .ok (.getfield 15, 3) := by decide +kernel
theorem dX2_writeWalk_97 : decode cX2_writeWalk 97 = .ok (.iload 4, 2) := by decide +kernel
theorem dX2_writeWalk_99 : decode cX2_writeWalk 99 = .ok (.iconst 5, 1) := by decide +kernel
theorem dX2_writeWalk_100 : decode cX2_writeWalk 100 = .ok (.iadd, 1) := by decide +kernel
theorem dX2_writeWalk_101 : decode cX2_writeWalk 101 = .ok (.aload 5, 2) := by decide +kernel
theorem dX2_writeWalk_103 : decode cX2_writeWalk 103 = .ok (.iload_n 2, 1) := by decide +kernel
theorem dX2_writeWalk_104 : decode cX2_writeWalk 104 = .ok (.iload_n 3, 1) := by decide +kernel
theorem dX2_writeWalk_105 : decode cX2_writeWalk 105 = .ok (.aload_n 0, 1) := by decide +kernel
theorem dX2_writeWalk_106 : decode cX2_writeWalk 106 = .ok (.getfield 67, 3) := by decide +kernel
theorem dX2_writeWalk_109 : decode cX2_writeWalk 109 = .ok (.invokevirtual 166, 3) := by decide +kernel
theorem dX2_writeWalk_112 : decode cX2_writeWalk 112 = .ok (.iastore, 1) := by decide +kernel
theorem dX2_writeWalk_113 : decode cX2_writeWalk 113 = .ok (.aload_n 0, 1) := by decide +kernel
theorem dX2_writeWalk_114 : decode cX2_writeWalk 114 = .ok (.getfield 15, 3) := by decide +kernel
theorem dX2_writeWalk_117 : decode cX2_writeWalk 117 = .ok (.iload 4, 2) := by decide +kernel
theorem dX2_writeWalk_119 : decode cX2_writeWalk 119 = .ok (.bipush 6, 2) := by decide +kernel
theorem dX2_writeWalk_121 : decode cX2_writeWalk 121 = .ok (.iadd, 1) := by decide +kernel
theorem dX2_writeWalk_122 : decode cX2_writeWalk 122 = .ok (.iconst (-1), 1) := by decide +kernel
theorem dX2_writeWalk_123 : decode cX2_writeWalk 123 = .ok (.iastore, 1) := by decide +kernel
theorem dX2_writeWalk_124 : decode cX2_writeWalk 124 = .ok (.aload_n 0, 1) := by decide +kernel
theorem dX2_writeWalk_125 : decode cX2_writeWalk 125 = .ok (.getfield 15, 3) := by decide +kernel
theorem dX2_writeWalk_128 : decode cX2_writeWalk 128 = .ok (.iload 4, 2) := by decide +kernel
theorem dX2_writeWalk_130 : decode cX2_writeWalk 130 = .ok (.bipush 7, 2) := by decide +kernel
theorem dX2_writeWalk_132 : decode cX2_writeWalk 132 = .ok (.iadd, 1) := by decide +kernel
theorem dX2_writeWalk_133 : decode cX2_writeWalk 133 = .ok (.iconst (-1), 1) := by decide +kernel
theorem dX2_writeWalk_134 : decode cX2_writeWalk 134 = .ok (.iastore, 1) := by decide +kernel
theorem dX2_writeWalk_135 : decode cX2_writeWalk 135 = .ok (.aload_n 0, 1) := by decide +kernel
theorem dX2_writeWalk_136 : decode cX2_writeWalk 136 = .ok (.getfield 15, 3) := by decide +kernel
theorem dX2_writeWalk_139 : decode cX2_writeWalk 139 = .ok (.iload 4, 2) := by decide +kernel
theorem dX2_writeWalk_141 : decode cX2_writeWalk 141 = .ok (.bipush 8, 2) := by decide +kernel
theorem dX2_writeWalk_143 : decode cX2_writeWalk 143 = .ok (.iadd, 1) := by decide +kernel
theorem dX2_writeWalk_144 : decode cX2_writeWalk 144 = .ok (.iconst (-1), 1) := by decide +kernel
theorem dX2_writeWalk_145 : decode cX2_writeWalk 145 = .ok (.iastore, 1) := by decide +kernel
theorem dX2_writeWalk_146 : decode cX2_writeWalk 146 = .ok (.aload_n 0, 1) := by decide +kernel
theorem dX2_writeWalk_147 : decode cX2_writeWalk 147 = .ok (.getfield 15, 3) := by decide +kernel
theorem dX2_writeWalk_150 : decode cX2_writeWalk 150 = .ok (.iload 4, 2) := by decide +kernel
theorem dX2_writeWalk_152 : decode cX2_writeWalk 152 = .ok (.iconst 5, 1) := by decide +kernel
theorem dX2_writeWalk_153 : decode cX2_writeWalk 153 = .ok (.iadd, 1) := by decide +kernel
theorem dX2_writeWalk_154 : decode cX2_writeWalk 154 = .ok (.iaload, 1) := by decide +kernel
theorem dX2_writeWalk_155 : decode cX2_writeWalk 155 = .ok (.ireturn, 1) := by decide +kernel
theorem dX3_init_0 : decode cX3_init 0 = .ok (.aload_n 0, 1) := by decide +kernel
theorem dX3_init_1 : decode cX3_init 1 = .ok (.invokespecial 3, 3) := by decide +kernel
theorem dX3_init_4 : decode cX3_init 4 = .ok (.aload_n 0, 1) := by decide +kernel
theorem dX3_init_5 : decode cX3_init 5 = .ok (.bipush 90, 2) := by decide +kernel
theorem dX3_init_7 : decode cX3_init 7 = .ok (.newarray .int, 2) := by decide +kernel
theorem dX3_init_9 : decode cX3_init 9 = .ok (.putfield 9, 3) := by decide +kernel
theorem dX3_init_12 : decode cX3_init 12 = .ok (.aload_n 0, 1) := by decide +kernel
theorem dX3_init_13 : decode cX3_init 13 = .ok (.sipush 720, 3) := by decide +kernel
theorem dX3_init_16 : decode cX3_init 16 = .ok (.newarray .int, 2) := by decide +kernel
theorem dX3_init_18 : decode cX3_init 18 = .ok (.putfield 15, 3) := by decide +kernel
theorem dX3_init_21 : decode cX3_init 21 = .ok (.return_, 1) := by decide +kernel
theorem dX3_at_0 : decode cX3_at 0 = .ok (.aload_n 0, 1) := by decide +kernel
theorem dX3_at_1 : decode cX3_at 1 = .ok (.iload_n 1, 1) := by decide +kernel
theorem dX3_at_2 : decode cX3_at 2 = .ok (.iload_n 2, 1) := by decide +kernel
theorem dX3_at_3 : decode cX3_at 3 = .ok (.invokevirtual 18, 3) := by decide +kernel
theorem dX3_at_6 : decode cX3_at 6 = .ok (.istore 4, 2) := by decide +kernel
theorem dX3_at_8 : decode cX3_at 8 = .ok (.iload 4, 2) := by decide +kernel
theorem dX3_at_10 : decode cX3_at 10 = .ok (.ifCond .ge 7, 3) := by decide +kernel
theorem dX3_at_13 : decode cX3_at 13 = .ok (.iconst 0, 1) := by decide +kernel
theorem dX3_at_14 : decode cX3_at 14 = .ok (.goto 15, 3) := by decide +kernel
theorem dX3_at_17 : decode cX3_at 17 = .ok (.aload_n 0, 1) := by decide +kernel
theorem dX3_at_18 : decode cX3_at 18 = .ok (.getfield 15, 3) := by decide +kernel
theorem dX3_at_21 : decode cX3_at 21 = .ok (.iload 4, 2) := by decide +kernel
theorem dX3_at_23 : decode cX3_at 23 = .ok (.bipush 8, 2) := by decide +kernel
theorem dX3_at_25 : decode cX3_at 25 = .ok (.imul, 1) := by decide +kernel
theorem dX3_at_26 : decode cX3_at 26 = .ok (.iload_n 3, 1) := by decide +kernel
theorem dX3_at_27 : decode cX3_at 27 = .ok (.iadd, 1) := by decide +kernel
theorem dX3_at_28 : decode cX3_at 28 = .ok (.iaload, 1) := by decide +kernel
theorem dX3_at_29 : decode cX3_at 29 = .ok (.ireturn, 1) := by decide +kernel
theorem dX3_change_0 : decode cX3_change 0 = .ok (.aload_n 0, 1) := by decide +kernel
theorem dX3_change_1 : decode cX3_change 1 = .ok (.iload_n 1, 1) := by decide +kernel
theorem dX3_change_2 : decode cX3_change 2 = .ok (.iload_n 2, 1) := by decide +kernel
theorem dX3_change_3 : decode cX3_change 3 = .ok (.invokevirtual 18, 3) := by decide +kernel
theorem dX3_change_6 : decode cX3_change 6 = .ok (.istore 6, 2) := by decide +kernel
theorem dX3_change_8 : decode cX3_change 8 = .ok (.iload 6, 2) := by decide +kernel
theorem dX3_change_10 : decode cX3_change 10 = .ok (.ifCond .ge 11, 3) := by decide +kernel
theorem dX3_change_13 : decode cX3_change 13 = .ok (.aload_n 0, 1) := by decide +kernel
theorem dX3_change_14 : decode cX3_change 14 = .ok (.iload_n 1, 1) := by decide +kernel
theorem dX3_change_15 : decode cX3_change 15 = .ok (.iload_n 2, 1) := by decide +kernel
theorem dX3_change_16 : decode cX3_change 16 = .ok (.invokevirtual 22, 3) := by decide +kernel
theorem dX3_change_19 : decode cX3_change 19 = .ok (.istore 6, 2) := by decide +kernel
theorem dX3_change_21 : decode cX3_change 21 = .ok (.iload_n 3, 1) := by decide +kernel
theorem dX3_change_22 : decode cX3_change 22 = .ok (.istore 7, 2) := by decide +kernel
theorem dX3_change_24 : decode cX3_change 24 = .ok (.iload 6, 2) := by decide +kernel
theorem dX3_change_26 : decode cX3_change 26 = .ok (.ifCond .lt 34, 3) := by decide +kernel
theorem dX3_change_29 : decode cX3_change 29 = .ok (.iload 7, 2) := by decide +kernel
theorem dX3_change_31 : decode cX3_change 31 = .ok (.iload 4, 2) := by decide +kernel
theorem dX3_change_33 : decode cX3_change 33 = .ok (.if_icmp .ge 27, 3) := by decide +kernel
theorem dX3_change_36 : decode cX3_change 36 = .ok (.aload_n 0, 1) := by decide +kernel
theorem dX3_change_37 : decode cX3_change 37 = .ok (.getfield 15, 3) := by decide +kernel
theorem dX3_change_40 : decode cX3_change 40 = .ok (.iload 6, 2) := by decide +kernel
theorem dX3_change_42 : decode cX3_change 42 = .ok (.bipush 8, 2) := by decide +kernel
theorem dX3_change_44 : decode cX3_change 44 = .ok (.imul, 1) := by decide +kernel
theorem dX3_change_45 : decode cX3_change 45 = .ok (.iload 7, 2) := by decide +kernel
theorem dX3_change_47 : decode cX3_change 47 = .ok (.iadd, 1) := by decide +kernel
theorem dX3_change_48 : decode cX3_change 48 = .ok (.dup2, 1) := by decide +kernel
theorem dX3_change_49 : decode cX3_change 49 = .ok (.iaload, 1) := by decide +kernel
theorem dX3_change_50 : decode cX3_change 50 = .ok (.iload 5, 2) := by decide +kernel
theorem dX3_change_52 : decode cX3_change 52 = .ok (.iadd, 1) := by decide +kernel
theorem dX3_change_53 : decode cX3_change 53 = .ok (.iastore, 1) := by decide +kernel
theorem dX3_change_54 : decode cX3_change 54 = .ok (.iinc 7 1, 3) := by decide +kernel
theorem dX3_change_57 : decode cX3_change 57 = .ok (.goto (-33), 3) := by decide +kernel
theorem dX3_change_60 : decode cX3_change 60 = .ok (.return_, 1) := by decide +kernel
theorem dX3_full_0 : decode cX3_full 0 = .ok (.aload_n 0, 1) := by decide +kernel
theorem dX3_full_1 : decode cX3_full 1 = .ok (.iload_n 1, 1) := by decide +kernel
theorem dX3_full_2 : decode cX3_full 2 = .ok (.iload_n 2, 1) := by decide +kernel
theorem dX3_full_3 : decode cX3_full 3 = .ok (.invokevirtual 18, 3) := by decide +kernel
theorem dX3_full_6 : decode cX3_full 6 = .ok (.istore 4, 2) := by decide +kernel
theorem dX3_full_8 : decode cX3_full 8 = .ok (.iconst 0, 1) := by decide +kernel
theorem dX3_full_9 : decode cX3_full 9 = .ok (.istore 5, 2) := by decide +kernel
theorem dX3_full_11 : decode cX3_full 11 = .ok (.iconst 0, 1) := by decide +kernel
theorem dX3_full_12 : decode cX3_full 12 = .ok (.istore 6, 2) := by decide +kernel
theorem dX3_full_14 : decode cX3_full 14 = .ok (.iload 4, 2) := by decide +kernel
theorem dX3_full_16 : decode cX3_full 16 = .ok (.ifCond .lt 42, 3) := by decide +kernel
theorem dX3_full_19 : decode cX3_full 19 = .ok (.iload 6, 2) := by decide +kernel
theorem dX3_full_21 : decode cX3_full 21 = .ok (.bipush 8, 2) := by decide +kernel
theorem dX3_full_23 : decode cX3_full 23 = .ok (.if_icmp .ge 35, 3) := by decide +kernel
theorem dX3_full_26 : decode cX3_full 26 = .ok (.aload_n 0, 1) := by decide +kernel
theorem dX3_full_27 : decode cX3_full 27 = .ok (.getfield 15, 3) := by decide +kernel
theorem dX3_full_30 : decode cX3_full 30 = .ok (.iload 4, 2) := by decide +kernel
theorem dX3_full_32 : decode cX3_full 32 = .ok (.bipush 8, 2) := by decide +kernel
theorem dX3_full_34 : decode cX3_full 34 = .ok (.imul, 1) := by decide +kernel
theorem dX3_full_35 : decode cX3_full 35 = .ok (.iload 6, 2) := by decide +kernel
theorem dX3_full_37 : decode cX3_full 37 = .ok (.iadd, 1) := by decide +kernel
theorem dX3_full_38 : decode cX3_full 38 = .ok (.iaload, 1) := by decide +kernel
theorem dX3_full_39 : decode cX3_full 39 = .ok (.iload_n 3, 1) := by decide +kernel
theorem dX3_full_40 : decode cX3_full 40 = .ok (.if_icmp .lt 12, 3) := by decide +kernel
theorem dX3_full_43 : decode cX3_full 43 = .ok (.iload 5, 2) := by decide +kernel
theorem dX3_full_45 : decode cX3_full 45 = .ok (.iconst 1, 1) := by decide +kernel
theorem dX3_full_46 : decode cX3_full 46 = .ok (.iload 6, 2) := by decide +kernel
theorem dX3_full_48 : decode cX3_full 48 = .ok (.ishl, 1) := by decide +kernel
theorem dX3_full_49 : decode cX3_full 49 = .ok (.ior, 1) := by decide +kernel
theorem dX3_full_50 : decode cX3_full 50 = .ok (.istore 5, 2) := by decide +kernel
theorem dX3_full_52 : decode cX3_full 52 = .ok (.iinc 6 1, 3) := by decide +kernel
theorem dX3_full_55 : decode cX3_full 55 = .ok (.goto (-41), 3) := by decide +kernel
theorem dX3_full_58 : decode cX3_full 58 = .ok (.iload 5, 2) := by decide +kernel
theorem dX3_full_60 : decode cX3_full 60 = .ok (.ireturn, 1) := by decide +kernel
theorem dX3_rowOf_0 : decode cX3_rowOf 0 = .ok (.iload_n 1, 1) := by decide +kernel
theorem dX3_rowOf_1 : decode cX3_rowOf 1 = .ok (.bipush 100, 2) := by decide +kernel
theorem dX3_rowOf_3 : decode cX3_rowOf 3 = .ok (.imul, 1) := by decide +kernel
theorem dX3_rowOf_4 : decode cX3_rowOf 4 = .ok (.iload_n 2, 1) := by decide +kernel
theorem dX3_rowOf_5 : decode cX3_rowOf 5 = .ok (.iadd, 1) := by decide +kernel
theorem dX3_rowOf_6 : decode cX3_rowOf 6 = .ok (.istore_n 3, 1) := by decide +kernel
theorem dX3_rowOf_7 : decode cX3_rowOf 7 = .ok (.iconst 0, 1) := by decide +kernel
theorem dX3_rowOf_8 : decode cX3_rowOf 8 = .ok (.istore 4, 2) := by decide +kernel
theorem dX3_rowOf_10 : decode cX3_rowOf 10 = .ok (.iload 4, 2) := by decide +kernel
theorem dX3_rowOf_12 : decode cX3_rowOf 12 = .ok (.aload_n 0, 1) := by decide +kernel
theorem dX3_rowOf_13 : decode cX3_rowOf 13 = .ok (.getfield 25, 3) := by decide +kernel
theorem dX3_rowOf_16 : decode cX3_rowOf 16 = .ok (.if_icmp .ge 23, 3) := by decide +kernel
theorem dX3_rowOf_19 : decode cX3_rowOf 19 = .ok (.aload_n 0, 1) := by decide +kernel
theorem dX3_rowOf_20 : decode cX3_rowOf 20 = .ok (.getfield 9, 3) := by decide +kernel
theorem dX3_rowOf_23 : decode cX3_rowOf 23 = .ok (.iload 4, 2) := by decide +kernel
theorem dX3_rowOf_25 : decode cX3_rowOf 25 = .ok (.iaload, 1) := by decide +kernel
theorem dX3_rowOf_26 : decode cX3_rowOf 26 = .ok (.iload_n 3, 1) := by decide +kernel
theorem dX3_rowOf_27 : decode cX3_rowOf 27 = .ok (.if_icmp .ne 6, 3) := by decide +kernel
theorem dX3_rowOf_30 : decode cX3_rowOf 30 = .ok (.iload 4, 2) := by decide +kernel
theorem dX3_rowOf_32 : decode cX3_rowOf 32 = .ok (.ireturn, 1) := by decide +kernel
theorem dX3_rowOf_33 : decode cX3_rowOf 33 = .ok (.iinc 4 1, 3) := by decide +kernel
theorem dX3_rowOf_36 : decode cX3_rowOf 36 = .ok (.goto (-26), 3) := by decide +kernel
theorem dX3_rowOf_39 : decode cX3_rowOf 39 = .ok (.iconst (-1), 1) := by decide +kernel
theorem dX3_rowOf_40 : decode cX3_rowOf 40 = .ok (.ireturn, 1) := by decide +kernel
theorem dX3_newRow_0 : decode cX3_newRow 0 = .ok (.aload_n 0, 1) := by decide +kernel
theorem dX3_newRow_1 : decode cX3_newRow 1 = .ok (.getfield 25, 3) := by decide +kernel
theorem dX3_newRow_4 : decode cX3_newRow 4 = .ok (.aload_n 0, 1) := by decide +kernel
theorem dX3_newRow_5 : decode cX3_newRow 5 = .ok (.getfield 9, 3) := by decide +kernel
theorem dX3_newRow_8 : decode cX3_newRow 8 = .ok (.arraylength, 1) := by decide +kernel
theorem dX3_newRow_9 : decode cX3_newRow 9 = .ok (.if_icmp .lt 5, 3) := by decide +kernel
theorem dX3_newRow_12 : decode cX3_newRow 12 = .ok (.iconst (-1), 1) := by decide +kernel
theorem dX3_newRow_13 : decode cX3_newRow 13 = .ok (.ireturn, 1) := by decide +kernel
theorem dX3_newRow_14 : decode cX3_newRow 14 = .ok (.aload_n 0, 1) := by decide +kernel
theorem dX3_newRow_15 : decode cX3_newRow 15 = .ok (.getfield 9, 3) := by decide +kernel
theorem dX3_newRow_18 : decode cX3_newRow 18 = .ok (.aload_n 0, 1) := by decide +kernel
theorem dX3_newRow_19 : decode cX3_newRow 19 = .ok (.getfield 25, 3) := by decide +kernel
theorem dX3_newRow_22 : decode cX3_newRow 22 = .ok (.iload_n 1, 1) := by decide +kernel
theorem dX3_newRow_23 : decode cX3_newRow 23 = .ok (.bipush 100, 2) := by decide +kernel
theorem dX3_newRow_25 : decode cX3_newRow 25 = .ok (.imul, 1) := by decide +kernel
theorem dX3_newRow_26 : decode cX3_newRow 26 = .ok (.iload_n 2, 1) := by decide +kernel
theorem dX3_newRow_27 : decode cX3_newRow 27 = .ok (.iadd, 1) := by decide +kernel
theorem dX3_newRow_28 : decode cX3_newRow 28 = .ok (.iastore, 1) := by decide +kernel
theorem dX3_newRow_29 : decode cX3_newRow 29 = .ok (.aload_n 0, 1) := by decide +kernel
theorem dX3_newRow_30 : decode cX3_newRow 30 = .ok (.dup, 1) := by decide +kernel
theorem dX3_newRow_31 : decode cX3_newRow 31 = .ok (.getfield 25, 3) := by decide +kernel
theorem dX3_newRow_34 : decode cX3_newRow 34 = .ok (.dup_x1, 1) := by decide +kernel
theorem dX3_newRow_35 : decode cX3_newRow 35 = .ok (.iconst 1, 1) := by decide +kernel
theorem dX3_newRow_36 : decode cX3_newRow 36 = .ok (.iadd, 1) := by decide +kernel
theorem dX3_newRow_37 : decode cX3_newRow 37 = .ok (.putfield 25, 3) := by decide +kernel
theorem dX3_newRow_40 : decode cX3_newRow 40 = .ok (.ireturn, 1) := by decide +kernel
theorem dX4_init_0 : decode cX4_init 0 = .ok (.aload_n 0, 1) := by decide +kernel
theorem dX4_init_1 : decode cX4_init 1 = .ok (.invokespecial 3, 3) := by decide +kernel
theorem dX4_init_4 : decode cX4_init 4 = .ok (.aload_n 0, 1) := by decide +kernel
theorem dX4_init_5 : decode cX4_init 5 = .ok (.sipush 132, 3) := by decide +kernel
theorem dX4_init_8 : decode cX4_init 8 = .ok (.newarray .int, 2) := by decide +kernel
theorem dX4_init_10 : decode cX4_init 10 = .ok (.putfield 9, 3) := by decide +kernel
theorem dX4_init_13 : decode cX4_init 13 = .ok (.aload_n 0, 1) := by decide +kernel
theorem dX4_init_14 : decode cX4_init 14 = .ok (.sipush 132, 3) := by decide +kernel
theorem dX4_init_17 : decode cX4_init 17 = .ok (.newarray .int, 2) := by decide +kernel
theorem dX4_init_19 : decode cX4_init 19 = .ok (.putfield 15, 3) := by decide +kernel
theorem dX4_init_22 : decode cX4_init 22 = .ok (.aload_n 0, 1) := by decide +kernel
theorem dX4_init_23 : decode cX4_init 23 = .ok (.sipush 132, 3) := by decide +kernel
theorem dX4_init_26 : decode cX4_init 26 = .ok (.newarray .int, 2) := by decide +kernel
theorem dX4_init_28 : decode cX4_init 28 = .ok (.putfield 18, 3) := by decide +kernel
theorem dX4_init_31 : decode cX4_init 31 = .ok (.aload_n 0, 1) := by decide +kernel
theorem dX4_init_32 : decode cX4_init 32 = .ok (.sipush 1056, 3) := by decide +kernel
theorem dX4_init_35 : decode cX4_init 35 = .ok (.newarray .int, 2) := by decide +kernel
theorem dX4_init_37 : decode cX4_init 37 = .ok (.putfield 21, 3) := by decide +kernel
theorem dX4_init_40 : decode cX4_init 40 = .ok (.aload_n 0, 1) := by decide +kernel
theorem dX4_init_41 : decode cX4_init 41 = .ok (.sipush 1056, 3) := by decide +kernel
theorem dX4_init_44 : decode cX4_init 44 = .ok (.newarray .int, 2) := by decide +kernel
theorem dX4_init_46 : decode cX4_init 46 = .ok (.putfield 24, 3) := by decide +kernel
theorem dX4_init_49 : decode cX4_init 49 = .ok (.aload_n 0, 1) := by decide +kernel
theorem dX4_init_50 : decode cX4_init 50 = .ok (.aload_n 1, 1) := by decide +kernel
theorem dX4_init_51 : decode cX4_init 51 = .ok (.putfield 27, 3) := by decide +kernel
theorem dX4_init_54 : decode cX4_init 54 = .ok (.aload_n 0, 1) := by decide +kernel
theorem dX4_init_55 : decode cX4_init 55 = .ok (.aload_n 2, 1) := by decide +kernel
theorem dX4_init_56 : decode cX4_init 56 = .ok (.putfield 31, 3) := by decide +kernel
theorem dX4_init_59 : decode cX4_init 59 = .ok (.return_, 1) := by decide +kernel
theorem dX4_gather_0 : decode cX4_gather 0 = .ok (.aload_n 0, 1) := by decide +kernel
theorem dX4_gather_1 : decode cX4_gather 1 = .ok (.iconst 0, 1) := by decide +kernel
theorem dX4_gather_2 : decode cX4_gather 2 = .ok (.putfield 35, 3) := by decide +kernel
theorem dX4_gather_5 : decode cX4_gather 5 = .ok (.aload_n 0, 1) := by decide +kernel
theorem dX4_gather_6 : decode cX4_gather 6 = .ok (.sipush 1440, 3) := by decide +kernel
theorem dX4_gather_9 : decode cX4_gather 9 = .ok (.iload_n 1, 1) := by decide +kernel
theorem dX4_gather_10 : decode cX4_gather 10 = .ok (.iconst 2, 1) := by decide +kernel
theorem dX4_gather_11 : decode cX4_gather 11 = .ok (.iadd, 1) := by decide +kernel
theorem dX4_gather_12 : decode cX4_gather 12 = .ok (.imul, 1) := by decide +kernel
theorem dX4_gather_13 : decode cX4_gather 13 = .ok (.putfield 39, 3) := by decide +kernel
theorem dX4_gather_16 : decode cX4_gather 16 = .ok (.iconst 0, 1) := by decide +kernel
theorem dX4_gather_17 : decode cX4_gather 17 = .ok (.iload_n 2, 1) := by decide +kernel
theorem dX4_gather_18 : decode cX4_gather 18 = .ok (.aload_n 0, 1) := by decide +kernel
theorem dX4_gather_19 : decode cX4_gather 19 = .ok (.getfield 27, 3) := by decide +kernel
theorem dX4_gather_22 : decode cX4_gather 22 = .ok (.getfield 42, 3) := by decide +kernel
theorem dX4_gather_25 : decode cX4_gather 25 = .ok (.getfield 48, 3) := by decide +kernel
theorem dX4_gather_28 : decode cX4_gather 28 = .ok (.isub, 1) := by decide +kernel
theorem dX4_gather_29 : decode cX4_gather 29 = .ok (.sipush 1440, 3) := by decide +kernel
theorem dX4_gather_32 : decode cX4_gather 32 = .ok (.invokestatic 53, 3) := by decide +kernel
theorem dX4_gather_35 : decode cX4_gather 35 = .ok (.iconst 1, 1) := by decide +kernel
theorem dX4_gather_36 : decode cX4_gather 36 = .ok (.isub, 1) := by decide +kernel
theorem dX4_gather_37 : decode cX4_gather 37 = .ok (.invokestatic 59, 3) := by decide +kernel
theorem dX4_gather_40 : decode cX4_gather 40 = .ok (.istore_n 3, 1) := by decide +kernel
theorem dX4_gather_41 : decode cX4_gather 41 = .ok (.bipush 99, 2) := by decide +kernel
theorem dX4_gather_43 : decode cX4_gather 43 = .ok (.iload_n 1, 1) := by decide +kernel
theorem dX4_gather_44 : decode cX4_gather 44 = .ok (.iconst 1, 1) := by decide +kernel
theorem dX4_gather_45 : decode cX4_gather 45 = .ok (.iadd, 1) := by decide +kernel
theorem dX4_gather_46 : decode cX4_gather 46 = .ok (.invokestatic 62, 3) := by decide +kernel
theorem dX4_gather_49 : decode cX4_gather 49 = .ok (.istore 4, 2) := by decide +kernel
theorem dX4_gather_51 : decode cX4_gather 51 = .ok (.iload_n 3, 1) := by decide +kernel
theorem dX4_gather_52 : decode cX4_gather 52 = .ok (.istore 5, 2) := by decide +kernel
theorem dX4_gather_54 : decode cX4_gather 54 = .ok (.iload 5, 2) := by decide +kernel
theorem dX4_gather_56 : decode cX4_gather 56 = .ok (.iload 4, 2) := by decide +kernel
theorem dX4_gather_58 : decode cX4_gather 58 = .ok (.if_icmp .gt 67, 3) := by decide +kernel
theorem dX4_gather_61 : decode cX4_gather 61 = .ok (.iconst 0, 1) := by decide +kernel
theorem dX4_gather_62 : decode cX4_gather 62 = .ok (.istore 6, 2) := by decide +kernel
theorem dX4_gather_64 : decode cX4_gather 64 = .ok (.iload 6, 2) := by decide +kernel
theorem dX4_gather_66 : decode cX4_gather 66 = .ok (.aload_n 0, 1) := by decide +kernel
theorem dX4_gather_67 : decode cX4_gather 67 = .ok (.getfield 27, 3) := by decide +kernel
theorem dX4_gather_70 : decode cX4_gather 70 = .ok (.getfield 65, 3) := by decide +kernel
theorem dX4_gather_73 : decode cX4_gather 73 = .ok (.if_icmp .ge 46, 3) := by decide +kernel
theorem dX4_gather_76 : decode cX4_gather 76 = .ok (.aload_n 0, 1) := by decide +kernel
theorem dX4_gather_77 : decode cX4_gather 77 = .ok (.getfield 27, 3) := by decide +kernel
theorem dX4_gather_80 : decode cX4_gather 80 = .ok (.getfield 66, 3) := by decide +kernel
theorem dX4_gather_83 : decode cX4_gather 83 = .ok (.iload 6, 2) := by decide +kernel
theorem dX4_gather_85 : decode cX4_gather 85 = .ok (.iaload, 1) := by decide +kernel
theorem dX4_gather_86 : decode cX4_gather 86 = .ok (.iconst 1, 1) := by decide +kernel
theorem dX4_gather_87 : decode cX4_gather 87 = .ok (.if_icmp .le 26, 3) := by decide +kernel
theorem dX4_gather_90 : decode cX4_gather 90 = .ok (.aload_n 0, 1) := by decide +kernel
theorem dX4_gather_91 : decode cX4_gather 91 = .ok (.getfield 27, 3) := by decide +kernel
theorem dX4_gather_94 : decode cX4_gather 94 = .ok (.iload 6, 2) := by decide +kernel
theorem dX4_gather_96 : decode cX4_gather 96 = .ok (.iload 5, 2) := by decide +kernel
theorem dX4_gather_98 : decode cX4_gather 98 = .ok (.invokevirtual 69, 3) := by decide +kernel
theorem dX4_gather_101 : decode cX4_gather 101 = .ok (.ifCond .eq 12, 3) := by decide +kernel
theorem dX4_gather_104 : decode cX4_gather 104 = .ok (.aload_n 0, 1) := by decide +kernel
theorem dX4_gather_105 : decode cX4_gather 105 = .ok (.iload 6, 2) := by decide +kernel
theorem dX4_gather_107 : decode cX4_gather 107 = .ok (.iload 5, 2) := by decide +kernel
theorem dX4_gather_109 : decode cX4_gather 109 = .ok (.iload_n 2, 1) := by decide +kernel
theorem dX4_gather_110 : decode cX4_gather 110 = .ok (.invokevirtual 73, 3) := by decide +kernel
theorem dX4_gather_113 : decode cX4_gather 113 = .ok (.iinc 6 1, 3) := by decide +kernel
theorem dX4_gather_116 : decode cX4_gather 116 = .ok (.goto (-52), 3) := by decide +kernel
theorem dX4_gather_119 : decode cX4_gather 119 = .ok (.iinc 5 1, 3) := by decide +kernel
theorem dX4_gather_122 : decode cX4_gather 122 = .ok (.goto (-68), 3) := by decide +kernel
theorem dX4_gather_125 : decode cX4_gather 125 = .ok (.return_, 1) := by decide +kernel
theorem dX4_gatherRun_0 : decode cX4_gatherRun 0 = .ok (.aload_n 0, 1) := by decide +kernel
theorem dX4_gatherRun_1 : decode cX4_gatherRun 1 = .ok (.getfield 35, 3) := by decide +kernel
theorem dX4_gatherRun_4 : decode cX4_gatherRun 4 = .ok (.sipush 132, 3) := by decide +kernel
theorem dX4_gatherRun_7 : decode cX4_gatherRun 7 = .ok (.if_icmp .lt 4, 3) := by decide +kernel
theorem dX4_gatherRun_10 : decode cX4_gatherRun 10 = .ok (.return_, 1) := by decide +kernel
theorem dX4_gatherRun_11 : decode cX4_gatherRun 11 = .ok (.aload_n 0, 1) := by decide +kernel
theorem dX4_gatherRun_12 : decode cX4_gatherRun 12 = .ok (.getfield 27, 3) := by decide +kernel
theorem dX4_gatherRun_15 : decode cX4_gatherRun 15 = .ok (.getfield 66, 3) := by decide +kernel
theorem dX4_gatherRun_18 : decode cX4_gatherRun 18 = .ok (.iload_n 1, 1) := by decide +kernel
theorem dX4_gatherRun_19 : decode cX4_gatherRun 19 = .ok (.iaload, 1) := by decide +kernel
theorem dX4_gatherRun_20 : decode cX4_gatherRun 20 = .ok (.istore 4, 2) := by decide +kernel
theorem dX4_gatherRun_22 : decode cX4_gatherRun 22 = .ok (.aload_n 0, 1) := by decide +kernel
theorem dX4_gatherRun_23 : decode cX4_gatherRun 23 = .ok (.iload_n 1, 1) := by decide +kernel
theorem dX4_gatherRun_24 : decode cX4_gatherRun 24 = .ok (.iload_n 2, 1) := by decide +kernel
theorem dX4_gatherRun_25 : decode cX4_gatherRun 25 = .ok (.iload 4, 2) := by decide +kernel
theorem dX4_gatherRun_27 : decode cX4_gatherRun 27 = .ok (.invokevirtual 77, 3) := by decide +kernel
theorem dX4_gatherRun_30 : decode cX4_gatherRun 30 = .ok (.aload_n 0, 1) := by decide +kernel
theorem dX4_gatherRun_31 : decode cX4_gatherRun 31 = .ok (.getfield 21, 3) := by decide +kernel
theorem dX4_gatherRun_34 : decode cX4_gatherRun 34 = .ok (.aload_n 0, 1) := by decide +kernel
theorem dX4_gatherRun_35 : decode cX4_gatherRun 35 = .ok (.getfield 35, 3) := by decide +kernel
theorem dX4_gatherRun_38 : decode cX4_gatherRun 38 = .ok (.bipush 8, 2) := by decide +kernel
theorem dX4_gatherRun_40 : decode cX4_gatherRun 40 = .ok (.imul, 1) := by decide +kernel
theorem dX4_gatherRun_41 : decode cX4_gatherRun 41 = .ok (.iload 4, 2) := by decide +kernel
theorem dX4_gatherRun_43 : decode cX4_gatherRun 43 = .ok (.iadd, 1) := by decide +kernel
theorem dX4_gatherRun_44 : decode cX4_gatherRun 44 = .ok (.iconst 1, 1) := by decide +kernel
theorem dX4_gatherRun_45 : decode cX4_gatherRun 45 = .ok (.isub, 1) := by decide +kernel
theorem dX4_gatherRun_46 : decode cX4_gatherRun 46 = .ok (.iaload, 1) := by decide +kernel
theorem dX4_gatherRun_47 : decode cX4_gatherRun 47 = .ok (.iload_n 3, 1) := by decide +kernel
theorem dX4_gatherRun_48 : decode cX4_gatherRun 48 = .ok (.if_icmp .lt 22, 3) := by decide +kernel
theorem dX4_gatherRun_51 : decode cX4_gatherRun 51 = .ok (.aload_n 0, 1) := by decide +kernel
theorem dX4_gatherRun_52 : decode cX4_gatherRun 52 = .ok (.getfield 24, 3) := by decide +kernel
theorem dX4_gatherRun_55 : decode cX4_gatherRun 55 = .ok (.aload_n 0, 1) := by decide +kernel
theorem dX4_gatherRun_56 : decode cX4_gatherRun 56 = .ok (.getfield 35, 3) := by decide +kernel
theorem dX4_gatherRun_59 : decode cX4_gatherRun 59 = .ok (.bipush 8, 2) := by decide +kernel
theorem dX4_gatherRun_61 : decode cX4_gatherRun 61 = .ok (.imul, 1) := by decide +kernel
theorem dX4_gatherRun_62 : decode cX4_gatherRun 62 = .ok (.iaload, 1) := by decide +kernel
theorem dX4_gatherRun_63 : decode cX4_gatherRun 63 = .ok (.aload_n 0, 1) := by decide +kernel
theorem dX4_gatherRun_64 : decode cX4_gatherRun 64 = .ok (.getfield 39, 3) := by decide +kernel
theorem dX4_gatherRun_67 : decode cX4_gatherRun 67 = .ok (.if_icmp .lt 4, 3) := by decide +kernel
theorem dX4_gatherRun_70 : decode cX4_gatherRun 70 = .ok (.return_, 1) := by decide +kernel
theorem dX4_gatherRun_71 : decode cX4_gatherRun 71 = .ok (.aload_n 0, 1) := by decide +kernel
theorem dX4_gatherRun_72 : decode cX4_gatherRun 72 = .ok (.getfield 9, 3) := by decide +kernel
theorem dX4_gatherRun_75 : decode cX4_gatherRun 75 = .ok (.aload_n 0, 1) := by decide +kernel
theorem dX4_gatherRun_76 : decode cX4_gatherRun 76 = .ok (.getfield 35, 3) := by decide +kernel
theorem dX4_gatherRun_79 : decode cX4_gatherRun 79 = .ok (.iload_n 1, 1) := by decide +kernel
theorem dX4_gatherRun_80 : decode cX4_gatherRun 80 = .ok (.iastore, 1) := by decide +kernel
theorem dX4_gatherRun_81 : decode cX4_gatherRun 81 = .ok (.aload_n 0, 1) := by decide +kernel
theorem dX4_gatherRun_82 : decode cX4_gatherRun 82 = .ok (.getfield 15, 3) := by decide +kernel
theorem dX4_gatherRun_85 : decode cX4_gatherRun 85 = .ok (.aload_n 0, 1) := by decide +kernel
theorem dX4_gatherRun_86 : decode cX4_gatherRun 86 = .ok (.getfield 35, 3) := by decide +kernel
theorem dX4_gatherRun_89 : decode cX4_gatherRun 89 = .ok (.iload_n 2, 1) := by decide +kernel
theorem dX4_gatherRun_90 : decode cX4_gatherRun 90 = .ok (.iastore, 1) := by decide +kernel
theorem dX4_gatherRun_91 : decode cX4_gatherRun 91 = .ok (.aload_n 0, 1) := by decide +kernel
theorem dX4_gatherRun_92 : decode cX4_gatherRun 92 = .ok (.getfield 18, 3) := by decide +kernel
theorem dX4_gatherRun_95 : decode cX4_gatherRun 95 = .ok (.aload_n 0, 1) := by decide +kernel
theorem dX4_gatherRun_96 : decode cX4_gatherRun 96 = .ok (.getfield 35, 3) := by decide +kernel
theorem dX4_gatherRun_99 : decode cX4_gatherRun 99 = .ok (.aload_n 0, 1) := by decide +kernel
theorem dX4_gatherRun_100 : decode cX4_gatherRun 100 = .ok (.getfield 27, 3) := by decide +kernel
theorem dX4_gatherRun_103 : decode cX4_gatherRun 103 = .ok (.getfield 80, 3) := by decide +kernel
theorem dX4_gatherRun_106 : decode cX4_gatherRun 106 = .ok (.iload_n 1, 1) := by decide +kernel
theorem dX4_gatherRun_107 : decode cX4_gatherRun 107 = .ok (.iaload, 1) := by decide +kernel
theorem dX4_gatherRun_108 : decode cX4_gatherRun 108 = .ok (.ifCond .ne 7, 3) := by decide +kernel
theorem dX4_gatherRun_111 : decode cX4_gatherRun 111 = .ok (.iconst 0, 1) := by decide +kernel
theorem dX4_gatherRun_112 : decode cX4_gatherRun 112 = .ok (.goto 21, 3) := by decide +kernel
theorem dX4_gatherRun_115 : decode cX4_gatherRun 115 = .ok (.aload_n 0, 1) := by decide +kernel
theorem dX4_gatherRun_116 : decode cX4_gatherRun 116 = .ok (.getfield 31, 3) := by decide +kernel
theorem dX4_gatherRun_119 : decode cX4_gatherRun 119 = .ok (.iload_n 1, 1) := by decide +kernel
theorem dX4_gatherRun_120 : decode cX4_gatherRun 120 = .ok (.iload_n 2, 1) := by decide +kernel
theorem dX4_gatherRun_121 : decode cX4_gatherRun 121 = .ok (.aload_n 0, 1) := by decide +kernel
theorem dX4_gatherRun_122 : decode cX4_gatherRun 122 = .ok (.getfield 27, 3) := by decide +kernel
theorem dX4_gatherRun_125 : decode cX4_gatherRun 125 = .ok (.getfield 83, 3) := by decide +kernel
theorem dX4_gatherRun_128 : decode cX4_gatherRun 128 = .ok (.iload_n 1, 1) := by decide +kernel
theorem dX4_gatherRun_129 : decode cX4_gatherRun 129 = .ok (.iaload, 1) := by decide +kernel
theorem dX4_gatherRun_130 : decode cX4_gatherRun 130 = .ok (.invokevirtual 86, 3) := by decide +kernel
theorem dX4_gatherRun_133 : decode cX4_gatherRun 133 = .ok (.iastore, 1) := by decide +kernel
theorem dX4_gatherRun_134 : decode cX4_gatherRun 134 = .ok (.aload_n 0, 1) := by decide +kernel
theorem dX4_gatherRun_135 : decode cX4_gatherRun 135 = .ok (.dup, 1) := by decide +kernel
theorem dX4_gatherRun_136 : decode cX4_gatherRun 136 = .ok (.getfield 35, 3) := by decide +kernel
theorem dX4_gatherRun_139 : decode cX4_gatherRun 139 = .ok (.iconst 1, 1) := by decide +kernel
theorem dX4_gatherRun_140 : decode cX4_gatherRun 140 = .ok (.iadd, 1) := by decide +kernel
theorem dX4_gatherRun_141 : decode cX4_gatherRun 141 = .ok (.putfield 35, 3) := by decide +kernel
theorem dX4_gatherRun_144 : decode cX4_gatherRun 144 = .ok (.return_, 1) := by decide +kernel
theorem dX4_setTimes_0 : decode cX4_setTimes 0 = .ok (.aload_n 0, 1) := by decide +kernel
theorem dX4_setTimes_1 : decode cX4_setTimes 1 = .ok (.getfield 35, 3) := by decide +kernel
theorem dX4_setTimes_4 : decode cX4_setTimes 4 = .ok (.bipush 8, 2) := by decide +kernel
theorem dX4_setTimes_6 : decode cX4_setTimes 6 = .ok (.imul, 1) := by decide +kernel
theorem dX4_setTimes_7 : decode cX4_setTimes 7 = .ok (.istore 4, 2) := by decide +kernel
theorem dX4_setTimes_9 : decode cX4_setTimes 9 = .ok (.iconst 0, 1) := by decide +kernel
theorem dX4_setTimes_10 : decode cX4_setTimes 10 = .ok (.istore 5, 2) := by decide +kernel
theorem dX4_setTimes_12 : decode cX4_setTimes 12 = .ok (.iload 5, 2) := by decide +kernel
theorem dX4_setTimes_14 : decode cX4_setTimes 14 = .ok (.iload_n 3, 1) := by decide +kernel
theorem dX4_setTimes_15 : decode cX4_setTimes 15 = .ok (.if_icmp .ge 71, 3) := by decide +kernel
theorem dX4_setTimes_18 : decode cX4_setTimes 18 = .ok (.aload_n 0, 1) := by decide +kernel
theorem dX4_setTimes_19 : decode cX4_setTimes 19 = .ok (.getfield 21, 3) := by decide +kernel
theorem dX4_setTimes_22 : decode cX4_setTimes 22 = .ok (.iload 4, 2) := by decide +kernel
theorem dX4_setTimes_24 : decode cX4_setTimes 24 = .ok (.iload 5, 2) := by decide +kernel
theorem dX4_setTimes_26 : decode cX4_setTimes 26 = .ok (.iadd, 1) := by decide +kernel
theorem dX4_setTimes_27 : decode cX4_setTimes 27 = .ok (.sipush 1440, 3) := by decide +kernel
theorem dX4_setTimes_30 : decode cX4_setTimes 30 = .ok (.iload_n 2, 1) := by decide +kernel
theorem dX4_setTimes_31 : decode cX4_setTimes 31 = .ok (.imul, 1) := by decide +kernel
theorem dX4_setTimes_32 : decode cX4_setTimes 32 = .ok (.aload_n 0, 1) := by decide +kernel
theorem dX4_setTimes_33 : decode cX4_setTimes 33 = .ok (.getfield 27, 3) := by decide +kernel
theorem dX4_setTimes_36 : decode cX4_setTimes 36 = .ok (.getfield 91, 3) := by decide +kernel
theorem dX4_setTimes_39 : decode cX4_setTimes 39 = .ok (.iload_n 1, 1) := by decide +kernel
theorem dX4_setTimes_40 : decode cX4_setTimes 40 = .ok (.bipush 8, 2) := by decide +kernel
theorem dX4_setTimes_42 : decode cX4_setTimes 42 = .ok (.imul, 1) := by decide +kernel
theorem dX4_setTimes_43 : decode cX4_setTimes 43 = .ok (.iload 5, 2) := by decide +kernel
theorem dX4_setTimes_45 : decode cX4_setTimes 45 = .ok (.iadd, 1) := by decide +kernel
theorem dX4_setTimes_46 : decode cX4_setTimes 46 = .ok (.iaload, 1) := by decide +kernel
theorem dX4_setTimes_47 : decode cX4_setTimes 47 = .ok (.iadd, 1) := by decide +kernel
theorem dX4_setTimes_48 : decode cX4_setTimes 48 = .ok (.iastore, 1) := by decide +kernel
theorem dX4_setTimes_49 : decode cX4_setTimes 49 = .ok (.aload_n 0, 1) := by decide +kernel
theorem dX4_setTimes_50 : decode cX4_setTimes 50 = .ok (.getfield 24, 3) := by decide +kernel
theorem dX4_setTimes_53 : decode cX4_setTimes 53 = .ok (.iload 4, 2) := by decide +kernel
theorem dX4_setTimes_55 : decode cX4_setTimes 55 = .ok (.iload 5, 2) := by decide +kernel
theorem dX4_setTimes_57 : decode cX4_setTimes 57 = .ok (.iadd, 1) := by decide +kernel
theorem dX4_setTimes_58 : decode cX4_setTimes 58 = .ok (.sipush 1440, 3) := by decide +kernel
theorem dX4_setTimes_61 : decode cX4_setTimes 61 = .ok (.iload_n 2, 1) := by decide +kernel
theorem dX4_setTimes_62 : decode cX4_setTimes 62 = .ok (.imul, 1) := by decide +kernel
theorem dX4_setTimes_63 : decode cX4_setTimes 63 = .ok (.aload_n 0, 1) := by decide +kernel
theorem dX4_setTimes_64 : decode cX4_setTimes 64 = .ok (.getfield 27, 3) := by decide +kernel
theorem dX4_setTimes_67 : decode cX4_setTimes 67 = .ok (.getfield 94, 3) := by decide +kernel
theorem dX4_setTimes_70 : decode cX4_setTimes 70 = .ok (.iload_n 1, 1) := by decide +kernel
theorem dX4_setTimes_71 : decode cX4_setTimes 71 = .ok (.bipush 8, 2) := by decide +kernel
theorem dX4_setTimes_73 : decode cX4_setTimes 73 = .ok (.imul, 1) := by decide +kernel
theorem dX4_setTimes_74 : decode cX4_setTimes 74 = .ok (.iload 5, 2) := by decide +kernel
theorem dX4_setTimes_76 : decode cX4_setTimes 76 = .ok (.iadd, 1) := by decide +kernel
theorem dX4_setTimes_77 : decode cX4_setTimes 77 = .ok (.iaload, 1) := by decide +kernel
theorem dX4_setTimes_78 : decode cX4_setTimes 78 = .ok (.iadd, 1) := by decide +kernel
theorem dX4_setTimes_79 : decode cX4_setTimes 79 = .ok (.iastore, 1) := by decide +kernel
theorem dX4_setTimes_80 : decode cX4_setTimes 80 = .ok (.iinc 5 1, 3) := by decide +kernel
theorem dX4_setTimes_83 : decode cX4_setTimes 83 = .ok (.goto (-71), 3) := by decide +kernel
theorem dX4_setTimes_86 : decode cX4_setTimes 86 = .ok (.aload_n 0, 1) := by decide +kernel
theorem dX4_setTimes_87 : decode cX4_setTimes 87 = .ok (.getfield 27, 3) := by decide +kernel
theorem dX4_setTimes_90 : decode cX4_setTimes 90 = .ok (.getfield 42, 3) := by decide +kernel
theorem dX4_setTimes_93 : decode cX4_setTimes 93 = .ok (.astore 5, 2) := by decide +kernel
theorem dX4_setTimes_95 : decode cX4_setTimes 95 = .ok (.iconst 0, 1) := by decide +kernel
theorem dX4_setTimes_96 : decode cX4_setTimes 96 = .ok (.istore 6, 2) := by decide +kernel
theorem dX4_setTimes_98 : decode cX4_setTimes 98 = .ok (.iload 6, 2) := by decide +kernel
theorem dX4_setTimes_100 : decode cX4_setTimes 100 = .ok (.aload 5, 2) := by decide +kernel
theorem dX4_setTimes_102 : decode cX4_setTimes 102 = .ok (.getfield 97, 3) := by decide +kernel
theorem dX4_setTimes_105 : decode cX4_setTimes 105 = .ok (.if_icmp .ge 97, 3) := by decide +kernel
theorem dX4_setTimes_108 : decode cX4_setTimes 108 = .ok (.aload 5, 2) := by decide +kernel
theorem dX4_setTimes_110 : decode cX4_setTimes 110 = .ok (.getfield 98, 3) := by decide +kernel
theorem dX4_setTimes_113 : decode cX4_setTimes 113 = .ok (.iload 6, 2) := by decide +kernel
theorem dX4_setTimes_115 : decode cX4_setTimes 115 = .ok (.iaload, 1) := by decide +kernel
theorem dX4_setTimes_116 : decode cX4_setTimes 116 = .ok (.iload_n 1, 1) := by decide +kernel
theorem dX4_setTimes_117 : decode cX4_setTimes 117 = .ok (.if_icmp .ne 79, 3) := by decide +kernel
theorem dX4_setTimes_120 : decode cX4_setTimes 120 = .ok (.aload 5, 2) := by decide +kernel
theorem dX4_setTimes_122 : decode cX4_setTimes 122 = .ok (.getfield 99, 3) := by decide +kernel
theorem dX4_setTimes_125 : decode cX4_setTimes 125 = .ok (.iload 6, 2) := by decide +kernel
theorem dX4_setTimes_127 : decode cX4_setTimes 127 = .ok (.iaload, 1) := by decide +kernel
theorem dX4_setTimes_128 : decode cX4_setTimes 128 = .ok (.iload_n 2, 1) := by decide +kernel
theorem dX4_setTimes_129 : decode cX4_setTimes 129 = .ok (.if_icmp .ne 67, 3) := by decide +kernel
theorem dX4_setTimes_132 : decode cX4_setTimes 132 = .ok (.aload 5, 2) := by decide +kernel
theorem dX4_setTimes_134 : decode cX4_setTimes 134 = .ok (.getfield 100, 3) := by decide +kernel
theorem dX4_setTimes_137 : decode cX4_setTimes 137 = .ok (.iload 6, 2) := by decide +kernel
theorem dX4_setTimes_139 : decode cX4_setTimes 139 = .ok (.iaload, 1) := by decide +kernel
theorem dX4_setTimes_140 : decode cX4_setTimes 140 = .ok (.istore 7, 2) := by decide +kernel
theorem dX4_setTimes_142 : decode cX4_setTimes 142 = .ok (.iload 7, 2) := by decide +kernel
theorem dX4_setTimes_144 : decode cX4_setTimes 144 = .ok (.iload_n 3, 1) := by decide +kernel
theorem dX4_setTimes_145 : decode cX4_setTimes 145 = .ok (.if_icmp .ge 51, 3) := by decide +kernel
theorem dX4_setTimes_148 : decode cX4_setTimes 148 = .ok (.aload_n 0, 1) := by decide +kernel
theorem dX4_setTimes_149 : decode cX4_setTimes 149 = .ok (.getfield 21, 3) := by decide +kernel
theorem dX4_setTimes_152 : decode cX4_setTimes 152 = .ok (.iload 4, 2) := by decide +kernel
theorem dX4_setTimes_154 : decode cX4_setTimes 154 = .ok (.iload 7, 2) := by decide +kernel
theorem dX4_setTimes_156 : decode cX4_setTimes 156 = .ok (.iadd, 1) := by decide +kernel
theorem dX4_setTimes_157 : decode cX4_setTimes 157 = .ok (.dup2, 1) := by decide +kernel
theorem dX4_setTimes_158 : decode cX4_setTimes 158 = .ok (.iaload, 1) := by decide +kernel
theorem dX4_setTimes_159 : decode cX4_setTimes 159 = .ok (.aload 5, 2) := by decide +kernel
theorem dX4_setTimes_161 : decode cX4_setTimes 161 = .ok (.getfield 103, 3) := by decide +kernel
theorem dX4_setTimes_164 : decode cX4_setTimes 164 = .ok (.iload 6, 2) := by decide +kernel
theorem dX4_setTimes_166 : decode cX4_setTimes 166 = .ok (.iaload, 1) := by decide +kernel
theorem dX4_setTimes_167 : decode cX4_setTimes 167 = .ok (.iadd, 1) := by decide +kernel
theorem dX4_setTimes_168 : decode cX4_setTimes 168 = .ok (.iastore, 1) := by decide +kernel
theorem dX4_setTimes_169 : decode cX4_setTimes 169 = .ok (.aload_n 0, 1) := by decide +kernel
theorem dX4_setTimes_170 : decode cX4_setTimes 170 = .ok (.getfield 24, 3) := by decide +kernel
theorem dX4_setTimes_173 : decode cX4_setTimes 173 = .ok (.iload 4, 2) := by decide +kernel
theorem dX4_setTimes_175 : decode cX4_setTimes 175 = .ok (.iload 7, 2) := by decide +kernel
theorem dX4_setTimes_177 : decode cX4_setTimes 177 = .ok (.iadd, 1) := by decide +kernel
theorem dX4_setTimes_178 : decode cX4_setTimes 178 = .ok (.dup2, 1) := by decide +kernel
theorem dX4_setTimes_179 : decode cX4_setTimes 179 = .ok (.iaload, 1) := by decide +kernel
theorem dX4_setTimes_180 : decode cX4_setTimes 180 = .ok (.aload 5, 2) := by decide +kernel
theorem dX4_setTimes_182 : decode cX4_setTimes 182 = .ok (.getfield 103, 3) := by decide +kernel
theorem dX4_setTimes_185 : decode cX4_setTimes 185 = .ok (.iload 6, 2) := by decide +kernel
theorem dX4_setTimes_187 : decode cX4_setTimes 187 = .ok (.iaload, 1) := by decide +kernel
theorem dX4_setTimes_188 : decode cX4_setTimes 188 = .ok (.iadd, 1) := by decide +kernel
theorem dX4_setTimes_189 : decode cX4_setTimes 189 = .ok (.iastore, 1) := by decide +kernel
theorem dX4_setTimes_190 : decode cX4_setTimes 190 = .ok (.iinc 7 1, 3) := by decide +kernel
theorem dX4_setTimes_193 : decode cX4_setTimes 193 = .ok (.goto (-51), 3) := by decide +kernel
theorem dX4_setTimes_196 : decode cX4_setTimes 196 = .ok (.iinc 6 1, 3) := by decide +kernel
theorem dX4_setTimes_199 : decode cX4_setTimes 199 = .ok (.goto (-101), 3) := by decide +kernel
theorem dX4_setTimes_202 : decode cX4_setTimes 202 = .ok (.return_, 1) := by decide +kernel
theorem dX5_init_0 : decode cX5_init 0 = .ok (.aload_n 0, 1) := by decide +kernel
theorem dX5_init_1 : decode cX5_init 1 = .ok (.invokespecial 3, 3) := by decide +kernel
theorem dX5_init_4 : decode cX5_init 4 = .ok (.aload_n 0, 1) := by decide +kernel
theorem dX5_init_5 : decode cX5_init 5 = .ok (.sipush 696, 3) := by decide +kernel
theorem dX5_init_8 : decode cX5_init 8 = .ok (.newarray .int, 2) := by decide +kernel
theorem dX5_init_10 : decode cX5_init 10 = .ok (.putfield 9, 3) := by decide +kernel
theorem dX5_init_13 : decode cX5_init 13 = .ok (.aload_n 0, 1) := by decide +kernel
theorem dX5_init_14 : decode cX5_init 14 = .ok (.sipush 360, 3) := by decide +kernel
theorem dX5_init_17 : decode cX5_init 17 = .ok (.newarray .int, 2) := by decide +kernel
theorem dX5_init_19 : decode cX5_init 19 = .ok (.putfield 15, 3) := by decide +kernel
theorem dX5_init_22 : decode cX5_init 22 = .ok (.aload_n 0, 1) := by decide +kernel
theorem dX5_init_23 : decode cX5_init 23 = .ok (.bipush 12, 2) := by decide +kernel
theorem dX5_init_25 : decode cX5_init 25 = .ok (.newarray .int, 2) := by decide +kernel
theorem dX5_init_27 : decode cX5_init 27 = .ok (.putfield 18, 3) := by decide +kernel
theorem dX5_init_30 : decode cX5_init 30 = .ok (.aload_n 0, 1) := by decide +kernel
theorem dX5_init_31 : decode cX5_init 31 = .ok (.bipush 12, 2) := by decide +kernel
theorem dX5_init_33 : decode cX5_init 33 = .ok (.newarray .int, 2) := by decide +kernel
theorem dX5_init_35 : decode cX5_init 35 = .ok (.putfield 21, 3) := by decide +kernel
theorem dX5_init_38 : decode cX5_init 38 = .ok (.aload_n 0, 1) := by decide +kernel
theorem dX5_init_39 : decode cX5_init 39 = .ok (.iconst 4, 1) := by decide +kernel
theorem dX5_init_40 : decode cX5_init 40 = .ok (.newarray .int, 2) := by decide +kernel
theorem dX5_init_42 : decode cX5_init 42 = .ok (.putfield 24, 3) := by decide +kernel
theorem dX5_init_45 : decode cX5_init 45 = .ok (.aload_n 0, 1) := by decide +kernel
theorem dX5_init_46 : decode cX5_init 46 = .ok (.aload_n 1, 1) := by decide +kernel
theorem dX5_init_47 : decode cX5_init 47 = .ok (.putfield 27, 3) := by decide +kernel
theorem dX5_init_50 : decode cX5_init 50 = .ok (.aload_n 0, 1) := by decide +kernel
theorem dX5_init_51 : decode cX5_init 51 = .ok (.aload_n 2, 1) := by decide +kernel
theorem dX5_init_52 : decode cX5_init 52 = .ok (.putfield 31, 3) := by decide +kernel
theorem dX5_init_55 : decode cX5_init 55 = .ok (.aload_n 0, 1) := by decide +kernel
theorem dX5_init_56 : decode cX5_init 56 = .ok (.aload_n 3, 1) := by decide +kernel
theorem dX5_init_57 : decode cX5_init 57 = .ok (.putfield 35, 3) := by decide +kernel
theorem dX5_init_60 : decode cX5_init 60 = .ok (.aload_n 0, 1) := by decide +kernel
theorem dX5_init_61 : decode cX5_init 61 = .ok (.aload 4, 2) := by decide +kernel
theorem dX5_init_63 : decode cX5_init 63 = .ok (.putfield 39, 3) := by decide +kernel
theorem dX5_init_66 : decode cX5_init 66 = .ok (.return_, 1) := by decide +kernel
theorem dX5_ask_0 : decode cX5_ask 0 = .ok (.aload_n 0, 1) := by decide +kernel
theorem dX5_ask_1 : decode cX5_ask 1 = .ok (.iload_n 2, 1) := by decide +kernel
theorem dX5_ask_2 : decode cX5_ask 2 = .ok (.putfield 43, 3) := by decide +kernel
theorem dX5_ask_5 : decode cX5_ask 5 = .ok (.aload_n 0, 1) := by decide +kernel
theorem dX5_ask_6 : decode cX5_ask 6 = .ok (.iload_n 3, 1) := by decide +kernel
theorem dX5_ask_7 : decode cX5_ask 7 = .ok (.putfield 47, 3) := by decide +kernel
theorem dX5_ask_10 : decode cX5_ask 10 = .ok (.aload_n 0, 1) := by decide +kernel
theorem dX5_ask_11 : decode cX5_ask 11 = .ok (.getfield 9, 3) := by decide +kernel
theorem dX5_ask_14 : decode cX5_ask 14 = .ok (.iconst 0, 1) := by decide +kernel
theorem dX5_ask_15 : decode cX5_ask 15 = .ok (.aload_n 0, 1) := by decide +kernel
theorem dX5_ask_16 : decode cX5_ask 16 = .ok (.iconst 4, 1) := by decide +kernel
theorem dX5_ask_17 : decode cX5_ask 17 = .ok (.iconst 0, 1) := by decide +kernel
theorem dX5_ask_18 : decode cX5_ask 18 = .ok (.invokevirtual 50, 3) := by decide +kernel
theorem dX5_ask_21 : decode cX5_ask 21 = .ok (.ldc 54, 2) := by decide +kernel
theorem dX5_ask_23 : decode cX5_ask 23 = .ok (.invokestatic 55, 3) := by decide +kernel
theorem dX5_ask_26 : decode cX5_ask 26 = .ok (.aload_n 0, 1) := by decide +kernel
theorem dX5_ask_27 : decode cX5_ask 27 = .ok (.getfield 15, 3) := by decide +kernel
theorem dX5_ask_30 : decode cX5_ask 30 = .ok (.iconst 0, 1) := by decide +kernel
theorem dX5_ask_31 : decode cX5_ask 31 = .ok (.aload_n 0, 1) := by decide +kernel
theorem dX5_ask_32 : decode cX5_ask 32 = .ok (.iconst 3, 1) := by decide +kernel
theorem dX5_ask_33 : decode cX5_ask 33 = .ok (.iconst 0, 1) := by decide +kernel
theorem dX5_ask_34 : decode cX5_ask 34 = .ok (.invokevirtual 50, 3) := by decide +kernel
theorem dX5_ask_37 : decode cX5_ask 37 = .ok (.ldc 54, 2) := by decide +kernel
theorem dX5_ask_39 : decode cX5_ask 39 = .ok (.invokestatic 55, 3) := by decide +kernel
theorem dX5_ask_42 : decode cX5_ask 42 = .ok (.aload_n 0, 1) := by decide +kernel
theorem dX5_ask_43 : decode cX5_ask 43 = .ok (.getfield 9, 3) := by decide +kernel
theorem dX5_ask_46 : decode cX5_ask 46 = .ok (.iload_n 1, 1) := by decide +kernel
theorem dX5_ask_47 : decode cX5_ask 47 = .ok (.iload_n 2, 1) := by decide +kernel
theorem dX5_ask_48 : decode cX5_ask 48 = .ok (.iastore, 1) := by decide +kernel
theorem dX5_ask_49 : decode cX5_ask 49 = .ok (.iconst 1, 1) := by decide +kernel
theorem dX5_ask_50 : decode cX5_ask 50 = .ok (.istore 4, 2) := by decide +kernel
theorem dX5_ask_52 : decode cX5_ask 52 = .ok (.iload 4, 2) := by decide +kernel
end
section
theorem dX5_ask_54 : decode cX5_ask 54 = .ok (.iconst 3, 1) := by decide +kernel
theorem dX5_ask_55 : decode cX5_ask 55 = .ok (.if_icmp .gt 46, 3) := by decide +kernel
theorem dX5_ask_58 : decode cX5_ask 58 = .ok (.aload_n 0, 1) := by decide +kernel
theorem dX5_ask_59 : decode cX5_ask 59 = .ok (.iload 4, 2) := by decide +kernel
theorem dX5_ask_61 : decode cX5_ask 61 = .ok (.iconst 1, 1) := by decide +kernel
theorem dX5_ask_62 : decode cX5_ask 62 = .ok (.isub, 1) := by decide +kernel
theorem dX5_ask_63 : decode cX5_ask 63 = .ok (.invokevirtual 61, 3) := by decide +kernel
theorem dX5_ask_66 : decode cX5_ask 66 = .ok (.iconst 0, 1) := by decide +kernel
theorem dX5_ask_67 : decode cX5_ask 67 = .ok (.istore 5, 2) := by decide +kernel
theorem dX5_ask_69 : decode cX5_ask 69 = .ok (.iload 5, 2) := by decide +kernel
theorem dX5_ask_71 : decode cX5_ask 71 = .ok (.aload_n 0, 1) := by decide +kernel
theorem dX5_ask_72 : decode cX5_ask 72 = .ok (.getfield 39, 3) := by decide +kernel
theorem dX5_ask_75 : decode cX5_ask 75 = .ok (.getfield 65, 3) := by decide +kernel
theorem dX5_ask_78 : decode cX5_ask 78 = .ok (.if_icmp .ge 17, 3) := by decide +kernel
theorem dX5_ask_81 : decode cX5_ask 81 = .ok (.aload_n 0, 1) := by decide +kernel
theorem dX5_ask_82 : decode cX5_ask 82 = .ok (.iload 4, 2) := by decide +kernel
theorem dX5_ask_84 : decode cX5_ask 84 = .ok (.iload 5, 2) := by decide +kernel
theorem dX5_ask_86 : decode cX5_ask 86 = .ok (.invokevirtual 70, 3) := by decide +kernel
theorem dX5_ask_89 : decode cX5_ask 89 = .ok (.iinc 5 1, 3) := by decide +kernel
theorem dX5_ask_92 : decode cX5_ask 92 = .ok (.goto (-23), 3) := by decide +kernel
theorem dX5_ask_95 : decode cX5_ask 95 = .ok (.iinc 4 1, 3) := by decide +kernel
theorem dX5_ask_98 : decode cX5_ask 98 = .ok (.goto (-46), 3) := by decide +kernel
theorem dX5_ask_101 : decode cX5_ask 101 = .ok (.return_, 1) := by decide +kernel
theorem dX5_askSoonest_0 : decode cX5_askSoonest 0 = .ok (.aload_n 0, 1) := by decide +kernel
theorem dX5_askSoonest_1 : decode cX5_askSoonest 1 = .ok (.iload_n 1, 1) := by decide +kernel
theorem dX5_askSoonest_2 : decode cX5_askSoonest 2 = .ok (.iload_n 2, 1) := by decide +kernel
theorem dX5_askSoonest_3 : decode cX5_askSoonest 3 = .ok (.iconst 0, 1) := by decide +kernel
theorem dX5_askSoonest_4 : decode cX5_askSoonest 4 = .ok (.invokevirtual 74, 3) := by decide +kernel
theorem dX5_askSoonest_7 : decode cX5_askSoonest 7 = .ok (.iconst 0, 1) := by decide +kernel
theorem dX5_askSoonest_8 : decode cX5_askSoonest 8 = .ok (.istore_n 3, 1) := by decide +kernel
theorem dX5_askSoonest_9 : decode cX5_askSoonest 9 = .ok (.iload_n 3, 1) := by decide +kernel
theorem dX5_askSoonest_10 : decode cX5_askSoonest 10 = .ok (.aload_n 0, 1) := by decide +kernel
theorem dX5_askSoonest_11 : decode cX5_askSoonest 11 = .ok (.getfield 27, 3) := by decide +kernel
theorem dX5_askSoonest_14 : decode cX5_askSoonest 14 = .ok (.getfield 78, 3) := by decide +kernel
theorem dX5_askSoonest_17 : decode cX5_askSoonest 17 = .ok (.if_icmp .ge 73, 3) := by decide +kernel
theorem dX5_askSoonest_20 : decode cX5_askSoonest 20 = .ok (.aload_n 0, 1) := by decide +kernel
theorem dX5_askSoonest_21 : decode cX5_askSoonest 21 = .ok (.getfield 21, 3) := by decide +kernel
theorem dX5_askSoonest_24 : decode cX5_askSoonest 24 = .ok (.iload_n 3, 1) := by decide +kernel
theorem dX5_askSoonest_25 : decode cX5_askSoonest 25 = .ok (.ldc 54, 2) := by decide +kernel
theorem dX5_askSoonest_27 : decode cX5_askSoonest 27 = .ok (.iastore, 1) := by decide +kernel
theorem dX5_askSoonest_28 : decode cX5_askSoonest 28 = .ok (.iconst 0, 1) := by decide +kernel
theorem dX5_askSoonest_29 : decode cX5_askSoonest 29 = .ok (.istore 4, 2) := by decide +kernel
theorem dX5_askSoonest_31 : decode cX5_askSoonest 31 = .ok (.iload 4, 2) := by decide +kernel
theorem dX5_askSoonest_33 : decode cX5_askSoonest 33 = .ok (.iconst 3, 1) := by decide +kernel
theorem dX5_askSoonest_34 : decode cX5_askSoonest 34 = .ok (.if_icmp .gt 38, 3) := by decide +kernel
theorem dX5_askSoonest_37 : decode cX5_askSoonest 37 = .ok (.aload_n 0, 1) := by decide +kernel
theorem dX5_askSoonest_38 : decode cX5_askSoonest 38 = .ok (.getfield 21, 3) := by decide +kernel
theorem dX5_askSoonest_41 : decode cX5_askSoonest 41 = .ok (.iload_n 3, 1) := by decide +kernel
theorem dX5_askSoonest_42 : decode cX5_askSoonest 42 = .ok (.aload_n 0, 1) := by decide +kernel
theorem dX5_askSoonest_43 : decode cX5_askSoonest 43 = .ok (.getfield 21, 3) := by decide +kernel
theorem dX5_askSoonest_46 : decode cX5_askSoonest 46 = .ok (.iload_n 3, 1) := by decide +kernel
theorem dX5_askSoonest_47 : decode cX5_askSoonest 47 = .ok (.iaload, 1) := by decide +kernel
theorem dX5_askSoonest_48 : decode cX5_askSoonest 48 = .ok (.aload_n 0, 1) := by decide +kernel
theorem dX5_askSoonest_49 : decode cX5_askSoonest 49 = .ok (.getfield 9, 3) := by decide +kernel
theorem dX5_askSoonest_52 : decode cX5_askSoonest 52 = .ok (.aload_n 0, 1) := by decide +kernel
theorem dX5_askSoonest_53 : decode cX5_askSoonest 53 = .ok (.iload 4, 2) := by decide +kernel
theorem dX5_askSoonest_55 : decode cX5_askSoonest 55 = .ok (.iconst 0, 1) := by decide +kernel
theorem dX5_askSoonest_56 : decode cX5_askSoonest 56 = .ok (.invokevirtual 50, 3) := by decide +kernel
theorem dX5_askSoonest_59 : decode cX5_askSoonest 59 = .ok (.iload_n 3, 1) := by decide +kernel
theorem dX5_askSoonest_60 : decode cX5_askSoonest 60 = .ok (.iadd, 1) := by decide +kernel
theorem dX5_askSoonest_61 : decode cX5_askSoonest 61 = .ok (.iaload, 1) := by decide +kernel
theorem dX5_askSoonest_62 : decode cX5_askSoonest 62 = .ok (.invokestatic 81, 3) := by decide +kernel
theorem dX5_askSoonest_65 : decode cX5_askSoonest 65 = .ok (.iastore, 1) := by decide +kernel
theorem dX5_askSoonest_66 : decode cX5_askSoonest 66 = .ok (.iinc 4 1, 3) := by decide +kernel
theorem dX5_askSoonest_69 : decode cX5_askSoonest 69 = .ok (.goto (-38), 3) := by decide +kernel
theorem dX5_askSoonest_72 : decode cX5_askSoonest 72 = .ok (.aload_n 0, 1) := by decide +kernel
theorem dX5_askSoonest_73 : decode cX5_askSoonest 73 = .ok (.getfield 18, 3) := by decide +kernel
theorem dX5_askSoonest_76 : decode cX5_askSoonest 76 = .ok (.iload_n 3, 1) := by decide +kernel
theorem dX5_askSoonest_77 : decode cX5_askSoonest 77 = .ok (.aload_n 0, 1) := by decide +kernel
theorem dX5_askSoonest_78 : decode cX5_askSoonest 78 = .ok (.getfield 21, 3) := by decide +kernel
theorem dX5_askSoonest_81 : decode cX5_askSoonest 81 = .ok (.iload_n 3, 1) := by decide +kernel
theorem dX5_askSoonest_82 : decode cX5_askSoonest 82 = .ok (.iaload, 1) := by decide +kernel
theorem dX5_askSoonest_83 : decode cX5_askSoonest 83 = .ok (.iastore, 1) := by decide +kernel
theorem dX5_askSoonest_84 : decode cX5_askSoonest 84 = .ok (.iinc 3 1, 3) := by decide +kernel
theorem dX5_askSoonest_87 : decode cX5_askSoonest 87 = .ok (.goto (-78), 3) := by decide +kernel
theorem dX5_askSoonest_90 : decode cX5_askSoonest 90 = .ok (.iconst 0, 1) := by decide +kernel
theorem dX5_askSoonest_91 : decode cX5_askSoonest 91 = .ok (.istore_n 3, 1) := by decide +kernel
theorem dX5_askSoonest_92 : decode cX5_askSoonest 92 = .ok (.iload_n 3, 1) := by decide +kernel
theorem dX5_askSoonest_93 : decode cX5_askSoonest 93 = .ok (.aload_n 0, 1) := by decide +kernel
theorem dX5_askSoonest_94 : decode cX5_askSoonest 94 = .ok (.getfield 35, 3) := by decide +kernel
theorem dX5_askSoonest_97 : decode cX5_askSoonest 97 = .ok (.getfield 86, 3) := by decide +kernel
theorem dX5_askSoonest_100 : decode cX5_askSoonest 100 = .ok (.if_icmp .ge 82, 3) := by decide +kernel
theorem dX5_askSoonest_103 : decode cX5_askSoonest 103 = .ok (.aload_n 0, 1) := by decide +kernel
theorem dX5_askSoonest_104 : decode cX5_askSoonest 104 = .ok (.getfield 35, 3) := by decide +kernel
theorem dX5_askSoonest_107 : decode cX5_askSoonest 107 = .ok (.iload_n 3, 1) := by decide +kernel
theorem dX5_askSoonest_108 : decode cX5_askSoonest 108 = .ok (.aload_n 0, 1) := by decide +kernel
theorem dX5_askSoonest_109 : decode cX5_askSoonest 109 = .ok (.getfield 21, 3) := by decide +kernel
theorem dX5_askSoonest_112 : decode cX5_askSoonest 112 = .ok (.aload_n 0, 1) := by decide +kernel
theorem dX5_askSoonest_113 : decode cX5_askSoonest 113 = .ok (.getfield 35, 3) := by decide +kernel
theorem dX5_askSoonest_116 : decode cX5_askSoonest 116 = .ok (.getfield 89, 3) := by decide +kernel
theorem dX5_askSoonest_119 : decode cX5_askSoonest 119 = .ok (.iload_n 3, 1) := by decide +kernel
theorem dX5_askSoonest_120 : decode cX5_askSoonest 120 = .ok (.iaload, 1) := by decide +kernel
theorem dX5_askSoonest_121 : decode cX5_askSoonest 121 = .ok (.iaload, 1) := by decide +kernel
theorem dX5_askSoonest_122 : decode cX5_askSoonest 122 = .ok (.aload_n 0, 1) := by decide +kernel
theorem dX5_askSoonest_123 : decode cX5_askSoonest 123 = .ok (.getfield 43, 3) := by decide +kernel
theorem dX5_askSoonest_126 : decode cX5_askSoonest 126 = .ok (.invokevirtual 92, 3) := by decide +kernel
theorem dX5_askSoonest_129 : decode cX5_askSoonest 129 = .ok (.istore 4, 2) := by decide +kernel
theorem dX5_askSoonest_131 : decode cX5_askSoonest 131 = .ok (.iload 4, 2) := by decide +kernel
theorem dX5_askSoonest_133 : decode cX5_askSoonest 133 = .ok (.aload_n 0, 1) := by decide +kernel
theorem dX5_askSoonest_134 : decode cX5_askSoonest 134 = .ok (.getfield 39, 3) := by decide +kernel
theorem dX5_askSoonest_137 : decode cX5_askSoonest 137 = .ok (.getfield 96, 3) := by decide +kernel
theorem dX5_askSoonest_140 : decode cX5_askSoonest 140 = .ok (.if_icmp .ge 36, 3) := by decide +kernel
theorem dX5_askSoonest_143 : decode cX5_askSoonest 143 = .ok (.aload_n 0, 1) := by decide +kernel
theorem dX5_askSoonest_144 : decode cX5_askSoonest 144 = .ok (.getfield 18, 3) := by decide +kernel
theorem dX5_askSoonest_147 : decode cX5_askSoonest 147 = .ok (.aload_n 0, 1) := by decide +kernel
theorem dX5_askSoonest_148 : decode cX5_askSoonest 148 = .ok (.getfield 35, 3) := by decide +kernel
theorem dX5_askSoonest_151 : decode cX5_askSoonest 151 = .ok (.getfield 99, 3) := by decide +kernel
theorem dX5_askSoonest_154 : decode cX5_askSoonest 154 = .ok (.iload_n 3, 1) := by decide +kernel
theorem dX5_askSoonest_155 : decode cX5_askSoonest 155 = .ok (.iaload, 1) := by decide +kernel
theorem dX5_askSoonest_156 : decode cX5_askSoonest 156 = .ok (.aload_n 0, 1) := by decide +kernel
theorem dX5_askSoonest_157 : decode cX5_askSoonest 157 = .ok (.getfield 18, 3) := by decide +kernel
theorem dX5_askSoonest_160 : decode cX5_askSoonest 160 = .ok (.aload_n 0, 1) := by decide +kernel
theorem dX5_askSoonest_161 : decode cX5_askSoonest 161 = .ok (.getfield 35, 3) := by decide +kernel
theorem dX5_askSoonest_164 : decode cX5_askSoonest 164 = .ok (.getfield 99, 3) := by decide +kernel
theorem dX5_askSoonest_167 : decode cX5_askSoonest 167 = .ok (.iload_n 3, 1) := by decide +kernel
theorem dX5_askSoonest_168 : decode cX5_askSoonest 168 = .ok (.iaload, 1) := by decide +kernel
theorem dX5_askSoonest_169 : decode cX5_askSoonest 169 = .ok (.iaload, 1) := by decide +kernel
theorem dX5_askSoonest_170 : decode cX5_askSoonest 170 = .ok (.iload 4, 2) := by decide +kernel
theorem dX5_askSoonest_172 : decode cX5_askSoonest 172 = .ok (.invokestatic 81, 3) := by decide +kernel
theorem dX5_askSoonest_175 : decode cX5_askSoonest 175 = .ok (.iastore, 1) := by decide +kernel
theorem dX5_askSoonest_176 : decode cX5_askSoonest 176 = .ok (.iinc 3 1, 3) := by decide +kernel
theorem dX5_askSoonest_179 : decode cX5_askSoonest 179 = .ok (.goto (-87), 3) := by decide +kernel
theorem dX5_askSoonest_182 : decode cX5_askSoonest 182 = .ok (.return_, 1) := by decide +kernel
theorem dX5_mostFare_0 : decode cX5_mostFare 0 = .ok (.aload_n 0, 1) := by decide +kernel
theorem dX5_mostFare_1 : decode cX5_mostFare 1 = .ok (.getfield 47, 3) := by decide +kernel
theorem dX5_mostFare_4 : decode cX5_mostFare 4 = .ok (.iload_n 1, 1) := by decide +kernel
theorem dX5_mostFare_5 : decode cX5_mostFare 5 = .ok (.imul, 1) := by decide +kernel
theorem dX5_mostFare_6 : decode cX5_mostFare 6 = .ok (.ireturn, 1) := by decide +kernel
theorem dX5_endedAt_0 : decode cX5_endedAt 0 = .ok (.aload_n 0, 1) := by decide +kernel
theorem dX5_endedAt_1 : decode cX5_endedAt 1 = .ok (.iload_n 1, 1) := by decide +kernel
theorem dX5_endedAt_2 : decode cX5_endedAt 2 = .ok (.iload_n 2, 1) := by decide +kernel
theorem dX5_endedAt_3 : decode cX5_endedAt 3 = .ok (.invokevirtual 102, 3) := by decide +kernel
theorem dX5_endedAt_6 : decode cX5_endedAt 6 = .ok (.ifCond .eq 19, 3) := by decide +kernel
theorem dX5_endedAt_9 : decode cX5_endedAt 9 = .ok (.aload_n 0, 1) := by decide +kernel
theorem dX5_endedAt_10 : decode cX5_endedAt 10 = .ok (.getfield 9, 3) := by decide +kernel
theorem dX5_endedAt_13 : decode cX5_endedAt 13 = .ok (.aload_n 0, 1) := by decide +kernel
theorem dX5_endedAt_14 : decode cX5_endedAt 14 = .ok (.iload_n 1, 1) := by decide +kernel
theorem dX5_endedAt_15 : decode cX5_endedAt 15 = .ok (.iload_n 2, 1) := by decide +kernel
theorem dX5_endedAt_16 : decode cX5_endedAt 16 = .ok (.invokevirtual 50, 3) := by decide +kernel
theorem dX5_endedAt_19 : decode cX5_endedAt 19 = .ok (.iload_n 3, 1) := by decide +kernel
theorem dX5_endedAt_20 : decode cX5_endedAt 20 = .ok (.iadd, 1) := by decide +kernel
theorem dX5_endedAt_21 : decode cX5_endedAt 21 = .ok (.iaload, 1) := by decide +kernel
theorem dX5_endedAt_22 : decode cX5_endedAt 22 = .ok (.goto 5, 3) := by decide +kernel
theorem dX5_endedAt_25 : decode cX5_endedAt 25 = .ok (.ldc 54, 2) := by decide +kernel
theorem dX5_endedAt_27 : decode cX5_endedAt 27 = .ok (.ireturn, 1) := by decide +kernel
theorem dX5_readyAt_0 : decode cX5_readyAt 0 = .ok (.iload_n 1, 1) := by decide +kernel
theorem dX5_readyAt_1 : decode cX5_readyAt 1 = .ok (.iconst 3, 1) := by decide +kernel
theorem dX5_readyAt_2 : decode cX5_readyAt 2 = .ok (.if_icmp .ge 28, 3) := by decide +kernel
theorem dX5_readyAt_5 : decode cX5_readyAt 5 = .ok (.aload_n 0, 1) := by decide +kernel
theorem dX5_readyAt_6 : decode cX5_readyAt 6 = .ok (.iload_n 1, 1) := by decide +kernel
theorem dX5_readyAt_7 : decode cX5_readyAt 7 = .ok (.iload_n 2, 1) := by decide +kernel
theorem dX5_readyAt_8 : decode cX5_readyAt 8 = .ok (.invokevirtual 102, 3) := by decide +kernel
theorem dX5_readyAt_11 : decode cX5_readyAt 11 = .ok (.ifCond .eq 19, 3) := by decide +kernel
theorem dX5_readyAt_14 : decode cX5_readyAt 14 = .ok (.aload_n 0, 1) := by decide +kernel
theorem dX5_readyAt_15 : decode cX5_readyAt 15 = .ok (.getfield 15, 3) := by decide +kernel
theorem dX5_readyAt_18 : decode cX5_readyAt 18 = .ok (.aload_n 0, 1) := by decide +kernel
theorem dX5_readyAt_19 : decode cX5_readyAt 19 = .ok (.iload_n 1, 1) := by decide +kernel
theorem dX5_readyAt_20 : decode cX5_readyAt 20 = .ok (.iload_n 2, 1) := by decide +kernel
theorem dX5_readyAt_21 : decode cX5_readyAt 21 = .ok (.invokevirtual 50, 3) := by decide +kernel
theorem dX5_readyAt_24 : decode cX5_readyAt 24 = .ok (.iload_n 3, 1) := by decide +kernel
theorem dX5_readyAt_25 : decode cX5_readyAt 25 = .ok (.iadd, 1) := by decide +kernel
theorem dX5_readyAt_26 : decode cX5_readyAt 26 = .ok (.iaload, 1) := by decide +kernel
theorem dX5_readyAt_27 : decode cX5_readyAt 27 = .ok (.goto 5, 3) := by decide +kernel
theorem dX5_readyAt_30 : decode cX5_readyAt 30 = .ok (.ldc 54, 2) := by decide +kernel
theorem dX5_readyAt_32 : decode cX5_readyAt 32 = .ok (.ireturn, 1) := by decide +kernel
theorem dX5_arrival_0 : decode cX5_arrival 0 = .ok (.aload_n 0, 1) := by decide +kernel
theorem dX5_arrival_1 : decode cX5_arrival 1 = .ok (.iload_n 1, 1) := by decide +kernel
theorem dX5_arrival_2 : decode cX5_arrival 2 = .ok (.iload_n 2, 1) := by decide +kernel
theorem dX5_arrival_3 : decode cX5_arrival 3 = .ok (.iload_n 3, 1) := by decide +kernel
theorem dX5_arrival_4 : decode cX5_arrival 4 = .ok (.invokevirtual 106, 3) := by decide +kernel
theorem dX5_arrival_7 : decode cX5_arrival 7 = .ok (.istore 4, 2) := by decide +kernel
theorem dX5_arrival_9 : decode cX5_arrival 9 = .ok (.iconst 0, 1) := by decide +kernel
theorem dX5_arrival_10 : decode cX5_arrival 10 = .ok (.istore 5, 2) := by decide +kernel
theorem dX5_arrival_12 : decode cX5_arrival 12 = .ok (.iload 5, 2) := by decide +kernel
theorem dX5_arrival_14 : decode cX5_arrival 14 = .ok (.aload_n 0, 1) := by decide +kernel
theorem dX5_arrival_15 : decode cX5_arrival 15 = .ok (.getfield 35, 3) := by decide +kernel
theorem dX5_arrival_18 : decode cX5_arrival 18 = .ok (.getfield 86, 3) := by decide +kernel
theorem dX5_arrival_21 : decode cX5_arrival 21 = .ok (.if_icmp .ge 63, 3) := by decide +kernel
theorem dX5_arrival_24 : decode cX5_arrival 24 = .ok (.aload_n 0, 1) := by decide +kernel
theorem dX5_arrival_25 : decode cX5_arrival 25 = .ok (.getfield 35, 3) := by decide +kernel
theorem dX5_arrival_28 : decode cX5_arrival 28 = .ok (.getfield 99, 3) := by decide +kernel
theorem dX5_arrival_31 : decode cX5_arrival 31 = .ok (.iload 5, 2) := by decide +kernel
theorem dX5_arrival_33 : decode cX5_arrival 33 = .ok (.iaload, 1) := by decide +kernel
theorem dX5_arrival_34 : decode cX5_arrival 34 = .ok (.iload_n 3, 1) := by decide +kernel
theorem dX5_arrival_35 : decode cX5_arrival 35 = .ok (.if_icmp .ne 43, 3) := by decide +kernel
theorem dX5_arrival_38 : decode cX5_arrival 38 = .ok (.aload_n 0, 1) := by decide +kernel
theorem dX5_arrival_39 : decode cX5_arrival 39 = .ok (.iload_n 1, 1) := by decide +kernel
theorem dX5_arrival_40 : decode cX5_arrival 40 = .ok (.iload_n 2, 1) := by decide +kernel
theorem dX5_arrival_41 : decode cX5_arrival 41 = .ok (.aload_n 0, 1) := by decide +kernel
theorem dX5_arrival_42 : decode cX5_arrival 42 = .ok (.getfield 35, 3) := by decide +kernel
theorem dX5_arrival_45 : decode cX5_arrival 45 = .ok (.getfield 89, 3) := by decide +kernel
theorem dX5_arrival_48 : decode cX5_arrival 48 = .ok (.iload 5, 2) := by decide +kernel
theorem dX5_arrival_50 : decode cX5_arrival 50 = .ok (.iaload, 1) := by decide +kernel
theorem dX5_arrival_51 : decode cX5_arrival 51 = .ok (.invokevirtual 106, 3) := by decide +kernel
theorem dX5_arrival_54 : decode cX5_arrival 54 = .ok (.istore 6, 2) := by decide +kernel
theorem dX5_arrival_56 : decode cX5_arrival 56 = .ok (.iload 4, 2) := by decide +kernel
theorem dX5_arrival_58 : decode cX5_arrival 58 = .ok (.aload_n 0, 1) := by decide +kernel
theorem dX5_arrival_59 : decode cX5_arrival 59 = .ok (.getfield 35, 3) := by decide +kernel
theorem dX5_arrival_62 : decode cX5_arrival 62 = .ok (.iload 5, 2) := by decide +kernel
theorem dX5_arrival_64 : decode cX5_arrival 64 = .ok (.iload 6, 2) := by decide +kernel
theorem dX5_arrival_66 : decode cX5_arrival 66 = .ok (.aload_n 0, 1) := by decide +kernel
theorem dX5_arrival_67 : decode cX5_arrival 67 = .ok (.getfield 43, 3) := by decide +kernel
theorem dX5_arrival_70 : decode cX5_arrival 70 = .ok (.invokevirtual 92, 3) := by decide +kernel
theorem dX5_arrival_73 : decode cX5_arrival 73 = .ok (.invokestatic 81, 3) := by decide +kernel
theorem dX5_arrival_76 : decode cX5_arrival 76 = .ok (.istore 4, 2) := by decide +kernel
theorem dX5_arrival_78 : decode cX5_arrival 78 = .ok (.iinc 5 1, 3) := by decide +kernel
theorem dX5_arrival_81 : decode cX5_arrival 81 = .ok (.goto (-69), 3) := by decide +kernel
theorem dX5_arrival_84 : decode cX5_arrival 84 = .ok (.iload 4, 2) := by decide +kernel
theorem dX5_arrival_86 : decode cX5_arrival 86 = .ok (.aload_n 0, 1) := by decide +kernel
theorem dX5_arrival_87 : decode cX5_arrival 87 = .ok (.getfield 39, 3) := by decide +kernel
theorem dX5_arrival_90 : decode cX5_arrival 90 = .ok (.getfield 96, 3) := by decide +kernel
theorem dX5_arrival_93 : decode cX5_arrival 93 = .ok (.if_icmp .ge 8, 3) := by decide +kernel
theorem dX5_arrival_96 : decode cX5_arrival 96 = .ok (.iload 4, 2) := by decide +kernel
theorem dX5_arrival_98 : decode cX5_arrival 98 = .ok (.goto 5, 3) := by decide +kernel
theorem dX5_arrival_101 : decode cX5_arrival 101 = .ok (.ldc 54, 2) := by decide +kernel
theorem dX5_arrival_103 : decode cX5_arrival 103 = .ok (.ireturn, 1) := by decide +kernel
theorem dX5_canCost_0 : decode cX5_canCost 0 = .ok (.iload_n 1, 1) := by decide +kernel
theorem dX5_canCost_1 : decode cX5_canCost 1 = .ok (.iconst 0, 1) := by decide +kernel
theorem dX5_canCost_2 : decode cX5_canCost 2 = .ok (.iconst 3, 1) := by decide +kernel
theorem dX5_canCost_3 : decode cX5_canCost 3 = .ok (.invokestatic 109, 3) := by decide +kernel
theorem dX5_canCost_6 : decode cX5_canCost 6 = .ok (.ifCond .eq 20, 3) := by decide +kernel
theorem dX5_canCost_9 : decode cX5_canCost 9 = .ok (.iload_n 2, 1) := by decide +kernel
theorem dX5_canCost_10 : decode cX5_canCost 10 = .ok (.iconst 0, 1) := by decide +kernel
theorem dX5_canCost_11 : decode cX5_canCost 11 = .ok (.aload_n 0, 1) := by decide +kernel
theorem dX5_canCost_12 : decode cX5_canCost 12 = .ok (.iload_n 1, 1) := by decide +kernel
theorem dX5_canCost_13 : decode cX5_canCost 13 = .ok (.invokevirtual 113, 3) := by decide +kernel
theorem dX5_canCost_16 : decode cX5_canCost 16 = .ok (.invokestatic 109, 3) := by decide +kernel
theorem dX5_canCost_19 : decode cX5_canCost 19 = .ok (.ifCond .eq 7, 3) := by decide +kernel
theorem dX5_canCost_22 : decode cX5_canCost 22 = .ok (.iconst 1, 1) := by decide +kernel
theorem dX5_canCost_23 : decode cX5_canCost 23 = .ok (.goto 4, 3) := by decide +kernel
theorem dX5_canCost_26 : decode cX5_canCost 26 = .ok (.iconst 0, 1) := by decide +kernel
theorem dX5_canCost_27 : decode cX5_canCost 27 = .ok (.ireturn, 1) := by decide +kernel
theorem dX5_row_0 : decode cX5_row 0 = .ok (.iload_n 1, 1) := by decide +kernel
theorem dX5_row_1 : decode cX5_row 1 = .ok (.aload_n 0, 1) := by decide +kernel
theorem dX5_row_2 : decode cX5_row 2 = .ok (.getfield 47, 3) := by decide +kernel
theorem dX5_row_5 : decode cX5_row 5 = .ok (.iload_n 1, 1) := by decide +kernel
theorem dX5_row_6 : decode cX5_row 6 = .ok (.iload_n 1, 1) := by decide +kernel
theorem dX5_row_7 : decode cX5_row 7 = .ok (.iconst 1, 1) := by decide +kernel
theorem dX5_row_8 : decode cX5_row 8 = .ok (.isub, 1) := by decide +kernel
theorem dX5_row_9 : decode cX5_row 9 = .ok (.imul, 1) := by decide +kernel
theorem dX5_row_10 : decode cX5_row 10 = .ok (.iconst 2, 1) := by decide +kernel
theorem dX5_row_11 : decode cX5_row 11 = .ok (.idiv, 1) := by decide +kernel
theorem dX5_row_12 : decode cX5_row 12 = .ok (.imul, 1) := by decide +kernel
theorem dX5_row_13 : decode cX5_row 13 = .ok (.iadd, 1) := by decide +kernel
theorem dX5_row_14 : decode cX5_row 14 = .ok (.iload_n 2, 1) := by decide +kernel
theorem dX5_row_15 : decode cX5_row 15 = .ok (.iadd, 1) := by decide +kernel
theorem dX5_row_16 : decode cX5_row 16 = .ok (.bipush 12, 2) := by decide +kernel
theorem dX5_row_18 : decode cX5_row 18 = .ok (.imul, 1) := by decide +kernel
theorem dX5_row_19 : decode cX5_row 19 = .ok (.ireturn, 1) := by decide +kernel
theorem dX5_getReady_0 : decode cX5_getReady 0 = .ok (.iconst 0, 1) := by decide +kernel
theorem dX5_getReady_1 : decode cX5_getReady 1 = .ok (.istore_n 2, 1) := by decide +kernel
theorem dX5_getReady_2 : decode cX5_getReady 2 = .ok (.iload_n 2, 1) := by decide +kernel
theorem dX5_getReady_3 : decode cX5_getReady 3 = .ok (.aload_n 0, 1) := by decide +kernel
theorem dX5_getReady_4 : decode cX5_getReady 4 = .ok (.iload_n 1, 1) := by decide +kernel
theorem dX5_getReady_5 : decode cX5_getReady 5 = .ok (.invokevirtual 113, 3) := by decide +kernel
theorem dX5_getReady_8 : decode cX5_getReady 8 = .ok (.if_icmp .gt 174, 3) := by decide +kernel
theorem dX5_getReady_11 : decode cX5_getReady 11 = .ok (.aload_n 0, 1) := by decide +kernel
theorem dX5_getReady_12 : decode cX5_getReady 12 = .ok (.iload_n 1, 1) := by decide +kernel
theorem dX5_getReady_13 : decode cX5_getReady 13 = .ok (.iload_n 2, 1) := by decide +kernel
theorem dX5_getReady_14 : decode cX5_getReady 14 = .ok (.invokevirtual 50, 3) := by decide +kernel
theorem dX5_getReady_17 : decode cX5_getReady 17 = .ok (.istore_n 3, 1) := by decide +kernel
theorem dX5_getReady_18 : decode cX5_getReady 18 = .ok (.iconst 0, 1) := by decide +kernel
theorem dX5_getReady_19 : decode cX5_getReady 19 = .ok (.istore 4, 2) := by decide +kernel
theorem dX5_getReady_21 : decode cX5_getReady 21 = .ok (.iload 4, 2) := by decide +kernel
theorem dX5_getReady_23 : decode cX5_getReady 23 = .ok (.aload_n 0, 1) := by decide +kernel
theorem dX5_getReady_24 : decode cX5_getReady 24 = .ok (.getfield 27, 3) := by decide +kernel
theorem dX5_getReady_27 : decode cX5_getReady 27 = .ok (.getfield 78, 3) := by decide +kernel
theorem dX5_getReady_30 : decode cX5_getReady 30 = .ok (.if_icmp .ge 60, 3) := by decide +kernel
theorem dX5_getReady_33 : decode cX5_getReady 33 = .ok (.aload_n 0, 1) := by decide +kernel
theorem dX5_getReady_34 : decode cX5_getReady 34 = .ok (.getfield 9, 3) := by decide +kernel
theorem dX5_getReady_37 : decode cX5_getReady 37 = .ok (.iload_n 3, 1) := by decide +kernel
theorem dX5_getReady_38 : decode cX5_getReady 38 = .ok (.iload 4, 2) := by decide +kernel
theorem dX5_getReady_40 : decode cX5_getReady 40 = .ok (.iadd, 1) := by decide +kernel
theorem dX5_getReady_41 : decode cX5_getReady 41 = .ok (.iaload, 1) := by decide +kernel
theorem dX5_getReady_42 : decode cX5_getReady 42 = .ok (.ldc 54, 2) := by decide +kernel
theorem dX5_getReady_44 : decode cX5_getReady 44 = .ok (.if_icmp .ge 40, 3) := by decide +kernel
theorem dX5_getReady_47 : decode cX5_getReady 47 = .ok (.aload_n 0, 1) := by decide +kernel
theorem dX5_getReady_48 : decode cX5_getReady 48 = .ok (.getfield 15, 3) := by decide +kernel
theorem dX5_getReady_51 : decode cX5_getReady 51 = .ok (.iload_n 3, 1) := by decide +kernel
theorem dX5_getReady_52 : decode cX5_getReady 52 = .ok (.iload 4, 2) := by decide +kernel
theorem dX5_getReady_54 : decode cX5_getReady 54 = .ok (.iadd, 1) := by decide +kernel
theorem dX5_getReady_55 : decode cX5_getReady 55 = .ok (.aload_n 0, 1) := by decide +kernel
theorem dX5_getReady_56 : decode cX5_getReady 56 = .ok (.getfield 9, 3) := by decide +kernel
theorem dX5_getReady_59 : decode cX5_getReady 59 = .ok (.iload_n 3, 1) := by decide +kernel
theorem dX5_getReady_60 : decode cX5_getReady 60 = .ok (.iload 4, 2) := by decide +kernel
theorem dX5_getReady_62 : decode cX5_getReady 62 = .ok (.iadd, 1) := by decide +kernel
theorem dX5_getReady_63 : decode cX5_getReady 63 = .ok (.iaload, 1) := by decide +kernel
theorem dX5_getReady_64 : decode cX5_getReady 64 = .ok (.iload_n 1, 1) := by decide +kernel
theorem dX5_getReady_65 : decode cX5_getReady 65 = .ok (.ifCond .ne 7, 3) := by decide +kernel
theorem dX5_getReady_68 : decode cX5_getReady 68 = .ok (.iconst 0, 1) := by decide +kernel
theorem dX5_getReady_69 : decode cX5_getReady 69 = .ok (.goto 13, 3) := by decide +kernel
theorem dX5_getReady_72 : decode cX5_getReady 72 = .ok (.aload_n 0, 1) := by decide +kernel
theorem dX5_getReady_73 : decode cX5_getReady 73 = .ok (.getfield 27, 3) := by decide +kernel
theorem dX5_getReady_76 : decode cX5_getReady 76 = .ok (.getfield 117, 3) := by decide +kernel
theorem dX5_getReady_79 : decode cX5_getReady 79 = .ok (.iload 4, 2) := by decide +kernel
theorem dX5_getReady_81 : decode cX5_getReady 81 = .ok (.iaload, 1) := by decide +kernel
theorem dX5_getReady_82 : decode cX5_getReady 82 = .ok (.iadd, 1) := by decide +kernel
theorem dX5_getReady_83 : decode cX5_getReady 83 = .ok (.iastore, 1) := by decide +kernel
theorem dX5_getReady_84 : decode cX5_getReady 84 = .ok (.iinc 4 1, 3) := by decide +kernel
theorem dX5_getReady_87 : decode cX5_getReady 87 = .ok (.goto (-66), 3) := by decide +kernel
theorem dX5_getReady_90 : decode cX5_getReady 90 = .ok (.iconst 0, 1) := by decide +kernel
theorem dX5_getReady_91 : decode cX5_getReady 91 = .ok (.istore 4, 2) := by decide +kernel
theorem dX5_getReady_93 : decode cX5_getReady 93 = .ok (.iload 4, 2) := by decide +kernel
theorem dX5_getReady_95 : decode cX5_getReady 95 = .ok (.aload_n 0, 1) := by decide +kernel
theorem dX5_getReady_96 : decode cX5_getReady 96 = .ok (.getfield 35, 3) := by decide +kernel
theorem dX5_getReady_99 : decode cX5_getReady 99 = .ok (.getfield 86, 3) := by decide +kernel
theorem dX5_getReady_102 : decode cX5_getReady 102 = .ok (.if_icmp .ge 74, 3) := by decide +kernel
theorem dX5_getReady_105 : decode cX5_getReady 105 = .ok (.iload_n 3, 1) := by decide +kernel
theorem dX5_getReady_106 : decode cX5_getReady 106 = .ok (.aload_n 0, 1) := by decide +kernel
theorem dX5_getReady_107 : decode cX5_getReady 107 = .ok (.getfield 35, 3) := by decide +kernel
theorem dX5_getReady_110 : decode cX5_getReady 110 = .ok (.getfield 99, 3) := by decide +kernel
theorem dX5_getReady_113 : decode cX5_getReady 113 = .ok (.iload 4, 2) := by decide +kernel
theorem dX5_getReady_115 : decode cX5_getReady 115 = .ok (.iaload, 1) := by decide +kernel
theorem dX5_getReady_116 : decode cX5_getReady 116 = .ok (.iadd, 1) := by decide +kernel
theorem dX5_getReady_117 : decode cX5_getReady 117 = .ok (.istore 5, 2) := by decide +kernel
theorem dX5_getReady_119 : decode cX5_getReady 119 = .ok (.aload_n 0, 1) := by decide +kernel
theorem dX5_getReady_120 : decode cX5_getReady 120 = .ok (.getfield 35, 3) := by decide +kernel
theorem dX5_getReady_123 : decode cX5_getReady 123 = .ok (.iload 4, 2) := by decide +kernel
theorem dX5_getReady_125 : decode cX5_getReady 125 = .ok (.aload_n 0, 1) := by decide +kernel
theorem dX5_getReady_126 : decode cX5_getReady 126 = .ok (.getfield 9, 3) := by decide +kernel
theorem dX5_getReady_129 : decode cX5_getReady 129 = .ok (.iload_n 3, 1) := by decide +kernel
theorem dX5_getReady_130 : decode cX5_getReady 130 = .ok (.aload_n 0, 1) := by decide +kernel
theorem dX5_getReady_131 : decode cX5_getReady 131 = .ok (.getfield 35, 3) := by decide +kernel
theorem dX5_getReady_134 : decode cX5_getReady 134 = .ok (.getfield 89, 3) := by decide +kernel
theorem dX5_getReady_137 : decode cX5_getReady 137 = .ok (.iload 4, 2) := by decide +kernel
theorem dX5_getReady_139 : decode cX5_getReady 139 = .ok (.iaload, 1) := by decide +kernel
theorem dX5_getReady_140 : decode cX5_getReady 140 = .ok (.iadd, 1) := by decide +kernel
theorem dX5_getReady_141 : decode cX5_getReady 141 = .ok (.iaload, 1) := by decide +kernel
theorem dX5_getReady_142 : decode cX5_getReady 142 = .ok (.aload_n 0, 1) := by decide +kernel
theorem dX5_getReady_143 : decode cX5_getReady 143 = .ok (.getfield 43, 3) := by decide +kernel
theorem dX5_getReady_146 : decode cX5_getReady 146 = .ok (.invokevirtual 92, 3) := by decide +kernel
theorem dX5_getReady_149 : decode cX5_getReady 149 = .ok (.istore 6, 2) := by decide +kernel
theorem dX5_getReady_151 : decode cX5_getReady 151 = .ok (.aload_n 0, 1) := by decide +kernel
theorem dX5_getReady_152 : decode cX5_getReady 152 = .ok (.getfield 15, 3) := by decide +kernel
theorem dX5_getReady_155 : decode cX5_getReady 155 = .ok (.iload 5, 2) := by decide +kernel
theorem dX5_getReady_157 : decode cX5_getReady 157 = .ok (.aload_n 0, 1) := by decide +kernel
theorem dX5_getReady_158 : decode cX5_getReady 158 = .ok (.getfield 15, 3) := by decide +kernel
theorem dX5_getReady_161 : decode cX5_getReady 161 = .ok (.iload 5, 2) := by decide +kernel
theorem dX5_getReady_163 : decode cX5_getReady 163 = .ok (.iaload, 1) := by decide +kernel
theorem dX5_getReady_164 : decode cX5_getReady 164 = .ok (.iload 6, 2) := by decide +kernel
theorem dX5_getReady_166 : decode cX5_getReady 166 = .ok (.invokestatic 81, 3) := by decide +kernel
theorem dX5_getReady_169 : decode cX5_getReady 169 = .ok (.iastore, 1) := by decide +kernel
theorem dX5_getReady_170 : decode cX5_getReady 170 = .ok (.iinc 4 1, 3) := by decide +kernel
theorem dX5_getReady_173 : decode cX5_getReady 173 = .ok (.goto (-80), 3) := by decide +kernel
theorem dX5_getReady_176 : decode cX5_getReady 176 = .ok (.iinc 2 1, 3) := by decide +kernel
theorem dX5_getReady_179 : decode cX5_getReady 179 = .ok (.goto (-177), 3) := by decide +kernel
theorem dX5_getReady_182 : decode cX5_getReady 182 = .ok (.return_, 1) := by decide +kernel
theorem dX5_ride_0 : decode cX5_ride 0 = .ok (.aload_n 0, 1) := by decide +kernel
theorem dX5_ride_1 : decode cX5_ride 1 = .ok (.getfield 39, 3) := by decide +kernel
theorem dX5_ride_4 : decode cX5_ride 4 = .ok (.getfield 120, 3) := by decide +kernel
theorem dX5_ride_7 : decode cX5_ride 7 = .ok (.iload_n 2, 1) := by decide +kernel
theorem dX5_ride_8 : decode cX5_ride 8 = .ok (.iaload, 1) := by decide +kernel
theorem dX5_ride_9 : decode cX5_ride 9 = .ok (.istore_n 3, 1) := by decide +kernel
theorem dX5_ride_10 : decode cX5_ride 10 = .ok (.aload_n 0, 1) := by decide +kernel
theorem dX5_ride_11 : decode cX5_ride 11 = .ok (.getfield 24, 3) := by decide +kernel
theorem dX5_ride_14 : decode cX5_ride 14 = .ok (.iconst 0, 1) := by decide +kernel
theorem dX5_ride_15 : decode cX5_ride 15 = .ok (.invokestatic 123, 3) := by decide +kernel
theorem dX5_ride_18 : decode cX5_ride 18 = .ok (.iconst 0, 1) := by decide +kernel
theorem dX5_ride_19 : decode cX5_ride 19 = .ok (.istore 4, 2) := by decide +kernel
theorem dX5_ride_21 : decode cX5_ride 21 = .ok (.iload 4, 2) := by decide +kernel
theorem dX5_ride_23 : decode cX5_ride 23 = .ok (.aload_n 0, 1) := by decide +kernel
theorem dX5_ride_24 : decode cX5_ride 24 = .ok (.getfield 31, 3) := by decide +kernel
theorem dX5_ride_27 : decode cX5_ride 27 = .ok (.getfield 126, 3) := by decide +kernel
theorem dX5_ride_30 : decode cX5_ride 30 = .ok (.iload_n 3, 1) := by decide +kernel
theorem dX5_ride_31 : decode cX5_ride 31 = .ok (.iaload, 1) := by decide +kernel
theorem dX5_ride_32 : decode cX5_ride 32 = .ok (.if_icmp .ge 75, 3) := by decide +kernel
theorem dX5_ride_35 : decode cX5_ride 35 = .ok (.aload_n 0, 1) := by decide +kernel
theorem dX5_ride_36 : decode cX5_ride 36 = .ok (.getfield 31, 3) := by decide +kernel
theorem dX5_ride_39 : decode cX5_ride 39 = .ok (.iload_n 3, 1) := by decide +kernel
theorem dX5_ride_40 : decode cX5_ride 40 = .ok (.iload 4, 2) := by decide +kernel
theorem dX5_ride_42 : decode cX5_ride 42 = .ok (.invokevirtual 131, 3) := by decide +kernel
theorem dX5_ride_45 : decode cX5_ride 45 = .ok (.istore 5, 2) := by decide +kernel
theorem dX5_ride_47 : decode cX5_ride 47 = .ok (.iload 5, 2) := by decide +kernel
theorem dX5_ride_49 : decode cX5_ride 49 = .ok (.ifCond .eq 11, 3) := by decide +kernel
theorem dX5_ride_52 : decode cX5_ride 52 = .ok (.aload_n 0, 1) := by decide +kernel
theorem dX5_ride_53 : decode cX5_ride 53 = .ok (.iload_n 1, 1) := by decide +kernel
theorem dX5_ride_54 : decode cX5_ride 54 = .ok (.iload_n 2, 1) := by decide +kernel
theorem dX5_ride_55 : decode cX5_ride 55 = .ok (.iload 4, 2) := by decide +kernel
theorem dX5_ride_57 : decode cX5_ride 57 = .ok (.invokevirtual 134, 3) := by decide +kernel
theorem dX5_ride_60 : decode cX5_ride 60 = .ok (.aload_n 0, 1) := by decide +kernel
theorem dX5_ride_61 : decode cX5_ride 61 = .ok (.getfield 39, 3) := by decide +kernel
theorem dX5_ride_64 : decode cX5_ride 64 = .ok (.getfield 137, 3) := by decide +kernel
theorem dX5_ride_67 : decode cX5_ride 67 = .ok (.iload_n 2, 1) := by decide +kernel
theorem dX5_ride_68 : decode cX5_ride 68 = .ok (.iaload, 1) := by decide +kernel
theorem dX5_ride_69 : decode cX5_ride 69 = .ok (.iload 4, 2) := by decide +kernel
theorem dX5_ride_71 : decode cX5_ride 71 = .ok (.ishr, 1) := by decide +kernel
theorem dX5_ride_72 : decode cX5_ride 72 = .ok (.iconst 1, 1) := by decide +kernel
theorem dX5_ride_73 : decode cX5_ride 73 = .ok (.iand, 1) := by decide +kernel
theorem dX5_ride_74 : decode cX5_ride 74 = .ok (.ifCond .eq 14, 3) := by decide +kernel
theorem dX5_ride_77 : decode cX5_ride 77 = .ok (.aload_n 0, 1) := by decide +kernel
theorem dX5_ride_78 : decode cX5_ride 78 = .ok (.getfield 24, 3) := by decide +kernel
theorem dX5_ride_81 : decode cX5_ride 81 = .ok (.iconst 0, 1) := by decide +kernel
theorem dX5_ride_82 : decode cX5_ride 82 = .ok (.invokestatic 123, 3) := by decide +kernel
theorem dX5_ride_85 : decode cX5_ride 85 = .ok (.goto 16, 3) := by decide +kernel
theorem dX5_ride_88 : decode cX5_ride 88 = .ok (.iload 5, 2) := by decide +kernel
theorem dX5_ride_90 : decode cX5_ride 90 = .ok (.ifCond .eq 11, 3) := by decide +kernel
theorem dX5_ride_93 : decode cX5_ride 93 = .ok (.aload_n 0, 1) := by decide +kernel
theorem dX5_ride_94 : decode cX5_ride 94 = .ok (.iload_n 1, 1) := by decide +kernel
theorem dX5_ride_95 : decode cX5_ride 95 = .ok (.iload_n 2, 1) := by decide +kernel
theorem dX5_ride_96 : decode cX5_ride 96 = .ok (.iload 4, 2) := by decide +kernel
theorem dX5_ride_98 : decode cX5_ride 98 = .ok (.invokevirtual 140, 3) := by decide +kernel
theorem dX5_ride_101 : decode cX5_ride 101 = .ok (.iinc 4 1, 3) := by decide +kernel
theorem dX5_ride_104 : decode cX5_ride 104 = .ok (.goto (-83), 3) := by decide +kernel
theorem dX5_ride_107 : decode cX5_ride 107 = .ok (.return_, 1) := by decide +kernel
theorem dX5_getOff_0 : decode cX5_getOff 0 = .ok (.aload_n 0, 1) := by decide +kernel
theorem dX5_getOff_1 : decode cX5_getOff 1 = .ok (.getfield 31, 3) := by decide +kernel
theorem dX5_getOff_4 : decode cX5_getOff 4 = .ok (.getfield 143, 3) := by decide +kernel
theorem dX5_getOff_7 : decode cX5_getOff 7 = .ok (.aload_n 0, 1) := by decide +kernel
theorem dX5_getOff_8 : decode cX5_getOff 8 = .ok (.getfield 39, 3) := by decide +kernel
theorem dX5_getOff_11 : decode cX5_getOff 11 = .ok (.getfield 120, 3) := by decide +kernel
theorem dX5_getOff_14 : decode cX5_getOff 14 = .ok (.iload_n 2, 1) := by decide +kernel
theorem dX5_getOff_15 : decode cX5_getOff 15 = .ok (.iaload, 1) := by decide +kernel
theorem dX5_getOff_16 : decode cX5_getOff 16 = .ok (.bipush 8, 2) := by decide +kernel
theorem dX5_getOff_18 : decode cX5_getOff 18 = .ok (.imul, 1) := by decide +kernel
theorem dX5_getOff_19 : decode cX5_getOff 19 = .ok (.iload_n 3, 1) := by decide +kernel
theorem dX5_getOff_20 : decode cX5_getOff 20 = .ok (.iadd, 1) := by decide +kernel
theorem dX5_getOff_21 : decode cX5_getOff 21 = .ok (.iaload, 1) := by decide +kernel
theorem dX5_getOff_22 : decode cX5_getOff 22 = .ok (.istore 4, 2) := by decide +kernel
theorem dX5_getOff_24 : decode cX5_getOff 24 = .ok (.aload_n 0, 1) := by decide +kernel
theorem dX5_getOff_25 : decode cX5_getOff 25 = .ok (.getfield 39, 3) := by decide +kernel
theorem dX5_getOff_28 : decode cX5_getOff 28 = .ok (.getfield 146, 3) := by decide +kernel
theorem dX5_getOff_31 : decode cX5_getOff 31 = .ok (.iload_n 2, 1) := by decide +kernel
theorem dX5_getOff_32 : decode cX5_getOff 32 = .ok (.bipush 8, 2) := by decide +kernel
theorem dX5_getOff_34 : decode cX5_getOff 34 = .ok (.imul, 1) := by decide +kernel
theorem dX5_getOff_35 : decode cX5_getOff 35 = .ok (.iload_n 3, 1) := by decide +kernel
theorem dX5_getOff_36 : decode cX5_getOff 36 = .ok (.iadd, 1) := by decide +kernel
theorem dX5_getOff_37 : decode cX5_getOff 37 = .ok (.iaload, 1) := by decide +kernel
theorem dX5_getOff_38 : decode cX5_getOff 38 = .ok (.istore 5, 2) := by decide +kernel
theorem dX5_getOff_40 : decode cX5_getOff 40 = .ok (.iload 5, 2) := by decide +kernel
theorem dX5_getOff_42 : decode cX5_getOff 42 = .ok (.aload_n 0, 1) := by decide +kernel
theorem dX5_getOff_43 : decode cX5_getOff 43 = .ok (.getfield 39, 3) := by decide +kernel
theorem dX5_getOff_46 : decode cX5_getOff 46 = .ok (.getfield 96, 3) := by decide +kernel
theorem dX5_getOff_49 : decode cX5_getOff 49 = .ok (.if_icmp .ge 20, 3) := by decide +kernel
theorem dX5_getOff_52 : decode cX5_getOff 52 = .ok (.aload_n 0, 1) := by decide +kernel
theorem dX5_getOff_53 : decode cX5_getOff 53 = .ok (.aload_n 0, 1) := by decide +kernel
theorem dX5_getOff_54 : decode cX5_getOff 54 = .ok (.getfield 27, 3) := by decide +kernel
theorem dX5_getOff_57 : decode cX5_getOff 57 = .ok (.getfield 149, 3) := by decide +kernel
theorem dX5_getOff_60 : decode cX5_getOff 60 = .ok (.iload 4, 2) := by decide +kernel
theorem dX5_getOff_62 : decode cX5_getOff 62 = .ok (.iaload, 1) := by decide +kernel
theorem dX5_getOff_63 : decode cX5_getOff 63 = .ok (.invokevirtual 152, 3) := by decide +kernel
theorem dX5_getOff_66 : decode cX5_getOff 66 = .ok (.goto 4, 3) := by decide +kernel
theorem dX5_getOff_69 : decode cX5_getOff 69 = .ok (.iconst 0, 1) := by decide +kernel
theorem dX5_getOff_70 : decode cX5_getOff 70 = .ok (.istore 6, 2) := by decide +kernel
theorem dX5_getOff_72 : decode cX5_getOff 72 = .ok (.iconst 0, 1) := by decide +kernel
theorem dX5_getOff_73 : decode cX5_getOff 73 = .ok (.istore 7, 2) := by decide +kernel
theorem dX5_getOff_75 : decode cX5_getOff 75 = .ok (.iload 6, 2) := by decide +kernel
theorem dX5_getOff_77 : decode cX5_getOff 77 = .ok (.iload 7, 2) := by decide +kernel
theorem dX5_getOff_79 : decode cX5_getOff 79 = .ok (.iushr, 1) := by decide +kernel
theorem dX5_getOff_80 : decode cX5_getOff 80 = .ok (.ifCond .eq 60, 3) := by decide +kernel
theorem dX5_getOff_83 : decode cX5_getOff 83 = .ok (.iload 7, 2) := by decide +kernel
theorem dX5_getOff_85 : decode cX5_getOff 85 = .ok (.aload_n 0, 1) := by decide +kernel
theorem dX5_getOff_86 : decode cX5_getOff 86 = .ok (.iload_n 1, 1) := by decide +kernel
theorem dX5_getOff_87 : decode cX5_getOff 87 = .ok (.invokevirtual 113, 3) := by decide +kernel
theorem dX5_getOff_90 : decode cX5_getOff 90 = .ok (.if_icmp .gt 50, 3) := by decide +kernel
theorem dX5_getOff_93 : decode cX5_getOff 93 = .ok (.iload 6, 2) := by decide +kernel
theorem dX5_getOff_95 : decode cX5_getOff 95 = .ok (.iload 7, 2) := by decide +kernel
theorem dX5_getOff_97 : decode cX5_getOff 97 = .ok (.ishr, 1) := by decide +kernel
theorem dX5_getOff_98 : decode cX5_getOff 98 = .ok (.iconst 1, 1) := by decide +kernel
theorem dX5_getOff_99 : decode cX5_getOff 99 = .ok (.iand, 1) := by decide +kernel
theorem dX5_getOff_100 : decode cX5_getOff 100 = .ok (.ifCond .eq 34, 3) := by decide +kernel
theorem dX5_getOff_103 : decode cX5_getOff 103 = .ok (.aload_n 0, 1) := by decide +kernel
theorem dX5_getOff_104 : decode cX5_getOff 104 = .ok (.iload_n 1, 1) := by decide +kernel
theorem dX5_getOff_105 : decode cX5_getOff 105 = .ok (.iload 7, 2) := by decide +kernel
theorem dX5_getOff_107 : decode cX5_getOff 107 = .ok (.invokevirtual 50, 3) := by decide +kernel
theorem dX5_getOff_110 : decode cX5_getOff 110 = .ok (.iload 4, 2) := by decide +kernel
theorem dX5_getOff_112 : decode cX5_getOff 112 = .ok (.iadd, 1) := by decide +kernel
theorem dX5_getOff_113 : decode cX5_getOff 113 = .ok (.istore 8, 2) := by decide +kernel
theorem dX5_getOff_115 : decode cX5_getOff 115 = .ok (.aload_n 0, 1) := by decide +kernel
theorem dX5_getOff_116 : decode cX5_getOff 116 = .ok (.getfield 9, 3) := by decide +kernel
theorem dX5_getOff_119 : decode cX5_getOff 119 = .ok (.iload 8, 2) := by decide +kernel
theorem dX5_getOff_121 : decode cX5_getOff 121 = .ok (.aload_n 0, 1) := by decide +kernel
theorem dX5_getOff_122 : decode cX5_getOff 122 = .ok (.getfield 9, 3) := by decide +kernel
theorem dX5_getOff_125 : decode cX5_getOff 125 = .ok (.iload 8, 2) := by decide +kernel
theorem dX5_getOff_127 : decode cX5_getOff 127 = .ok (.iaload, 1) := by decide +kernel
theorem dX5_getOff_128 : decode cX5_getOff 128 = .ok (.iload 5, 2) := by decide +kernel
theorem dX5_getOff_130 : decode cX5_getOff 130 = .ok (.invokestatic 81, 3) := by decide +kernel
theorem dX5_getOff_133 : decode cX5_getOff 133 = .ok (.iastore, 1) := by decide +kernel
theorem dX5_getOff_134 : decode cX5_getOff 134 = .ok (.iinc 7 1, 3) := by decide +kernel
theorem dX5_getOff_137 : decode cX5_getOff 137 = .ok (.goto (-62), 3) := by decide +kernel
theorem dX5_getOff_140 : decode cX5_getOff 140 = .ok (.return_, 1) := by decide +kernel
theorem dX5_faresTo_0 : decode cX5_faresTo 0 = .ok (.iconst 0, 1) := by decide +kernel
theorem dX5_faresTo_1 : decode cX5_faresTo 1 = .ok (.istore_n 2, 1) := by decide +kernel
theorem dX5_faresTo_2 : decode cX5_faresTo 2 = .ok (.iconst 0, 1) := by decide +kernel
theorem dX5_faresTo_3 : decode cX5_faresTo 3 = .ok (.istore_n 3, 1) := by decide +kernel
theorem dX5_faresTo_4 : decode cX5_faresTo 4 = .ok (.iload_n 3, 1) := by decide +kernel
theorem dX5_faresTo_5 : decode cX5_faresTo 5 = .ok (.iconst 4, 1) := by decide +kernel
theorem dX5_faresTo_6 : decode cX5_faresTo 6 = .ok (.if_icmp .ge 43, 3) := by decide +kernel
theorem dX5_faresTo_9 : decode cX5_faresTo 9 = .ok (.iload_n 2, 1) := by decide +kernel
theorem dX5_faresTo_10 : decode cX5_faresTo 10 = .ok (.aload_n 0, 1) := by decide +kernel
theorem dX5_faresTo_11 : decode cX5_faresTo 11 = .ok (.getfield 24, 3) := by decide +kernel
theorem dX5_faresTo_14 : decode cX5_faresTo 14 = .ok (.iload_n 3, 1) := by decide +kernel
theorem dX5_faresTo_15 : decode cX5_faresTo 15 = .ok (.iaload, 1) := by decide +kernel
theorem dX5_faresTo_16 : decode cX5_faresTo 16 = .ok (.aload_n 0, 1) := by decide +kernel
theorem dX5_faresTo_17 : decode cX5_faresTo 17 = .ok (.getfield 47, 3) := by decide +kernel
theorem dX5_faresTo_20 : decode cX5_faresTo 20 = .ok (.ifCond .ne 7, 3) := by decide +kernel
theorem dX5_faresTo_23 : decode cX5_faresTo 23 = .ok (.iconst 0, 1) := by decide +kernel
theorem dX5_faresTo_24 : decode cX5_faresTo 24 = .ok (.goto 16, 3) := by decide +kernel
theorem dX5_faresTo_27 : decode cX5_faresTo 27 = .ok (.aload_n 0, 1) := by decide +kernel
theorem dX5_faresTo_28 : decode cX5_faresTo 28 = .ok (.getfield 27, 3) := by decide +kernel
theorem dX5_faresTo_31 : decode cX5_faresTo 31 = .ok (.getfield 155, 3) := by decide +kernel
theorem dX5_faresTo_34 : decode cX5_faresTo 34 = .ok (.iload_n 3, 1) := by decide +kernel
theorem dX5_faresTo_35 : decode cX5_faresTo 35 = .ok (.iconst 4, 1) := by decide +kernel
theorem dX5_faresTo_36 : decode cX5_faresTo 36 = .ok (.imul, 1) := by decide +kernel
theorem dX5_faresTo_37 : decode cX5_faresTo 37 = .ok (.iload_n 1, 1) := by decide +kernel
theorem dX5_faresTo_38 : decode cX5_faresTo 38 = .ok (.iadd, 1) := by decide +kernel
theorem dX5_faresTo_39 : decode cX5_faresTo 39 = .ok (.iaload, 1) := by decide +kernel
theorem dX5_faresTo_40 : decode cX5_faresTo 40 = .ok (.ishl, 1) := by decide +kernel
theorem dX5_faresTo_41 : decode cX5_faresTo 41 = .ok (.ior, 1) := by decide +kernel
theorem dX5_faresTo_42 : decode cX5_faresTo 42 = .ok (.istore_n 2, 1) := by decide +kernel
theorem dX5_faresTo_43 : decode cX5_faresTo 43 = .ok (.iinc 3 1, 3) := by decide +kernel
theorem dX5_faresTo_46 : decode cX5_faresTo 46 = .ok (.goto (-42), 3) := by decide +kernel
theorem dX5_faresTo_49 : decode cX5_faresTo 49 = .ok (.iload_n 2, 1) := by decide +kernel
theorem dX5_faresTo_50 : decode cX5_faresTo 50 = .ok (.ireturn, 1) := by decide +kernel
theorem dX5_getOn_0 : decode cX5_getOn 0 = .ok (.aload_n 0, 1) := by decide +kernel
theorem dX5_getOn_1 : decode cX5_getOn 1 = .ok (.getfield 31, 3) := by decide +kernel
theorem dX5_getOn_4 : decode cX5_getOn 4 = .ok (.getfield 143, 3) := by decide +kernel
theorem dX5_getOn_7 : decode cX5_getOn 7 = .ok (.aload_n 0, 1) := by decide +kernel
theorem dX5_getOn_8 : decode cX5_getOn 8 = .ok (.getfield 39, 3) := by decide +kernel
theorem dX5_getOn_11 : decode cX5_getOn 11 = .ok (.getfield 120, 3) := by decide +kernel
theorem dX5_getOn_14 : decode cX5_getOn 14 = .ok (.iload_n 2, 1) := by decide +kernel
theorem dX5_getOn_15 : decode cX5_getOn 15 = .ok (.iaload, 1) := by decide +kernel
theorem dX5_getOn_16 : decode cX5_getOn 16 = .ok (.bipush 8, 2) := by decide +kernel
theorem dX5_getOn_18 : decode cX5_getOn 18 = .ok (.imul, 1) := by decide +kernel
theorem dX5_getOn_19 : decode cX5_getOn 19 = .ok (.iload_n 3, 1) := by decide +kernel
theorem dX5_getOn_20 : decode cX5_getOn 20 = .ok (.iadd, 1) := by decide +kernel
theorem dX5_getOn_21 : decode cX5_getOn 21 = .ok (.iaload, 1) := by decide +kernel
theorem dX5_getOn_22 : decode cX5_getOn 22 = .ok (.istore 4, 2) := by decide +kernel
theorem dX5_getOn_24 : decode cX5_getOn 24 = .ok (.aload_n 0, 1) := by decide +kernel
theorem dX5_getOn_25 : decode cX5_getOn 25 = .ok (.getfield 39, 3) := by decide +kernel
theorem dX5_getOn_28 : decode cX5_getOn 28 = .ok (.getfield 158, 3) := by decide +kernel
theorem dX5_getOn_31 : decode cX5_getOn 31 = .ok (.iload_n 2, 1) := by decide +kernel
theorem dX5_getOn_32 : decode cX5_getOn 32 = .ok (.bipush 8, 2) := by decide +kernel
theorem dX5_getOn_34 : decode cX5_getOn 34 = .ok (.imul, 1) := by decide +kernel
theorem dX5_getOn_35 : decode cX5_getOn 35 = .ok (.iload_n 3, 1) := by decide +kernel
theorem dX5_getOn_36 : decode cX5_getOn 36 = .ok (.iadd, 1) := by decide +kernel
theorem dX5_getOn_37 : decode cX5_getOn 37 = .ok (.iaload, 1) := by decide +kernel
theorem dX5_getOn_38 : decode cX5_getOn 38 = .ok (.istore 5, 2) := by decide +kernel
theorem dX5_getOn_40 : decode cX5_getOn 40 = .ok (.aload_n 0, 1) := by decide +kernel
theorem dX5_getOn_41 : decode cX5_getOn 41 = .ok (.iload_n 1, 1) := by decide +kernel
theorem dX5_getOn_42 : decode cX5_getOn 42 = .ok (.iconst 1, 1) := by decide +kernel
theorem dX5_getOn_43 : decode cX5_getOn 43 = .ok (.isub, 1) := by decide +kernel
theorem dX5_getOn_44 : decode cX5_getOn 44 = .ok (.iconst 0, 1) := by decide +kernel
theorem dX5_getOn_45 : decode cX5_getOn 45 = .ok (.invokevirtual 50, 3) := by decide +kernel
theorem dX5_getOn_48 : decode cX5_getOn 48 = .ok (.iload 4, 2) := by decide +kernel
theorem dX5_getOn_50 : decode cX5_getOn 50 = .ok (.iadd, 1) := by decide +kernel
theorem dX5_getOn_51 : decode cX5_getOn 51 = .ok (.istore 6, 2) := by decide +kernel
theorem dX5_getOn_53 : decode cX5_getOn 53 = .ok (.iconst 0, 1) := by decide +kernel
theorem dX5_getOn_54 : decode cX5_getOn 54 = .ok (.istore 7, 2) := by decide +kernel
theorem dX5_getOn_56 : decode cX5_getOn 56 = .ok (.iload 7, 2) := by decide +kernel
theorem dX5_getOn_58 : decode cX5_getOn 58 = .ok (.aload_n 0, 1) := by decide +kernel
theorem dX5_getOn_59 : decode cX5_getOn 59 = .ok (.iload_n 1, 1) := by decide +kernel
theorem dX5_getOn_60 : decode cX5_getOn 60 = .ok (.iconst 1, 1) := by decide +kernel
theorem dX5_getOn_61 : decode cX5_getOn 61 = .ok (.isub, 1) := by decide +kernel
theorem dX5_getOn_62 : decode cX5_getOn 62 = .ok (.invokevirtual 113, 3) := by decide +kernel
theorem dX5_getOn_65 : decode cX5_getOn 65 = .ok (.if_icmp .gt 46, 3) := by decide +kernel
theorem dX5_getOn_68 : decode cX5_getOn 68 = .ok (.aload_n 0, 1) := by decide +kernel
theorem dX5_getOn_69 : decode cX5_getOn 69 = .ok (.getfield 15, 3) := by decide +kernel
theorem dX5_getOn_72 : decode cX5_getOn 72 = .ok (.iload 6, 2) := by decide +kernel
theorem dX5_getOn_74 : decode cX5_getOn 74 = .ok (.iaload, 1) := by decide +kernel
theorem dX5_getOn_75 : decode cX5_getOn 75 = .ok (.iload 5, 2) := by decide +kernel
theorem dX5_getOn_77 : decode cX5_getOn 77 = .ok (.if_icmp .gt 25, 3) := by decide +kernel
theorem dX5_getOn_80 : decode cX5_getOn 80 = .ok (.aload_n 0, 1) := by decide +kernel
theorem dX5_getOn_81 : decode cX5_getOn 81 = .ok (.getfield 24, 3) := by decide +kernel
theorem dX5_getOn_84 : decode cX5_getOn 84 = .ok (.aload_n 0, 1) := by decide +kernel
theorem dX5_getOn_85 : decode cX5_getOn 85 = .ok (.getfield 27, 3) := by decide +kernel
theorem dX5_getOn_88 : decode cX5_getOn 88 = .ok (.getfield 149, 3) := by decide +kernel
theorem dX5_getOn_91 : decode cX5_getOn 91 = .ok (.iload 4, 2) := by decide +kernel
theorem dX5_getOn_93 : decode cX5_getOn 93 = .ok (.iaload, 1) := by decide +kernel
theorem dX5_getOn_94 : decode cX5_getOn 94 = .ok (.dup2, 1) := by decide +kernel
theorem dX5_getOn_95 : decode cX5_getOn 95 = .ok (.iaload, 1) := by decide +kernel
theorem dX5_getOn_96 : decode cX5_getOn 96 = .ok (.iconst 1, 1) := by decide +kernel
theorem dX5_getOn_97 : decode cX5_getOn 97 = .ok (.iload 7, 2) := by decide +kernel
theorem dX5_getOn_99 : decode cX5_getOn 99 = .ok (.ishl, 1) := by decide +kernel
theorem dX5_getOn_100 : decode cX5_getOn 100 = .ok (.ior, 1) := by decide +kernel
theorem dX5_getOn_101 : decode cX5_getOn 101 = .ok (.iastore, 1) := by decide +kernel
theorem dX5_getOn_102 : decode cX5_getOn 102 = .ok (.iinc 6 12, 3) := by decide +kernel
theorem dX5_getOn_105 : decode cX5_getOn 105 = .ok (.iinc 7 1, 3) := by decide +kernel
theorem dX5_getOn_108 : decode cX5_getOn 108 = .ok (.goto (-52), 3) := by decide +kernel
theorem dX5_getOn_111 : decode cX5_getOn 111 = .ok (.return_, 1) := by decide +kernel
theorem dX6_init_0 : decode cX6_init 0 = .ok (.aload_n 0, 1) := by decide +kernel
theorem dX6_init_1 : decode cX6_init 1 = .ok (.invokespecial 1, 3) := by decide +kernel
theorem dX6_init_4 : decode cX6_init 4 = .ok (.aload_n 0, 1) := by decide +kernel
theorem dX6_init_5 : decode cX6_init 5 = .ok (.iconst 0, 1) := by decide +kernel
theorem dX6_init_6 : decode cX6_init 6 = .ok (.iload_n 1, 1) := by decide +kernel
theorem dX6_init_7 : decode cX6_init 7 = .ok (.invokestatic 7, 3) := by decide +kernel
theorem dX6_init_10 : decode cX6_init 10 = .ok (.newarray .int, 2) := by decide +kernel
theorem dX6_init_12 : decode cX6_init 12 = .ok (.putfield 13, 3) := by decide +kernel
theorem dX6_init_15 : decode cX6_init 15 = .ok (.return_, 1) := by decide +kernel
theorem dX6_get_0 : decode cX6_get 0 = .ok (.iload_n 1, 1) := by decide +kernel
theorem dX6_get_1 : decode cX6_get 1 = .ok (.ifCond .lt 20, 3) := by decide +kernel
theorem dX6_get_4 : decode cX6_get 4 = .ok (.iload_n 1, 1) := by decide +kernel
theorem dX6_get_5 : decode cX6_get 5 = .ok (.aload_n 0, 1) := by decide +kernel
theorem dX6_get_6 : decode cX6_get 6 = .ok (.getfield 19, 3) := by decide +kernel
theorem dX6_get_9 : decode cX6_get 9 = .ok (.if_icmp .ge 12, 3) := by decide +kernel
theorem dX6_get_12 : decode cX6_get 12 = .ok (.aload_n 0, 1) := by decide +kernel
theorem dX6_get_13 : decode cX6_get 13 = .ok (.getfield 13, 3) := by decide +kernel
theorem dX6_get_16 : decode cX6_get 16 = .ok (.iload_n 1, 1) := by decide +kernel
theorem dX6_get_17 : decode cX6_get 17 = .ok (.iaload, 1) := by decide +kernel
theorem dX6_get_18 : decode cX6_get 18 = .ok (.goto 4, 3) := by decide +kernel
theorem dX6_get_21 : decode cX6_get 21 = .ok (.iconst 0, 1) := by decide +kernel
theorem dX6_get_22 : decode cX6_get 22 = .ok (.ireturn, 1) := by decide +kernel
theorem dX6_clear_0 : decode cX6_clear 0 = .ok (.aload_n 0, 1) := by decide +kernel
theorem dX6_clear_1 : decode cX6_clear 1 = .ok (.iconst 0, 1) := by decide +kernel
theorem dX6_clear_2 : decode cX6_clear 2 = .ok (.putfield 19, 3) := by decide +kernel
theorem dX6_clear_5 : decode cX6_clear 5 = .ok (.return_, 1) := by decide +kernel
theorem dX6_insert_0 : decode cX6_insert 0 = .ok (.aload_n 0, 1) := by decide +kernel
theorem dX6_insert_1 : decode cX6_insert 1 = .ok (.getfield 19, 3) := by decide +kernel
theorem dX6_insert_4 : decode cX6_insert 4 = .ok (.aload_n 0, 1) := by decide +kernel
theorem dX6_insert_5 : decode cX6_insert 5 = .ok (.getfield 13, 3) := by decide +kernel
theorem dX6_insert_8 : decode cX6_insert 8 = .ok (.arraylength, 1) := by decide +kernel
theorem dX6_insert_9 : decode cX6_insert 9 = .ok (.if_icmp .lt 4, 3) := by decide +kernel
theorem dX6_insert_12 : decode cX6_insert 12 = .ok (.return_, 1) := by decide +kernel
theorem dX6_insert_13 : decode cX6_insert 13 = .ok (.aload_n 0, 1) := by decide +kernel
theorem dX6_insert_14 : decode cX6_insert 14 = .ok (.getfield 19, 3) := by decide +kernel
theorem dX6_insert_17 : decode cX6_insert 17 = .ok (.istore_n 2, 1) := by decide +kernel
theorem dX6_insert_18 : decode cX6_insert 18 = .ok (.iload_n 2, 1) := by decide +kernel
theorem dX6_insert_19 : decode cX6_insert 19 = .ok (.ifCond .le 35, 3) := by decide +kernel
theorem dX6_insert_22 : decode cX6_insert 22 = .ok (.aload_n 0, 1) := by decide +kernel
theorem dX6_insert_23 : decode cX6_insert 23 = .ok (.getfield 13, 3) := by decide +kernel
theorem dX6_insert_26 : decode cX6_insert 26 = .ok (.iload_n 2, 1) := by decide +kernel
theorem dX6_insert_27 : decode cX6_insert 27 = .ok (.iconst 1, 1) := by decide +kernel
theorem dX6_insert_28 : decode cX6_insert 28 = .ok (.isub, 1) := by decide +kernel
theorem dX6_insert_29 : decode cX6_insert 29 = .ok (.iaload, 1) := by decide +kernel
theorem dX6_insert_30 : decode cX6_insert 30 = .ok (.iload_n 1, 1) := by decide +kernel
theorem dX6_insert_31 : decode cX6_insert 31 = .ok (.if_icmp .le 23, 3) := by decide +kernel
theorem dX6_insert_34 : decode cX6_insert 34 = .ok (.aload_n 0, 1) := by decide +kernel
theorem dX6_insert_35 : decode cX6_insert 35 = .ok (.getfield 13, 3) := by decide +kernel
theorem dX6_insert_38 : decode cX6_insert 38 = .ok (.iload_n 2, 1) := by decide +kernel
theorem dX6_insert_39 : decode cX6_insert 39 = .ok (.aload_n 0, 1) := by decide +kernel
theorem dX6_insert_40 : decode cX6_insert 40 = .ok (.getfield 13, 3) := by decide +kernel
theorem dX6_insert_43 : decode cX6_insert 43 = .ok (.iload_n 2, 1) := by decide +kernel
theorem dX6_insert_44 : decode cX6_insert 44 = .ok (.iconst 1, 1) := by decide +kernel
theorem dX6_insert_45 : decode cX6_insert 45 = .ok (.isub, 1) := by decide +kernel
theorem dX6_insert_46 : decode cX6_insert 46 = .ok (.iaload, 1) := by decide +kernel
theorem dX6_insert_47 : decode cX6_insert 47 = .ok (.iastore, 1) := by decide +kernel
theorem dX6_insert_48 : decode cX6_insert 48 = .ok (.iinc 2 (-1), 3) := by decide +kernel
theorem dX6_insert_51 : decode cX6_insert 51 = .ok (.goto (-33), 3) := by decide +kernel
theorem dX6_insert_54 : decode cX6_insert 54 = .ok (.aload_n 0, 1) := by decide +kernel
theorem dX6_insert_55 : decode cX6_insert 55 = .ok (.getfield 13, 3) := by decide +kernel
theorem dX6_insert_58 : decode cX6_insert 58 = .ok (.iload_n 2, 1) := by decide +kernel
theorem dX6_insert_59 : decode cX6_insert 59 = .ok (.iload_n 1, 1) := by decide +kernel
theorem dX6_insert_60 : decode cX6_insert 60 = .ok (.iastore, 1) := by decide +kernel
theorem dX6_insert_61 : decode cX6_insert 61 = .ok (.aload_n 0, 1) := by decide +kernel
theorem dX6_insert_62 : decode cX6_insert 62 = .ok (.dup, 1) := by decide +kernel
theorem dX6_insert_63 : decode cX6_insert 63 = .ok (.getfield 19, 3) := by decide +kernel
theorem dX6_insert_66 : decode cX6_insert 66 = .ok (.iconst 1, 1) := by decide +kernel
theorem dX6_insert_67 : decode cX6_insert 67 = .ok (.iadd, 1) := by decide +kernel
theorem dX6_insert_68 : decode cX6_insert 68 = .ok (.putfield 19, 3) := by decide +kernel
theorem dX6_insert_71 : decode cX6_insert 71 = .ok (.return_, 1) := by decide +kernel
theorem dX7_init_0 : decode cX7_init 0 = .ok (.aload_n 0, 1) := by decide +kernel
theorem dX7_init_1 : decode cX7_init 1 = .ok (.invokespecial 3, 3) := by decide +kernel
theorem dX7_init_4 : decode cX7_init 4 = .ok (.aload_n 0, 1) := by decide +kernel
theorem dX7_init_5 : decode cX7_init 5 = .ok (.bipush 12, 2) := by decide +kernel
theorem dX7_init_7 : decode cX7_init 7 = .ok (.newarray .int, 2) := by decide +kernel
theorem dX7_init_9 : decode cX7_init 9 = .ok (.putfield 9, 3) := by decide +kernel
theorem dX7_init_12 : decode cX7_init 12 = .ok (.aload_n 0, 1) := by decide +kernel
theorem dX7_init_13 : decode cX7_init 13 = .ok (.bipush 12, 2) := by decide +kernel
theorem dX7_init_15 : decode cX7_init 15 = .ok (.newarray .int, 2) := by decide +kernel
theorem dX7_init_17 : decode cX7_init 17 = .ok (.putfield 15, 3) := by decide +kernel
theorem dX7_init_20 : decode cX7_init 20 = .ok (.aload_n 0, 1) := by decide +kernel
theorem dX7_init_21 : decode cX7_init 21 = .ok (.bipush 16, 2) := by decide +kernel
theorem dX7_init_23 : decode cX7_init 23 = .ok (.newarray .int, 2) := by decide +kernel
theorem dX7_init_25 : decode cX7_init 25 = .ok (.putfield 18, 3) := by decide +kernel
theorem dX7_init_28 : decode cX7_init 28 = .ok (.return_, 1) := by decide +kernel
theorem dX7_has_0 : decode cX7_has 0 = .ok (.iload_n 1, 1) := by decide +kernel
theorem dX7_has_1 : decode cX7_has 1 = .ok (.ifCond .lt 15, 3) := by decide +kernel
theorem dX7_has_4 : decode cX7_has 4 = .ok (.iload_n 1, 1) := by decide +kernel
theorem dX7_has_5 : decode cX7_has 5 = .ok (.aload_n 0, 1) := by decide +kernel
theorem dX7_has_6 : decode cX7_has 6 = .ok (.getfield 21, 3) := by decide +kernel
theorem dX7_has_9 : decode cX7_has 9 = .ok (.if_icmp .ge 7, 3) := by decide +kernel
theorem dX7_has_12 : decode cX7_has 12 = .ok (.iconst 1, 1) := by decide +kernel
theorem dX7_has_13 : decode cX7_has 13 = .ok (.goto 4, 3) := by decide +kernel
theorem dX7_has_16 : decode cX7_has 16 = .ok (.iconst 0, 1) := by decide +kernel
theorem dX7_has_17 : decode cX7_has 17 = .ok (.ireturn, 1) := by decide +kernel
theorem dX7_add_0 : decode cX7_add 0 = .ok (.aload_n 0, 1) := by decide +kernel
theorem dX7_add_1 : decode cX7_add 1 = .ok (.getfield 21, 3) := by decide +kernel
theorem dX7_add_4 : decode cX7_add 4 = .ok (.bipush 12, 2) := by decide +kernel
theorem dX7_add_6 : decode cX7_add 6 = .ok (.if_icmp .lt 6, 3) := by decide +kernel
theorem dX7_add_9 : decode cX7_add 9 = .ok (.bipush (-2), 2) := by decide +kernel
theorem dX7_add_11 : decode cX7_add 11 = .ok (.ireturn, 1) := by decide +kernel
theorem dX7_add_12 : decode cX7_add 12 = .ok (.aload_n 0, 1) := by decide +kernel
theorem dX7_add_13 : decode cX7_add 13 = .ok (.getfield 9, 3) := by decide +kernel
theorem dX7_add_16 : decode cX7_add 16 = .ok (.aload_n 0, 1) := by decide +kernel
theorem dX7_add_17 : decode cX7_add 17 = .ok (.getfield 21, 3) := by decide +kernel
theorem dX7_add_20 : decode cX7_add 20 = .ok (.iload_n 1, 1) := by decide +kernel
theorem dX7_add_21 : decode cX7_add 21 = .ok (.iastore, 1) := by decide +kernel
theorem dX7_add_22 : decode cX7_add 22 = .ok (.aload_n 0, 1) := by decide +kernel
theorem dX7_add_23 : decode cX7_add 23 = .ok (.getfield 15, 3) := by decide +kernel
theorem dX7_add_26 : decode cX7_add 26 = .ok (.aload_n 0, 1) := by decide +kernel
theorem dX7_add_27 : decode cX7_add 27 = .ok (.getfield 21, 3) := by decide +kernel
theorem dX7_add_30 : decode cX7_add 30 = .ok (.iload_n 2, 1) := by decide +kernel
theorem dX7_add_31 : decode cX7_add 31 = .ok (.iastore, 1) := by decide +kernel
theorem dX7_add_32 : decode cX7_add 32 = .ok (.aload_n 0, 1) := by decide +kernel
theorem dX7_add_33 : decode cX7_add 33 = .ok (.dup, 1) := by decide +kernel
theorem dX7_add_34 : decode cX7_add 34 = .ok (.getfield 21, 3) := by decide +kernel
theorem dX7_add_37 : decode cX7_add 37 = .ok (.dup_x1, 1) := by decide +kernel
theorem dX7_add_38 : decode cX7_add 38 = .ok (.iconst 1, 1) := by decide +kernel
theorem dX7_add_39 : decode cX7_add 39 = .ok (.iadd, 1) := by decide +kernel
theorem dX7_add_40 : decode cX7_add 40 = .ok (.putfield 21, 3) := by decide +kernel
theorem dX7_add_43 : decode cX7_add 43 = .ok (.ireturn, 1) := by decide +kernel
theorem dX7_price_0 : decode cX7_price 0 = .ok (.aload_n 0, 1) := by decide +kernel
theorem dX7_price_1 : decode cX7_price 1 = .ok (.getfield 18, 3) := by decide +kernel
theorem dX7_price_4 : decode cX7_price 4 = .ok (.iload_n 1, 1) := by decide +kernel
theorem dX7_price_5 : decode cX7_price 5 = .ok (.iconst 4, 1) := by decide +kernel
theorem dX7_price_6 : decode cX7_price 6 = .ok (.imul, 1) := by decide +kernel
theorem dX7_price_7 : decode cX7_price 7 = .ok (.iload_n 2, 1) := by decide +kernel
theorem dX7_price_8 : decode cX7_price 8 = .ok (.iadd, 1) := by decide +kernel
theorem dX7_price_9 : decode cX7_price 9 = .ok (.iaload, 1) := by decide +kernel
theorem dX7_price_10 : decode cX7_price 10 = .ok (.istore 4, 2) := by decide +kernel
theorem dX7_price_12 : decode cX7_price 12 = .ok (.aload_n 0, 1) := by decide +kernel
theorem dX7_price_13 : decode cX7_price 13 = .ok (.getfield 18, 3) := by decide +kernel
theorem dX7_price_16 : decode cX7_price 16 = .ok (.iload_n 1, 1) := by decide +kernel
theorem dX7_price_17 : decode cX7_price 17 = .ok (.iconst 4, 1) := by decide +kernel
theorem dX7_price_18 : decode cX7_price 18 = .ok (.imul, 1) := by decide +kernel
theorem dX7_price_19 : decode cX7_price 19 = .ok (.iload_n 2, 1) := by decide +kernel
theorem dX7_price_20 : decode cX7_price 20 = .ok (.iadd, 1) := by decide +kernel
theorem dX7_price_21 : decode cX7_price 21 = .ok (.iload_n 3, 1) := by decide +kernel
theorem dX7_price_22 : decode cX7_price 22 = .ok (.iastore, 1) := by decide +kernel
theorem dX7_price_23 : decode cX7_price 23 = .ok (.iload 4, 2) := by decide +kernel
theorem dX7_price_25 : decode cX7_price 25 = .ok (.ireturn, 1) := by decide +kernel
theorem dX7_priceOfRide_0 : decode cX7_priceOfRide 0 = .ok (.aload_n 0, 1) := by decide +kernel
theorem dX7_priceOfRide_1 : decode cX7_priceOfRide 1 = .ok (.getfield 18, 3) := by decide +kernel
theorem dX7_priceOfRide_4 : decode cX7_priceOfRide 4 = .ok (.aload_n 0, 1) := by decide +kernel
theorem dX7_priceOfRide_5 : decode cX7_priceOfRide 5 = .ok (.getfield 15, 3) := by decide +kernel
theorem dX7_priceOfRide_8 : decode cX7_priceOfRide 8 = .ok (.iload_n 1, 1) := by decide +kernel
theorem dX7_priceOfRide_9 : decode cX7_priceOfRide 9 = .ok (.iaload, 1) := by decide +kernel
theorem dX7_priceOfRide_10 : decode cX7_priceOfRide 10 = .ok (.iconst 4, 1) := by decide +kernel
theorem dX7_priceOfRide_11 : decode cX7_priceOfRide 11 = .ok (.imul, 1) := by decide +kernel
theorem dX7_priceOfRide_12 : decode cX7_priceOfRide 12 = .ok (.aload_n 0, 1) := by decide +kernel
theorem dX7_priceOfRide_13 : decode cX7_priceOfRide 13 = .ok (.getfield 15, 3) := by decide +kernel
theorem dX7_priceOfRide_16 : decode cX7_priceOfRide 16 = .ok (.iload_n 2, 1) := by decide +kernel
theorem dX7_priceOfRide_17 : decode cX7_priceOfRide 17 = .ok (.iaload, 1) := by decide +kernel
theorem dX7_priceOfRide_18 : decode cX7_priceOfRide 18 = .ok (.iadd, 1) := by decide +kernel
theorem dX7_priceOfRide_19 : decode cX7_priceOfRide 19 = .ok (.iaload, 1) := by decide +kernel
theorem dX7_priceOfRide_20 : decode cX7_priceOfRide 20 = .ok (.ireturn, 1) := by decide +kernel
theorem dX7_dearest_0 : decode cX7_dearest 0 = .ok (.iconst 0, 1) := by decide +kernel
theorem dX7_dearest_1 : decode cX7_dearest 1 = .ok (.istore_n 1, 1) := by decide +kernel
theorem dX7_dearest_2 : decode cX7_dearest 2 = .ok (.aload_n 0, 1) := by decide +kernel
theorem dX7_dearest_3 : decode cX7_dearest 3 = .ok (.getfield 18, 3) := by decide +kernel
theorem dX7_dearest_6 : decode cX7_dearest 6 = .ok (.astore_n 2, 1) := by decide +kernel
theorem dX7_dearest_7 : decode cX7_dearest 7 = .ok (.aload_n 2, 1) := by decide +kernel
theorem dX7_dearest_8 : decode cX7_dearest 8 = .ok (.arraylength, 1) := by decide +kernel
theorem dX7_dearest_9 : decode cX7_dearest 9 = .ok (.istore_n 3, 1) := by decide +kernel
theorem dX7_dearest_10 : decode cX7_dearest 10 = .ok (.iconst 0, 1) := by decide +kernel
theorem dX7_dearest_11 : decode cX7_dearest 11 = .ok (.istore 4, 2) := by decide +kernel
theorem dX7_dearest_13 : decode cX7_dearest 13 = .ok (.iload 4, 2) := by decide +kernel
theorem dX7_dearest_15 : decode cX7_dearest 15 = .ok (.iload_n 3, 1) := by decide +kernel
theorem dX7_dearest_16 : decode cX7_dearest 16 = .ok (.if_icmp .ge 22, 3) := by decide +kernel
theorem dX7_dearest_19 : decode cX7_dearest 19 = .ok (.aload_n 2, 1) := by decide +kernel
theorem dX7_dearest_20 : decode cX7_dearest 20 = .ok (.iload 4, 2) := by decide +kernel
theorem dX7_dearest_22 : decode cX7_dearest 22 = .ok (.iaload, 1) := by decide +kernel
theorem dX7_dearest_23 : decode cX7_dearest 23 = .ok (.istore 5, 2) := by decide +kernel
theorem dX7_dearest_25 : decode cX7_dearest 25 = .ok (.iload_n 1, 1) := by decide +kernel
theorem dX7_dearest_26 : decode cX7_dearest 26 = .ok (.iload 5, 2) := by decide +kernel
theorem dX7_dearest_28 : decode cX7_dearest 28 = .ok (.invokestatic 25, 3) := by decide +kernel
theorem dX7_dearest_31 : decode cX7_dearest 31 = .ok (.istore_n 1, 1) := by decide +kernel
theorem dX7_dearest_32 : decode cX7_dearest 32 = .ok (.iinc 4 1, 3) := by decide +kernel
theorem dX7_dearest_35 : decode cX7_dearest 35 = .ok (.goto (-22), 3) := by decide +kernel
theorem dX7_dearest_38 : decode cX7_dearest 38 = .ok (.iload_n 1, 1) := by decide +kernel
theorem dX7_dearest_39 : decode cX7_dearest 39 = .ok (.ireturn, 1) := by decide +kernel
theorem dX8_init_0 : decode cX8_init 0 = .ok (.aload_n 0, 1) := by decide +kernel
theorem dX8_init_1 : decode cX8_init 1 = .ok (.invokespecial 3, 3) := by decide +kernel
theorem dX8_init_4 : decode cX8_init 4 = .ok (.aload_n 0, 1) := by decide +kernel
theorem dX8_init_5 : decode cX8_init 5 = .ok (.bipush 30, 2) := by decide +kernel
theorem dX8_init_7 : decode cX8_init 7 = .ok (.newarray .int, 2) := by decide +kernel
theorem dX8_init_9 : decode cX8_init 9 = .ok (.putfield 9, 3) := by decide +kernel
theorem dX8_init_12 : decode cX8_init 12 = .ok (.aload_n 0, 1) := by decide +kernel
theorem dX8_init_13 : decode cX8_init 13 = .ok (.bipush 30, 2) := by decide +kernel
theorem dX8_init_15 : decode cX8_init 15 = .ok (.newarray .int, 2) := by decide +kernel
theorem dX8_init_17 : decode cX8_init 17 = .ok (.putfield 15, 3) := by decide +kernel
theorem dX8_init_20 : decode cX8_init 20 = .ok (.aload_n 0, 1) := by decide +kernel
theorem dX8_init_21 : decode cX8_init 21 = .ok (.bipush 30, 2) := by decide +kernel
theorem dX8_init_23 : decode cX8_init 23 = .ok (.newarray .boolean, 2) := by decide +kernel
theorem dX8_init_25 : decode cX8_init 25 = .ok (.putfield 18, 3) := by decide +kernel
theorem dX8_init_28 : decode cX8_init 28 = .ok (.aload_n 0, 1) := by decide +kernel
theorem dX8_init_29 : decode cX8_init 29 = .ok (.sipush 210, 3) := by decide +kernel
theorem dX8_init_32 : decode cX8_init 32 = .ok (.newarray .int, 2) := by decide +kernel
theorem dX8_init_34 : decode cX8_init 34 = .ok (.putfield 22, 3) := by decide +kernel
theorem dX8_init_37 : decode cX8_init 37 = .ok (.aload_n 0, 1) := by decide +kernel
theorem dX8_init_38 : decode cX8_init 38 = .ok (.sipush 210, 3) := by decide +kernel
theorem dX8_init_41 : decode cX8_init 41 = .ok (.newarray .int, 2) := by decide +kernel
theorem dX8_init_43 : decode cX8_init 43 = .ok (.putfield 25, 3) := by decide +kernel
theorem dX8_init_46 : decode cX8_init 46 = .ok (.aload_n 0, 1) := by decide +kernel
theorem dX8_init_47 : decode cX8_init 47 = .ok (.sipush 210, 3) := by decide +kernel
theorem dX8_init_50 : decode cX8_init 50 = .ok (.newarray .int, 2) := by decide +kernel
theorem dX8_init_52 : decode cX8_init 52 = .ok (.putfield 28, 3) := by decide +kernel
theorem dX8_init_55 : decode cX8_init 55 = .ok (.aload_n 0, 1) := by decide +kernel
theorem dX8_init_56 : decode cX8_init 56 = .ok (.sipush 210, 3) := by decide +kernel
theorem dX8_init_59 : decode cX8_init 59 = .ok (.newarray .int, 2) := by decide +kernel
theorem dX8_init_61 : decode cX8_init 61 = .ok (.putfield 31, 3) := by decide +kernel
theorem dX8_init_64 : decode cX8_init 64 = .ok (.aload_n 0, 1) := by decide +kernel
theorem dX8_init_65 : decode cX8_init 65 = .ok (.aload_n 1, 1) := by decide +kernel
theorem dX8_init_66 : decode cX8_init 66 = .ok (.putfield 34, 3) := by decide +kernel
theorem dX8_init_69 : decode cX8_init 69 = .ok (.aload_n 0, 1) := by decide +kernel
theorem dX8_init_70 : decode cX8_init 70 = .ok (.aload_n 2, 1) := by decide +kernel
theorem dX8_init_71 : decode cX8_init 71 = .ok (.putfield 38, 3) := by decide +kernel
theorem dX8_init_74 : decode cX8_init 74 = .ok (.aload_n 0, 1) := by decide +kernel
theorem dX8_init_75 : decode cX8_init 75 = .ok (.aload_n 3, 1) := by decide +kernel
theorem dX8_init_76 : decode cX8_init 76 = .ok (.putfield 42, 3) := by decide +kernel
theorem dX8_init_79 : decode cX8_init 79 = .ok (.aload_n 0, 1) := by decide +kernel
theorem dX8_init_80 : decode cX8_init 80 = .ok (.aload 4, 2) := by decide +kernel
theorem dX8_init_82 : decode cX8_init 82 = .ok (.putfield 46, 3) := by decide +kernel
theorem dX8_init_85 : decode cX8_init 85 = .ok (.return_, 1) := by decide +kernel
theorem dX8_isOut_0 : decode cX8_isOut 0 = .ok (.iload_n 1, 1) := by decide +kernel
theorem dX8_isOut_1 : decode cX8_isOut 1 = .ok (.ifCond .lt 24, 3) := by decide +kernel
theorem dX8_isOut_4 : decode cX8_isOut 4 = .ok (.iload_n 1, 1) := by decide +kernel
theorem dX8_isOut_5 : decode cX8_isOut 5 = .ok (.aload_n 0, 1) := by decide +kernel
theorem dX8_isOut_6 : decode cX8_isOut 6 = .ok (.getfield 50, 3) := by decide +kernel
theorem dX8_isOut_9 : decode cX8_isOut 9 = .ok (.if_icmp .ge 16, 3) := by decide +kernel
theorem dX8_isOut_12 : decode cX8_isOut 12 = .ok (.aload_n 0, 1) := by decide +kernel
theorem dX8_isOut_13 : decode cX8_isOut 13 = .ok (.getfield 18, 3) := by decide +kernel
theorem dX8_isOut_16 : decode cX8_isOut 16 = .ok (.iload_n 1, 1) := by decide +kernel
theorem dX8_isOut_17 : decode cX8_isOut 17 = .ok (.baload, 1) := by decide +kernel
theorem dX8_isOut_18 : decode cX8_isOut 18 = .ok (.ifCond .ne 7, 3) := by decide +kernel
theorem dX8_isOut_21 : decode cX8_isOut 21 = .ok (.iconst 1, 1) := by decide +kernel
theorem dX8_isOut_22 : decode cX8_isOut 22 = .ok (.goto 4, 3) := by decide +kernel
theorem dX8_isOut_25 : decode cX8_isOut 25 = .ok (.iconst 0, 1) := by decide +kernel
theorem dX8_isOut_26 : decode cX8_isOut 26 = .ok (.ireturn, 1) := by decide +kernel
theorem dX8_make_0 : decode cX8_make 0 = .ok (.aload_n 0, 1) := by decide +kernel
theorem dX8_make_1 : decode cX8_make 1 = .ok (.getfield 50, 3) := by decide +kernel
theorem dX8_make_4 : decode cX8_make 4 = .ok (.bipush 30, 2) := by decide +kernel
theorem dX8_make_6 : decode cX8_make 6 = .ok (.if_icmp .ge 12, 3) := by decide +kernel
theorem dX8_make_9 : decode cX8_make 9 = .ok (.aload_n 0, 1) := by decide +kernel
theorem dX8_make_10 : decode cX8_make 10 = .ok (.aload_n 1, 1) := by decide +kernel
theorem dX8_make_11 : decode cX8_make 11 = .ok (.iload_n 2, 1) := by decide +kernel
theorem dX8_make_12 : decode cX8_make 12 = .ok (.invokevirtual 54, 3) := by decide +kernel
theorem dX8_make_15 : decode cX8_make 15 = .ok (.ifCond .ne 6, 3) := by decide +kernel
theorem dX8_make_18 : decode cX8_make 18 = .ok (.bipush (-2), 2) := by decide +kernel
theorem dX8_make_20 : decode cX8_make 20 = .ok (.ireturn, 1) := by decide +kernel
theorem dX8_make_21 : decode cX8_make 21 = .ok (.aload_n 0, 1) := by decide +kernel
theorem dX8_make_22 : decode cX8_make 22 = .ok (.getfield 9, 3) := by decide +kernel
theorem dX8_make_25 : decode cX8_make 25 = .ok (.aload_n 0, 1) := by decide +kernel
theorem dX8_make_26 : decode cX8_make 26 = .ok (.getfield 50, 3) := by decide +kernel
theorem dX8_make_29 : decode cX8_make 29 = .ok (.aload_n 1, 1) := by decide +kernel
theorem dX8_make_30 : decode cX8_make 30 = .ok (.getfield 58, 3) := by decide +kernel
theorem dX8_make_33 : decode cX8_make 33 = .ok (.iastore, 1) := by decide +kernel
theorem dX8_make_34 : decode cX8_make 34 = .ok (.aload_n 0, 1) := by decide +kernel
theorem dX8_make_35 : decode cX8_make 35 = .ok (.getfield 15, 3) := by decide +kernel
theorem dX8_make_38 : decode cX8_make 38 = .ok (.aload_n 0, 1) := by decide +kernel
theorem dX8_make_39 : decode cX8_make 39 = .ok (.getfield 50, 3) := by decide +kernel
theorem dX8_make_42 : decode cX8_make 42 = .ok (.aload_n 1, 1) := by decide +kernel
theorem dX8_make_43 : decode cX8_make 43 = .ok (.iload_n 2, 1) := by decide +kernel
theorem dX8_make_44 : decode cX8_make 44 = .ok (.iconst 4, 1) := by decide +kernel
theorem dX8_make_45 : decode cX8_make 45 = .ok (.invokevirtual 62, 3) := by decide +kernel
theorem dX8_make_48 : decode cX8_make 48 = .ok (.iastore, 1) := by decide +kernel
theorem dX8_make_49 : decode cX8_make 49 = .ok (.iconst 0, 1) := by decide +kernel
theorem dX8_make_50 : decode cX8_make 50 = .ok (.istore_n 3, 1) := by decide +kernel
theorem dX8_make_51 : decode cX8_make 51 = .ok (.iload_n 3, 1) := by decide +kernel
theorem dX8_make_52 : decode cX8_make 52 = .ok (.aload_n 0, 1) := by decide +kernel
theorem dX8_make_53 : decode cX8_make 53 = .ok (.getfield 15, 3) := by decide +kernel
theorem dX8_make_56 : decode cX8_make 56 = .ok (.aload_n 0, 1) := by decide +kernel
theorem dX8_make_57 : decode cX8_make 57 = .ok (.getfield 50, 3) := by decide +kernel
theorem dX8_make_60 : decode cX8_make 60 = .ok (.iaload, 1) := by decide +kernel
theorem dX8_make_61 : decode cX8_make 61 = .ok (.if_icmp .ge 79, 3) := by decide +kernel
theorem dX8_make_64 : decode cX8_make 64 = .ok (.aload_n 0, 1) := by decide +kernel
theorem dX8_make_65 : decode cX8_make 65 = .ok (.getfield 50, 3) := by decide +kernel
theorem dX8_make_68 : decode cX8_make 68 = .ok (.bipush 7, 2) := by decide +kernel
theorem dX8_make_70 : decode cX8_make 70 = .ok (.imul, 1) := by decide +kernel
theorem dX8_make_71 : decode cX8_make 71 = .ok (.iload_n 3, 1) := by decide +kernel
theorem dX8_make_72 : decode cX8_make 72 = .ok (.iadd, 1) := by decide +kernel
theorem dX8_make_73 : decode cX8_make 73 = .ok (.istore 4, 2) := by decide +kernel
theorem dX8_make_75 : decode cX8_make 75 = .ok (.aload_n 0, 1) := by decide +kernel
theorem dX8_make_76 : decode cX8_make 76 = .ok (.getfield 22, 3) := by decide +kernel
theorem dX8_make_79 : decode cX8_make 79 = .ok (.iload 4, 2) := by decide +kernel
theorem dX8_make_81 : decode cX8_make 81 = .ok (.aload_n 1, 1) := by decide +kernel
theorem dX8_make_82 : decode cX8_make 82 = .ok (.iload_n 2, 1) := by decide +kernel
theorem dX8_make_83 : decode cX8_make 83 = .ok (.iload_n 3, 1) := by decide +kernel
theorem dX8_make_84 : decode cX8_make 84 = .ok (.iconst 1, 1) := by decide +kernel
theorem dX8_make_85 : decode cX8_make 85 = .ok (.invokevirtual 66, 3) := by decide +kernel
theorem dX8_make_88 : decode cX8_make 88 = .ok (.iastore, 1) := by decide +kernel
theorem dX8_make_89 : decode cX8_make 89 = .ok (.aload_n 0, 1) := by decide +kernel
theorem dX8_make_90 : decode cX8_make 90 = .ok (.getfield 25, 3) := by decide +kernel
theorem dX8_make_93 : decode cX8_make 93 = .ok (.iload 4, 2) := by decide +kernel
theorem dX8_make_95 : decode cX8_make 95 = .ok (.aload_n 1, 1) := by decide +kernel
theorem dX8_make_96 : decode cX8_make 96 = .ok (.iload_n 2, 1) := by decide +kernel
theorem dX8_make_97 : decode cX8_make 97 = .ok (.iload_n 3, 1) := by decide +kernel
theorem dX8_make_98 : decode cX8_make 98 = .ok (.bipush 6, 2) := by decide +kernel
theorem dX8_make_100 : decode cX8_make 100 = .ok (.invokevirtual 66, 3) := by decide +kernel
theorem dX8_make_103 : decode cX8_make 103 = .ok (.iastore, 1) := by decide +kernel
theorem dX8_make_104 : decode cX8_make 104 = .ok (.aload_n 0, 1) := by decide +kernel
theorem dX8_make_105 : decode cX8_make 105 = .ok (.getfield 28, 3) := by decide +kernel
theorem dX8_make_108 : decode cX8_make 108 = .ok (.iload 4, 2) := by decide +kernel
theorem dX8_make_110 : decode cX8_make 110 = .ok (.aload_n 1, 1) := by decide +kernel
theorem dX8_make_111 : decode cX8_make 111 = .ok (.iload_n 2, 1) := by decide +kernel
theorem dX8_make_112 : decode cX8_make 112 = .ok (.iload_n 3, 1) := by decide +kernel
theorem dX8_make_113 : decode cX8_make 113 = .ok (.bipush 7, 2) := by decide +kernel
theorem dX8_make_115 : decode cX8_make 115 = .ok (.invokevirtual 66, 3) := by decide +kernel
theorem dX8_make_118 : decode cX8_make 118 = .ok (.iastore, 1) := by decide +kernel
theorem dX8_make_119 : decode cX8_make 119 = .ok (.aload_n 0, 1) := by decide +kernel
theorem dX8_make_120 : decode cX8_make 120 = .ok (.getfield 31, 3) := by decide +kernel
theorem dX8_make_123 : decode cX8_make 123 = .ok (.iload 4, 2) := by decide +kernel
theorem dX8_make_125 : decode cX8_make 125 = .ok (.aload_n 1, 1) := by decide +kernel
theorem dX8_make_126 : decode cX8_make 126 = .ok (.iload_n 2, 1) := by decide +kernel
theorem dX8_make_127 : decode cX8_make 127 = .ok (.iload_n 3, 1) := by decide +kernel
theorem dX8_make_128 : decode cX8_make 128 = .ok (.bipush 8, 2) := by decide +kernel
theorem dX8_make_130 : decode cX8_make 130 = .ok (.invokevirtual 66, 3) := by decide +kernel
theorem dX8_make_133 : decode cX8_make 133 = .ok (.iastore, 1) := by decide +kernel
theorem dX8_make_134 : decode cX8_make 134 = .ok (.iinc 3 1, 3) := by decide +kernel
theorem dX8_make_137 : decode cX8_make 137 = .ok (.goto (-86), 3) := by decide +kernel
theorem dX8_make_140 : decode cX8_make 140 = .ok (.aload_n 0, 1) := by decide +kernel
theorem dX8_make_141 : decode cX8_make 141 = .ok (.aload_n 0, 1) := by decide +kernel
theorem dX8_make_142 : decode cX8_make 142 = .ok (.getfield 50, 3) := by decide +kernel
theorem dX8_make_145 : decode cX8_make 145 = .ok (.iconst 1, 1) := by decide +kernel
theorem dX8_make_146 : decode cX8_make 146 = .ok (.invokevirtual 70, 3) := by decide +kernel
theorem dX8_make_149 : decode cX8_make 149 = .ok (.aload_n 0, 1) := by decide +kernel
theorem dX8_make_150 : decode cX8_make 150 = .ok (.dup, 1) := by decide +kernel
theorem dX8_make_151 : decode cX8_make 151 = .ok (.getfield 74, 3) := by decide +kernel
theorem dX8_make_154 : decode cX8_make 154 = .ok (.iconst 1, 1) := by decide +kernel
theorem dX8_make_155 : decode cX8_make 155 = .ok (.iadd, 1) := by decide +kernel
theorem dX8_make_156 : decode cX8_make 156 = .ok (.putfield 74, 3) := by decide +kernel
theorem dX8_make_159 : decode cX8_make 159 = .ok (.aload_n 0, 1) := by decide +kernel
theorem dX8_make_160 : decode cX8_make 160 = .ok (.dup, 1) := by decide +kernel
theorem dX8_make_161 : decode cX8_make 161 = .ok (.getfield 50, 3) := by decide +kernel
theorem dX8_make_164 : decode cX8_make 164 = .ok (.dup_x1, 1) := by decide +kernel
theorem dX8_make_165 : decode cX8_make 165 = .ok (.iconst 1, 1) := by decide +kernel
theorem dX8_make_166 : decode cX8_make 166 = .ok (.iadd, 1) := by decide +kernel
theorem dX8_make_167 : decode cX8_make 167 = .ok (.putfield 50, 3) := by decide +kernel
theorem dX8_make_170 : decode cX8_make 170 = .ok (.ireturn, 1) := by decide +kernel
theorem dX8_giveBack_0 : decode cX8_giveBack 0 = .ok (.aload_n 0, 1) := by decide +kernel
theorem dX8_giveBack_1 : decode cX8_giveBack 1 = .ok (.getfield 18, 3) := by decide +kernel
theorem dX8_giveBack_4 : decode cX8_giveBack 4 = .ok (.iload_n 1, 1) := by decide +kernel
theorem dX8_giveBack_5 : decode cX8_giveBack 5 = .ok (.iconst 1, 1) := by decide +kernel
theorem dX8_giveBack_6 : decode cX8_giveBack 6 = .ok (.bastore, 1) := by decide +kernel
theorem dX8_giveBack_7 : decode cX8_giveBack 7 = .ok (.aload_n 0, 1) := by decide +kernel
theorem dX8_giveBack_8 : decode cX8_giveBack 8 = .ok (.dup, 1) := by decide +kernel
theorem dX8_giveBack_9 : decode cX8_giveBack 9 = .ok (.getfield 74, 3) := by decide +kernel
theorem dX8_giveBack_12 : decode cX8_giveBack 12 = .ok (.iconst 1, 1) := by decide +kernel
theorem dX8_giveBack_13 : decode cX8_giveBack 13 = .ok (.isub, 1) := by decide +kernel
theorem dX8_giveBack_14 : decode cX8_giveBack 14 = .ok (.putfield 74, 3) := by decide +kernel
theorem dX8_giveBack_17 : decode cX8_giveBack 17 = .ok (.aload_n 0, 1) := by decide +kernel
theorem dX8_giveBack_18 : decode cX8_giveBack 18 = .ok (.iload_n 1, 1) := by decide +kernel
theorem dX8_giveBack_19 : decode cX8_giveBack 19 = .ok (.iconst (-1), 1) := by decide +kernel
theorem dX8_giveBack_20 : decode cX8_giveBack 20 = .ok (.invokevirtual 70, 3) := by decide +kernel
theorem dX8_giveBack_23 : decode cX8_giveBack 23 = .ok (.return_, 1) := by decide +kernel
theorem dX8_travel_0 : decode cX8_travel 0 = .ok (.aload_n 0, 1) := by decide +kernel
theorem dX8_travel_1 : decode cX8_travel 1 = .ok (.getfield 9, 3) := by decide +kernel
theorem dX8_travel_4 : decode cX8_travel 4 = .ok (.iload_n 1, 1) := by decide +kernel
theorem dX8_travel_5 : decode cX8_travel 5 = .ok (.iaload, 1) := by decide +kernel
theorem dX8_travel_6 : decode cX8_travel 6 = .ok (.istore_n 2, 1) := by decide +kernel
theorem dX8_travel_7 : decode cX8_travel 7 = .ok (.iconst 0, 1) := by decide +kernel
theorem dX8_travel_8 : decode cX8_travel 8 = .ok (.istore_n 3, 1) := by decide +kernel
theorem dX8_travel_9 : decode cX8_travel 9 = .ok (.iload_n 3, 1) := by decide +kernel
theorem dX8_travel_10 : decode cX8_travel 10 = .ok (.aload_n 0, 1) := by decide +kernel
theorem dX8_travel_11 : decode cX8_travel 11 = .ok (.getfield 15, 3) := by decide +kernel
theorem dX8_travel_14 : decode cX8_travel 14 = .ok (.iload_n 1, 1) := by decide +kernel
theorem dX8_travel_15 : decode cX8_travel 15 = .ok (.iaload, 1) := by decide +kernel
theorem dX8_travel_16 : decode cX8_travel 16 = .ok (.if_icmp .ge 134, 3) := by decide +kernel
theorem dX8_travel_19 : decode cX8_travel 19 = .ok (.iload_n 1, 1) := by decide +kernel
theorem dX8_travel_20 : decode cX8_travel 20 = .ok (.bipush 7, 2) := by decide +kernel
theorem dX8_travel_22 : decode cX8_travel 22 = .ok (.imul, 1) := by decide +kernel
theorem dX8_travel_23 : decode cX8_travel 23 = .ok (.iload_n 3, 1) := by decide +kernel
theorem dX8_travel_24 : decode cX8_travel 24 = .ok (.iadd, 1) := by decide +kernel
theorem dX8_travel_25 : decode cX8_travel 25 = .ok (.istore 4, 2) := by decide +kernel
theorem dX8_travel_27 : decode cX8_travel 27 = .ok (.aload_n 0, 1) := by decide +kernel
theorem dX8_travel_28 : decode cX8_travel 28 = .ok (.getfield 25, 3) := by decide +kernel
theorem dX8_travel_31 : decode cX8_travel 31 = .ok (.iload 4, 2) := by decide +kernel
theorem dX8_travel_33 : decode cX8_travel 33 = .ok (.iaload, 1) := by decide +kernel
theorem dX8_travel_34 : decode cX8_travel 34 = .ok (.ifCond .ge 28, 3) := by decide +kernel
theorem dX8_travel_37 : decode cX8_travel 37 = .ok (.aload_n 0, 1) := by decide +kernel
theorem dX8_travel_38 : decode cX8_travel 38 = .ok (.getfield 42, 3) := by decide +kernel
theorem dX8_travel_41 : decode cX8_travel 41 = .ok (.aload_n 0, 1) := by decide +kernel
theorem dX8_travel_42 : decode cX8_travel 42 = .ok (.getfield 22, 3) := by decide +kernel
theorem dX8_travel_45 : decode cX8_travel 45 = .ok (.iload 4, 2) := by decide +kernel
theorem dX8_travel_47 : decode cX8_travel 47 = .ok (.iaload, 1) := by decide +kernel
theorem dX8_travel_48 : decode cX8_travel 48 = .ok (.iload_n 2, 1) := by decide +kernel
theorem dX8_travel_49 : decode cX8_travel 49 = .ok (.aload_n 0, 1) := by decide +kernel
theorem dX8_travel_50 : decode cX8_travel 50 = .ok (.getfield 9, 3) := by decide +kernel
theorem dX8_travel_53 : decode cX8_travel 53 = .ok (.iload_n 1, 1) := by decide +kernel
theorem dX8_travel_54 : decode cX8_travel 54 = .ok (.iaload, 1) := by decide +kernel
theorem dX8_travel_55 : decode cX8_travel 55 = .ok (.invokevirtual 77, 3) := by decide +kernel
theorem dX8_travel_58 : decode cX8_travel 58 = .ok (.istore_n 2, 1) := by decide +kernel
theorem dX8_travel_59 : decode cX8_travel 59 = .ok (.goto 85, 3) := by decide +kernel
theorem dX8_travel_62 : decode cX8_travel 62 = .ok (.iload_n 3, 1) := by decide +kernel
theorem dX8_travel_63 : decode cX8_travel 63 = .ok (.ifCond .le 19, 3) := by decide +kernel
theorem dX8_travel_66 : decode cX8_travel 66 = .ok (.aload_n 0, 1) := by decide +kernel
theorem dX8_travel_67 : decode cX8_travel 67 = .ok (.getfield 25, 3) := by decide +kernel
theorem dX8_travel_70 : decode cX8_travel 70 = .ok (.iload 4, 2) := by decide +kernel
theorem dX8_travel_72 : decode cX8_travel 72 = .ok (.iconst 1, 1) := by decide +kernel
theorem dX8_travel_73 : decode cX8_travel 73 = .ok (.isub, 1) := by decide +kernel
theorem dX8_travel_74 : decode cX8_travel 74 = .ok (.iaload, 1) := by decide +kernel
theorem dX8_travel_75 : decode cX8_travel 75 = .ok (.ifCond .lt 7, 3) := by decide +kernel
theorem dX8_travel_78 : decode cX8_travel 78 = .ok (.iconst 1, 1) := by decide +kernel
theorem dX8_travel_79 : decode cX8_travel 79 = .ok (.goto 4, 3) := by decide +kernel
theorem dX8_travel_82 : decode cX8_travel 82 = .ok (.iconst 0, 1) := by decide +kernel
theorem dX8_travel_83 : decode cX8_travel 83 = .ok (.istore 5, 2) := by decide +kernel
theorem dX8_travel_85 : decode cX8_travel 85 = .ok (.aload_n 0, 1) := by decide +kernel
theorem dX8_travel_86 : decode cX8_travel 86 = .ok (.iload 4, 2) := by decide +kernel
theorem dX8_travel_88 : decode cX8_travel 88 = .ok (.iload 5, 2) := by decide +kernel
theorem dX8_travel_90 : decode cX8_travel 90 = .ok (.ifCond .eq 14, 3) := by decide +kernel
theorem dX8_travel_93 : decode cX8_travel 93 = .ok (.iload_n 2, 1) := by decide +kernel
theorem dX8_travel_94 : decode cX8_travel 94 = .ok (.aload_n 0, 1) := by decide +kernel
theorem dX8_travel_95 : decode cX8_travel 95 = .ok (.iload 4, 2) := by decide +kernel
theorem dX8_travel_97 : decode cX8_travel 97 = .ok (.invokevirtual 82, 3) := by decide +kernel
theorem dX8_travel_100 : decode cX8_travel 100 = .ok (.iadd, 1) := by decide +kernel
theorem dX8_travel_101 : decode cX8_travel 101 = .ok (.goto 4, 3) := by decide +kernel
theorem dX8_travel_104 : decode cX8_travel 104 = .ok (.iload_n 2, 1) := by decide +kernel
theorem dX8_travel_105 : decode cX8_travel 105 = .ok (.invokevirtual 86, 3) := by decide +kernel
theorem dX8_travel_108 : decode cX8_travel 108 = .ok (.ifCond .ne 7, 3) := by decide +kernel
theorem dX8_travel_111 : decode cX8_travel 111 = .ok (.iconst (-1), 1) := by decide +kernel
theorem dX8_travel_112 : decode cX8_travel 112 = .ok (.iload_n 3, 1) := by decide +kernel
theorem dX8_travel_113 : decode cX8_travel 113 = .ok (.isub, 1) := by decide +kernel
theorem dX8_travel_114 : decode cX8_travel 114 = .ok (.ireturn, 1) := by decide +kernel
theorem dX8_travel_115 : decode cX8_travel 115 = .ok (.aload_n 0, 1) := by decide +kernel
theorem dX8_travel_116 : decode cX8_travel 116 = .ok (.getfield 38, 3) := by decide +kernel
theorem dX8_travel_119 : decode cX8_travel 119 = .ok (.aload_n 0, 1) := by decide +kernel
theorem dX8_travel_120 : decode cX8_travel 120 = .ok (.getfield 22, 3) := by decide +kernel
theorem dX8_travel_123 : decode cX8_travel 123 = .ok (.iload 4, 2) := by decide +kernel
theorem dX8_travel_125 : decode cX8_travel 125 = .ok (.iaload, 1) := by decide +kernel
theorem dX8_travel_126 : decode cX8_travel 126 = .ok (.aload_n 0, 1) := by decide +kernel
theorem dX8_travel_127 : decode cX8_travel 127 = .ok (.getfield 25, 3) := by decide +kernel
theorem dX8_travel_130 : decode cX8_travel 130 = .ok (.iload 4, 2) := by decide +kernel
theorem dX8_travel_132 : decode cX8_travel 132 = .ok (.iaload, 1) := by decide +kernel
theorem dX8_travel_133 : decode cX8_travel 133 = .ok (.aload_n 0, 1) := by decide +kernel
theorem dX8_travel_134 : decode cX8_travel 134 = .ok (.getfield 31, 3) := by decide +kernel
theorem dX8_travel_137 : decode cX8_travel 137 = .ok (.iload 4, 2) := by decide +kernel
theorem dX8_travel_139 : decode cX8_travel 139 = .ok (.iaload, 1) := by decide +kernel
theorem dX8_travel_140 : decode cX8_travel 140 = .ok (.invokevirtual 90, 3) := by decide +kernel
theorem dX8_travel_143 : decode cX8_travel 143 = .ok (.istore_n 2, 1) := by decide +kernel
theorem dX8_travel_144 : decode cX8_travel 144 = .ok (.iinc 3 1, 3) := by decide +kernel
theorem dX8_travel_147 : decode cX8_travel 147 = .ok (.goto (-138), 3) := by decide +kernel
theorem dX8_travel_150 : decode cX8_travel 150 = .ok (.iload_n 2, 1) := by decide +kernel
theorem dX8_travel_151 : decode cX8_travel 151 = .ok (.ireturn, 1) := by decide +kernel
theorem dX8_changeAt_0 : decode cX8_changeAt 0 = .ok (.aload_n 0, 1) := by decide +kernel
theorem dX8_changeAt_1 : decode cX8_changeAt 1 = .ok (.getfield 34, 3) := by decide +kernel
theorem dX8_changeAt_4 : decode cX8_changeAt 4 = .ok (.getfield 95, 3) := by decide +kernel
theorem dX8_changeAt_7 : decode cX8_changeAt 7 = .ok (.aload_n 0, 1) := by decide +kernel
theorem dX8_changeAt_8 : decode cX8_changeAt 8 = .ok (.getfield 38, 3) := by decide +kernel
theorem dX8_changeAt_11 : decode cX8_changeAt 11 = .ok (.getfield 100, 3) := by decide +kernel
theorem dX8_changeAt_14 : decode cX8_changeAt 14 = .ok (.aload_n 0, 1) := by decide +kernel
theorem dX8_changeAt_15 : decode cX8_changeAt 15 = .ok (.getfield 22, 3) := by decide +kernel
theorem dX8_changeAt_18 : decode cX8_changeAt 18 = .ok (.iload_n 1, 1) := by decide +kernel
theorem dX8_changeAt_19 : decode cX8_changeAt 19 = .ok (.iaload, 1) := by decide +kernel
theorem dX8_changeAt_20 : decode cX8_changeAt 20 = .ok (.bipush 8, 2) := by decide +kernel
theorem dX8_changeAt_22 : decode cX8_changeAt 22 = .ok (.imul, 1) := by decide +kernel
theorem dX8_changeAt_23 : decode cX8_changeAt 23 = .ok (.aload_n 0, 1) := by decide +kernel
theorem dX8_changeAt_24 : decode cX8_changeAt 24 = .ok (.getfield 28, 3) := by decide +kernel
theorem dX8_changeAt_27 : decode cX8_changeAt 27 = .ok (.iload_n 1, 1) := by decide +kernel
theorem dX8_changeAt_28 : decode cX8_changeAt 28 = .ok (.iaload, 1) := by decide +kernel
theorem dX8_changeAt_29 : decode cX8_changeAt 29 = .ok (.iadd, 1) := by decide +kernel
theorem dX8_changeAt_30 : decode cX8_changeAt 30 = .ok (.iaload, 1) := by decide +kernel
theorem dX8_changeAt_31 : decode cX8_changeAt 31 = .ok (.iaload, 1) := by decide +kernel
theorem dX8_changeAt_32 : decode cX8_changeAt 32 = .ok (.ireturn, 1) := by decide +kernel
theorem dX8_canRide_0 : decode cX8_canRide 0 = .ok (.aload_n 0, 1) := by decide +kernel
theorem dX8_canRide_1 : decode cX8_canRide 1 = .ok (.getfield 22, 3) := by decide +kernel
theorem dX8_canRide_4 : decode cX8_canRide 4 = .ok (.iload_n 1, 1) := by decide +kernel
theorem dX8_canRide_5 : decode cX8_canRide 5 = .ok (.iaload, 1) := by decide +kernel
theorem dX8_canRide_6 : decode cX8_canRide 6 = .ok (.istore_n 3, 1) := by decide +kernel
theorem dX8_canRide_7 : decode cX8_canRide 7 = .ok (.aload_n 0, 1) := by decide +kernel
theorem dX8_canRide_8 : decode cX8_canRide 8 = .ok (.getfield 38, 3) := by decide +kernel
theorem dX8_canRide_11 : decode cX8_canRide 11 = .ok (.iload_n 3, 1) := by decide +kernel
theorem dX8_canRide_12 : decode cX8_canRide 12 = .ok (.aload_n 0, 1) := by decide +kernel
theorem dX8_canRide_13 : decode cX8_canRide 13 = .ok (.getfield 25, 3) := by decide +kernel
theorem dX8_canRide_16 : decode cX8_canRide 16 = .ok (.iload_n 1, 1) := by decide +kernel
theorem dX8_canRide_17 : decode cX8_canRide 17 = .ok (.iaload, 1) := by decide +kernel
theorem dX8_canRide_18 : decode cX8_canRide 18 = .ok (.invokevirtual 103, 3) := by decide +kernel
theorem dX8_canRide_21 : decode cX8_canRide 21 = .ok (.ifCond .eq 65, 3) := by decide +kernel
theorem dX8_canRide_24 : decode cX8_canRide 24 = .ok (.aload_n 0, 1) := by decide +kernel
theorem dX8_canRide_25 : decode cX8_canRide 25 = .ok (.getfield 38, 3) := by decide +kernel
theorem dX8_canRide_28 : decode cX8_canRide 28 = .ok (.iload_n 3, 1) := by decide +kernel
theorem dX8_canRide_29 : decode cX8_canRide 29 = .ok (.aload_n 0, 1) := by decide +kernel
theorem dX8_canRide_30 : decode cX8_canRide 30 = .ok (.getfield 28, 3) := by decide +kernel
theorem dX8_canRide_33 : decode cX8_canRide 33 = .ok (.iload_n 1, 1) := by decide +kernel
theorem dX8_canRide_34 : decode cX8_canRide 34 = .ok (.iaload, 1) := by decide +kernel
theorem dX8_canRide_35 : decode cX8_canRide 35 = .ok (.invokevirtual 106, 3) := by decide +kernel
theorem dX8_canRide_38 : decode cX8_canRide 38 = .ok (.ifCond .eq 48, 3) := by decide +kernel
theorem dX8_canRide_41 : decode cX8_canRide 41 = .ok (.aload_n 0, 1) := by decide +kernel
theorem dX8_canRide_42 : decode cX8_canRide 42 = .ok (.getfield 38, 3) := by decide +kernel
theorem dX8_canRide_45 : decode cX8_canRide 45 = .ok (.iload_n 3, 1) := by decide +kernel
theorem dX8_canRide_46 : decode cX8_canRide 46 = .ok (.aload_n 0, 1) := by decide +kernel
theorem dX8_canRide_47 : decode cX8_canRide 47 = .ok (.getfield 31, 3) := by decide +kernel
theorem dX8_canRide_50 : decode cX8_canRide 50 = .ok (.iload_n 1, 1) := by decide +kernel
theorem dX8_canRide_51 : decode cX8_canRide 51 = .ok (.iaload, 1) := by decide +kernel
theorem dX8_canRide_52 : decode cX8_canRide 52 = .ok (.invokevirtual 106, 3) := by decide +kernel
theorem dX8_canRide_55 : decode cX8_canRide 55 = .ok (.ifCond .eq 31, 3) := by decide +kernel
theorem dX8_canRide_58 : decode cX8_canRide 58 = .ok (.aload_n 0, 1) := by decide +kernel
theorem dX8_canRide_59 : decode cX8_canRide 59 = .ok (.getfield 38, 3) := by decide +kernel
theorem dX8_canRide_62 : decode cX8_canRide 62 = .ok (.iload_n 3, 1) := by decide +kernel
theorem dX8_canRide_63 : decode cX8_canRide 63 = .ok (.aload_n 0, 1) := by decide +kernel
theorem dX8_canRide_64 : decode cX8_canRide 64 = .ok (.getfield 25, 3) := by decide +kernel
theorem dX8_canRide_67 : decode cX8_canRide 67 = .ok (.iload_n 1, 1) := by decide +kernel
theorem dX8_canRide_68 : decode cX8_canRide 68 = .ok (.iaload, 1) := by decide +kernel
theorem dX8_canRide_69 : decode cX8_canRide 69 = .ok (.aload_n 0, 1) := by decide +kernel
theorem dX8_canRide_70 : decode cX8_canRide 70 = .ok (.getfield 28, 3) := by decide +kernel
theorem dX8_canRide_73 : decode cX8_canRide 73 = .ok (.iload_n 1, 1) := by decide +kernel
theorem dX8_canRide_74 : decode cX8_canRide 74 = .ok (.iaload, 1) := by decide +kernel
theorem dX8_canRide_75 : decode cX8_canRide 75 = .ok (.invokevirtual 109, 3) := by decide +kernel
theorem dX8_canRide_78 : decode cX8_canRide 78 = .ok (.iload_n 2, 1) := by decide +kernel
theorem dX8_canRide_79 : decode cX8_canRide 79 = .ok (.if_icmp .lt 7, 3) := by decide +kernel
theorem dX8_canRide_82 : decode cX8_canRide 82 = .ok (.iconst 1, 1) := by decide +kernel
theorem dX8_canRide_83 : decode cX8_canRide 83 = .ok (.goto 4, 3) := by decide +kernel
theorem dX8_canRide_86 : decode cX8_canRide 86 = .ok (.iconst 0, 1) := by decide +kernel
theorem dX8_canRide_87 : decode cX8_canRide 87 = .ok (.ireturn, 1) := by decide +kernel
theorem dX8_changePlaces_0 : decode cX8_changePlaces 0 = .ok (.iconst 0, 1) := by decide +kernel
theorem dX8_changePlaces_1 : decode cX8_changePlaces 1 = .ok (.istore_n 3, 1) := by decide +kernel
theorem dX8_changePlaces_2 : decode cX8_changePlaces 2 = .ok (.iload_n 3, 1) := by decide +kernel
theorem dX8_changePlaces_3 : decode cX8_changePlaces 3 = .ok (.aload_n 0, 1) := by decide +kernel
theorem dX8_changePlaces_4 : decode cX8_changePlaces 4 = .ok (.getfield 15, 3) := by decide +kernel
theorem dX8_changePlaces_7 : decode cX8_changePlaces 7 = .ok (.iload_n 1, 1) := by decide +kernel
theorem dX8_changePlaces_8 : decode cX8_changePlaces 8 = .ok (.iaload, 1) := by decide +kernel
theorem dX8_changePlaces_9 : decode cX8_changePlaces 9 = .ok (.if_icmp .ge 81, 3) := by decide +kernel
theorem dX8_changePlaces_12 : decode cX8_changePlaces 12 = .ok (.iload_n 1, 1) := by decide +kernel
theorem dX8_changePlaces_13 : decode cX8_changePlaces 13 = .ok (.bipush 7, 2) := by decide +kernel
theorem dX8_changePlaces_15 : decode cX8_changePlaces 15 = .ok (.imul, 1) := by decide +kernel
theorem dX8_changePlaces_16 : decode cX8_changePlaces 16 = .ok (.iload_n 3, 1) := by decide +kernel
theorem dX8_changePlaces_17 : decode cX8_changePlaces 17 = .ok (.iadd, 1) := by decide +kernel
theorem dX8_changePlaces_18 : decode cX8_changePlaces 18 = .ok (.istore 4, 2) := by decide +kernel
theorem dX8_changePlaces_20 : decode cX8_changePlaces 20 = .ok (.aload_n 0, 1) := by decide +kernel
theorem dX8_changePlaces_21 : decode cX8_changePlaces 21 = .ok (.getfield 25, 3) := by decide +kernel
theorem dX8_changePlaces_24 : decode cX8_changePlaces 24 = .ok (.iload 4, 2) := by decide +kernel
theorem dX8_changePlaces_26 : decode cX8_changePlaces 26 = .ok (.iaload, 1) := by decide +kernel
theorem dX8_changePlaces_27 : decode cX8_changePlaces 27 = .ok (.ifCond .lt 57, 3) := by decide +kernel
theorem dX8_changePlaces_30 : decode cX8_changePlaces 30 = .ok (.aload_n 0, 1) := by decide +kernel
theorem dX8_changePlaces_31 : decode cX8_changePlaces 31 = .ok (.getfield 38, 3) := by decide +kernel
theorem dX8_changePlaces_34 : decode cX8_changePlaces 34 = .ok (.getfield 112, 3) := by decide +kernel
theorem dX8_changePlaces_37 : decode cX8_changePlaces 37 = .ok (.aload_n 0, 1) := by decide +kernel
theorem dX8_changePlaces_38 : decode cX8_changePlaces 38 = .ok (.getfield 22, 3) := by decide +kernel
theorem dX8_changePlaces_41 : decode cX8_changePlaces 41 = .ok (.iload 4, 2) := by decide +kernel
theorem dX8_changePlaces_43 : decode cX8_changePlaces 43 = .ok (.iaload, 1) := by decide +kernel
theorem dX8_changePlaces_44 : decode cX8_changePlaces 44 = .ok (.iaload, 1) := by decide +kernel
theorem dX8_changePlaces_45 : decode cX8_changePlaces 45 = .ok (.ifCond .eq 39, 3) := by decide +kernel
theorem dX8_changePlaces_48 : decode cX8_changePlaces 48 = .ok (.aload_n 0, 1) := by decide +kernel
theorem dX8_changePlaces_49 : decode cX8_changePlaces 49 = .ok (.getfield 46, 3) := by decide +kernel
theorem dX8_changePlaces_52 : decode cX8_changePlaces 52 = .ok (.aload_n 0, 1) := by decide +kernel
theorem dX8_changePlaces_53 : decode cX8_changePlaces 53 = .ok (.getfield 22, 3) := by decide +kernel
theorem dX8_changePlaces_56 : decode cX8_changePlaces 56 = .ok (.iload 4, 2) := by decide +kernel
theorem dX8_changePlaces_58 : decode cX8_changePlaces 58 = .ok (.iaload, 1) := by decide +kernel
theorem dX8_changePlaces_59 : decode cX8_changePlaces 59 = .ok (.aload_n 0, 1) := by decide +kernel
theorem dX8_changePlaces_60 : decode cX8_changePlaces 60 = .ok (.getfield 25, 3) := by decide +kernel
theorem dX8_changePlaces_63 : decode cX8_changePlaces 63 = .ok (.iload 4, 2) := by decide +kernel
theorem dX8_changePlaces_65 : decode cX8_changePlaces 65 = .ok (.iaload, 1) := by decide +kernel
theorem dX8_changePlaces_66 : decode cX8_changePlaces 66 = .ok (.aload_n 0, 1) := by decide +kernel
theorem dX8_changePlaces_67 : decode cX8_changePlaces 67 = .ok (.getfield 28, 3) := by decide +kernel
theorem dX8_changePlaces_70 : decode cX8_changePlaces 70 = .ok (.iload 4, 2) := by decide +kernel
theorem dX8_changePlaces_72 : decode cX8_changePlaces 72 = .ok (.iaload, 1) := by decide +kernel
theorem dX8_changePlaces_73 : decode cX8_changePlaces 73 = .ok (.aload_n 0, 1) := by decide +kernel
theorem dX8_changePlaces_74 : decode cX8_changePlaces 74 = .ok (.getfield 31, 3) := by decide +kernel
theorem dX8_changePlaces_77 : decode cX8_changePlaces 77 = .ok (.iload 4, 2) := by decide +kernel
theorem dX8_changePlaces_79 : decode cX8_changePlaces 79 = .ok (.iaload, 1) := by decide +kernel
theorem dX8_changePlaces_80 : decode cX8_changePlaces 80 = .ok (.iload_n 2, 1) := by decide +kernel
theorem dX8_changePlaces_81 : decode cX8_changePlaces 81 = .ok (.invokevirtual 115, 3) := by decide +kernel
theorem dX8_changePlaces_84 : decode cX8_changePlaces 84 = .ok (.iinc 3 1, 3) := by decide +kernel
theorem dX8_changePlaces_87 : decode cX8_changePlaces 87 = .ok (.goto (-85), 3) := by decide +kernel
theorem dX8_changePlaces_90 : decode cX8_changePlaces 90 = .ok (.return_, 1) := by decide +kernel
theorem dX8_hasPlaces_0 : decode cX8_hasPlaces 0 = .ok (.iconst 0, 1) := by decide +kernel
theorem dX8_hasPlaces_1 : decode cX8_hasPlaces 1 = .ok (.istore_n 3, 1) := by decide +kernel
theorem dX8_hasPlaces_2 : decode cX8_hasPlaces 2 = .ok (.iload_n 3, 1) := by decide +kernel
theorem dX8_hasPlaces_3 : decode cX8_hasPlaces 3 = .ok (.aload_n 1, 1) := by decide +kernel
theorem dX8_hasPlaces_4 : decode cX8_hasPlaces 4 = .ok (.iload_n 2, 1) := by decide +kernel
theorem dX8_hasPlaces_5 : decode cX8_hasPlaces 5 = .ok (.iconst 4, 1) := by decide +kernel
theorem dX8_hasPlaces_6 : decode cX8_hasPlaces 6 = .ok (.invokevirtual 62, 3) := by decide +kernel
theorem dX8_hasPlaces_9 : decode cX8_hasPlaces 9 = .ok (.if_icmp .ge 41, 3) := by decide +kernel
theorem dX8_hasPlaces_12 : decode cX8_hasPlaces 12 = .ok (.aload_n 1, 1) := by decide +kernel
theorem dX8_hasPlaces_13 : decode cX8_hasPlaces 13 = .ok (.iload_n 2, 1) := by decide +kernel
theorem dX8_hasPlaces_14 : decode cX8_hasPlaces 14 = .ok (.iload_n 3, 1) := by decide +kernel
theorem dX8_hasPlaces_15 : decode cX8_hasPlaces 15 = .ok (.iconst 0, 1) := by decide +kernel
theorem dX8_hasPlaces_16 : decode cX8_hasPlaces 16 = .ok (.invokevirtual 66, 3) := by decide +kernel
theorem dX8_hasPlaces_19 : decode cX8_hasPlaces 19 = .ok (.istore 4, 2) := by decide +kernel
theorem dX8_hasPlaces_21 : decode cX8_hasPlaces 21 = .ok (.iload 4, 2) := by decide +kernel
theorem dX8_hasPlaces_23 : decode cX8_hasPlaces 23 = .ok (.ifCond .le 21, 3) := by decide +kernel
theorem dX8_hasPlaces_26 : decode cX8_hasPlaces 26 = .ok (.iload 4, 2) := by decide +kernel
theorem dX8_hasPlaces_28 : decode cX8_hasPlaces 28 = .ok (.iconst 2, 1) := by decide +kernel
theorem dX8_hasPlaces_29 : decode cX8_hasPlaces 29 = .ok (.if_icmp .gt 15, 3) := by decide +kernel
theorem dX8_hasPlaces_32 : decode cX8_hasPlaces 32 = .ok (.aload_n 0, 1) := by decide +kernel
theorem dX8_hasPlaces_33 : decode cX8_hasPlaces 33 = .ok (.aload_n 1, 1) := by decide +kernel
theorem dX8_hasPlaces_34 : decode cX8_hasPlaces 34 = .ok (.iload_n 2, 1) := by decide +kernel
theorem dX8_hasPlaces_35 : decode cX8_hasPlaces 35 = .ok (.iload_n 3, 1) := by decide +kernel
theorem dX8_hasPlaces_36 : decode cX8_hasPlaces 36 = .ok (.invokevirtual 120, 3) := by decide +kernel
theorem dX8_hasPlaces_39 : decode cX8_hasPlaces 39 = .ok (.ifCond .ne 5, 3) := by decide +kernel
theorem dX8_hasPlaces_42 : decode cX8_hasPlaces 42 = .ok (.iconst 0, 1) := by decide +kernel
theorem dX8_hasPlaces_43 : decode cX8_hasPlaces 43 = .ok (.ireturn, 1) := by decide +kernel
theorem dX8_hasPlaces_44 : decode cX8_hasPlaces 44 = .ok (.iinc 3 1, 3) := by decide +kernel
theorem dX8_hasPlaces_47 : decode cX8_hasPlaces 47 = .ok (.goto (-45), 3) := by decide +kernel
theorem dX8_hasPlaces_50 : decode cX8_hasPlaces 50 = .ok (.iconst 1, 1) := by decide +kernel
theorem dX8_hasPlaces_51 : decode cX8_hasPlaces 51 = .ok (.ireturn, 1) := by decide +kernel
theorem dX8_hasPlacesOn_0 : decode cX8_hasPlacesOn 0 = .ok (.aload_n 1, 1) := by decide +kernel
theorem dX8_hasPlacesOn_1 : decode cX8_hasPlacesOn 1 = .ok (.iload_n 2, 1) := by decide +kernel
theorem dX8_hasPlacesOn_2 : decode cX8_hasPlacesOn 2 = .ok (.iload_n 3, 1) := by decide +kernel
theorem dX8_hasPlacesOn_3 : decode cX8_hasPlacesOn 3 = .ok (.iconst 1, 1) := by decide +kernel
theorem dX8_hasPlacesOn_4 : decode cX8_hasPlacesOn 4 = .ok (.invokevirtual 66, 3) := by decide +kernel
theorem dX8_hasPlacesOn_7 : decode cX8_hasPlacesOn 7 = .ok (.istore 4, 2) := by decide +kernel
theorem dX8_hasPlacesOn_9 : decode cX8_hasPlacesOn 9 = .ok (.aload_n 1, 1) := by decide +kernel
theorem dX8_hasPlacesOn_10 : decode cX8_hasPlacesOn 10 = .ok (.iload_n 2, 1) := by decide +kernel
theorem dX8_hasPlacesOn_11 : decode cX8_hasPlacesOn 11 = .ok (.iload_n 3, 1) := by decide +kernel
theorem dX8_hasPlacesOn_12 : decode cX8_hasPlacesOn 12 = .ok (.bipush 6, 2) := by decide +kernel
theorem dX8_hasPlacesOn_14 : decode cX8_hasPlacesOn 14 = .ok (.invokevirtual 66, 3) := by decide +kernel
theorem dX8_hasPlacesOn_17 : decode cX8_hasPlacesOn 17 = .ok (.istore 5, 2) := by decide +kernel
theorem dX8_hasPlacesOn_19 : decode cX8_hasPlacesOn 19 = .ok (.aload_n 1, 1) := by decide +kernel
theorem dX8_hasPlacesOn_20 : decode cX8_hasPlacesOn 20 = .ok (.iload_n 2, 1) := by decide +kernel
theorem dX8_hasPlacesOn_21 : decode cX8_hasPlacesOn 21 = .ok (.iload_n 3, 1) := by decide +kernel
theorem dX8_hasPlacesOn_22 : decode cX8_hasPlacesOn 22 = .ok (.bipush 7, 2) := by decide +kernel
theorem dX8_hasPlacesOn_24 : decode cX8_hasPlacesOn 24 = .ok (.invokevirtual 66, 3) := by decide +kernel
theorem dX8_hasPlacesOn_27 : decode cX8_hasPlacesOn 27 = .ok (.istore 6, 2) := by decide +kernel
theorem dX8_hasPlacesOn_29 : decode cX8_hasPlacesOn 29 = .ok (.iload 6, 2) := by decide +kernel
theorem dX8_hasPlacesOn_31 : decode cX8_hasPlacesOn 31 = .ok (.aload_n 1, 1) := by decide +kernel
theorem dX8_hasPlacesOn_32 : decode cX8_hasPlacesOn 32 = .ok (.iload_n 2, 1) := by decide +kernel
theorem dX8_hasPlacesOn_33 : decode cX8_hasPlacesOn 33 = .ok (.iload_n 3, 1) := by decide +kernel
theorem dX8_hasPlacesOn_34 : decode cX8_hasPlacesOn 34 = .ok (.bipush 8, 2) := by decide +kernel
theorem dX8_hasPlacesOn_36 : decode cX8_hasPlacesOn 36 = .ok (.invokevirtual 66, 3) := by decide +kernel
theorem dX8_hasPlacesOn_39 : decode cX8_hasPlacesOn 39 = .ok (.if_icmp .ge 53, 3) := by decide +kernel
theorem dX8_hasPlacesOn_42 : decode cX8_hasPlacesOn 42 = .ok (.aload_n 0, 1) := by decide +kernel
theorem dX8_hasPlacesOn_43 : decode cX8_hasPlacesOn 43 = .ok (.getfield 46, 3) := by decide +kernel
theorem dX8_hasPlacesOn_46 : decode cX8_hasPlacesOn 46 = .ok (.iload 4, 2) := by decide +kernel
theorem dX8_hasPlacesOn_48 : decode cX8_hasPlacesOn 48 = .ok (.iload 5, 2) := by decide +kernel
theorem dX8_hasPlacesOn_50 : decode cX8_hasPlacesOn 50 = .ok (.iload 6, 2) := by decide +kernel
theorem dX8_hasPlacesOn_52 : decode cX8_hasPlacesOn 52 = .ok (.invokevirtual 124, 3) := by decide +kernel
theorem dX8_hasPlacesOn_55 : decode cX8_hasPlacesOn 55 = .ok (.aload_n 1, 1) := by decide +kernel
theorem dX8_hasPlacesOn_56 : decode cX8_hasPlacesOn 56 = .ok (.iload_n 2, 1) := by decide +kernel
theorem dX8_hasPlacesOn_57 : decode cX8_hasPlacesOn 57 = .ok (.iload 4, 2) := by decide +kernel
theorem dX8_hasPlacesOn_59 : decode cX8_hasPlacesOn 59 = .ok (.iload 5, 2) := by decide +kernel
theorem dX8_hasPlacesOn_61 : decode cX8_hasPlacesOn 61 = .ok (.iload 6, 2) := by decide +kernel
theorem dX8_hasPlacesOn_63 : decode cX8_hasPlacesOn 63 = .ok (.invokevirtual 127, 3) := by decide +kernel
theorem dX8_hasPlacesOn_66 : decode cX8_hasPlacesOn 66 = .ok (.iadd, 1) := by decide +kernel
theorem dX8_hasPlacesOn_67 : decode cX8_hasPlacesOn 67 = .ok (.istore 7, 2) := by decide +kernel
theorem dX8_hasPlacesOn_69 : decode cX8_hasPlacesOn 69 = .ok (.iload 7, 2) := by decide +kernel
theorem dX8_hasPlacesOn_71 : decode cX8_hasPlacesOn 71 = .ok (.aload_n 0, 1) := by decide +kernel
theorem dX8_hasPlacesOn_72 : decode cX8_hasPlacesOn 72 = .ok (.getfield 38, 3) := by decide +kernel
theorem dX8_hasPlacesOn_75 : decode cX8_hasPlacesOn 75 = .ok (.getfield 131, 3) := by decide +kernel
theorem dX8_hasPlacesOn_78 : decode cX8_hasPlacesOn 78 = .ok (.iload 4, 2) := by decide +kernel
theorem dX8_hasPlacesOn_80 : decode cX8_hasPlacesOn 80 = .ok (.iaload, 1) := by decide +kernel
theorem dX8_hasPlacesOn_81 : decode cX8_hasPlacesOn 81 = .ok (.if_icmp .le 5, 3) := by decide +kernel
theorem dX8_hasPlacesOn_84 : decode cX8_hasPlacesOn 84 = .ok (.iconst 0, 1) := by decide +kernel
theorem dX8_hasPlacesOn_85 : decode cX8_hasPlacesOn 85 = .ok (.ireturn, 1) := by decide +kernel
theorem dX8_hasPlacesOn_86 : decode cX8_hasPlacesOn 86 = .ok (.iinc 6 1, 3) := by decide +kernel
theorem dX8_hasPlacesOn_89 : decode cX8_hasPlacesOn 89 = .ok (.goto (-60), 3) := by decide +kernel
theorem dX8_hasPlacesOn_92 : decode cX8_hasPlacesOn 92 = .ok (.iconst 1, 1) := by decide +kernel
theorem dX8_hasPlacesOn_93 : decode cX8_hasPlacesOn 93 = .ok (.ireturn, 1) := by decide +kernel
theorem dX9_init_0 : decode cX9_init 0 = .ok (.aload_n 0, 1) := by decide +kernel
theorem dX9_init_1 : decode cX9_init 1 = .ok (.invokespecial 3, 3) := by decide +kernel
theorem dX9_init_4 : decode cX9_init 4 = .ok (.aload_n 0, 1) := by decide +kernel
theorem dX9_init_5 : decode cX9_init 5 = .ok (.bipush 24, 2) := by decide +kernel
theorem dX9_init_7 : decode cX9_init 7 = .ok (.newarray .int, 2) := by decide +kernel
theorem dX9_init_9 : decode cX9_init 9 = .ok (.putfield 9, 3) := by decide +kernel
theorem dX9_init_12 : decode cX9_init 12 = .ok (.aload_n 0, 1) := by decide +kernel
theorem dX9_init_13 : decode cX9_init 13 = .ok (.bipush 24, 2) := by decide +kernel
theorem dX9_init_15 : decode cX9_init 15 = .ok (.newarray .int, 2) := by decide +kernel
theorem dX9_init_17 : decode cX9_init 17 = .ok (.putfield 15, 3) := by decide +kernel
theorem dX9_init_20 : decode cX9_init 20 = .ok (.aload_n 0, 1) := by decide +kernel
theorem dX9_init_21 : decode cX9_init 21 = .ok (.bipush 24, 2) := by decide +kernel
theorem dX9_init_23 : decode cX9_init 23 = .ok (.newarray .int, 2) := by decide +kernel
theorem dX9_init_25 : decode cX9_init 25 = .ok (.putfield 18, 3) := by decide +kernel
theorem dX9_init_28 : decode cX9_init 28 = .ok (.aload_n 0, 1) := by decide +kernel
theorem dX9_init_29 : decode cX9_init 29 = .ok (.bipush 24, 2) := by decide +kernel
theorem dX9_init_31 : decode cX9_init 31 = .ok (.newarray .int, 2) := by decide +kernel
theorem dX9_init_33 : decode cX9_init 33 = .ok (.putfield 21, 3) := by decide +kernel
theorem dX9_init_36 : decode cX9_init 36 = .ok (.aload_n 0, 1) := by decide +kernel
theorem dX9_init_37 : decode cX9_init 37 = .ok (.bipush 24, 2) := by decide +kernel
theorem dX9_init_39 : decode cX9_init 39 = .ok (.newarray .int, 2) := by decide +kernel
theorem dX9_init_41 : decode cX9_init 41 = .ok (.putfield 24, 3) := by decide +kernel
theorem dX9_init_44 : decode cX9_init 44 = .ok (.aload_n 0, 1) := by decide +kernel
theorem dX9_init_45 : decode cX9_init 45 = .ok (.sipush 192, 3) := by decide +kernel
theorem dX9_init_48 : decode cX9_init 48 = .ok (.newarray .int, 2) := by decide +kernel
theorem dX9_init_50 : decode cX9_init 50 = .ok (.putfield 27, 3) := by decide +kernel
theorem dX9_init_53 : decode cX9_init 53 = .ok (.aload_n 0, 1) := by decide +kernel
theorem dX9_init_54 : decode cX9_init 54 = .ok (.sipush 192, 3) := by decide +kernel
theorem dX9_init_57 : decode cX9_init 57 = .ok (.newarray .int, 2) := by decide +kernel
theorem dX9_init_59 : decode cX9_init 59 = .ok (.putfield 30, 3) := by decide +kernel
theorem dX9_init_62 : decode cX9_init 62 = .ok (.aload_n 0, 1) := by decide +kernel
theorem dX9_init_63 : decode cX9_init 63 = .ok (.sipush 192, 3) := by decide +kernel
theorem dX9_init_66 : decode cX9_init 66 = .ok (.newarray .int, 2) := by decide +kernel
theorem dX9_init_68 : decode cX9_init 68 = .ok (.putfield 33, 3) := by decide +kernel
theorem dX9_init_71 : decode cX9_init 71 = .ok (.aload_n 0, 1) := by decide +kernel
theorem dX9_init_72 : decode cX9_init 72 = .ok (.bipush 100, 2) := by decide +kernel
theorem dX9_init_74 : decode cX9_init 74 = .ok (.newarray .int, 2) := by decide +kernel
theorem dX9_init_76 : decode cX9_init 76 = .ok (.putfield 36, 3) := by decide +kernel
theorem dX9_init_79 : decode cX9_init 79 = .ok (.aload_n 0, 1) := by decide +kernel
theorem dX9_init_80 : decode cX9_init 80 = .ok (.bipush 100, 2) := by decide +kernel
theorem dX9_init_82 : decode cX9_init 82 = .ok (.newarray .int, 2) := by decide +kernel
theorem dX9_init_84 : decode cX9_init 84 = .ok (.putfield 39, 3) := by decide +kernel
theorem dX9_init_87 : decode cX9_init 87 = .ok (.aload_n 0, 1) := by decide +kernel
theorem dX9_init_88 : decode cX9_init 88 = .ok (.new 42, 3) := by decide +kernel
theorem dX9_init_91 : decode cX9_init 91 = .ok (.dup, 1) := by decide +kernel
theorem dX9_init_92 : decode cX9_init 92 = .ok (.invokespecial 44, 3) := by decide +kernel
theorem dX9_init_95 : decode cX9_init 95 = .ok (.putfield 45, 3) := by decide +kernel
theorem dX9_init_98 : decode cX9_init 98 = .ok (.iconst 0, 1) := by decide +kernel
theorem dX9_init_99 : decode cX9_init 99 = .ok (.istore_n 1, 1) := by decide +kernel
theorem dX9_init_100 : decode cX9_init 100 = .ok (.iload_n 1, 1) := by decide +kernel
theorem dX9_init_101 : decode cX9_init 101 = .ok (.bipush 100, 2) := by decide +kernel
theorem dX9_init_103 : decode cX9_init 103 = .ok (.if_icmp .ge 19, 3) := by decide +kernel
theorem dX9_init_106 : decode cX9_init 106 = .ok (.aload_n 0, 1) := by decide +kernel
theorem dX9_init_107 : decode cX9_init 107 = .ok (.getfield 36, 3) := by decide +kernel
theorem dX9_init_110 : decode cX9_init 110 = .ok (.iload_n 1, 1) := by decide +kernel
theorem dX9_init_111 : decode cX9_init 111 = .ok (.iload_n 1, 1) := by decide +kernel
theorem dX9_init_112 : decode cX9_init 112 = .ok (.bipush 7, 2) := by decide +kernel
theorem dX9_init_114 : decode cX9_init 114 = .ok (.irem, 1) := by decide +kernel
theorem dX9_init_115 : decode cX9_init 115 = .ok (.iastore, 1) := by decide +kernel
theorem dX9_init_116 : decode cX9_init 116 = .ok (.iinc 1 1, 3) := by decide +kernel
theorem dX9_init_119 : decode cX9_init 119 = .ok (.goto (-19), 3) := by decide +kernel
theorem dX9_init_122 : decode cX9_init 122 = .ok (.return_, 1) := by decide +kernel
theorem dX9_has_0 : decode cX9_has 0 = .ok (.iload_n 1, 1) := by decide +kernel
theorem dX9_has_1 : decode cX9_has 1 = .ok (.ifCond .lt 15, 3) := by decide +kernel
theorem dX9_has_4 : decode cX9_has 4 = .ok (.iload_n 1, 1) := by decide +kernel
theorem dX9_has_5 : decode cX9_has 5 = .ok (.aload_n 0, 1) := by decide +kernel
theorem dX9_has_6 : decode cX9_has 6 = .ok (.getfield 49, 3) := by decide +kernel
theorem dX9_has_9 : decode cX9_has 9 = .ok (.if_icmp .ge 7, 3) := by decide +kernel
theorem dX9_has_12 : decode cX9_has 12 = .ok (.iconst 1, 1) := by decide +kernel
theorem dX9_has_13 : decode cX9_has 13 = .ok (.goto 4, 3) := by decide +kernel
theorem dX9_has_16 : decode cX9_has 16 = .ok (.iconst 0, 1) := by decide +kernel
theorem dX9_has_17 : decode cX9_has 17 = .ok (.ireturn, 1) := by decide +kernel
theorem dX9_hasCall_0 : decode cX9_hasCall 0 = .ok (.aload_n 0, 1) := by decide +kernel
theorem dX9_hasCall_1 : decode cX9_hasCall 1 = .ok (.iload_n 1, 1) := by decide +kernel
theorem dX9_hasCall_2 : decode cX9_hasCall 2 = .ok (.invokevirtual 53, 3) := by decide +kernel
theorem dX9_hasCall_5 : decode cX9_hasCall 5 = .ok (.ifCond .eq 21, 3) := by decide +kernel
theorem dX9_hasCall_8 : decode cX9_hasCall 8 = .ok (.iload_n 2, 1) := by decide +kernel
theorem dX9_hasCall_9 : decode cX9_hasCall 9 = .ok (.ifCond .lt 17, 3) := by decide +kernel
theorem dX9_hasCall_12 : decode cX9_hasCall 12 = .ok (.iload_n 2, 1) := by decide +kernel
theorem dX9_hasCall_13 : decode cX9_hasCall 13 = .ok (.aload_n 0, 1) := by decide +kernel
theorem dX9_hasCall_14 : decode cX9_hasCall 14 = .ok (.getfield 21, 3) := by decide +kernel
theorem dX9_hasCall_17 : decode cX9_hasCall 17 = .ok (.iload_n 1, 1) := by decide +kernel
theorem dX9_hasCall_18 : decode cX9_hasCall 18 = .ok (.iaload, 1) := by decide +kernel
theorem dX9_hasCall_19 : decode cX9_hasCall 19 = .ok (.if_icmp .ge 7, 3) := by decide +kernel
theorem dX9_hasCall_22 : decode cX9_hasCall 22 = .ok (.iconst 1, 1) := by decide +kernel
theorem dX9_hasCall_23 : decode cX9_hasCall 23 = .ok (.goto 4, 3) := by decide +kernel
theorem dX9_hasCall_26 : decode cX9_hasCall 26 = .ok (.iconst 0, 1) := by decide +kernel
theorem dX9_hasCall_27 : decode cX9_hasCall 27 = .ok (.ireturn, 1) := by decide +kernel
theorem dX9_add_0 : decode cX9_add 0 = .ok (.aload_n 0, 1) := by decide +kernel
theorem dX9_add_1 : decode cX9_add 1 = .ok (.getfield 49, 3) := by decide +kernel
theorem dX9_add_4 : decode cX9_add 4 = .ok (.bipush 24, 2) := by decide +kernel
theorem dX9_add_6 : decode cX9_add 6 = .ok (.if_icmp .lt 6, 3) := by decide +kernel
theorem dX9_add_9 : decode cX9_add 9 = .ok (.bipush (-2), 2) := by decide +kernel
theorem dX9_add_11 : decode cX9_add 11 = .ok (.ireturn, 1) := by decide +kernel
theorem dX9_add_12 : decode cX9_add 12 = .ok (.aload_n 0, 1) := by decide +kernel
theorem dX9_add_13 : decode cX9_add 13 = .ok (.getfield 9, 3) := by decide +kernel
theorem dX9_add_16 : decode cX9_add 16 = .ok (.aload_n 0, 1) := by decide +kernel
theorem dX9_add_17 : decode cX9_add 17 = .ok (.getfield 49, 3) := by decide +kernel
theorem dX9_add_20 : decode cX9_add 20 = .ok (.iload_n 1, 1) := by decide +kernel
theorem dX9_add_21 : decode cX9_add 21 = .ok (.iastore, 1) := by decide +kernel
theorem dX9_add_22 : decode cX9_add 22 = .ok (.aload_n 0, 1) := by decide +kernel
theorem dX9_add_23 : decode cX9_add 23 = .ok (.getfield 15, 3) := by decide +kernel
theorem dX9_add_26 : decode cX9_add 26 = .ok (.aload_n 0, 1) := by decide +kernel
theorem dX9_add_27 : decode cX9_add 27 = .ok (.getfield 49, 3) := by decide +kernel
theorem dX9_add_30 : decode cX9_add 30 = .ok (.iload_n 2, 1) := by decide +kernel
theorem dX9_add_31 : decode cX9_add 31 = .ok (.iastore, 1) := by decide +kernel
theorem dX9_add_32 : decode cX9_add 32 = .ok (.aload_n 0, 1) := by decide +kernel
theorem dX9_add_33 : decode cX9_add 33 = .ok (.getfield 18, 3) := by decide +kernel
theorem dX9_add_36 : decode cX9_add 36 = .ok (.aload_n 0, 1) := by decide +kernel
theorem dX9_add_37 : decode cX9_add 37 = .ok (.getfield 49, 3) := by decide +kernel
theorem dX9_add_40 : decode cX9_add 40 = .ok (.iload_n 3, 1) := by decide +kernel
theorem dX9_add_41 : decode cX9_add 41 = .ok (.iastore, 1) := by decide +kernel
theorem dX9_add_42 : decode cX9_add 42 = .ok (.aload_n 0, 1) := by decide +kernel
theorem dX9_add_43 : decode cX9_add 43 = .ok (.dup, 1) := by decide +kernel
theorem dX9_add_44 : decode cX9_add 44 = .ok (.getfield 49, 3) := by decide +kernel
theorem dX9_add_47 : decode cX9_add 47 = .ok (.dup_x1, 1) := by decide +kernel
theorem dX9_add_48 : decode cX9_add 48 = .ok (.iconst 1, 1) := by decide +kernel
theorem dX9_add_49 : decode cX9_add 49 = .ok (.iadd, 1) := by decide +kernel
theorem dX9_add_50 : decode cX9_add 50 = .ok (.putfield 49, 3) := by decide +kernel
theorem dX9_add_53 : decode cX9_add 53 = .ok (.ireturn, 1) := by decide +kernel
theorem dX9_addCall_0 : decode cX9_addCall 0 = .ok (.aload_n 0, 1) := by decide +kernel
theorem dX9_addCall_1 : decode cX9_addCall 1 = .ok (.getfield 21, 3) := by decide +kernel
theorem dX9_addCall_4 : decode cX9_addCall 4 = .ok (.iload_n 1, 1) := by decide +kernel
theorem dX9_addCall_5 : decode cX9_addCall 5 = .ok (.iaload, 1) := by decide +kernel
theorem dX9_addCall_6 : decode cX9_addCall 6 = .ok (.istore 5, 2) := by decide +kernel
theorem dX9_addCall_8 : decode cX9_addCall 8 = .ok (.iload 5, 2) := by decide +kernel
theorem dX9_addCall_10 : decode cX9_addCall 10 = .ok (.bipush 8, 2) := by decide +kernel
theorem dX9_addCall_12 : decode cX9_addCall 12 = .ok (.if_icmp .lt 6, 3) := by decide +kernel
theorem dX9_addCall_15 : decode cX9_addCall 15 = .ok (.bipush (-2), 2) := by decide +kernel
theorem dX9_addCall_17 : decode cX9_addCall 17 = .ok (.ireturn, 1) := by decide +kernel
theorem dX9_addCall_18 : decode cX9_addCall 18 = .ok (.iload_n 1, 1) := by decide +kernel
theorem dX9_addCall_19 : decode cX9_addCall 19 = .ok (.bipush 8, 2) := by decide +kernel
theorem dX9_addCall_21 : decode cX9_addCall 21 = .ok (.imul, 1) := by decide +kernel
theorem dX9_addCall_22 : decode cX9_addCall 22 = .ok (.iload 5, 2) := by decide +kernel
theorem dX9_addCall_24 : decode cX9_addCall 24 = .ok (.iadd, 1) := by decide +kernel
theorem dX9_addCall_25 : decode cX9_addCall 25 = .ok (.istore 6, 2) := by decide +kernel
theorem dX9_addCall_27 : decode cX9_addCall 27 = .ok (.iload 5, 2) := by decide +kernel
theorem dX9_addCall_29 : decode cX9_addCall 29 = .ok (.ifCond .ne 7, 3) := by decide +kernel
theorem dX9_addCall_32 : decode cX9_addCall 32 = .ok (.iconst 0, 1) := by decide +kernel
theorem dX9_addCall_33 : decode cX9_addCall 33 = .ok (.goto 12, 3) := by decide +kernel
theorem dX9_addCall_36 : decode cX9_addCall 36 = .ok (.aload_n 0, 1) := by decide +kernel
theorem dX9_addCall_37 : decode cX9_addCall 37 = .ok (.getfield 33, 3) := by decide +kernel
theorem dX9_addCall_40 : decode cX9_addCall 40 = .ok (.iload 6, 2) := by decide +kernel
theorem dX9_addCall_42 : decode cX9_addCall 42 = .ok (.iconst 1, 1) := by decide +kernel
theorem dX9_addCall_43 : decode cX9_addCall 43 = .ok (.isub, 1) := by decide +kernel
theorem dX9_addCall_44 : decode cX9_addCall 44 = .ok (.iaload, 1) := by decide +kernel
theorem dX9_addCall_45 : decode cX9_addCall 45 = .ok (.istore 7, 2) := by decide +kernel
theorem dX9_addCall_47 : decode cX9_addCall 47 = .ok (.aload_n 0, 1) := by decide +kernel
theorem dX9_addCall_48 : decode cX9_addCall 48 = .ok (.getfield 9, 3) := by decide +kernel
theorem dX9_addCall_51 : decode cX9_addCall 51 = .ok (.iload_n 1, 1) := by decide +kernel
theorem dX9_addCall_52 : decode cX9_addCall 52 = .ok (.iaload, 1) := by decide +kernel
theorem dX9_addCall_53 : decode cX9_addCall 53 = .ok (.iconst 2, 1) := by decide +kernel
theorem dX9_addCall_54 : decode cX9_addCall 54 = .ok (.if_icmp .ne 9, 3) := by decide +kernel
theorem dX9_addCall_57 : decode cX9_addCall 57 = .ok (.sipush 2879, 3) := by decide +kernel
theorem dX9_addCall_60 : decode cX9_addCall 60 = .ok (.goto 6, 3) := by decide +kernel
theorem dX9_addCall_63 : decode cX9_addCall 63 = .ok (.sipush 1439, 3) := by decide +kernel
theorem dX9_addCall_66 : decode cX9_addCall 66 = .ok (.istore 8, 2) := by decide +kernel
theorem dX9_addCall_68 : decode cX9_addCall 68 = .ok (.iload_n 3, 1) := by decide +kernel
theorem dX9_addCall_69 : decode cX9_addCall 69 = .ok (.iload 7, 2) := by decide +kernel
theorem dX9_addCall_71 : decode cX9_addCall 71 = .ok (.if_icmp .lt 16, 3) := by decide +kernel
theorem dX9_addCall_74 : decode cX9_addCall 74 = .ok (.iload 4, 2) := by decide +kernel
theorem dX9_addCall_76 : decode cX9_addCall 76 = .ok (.iload_n 3, 1) := by decide +kernel
theorem dX9_addCall_77 : decode cX9_addCall 77 = .ok (.if_icmp .lt 10, 3) := by decide +kernel
theorem dX9_addCall_80 : decode cX9_addCall 80 = .ok (.iload 4, 2) := by decide +kernel
theorem dX9_addCall_82 : decode cX9_addCall 82 = .ok (.iload 8, 2) := by decide +kernel
theorem dX9_addCall_84 : decode cX9_addCall 84 = .ok (.if_icmp .le 6, 3) := by decide +kernel
theorem dX9_addCall_87 : decode cX9_addCall 87 = .ok (.bipush (-2), 2) := by decide +kernel
theorem dX9_addCall_89 : decode cX9_addCall 89 = .ok (.ireturn, 1) := by decide +kernel
theorem dX9_addCall_90 : decode cX9_addCall 90 = .ok (.aload_n 0, 1) := by decide +kernel
theorem dX9_addCall_91 : decode cX9_addCall 91 = .ok (.getfield 27, 3) := by decide +kernel
theorem dX9_addCall_94 : decode cX9_addCall 94 = .ok (.iload 6, 2) := by decide +kernel
theorem dX9_addCall_96 : decode cX9_addCall 96 = .ok (.iload_n 2, 1) := by decide +kernel
theorem dX9_addCall_97 : decode cX9_addCall 97 = .ok (.iastore, 1) := by decide +kernel
theorem dX9_addCall_98 : decode cX9_addCall 98 = .ok (.aload_n 0, 1) := by decide +kernel
theorem dX9_addCall_99 : decode cX9_addCall 99 = .ok (.getfield 30, 3) := by decide +kernel
theorem dX9_addCall_102 : decode cX9_addCall 102 = .ok (.iload 6, 2) := by decide +kernel
theorem dX9_addCall_104 : decode cX9_addCall 104 = .ok (.iload_n 3, 1) := by decide +kernel
theorem dX9_addCall_105 : decode cX9_addCall 105 = .ok (.iastore, 1) := by decide +kernel
theorem dX9_addCall_106 : decode cX9_addCall 106 = .ok (.aload_n 0, 1) := by decide +kernel
theorem dX9_addCall_107 : decode cX9_addCall 107 = .ok (.getfield 33, 3) := by decide +kernel
theorem dX9_addCall_110 : decode cX9_addCall 110 = .ok (.iload 6, 2) := by decide +kernel
theorem dX9_addCall_112 : decode cX9_addCall 112 = .ok (.iload 4, 2) := by decide +kernel
theorem dX9_addCall_114 : decode cX9_addCall 114 = .ok (.iastore, 1) := by decide +kernel
theorem dX9_addCall_115 : decode cX9_addCall 115 = .ok (.aload_n 0, 1) := by decide +kernel
theorem dX9_addCall_116 : decode cX9_addCall 116 = .ok (.getfield 21, 3) := by decide +kernel
theorem dX9_addCall_119 : decode cX9_addCall 119 = .ok (.iload_n 1, 1) := by decide +kernel
theorem dX9_addCall_120 : decode cX9_addCall 120 = .ok (.dup2, 1) := by decide +kernel
theorem dX9_addCall_121 : decode cX9_addCall 121 = .ok (.iaload, 1) := by decide +kernel
theorem dX9_addCall_122 : decode cX9_addCall 122 = .ok (.iconst 1, 1) := by decide +kernel
theorem dX9_addCall_123 : decode cX9_addCall 123 = .ok (.iadd, 1) := by decide +kernel
theorem dX9_addCall_124 : decode cX9_addCall 124 = .ok (.iastore, 1) := by decide +kernel
theorem dX9_addCall_125 : decode cX9_addCall 125 = .ok (.iload 5, 2) := by decide +kernel
theorem dX9_addCall_127 : decode cX9_addCall 127 = .ok (.ireturn, 1) := by decide +kernel
theorem dX9_setMissed_0 : decode cX9_setMissed 0 = .ok (.aload_n 0, 1) := by decide +kernel
theorem dX9_setMissed_1 : decode cX9_setMissed 1 = .ok (.getfield 24, 3) := by decide +kernel
theorem dX9_setMissed_4 : decode cX9_setMissed 4 = .ok (.iload_n 1, 1) := by decide +kernel
theorem dX9_setMissed_5 : decode cX9_setMissed 5 = .ok (.iaload, 1) := by decide +kernel
theorem dX9_setMissed_6 : decode cX9_setMissed 6 = .ok (.iload_n 2, 1) := by decide +kernel
theorem dX9_setMissed_7 : decode cX9_setMissed 7 = .ok (.ishr, 1) := by decide +kernel
theorem dX9_setMissed_8 : decode cX9_setMissed 8 = .ok (.iconst 1, 1) := by decide +kernel
theorem dX9_setMissed_9 : decode cX9_setMissed 9 = .ok (.iand, 1) := by decide +kernel
theorem dX9_setMissed_10 : decode cX9_setMissed 10 = .ok (.istore 4, 2) := by decide +kernel
theorem dX9_setMissed_12 : decode cX9_setMissed 12 = .ok (.aload_n 0, 1) := by decide +kernel
theorem dX9_setMissed_13 : decode cX9_setMissed 13 = .ok (.getfield 24, 3) := by decide +kernel
theorem dX9_setMissed_16 : decode cX9_setMissed 16 = .ok (.iload_n 1, 1) := by decide +kernel
theorem dX9_setMissed_17 : decode cX9_setMissed 17 = .ok (.iload_n 3, 1) := by decide +kernel
theorem dX9_setMissed_18 : decode cX9_setMissed 18 = .ok (.ifCond .eq 16, 3) := by decide +kernel
theorem dX9_setMissed_21 : decode cX9_setMissed 21 = .ok (.aload_n 0, 1) := by decide +kernel
theorem dX9_setMissed_22 : decode cX9_setMissed 22 = .ok (.getfield 24, 3) := by decide +kernel
theorem dX9_setMissed_25 : decode cX9_setMissed 25 = .ok (.iload_n 1, 1) := by decide +kernel
theorem dX9_setMissed_26 : decode cX9_setMissed 26 = .ok (.iaload, 1) := by decide +kernel
theorem dX9_setMissed_27 : decode cX9_setMissed 27 = .ok (.iconst 1, 1) := by decide +kernel
theorem dX9_setMissed_28 : decode cX9_setMissed 28 = .ok (.iload_n 2, 1) := by decide +kernel
theorem dX9_setMissed_29 : decode cX9_setMissed 29 = .ok (.ishl, 1) := by decide +kernel
theorem dX9_setMissed_30 : decode cX9_setMissed 30 = .ok (.ior, 1) := by decide +kernel
theorem dX9_setMissed_31 : decode cX9_setMissed 31 = .ok (.goto 15, 3) := by decide +kernel
theorem dX9_setMissed_34 : decode cX9_setMissed 34 = .ok (.aload_n 0, 1) := by decide +kernel
theorem dX9_setMissed_35 : decode cX9_setMissed 35 = .ok (.getfield 24, 3) := by decide +kernel
theorem dX9_setMissed_38 : decode cX9_setMissed 38 = .ok (.iload_n 1, 1) := by decide +kernel
theorem dX9_setMissed_39 : decode cX9_setMissed 39 = .ok (.iaload, 1) := by decide +kernel
theorem dX9_setMissed_40 : decode cX9_setMissed 40 = .ok (.iconst 1, 1) := by decide +kernel
theorem dX9_setMissed_41 : decode cX9_setMissed 41 = .ok (.iload_n 2, 1) := by decide +kernel
theorem dX9_setMissed_42 : decode cX9_setMissed 42 = .ok (.ishl, 1) := by decide +kernel
theorem dX9_setMissed_43 : decode cX9_setMissed 43 = .ok (.iconst (-1), 1) := by decide +kernel
theorem dX9_setMissed_44 : decode cX9_setMissed 44 = .ok (.ixor, 1) := by decide +kernel
theorem dX9_setMissed_45 : decode cX9_setMissed 45 = .ok (.iand, 1) := by decide +kernel
theorem dX9_setMissed_46 : decode cX9_setMissed 46 = .ok (.iastore, 1) := by decide +kernel
theorem dX9_setMissed_47 : decode cX9_setMissed 47 = .ok (.iload 4, 2) := by decide +kernel
theorem dX9_setMissed_49 : decode cX9_setMissed 49 = .ok (.ireturn, 1) := by decide +kernel
theorem dX9_setGone_0 : decode cX9_setGone 0 = .ok (.aload_n 0, 1) := by decide +kernel
theorem dX9_setGone_1 : decode cX9_setGone 1 = .ok (.getfield 39, 3) := by decide +kernel
theorem dX9_setGone_4 : decode cX9_setGone 4 = .ok (.iload_n 2, 1) := by decide +kernel
theorem dX9_setGone_5 : decode cX9_setGone 5 = .ok (.iaload, 1) := by decide +kernel
theorem dX9_setGone_6 : decode cX9_setGone 6 = .ok (.iload_n 1, 1) := by decide +kernel
theorem dX9_setGone_7 : decode cX9_setGone 7 = .ok (.ishr, 1) := by decide +kernel
theorem dX9_setGone_8 : decode cX9_setGone 8 = .ok (.iconst 1, 1) := by decide +kernel
theorem dX9_setGone_9 : decode cX9_setGone 9 = .ok (.iand, 1) := by decide +kernel
theorem dX9_setGone_10 : decode cX9_setGone 10 = .ok (.istore 4, 2) := by decide +kernel
theorem dX9_setGone_12 : decode cX9_setGone 12 = .ok (.aload_n 0, 1) := by decide +kernel
theorem dX9_setGone_13 : decode cX9_setGone 13 = .ok (.getfield 39, 3) := by decide +kernel
theorem dX9_setGone_16 : decode cX9_setGone 16 = .ok (.iload_n 2, 1) := by decide +kernel
theorem dX9_setGone_17 : decode cX9_setGone 17 = .ok (.iload_n 3, 1) := by decide +kernel
theorem dX9_setGone_18 : decode cX9_setGone 18 = .ok (.ifCond .eq 16, 3) := by decide +kernel
theorem dX9_setGone_21 : decode cX9_setGone 21 = .ok (.aload_n 0, 1) := by decide +kernel
theorem dX9_setGone_22 : decode cX9_setGone 22 = .ok (.getfield 39, 3) := by decide +kernel
theorem dX9_setGone_25 : decode cX9_setGone 25 = .ok (.iload_n 2, 1) := by decide +kernel
theorem dX9_setGone_26 : decode cX9_setGone 26 = .ok (.iaload, 1) := by decide +kernel
theorem dX9_setGone_27 : decode cX9_setGone 27 = .ok (.iconst 1, 1) := by decide +kernel
theorem dX9_setGone_28 : decode cX9_setGone 28 = .ok (.iload_n 1, 1) := by decide +kernel
theorem dX9_setGone_29 : decode cX9_setGone 29 = .ok (.ishl, 1) := by decide +kernel
theorem dX9_setGone_30 : decode cX9_setGone 30 = .ok (.ior, 1) := by decide +kernel
theorem dX9_setGone_31 : decode cX9_setGone 31 = .ok (.goto 15, 3) := by decide +kernel
theorem dX9_setGone_34 : decode cX9_setGone 34 = .ok (.aload_n 0, 1) := by decide +kernel
theorem dX9_setGone_35 : decode cX9_setGone 35 = .ok (.getfield 39, 3) := by decide +kernel
theorem dX9_setGone_38 : decode cX9_setGone 38 = .ok (.iload_n 2, 1) := by decide +kernel
theorem dX9_setGone_39 : decode cX9_setGone 39 = .ok (.iaload, 1) := by decide +kernel
theorem dX9_setGone_40 : decode cX9_setGone 40 = .ok (.iconst 1, 1) := by decide +kernel
theorem dX9_setGone_41 : decode cX9_setGone 41 = .ok (.iload_n 1, 1) := by decide +kernel
theorem dX9_setGone_42 : decode cX9_setGone 42 = .ok (.ishl, 1) := by decide +kernel
theorem dX9_setGone_43 : decode cX9_setGone 43 = .ok (.iconst (-1), 1) := by decide +kernel
theorem dX9_setGone_44 : decode cX9_setGone 44 = .ok (.ixor, 1) := by decide +kernel
theorem dX9_setGone_45 : decode cX9_setGone 45 = .ok (.iand, 1) := by decide +kernel
theorem dX9_setGone_46 : decode cX9_setGone 46 = .ok (.iastore, 1) := by decide +kernel
theorem dX9_setGone_47 : decode cX9_setGone 47 = .ok (.iload 4, 2) := by decide +kernel
theorem dX9_setGone_49 : decode cX9_setGone 49 = .ok (.ireturn, 1) := by decide +kernel
theorem dX9_isOpen_0 : decode cX9_isOpen 0 = .ok (.aload_n 0, 1) := by decide +kernel
theorem dX9_isOpen_1 : decode cX9_isOpen 1 = .ok (.getfield 24, 3) := by decide +kernel
theorem dX9_isOpen_4 : decode cX9_isOpen 4 = .ok (.iload_n 1, 1) := by decide +kernel
theorem dX9_isOpen_5 : decode cX9_isOpen 5 = .ok (.iaload, 1) := by decide +kernel
theorem dX9_isOpen_6 : decode cX9_isOpen 6 = .ok (.iload_n 2, 1) := by decide +kernel
theorem dX9_isOpen_7 : decode cX9_isOpen 7 = .ok (.ishr, 1) := by decide +kernel
theorem dX9_isOpen_8 : decode cX9_isOpen 8 = .ok (.iconst 1, 1) := by decide +kernel
theorem dX9_isOpen_9 : decode cX9_isOpen 9 = .ok (.iand, 1) := by decide +kernel
theorem dX9_isOpen_10 : decode cX9_isOpen 10 = .ok (.ifCond .ne 7, 3) := by decide +kernel
theorem dX9_isOpen_13 : decode cX9_isOpen 13 = .ok (.iconst 1, 1) := by decide +kernel
theorem dX9_isOpen_14 : decode cX9_isOpen 14 = .ok (.goto 4, 3) := by decide +kernel
theorem dX9_isOpen_17 : decode cX9_isOpen 17 = .ok (.iconst 0, 1) := by decide +kernel
theorem dX9_isOpen_18 : decode cX9_isOpen 18 = .ok (.ireturn, 1) := by decide +kernel
theorem dX9_runsOn_0 : decode cX9_runsOn 0 = .ok (.aload_n 0, 1) := by decide +kernel
theorem dX9_runsOn_1 : decode cX9_runsOn 1 = .ok (.getfield 15, 3) := by decide +kernel
theorem dX9_runsOn_4 : decode cX9_runsOn 4 = .ok (.iload_n 1, 1) := by decide +kernel
theorem dX9_runsOn_5 : decode cX9_runsOn 5 = .ok (.iaload, 1) := by decide +kernel
theorem dX9_runsOn_6 : decode cX9_runsOn 6 = .ok (.aload_n 0, 1) := by decide +kernel
theorem dX9_runsOn_7 : decode cX9_runsOn 7 = .ok (.getfield 36, 3) := by decide +kernel
theorem dX9_runsOn_10 : decode cX9_runsOn 10 = .ok (.iload_n 2, 1) := by decide +kernel
theorem dX9_runsOn_11 : decode cX9_runsOn 11 = .ok (.iaload, 1) := by decide +kernel
theorem dX9_runsOn_12 : decode cX9_runsOn 12 = .ok (.ishr, 1) := by decide +kernel
theorem dX9_runsOn_13 : decode cX9_runsOn 13 = .ok (.iconst 1, 1) := by decide +kernel
theorem dX9_runsOn_14 : decode cX9_runsOn 14 = .ok (.iand, 1) := by decide +kernel
theorem dX9_runsOn_15 : decode cX9_runsOn 15 = .ok (.ifCond .eq 20, 3) := by decide +kernel
theorem dX9_runsOn_18 : decode cX9_runsOn 18 = .ok (.aload_n 0, 1) := by decide +kernel
theorem dX9_runsOn_19 : decode cX9_runsOn 19 = .ok (.getfield 39, 3) := by decide +kernel
theorem dX9_runsOn_22 : decode cX9_runsOn 22 = .ok (.iload_n 2, 1) := by decide +kernel
theorem dX9_runsOn_23 : decode cX9_runsOn 23 = .ok (.iaload, 1) := by decide +kernel
theorem dX9_runsOn_24 : decode cX9_runsOn 24 = .ok (.iload_n 1, 1) := by decide +kernel
theorem dX9_runsOn_25 : decode cX9_runsOn 25 = .ok (.ishr, 1) := by decide +kernel
theorem dX9_runsOn_26 : decode cX9_runsOn 26 = .ok (.iconst 1, 1) := by decide +kernel
theorem dX9_runsOn_27 : decode cX9_runsOn 27 = .ok (.iand, 1) := by decide +kernel
theorem dX9_runsOn_28 : decode cX9_runsOn 28 = .ok (.ifCond .ne 7, 3) := by decide +kernel
theorem dX9_runsOn_31 : decode cX9_runsOn 31 = .ok (.iconst 1, 1) := by decide +kernel
theorem dX9_runsOn_32 : decode cX9_runsOn 32 = .ok (.goto 4, 3) := by decide +kernel
theorem dX9_runsOn_35 : decode cX9_runsOn 35 = .ok (.iconst 0, 1) := by decide +kernel
theorem dX9_runsOn_36 : decode cX9_runsOn 36 = .ok (.ireturn, 1) := by decide +kernel
theorem dX9_comesAt_0 : decode cX9_comesAt 0 = .ok (.sipush 1440, 3) := by decide +kernel
theorem dX9_comesAt_3 : decode cX9_comesAt 3 = .ok (.iload_n 2, 1) := by decide +kernel
theorem dX9_comesAt_4 : decode cX9_comesAt 4 = .ok (.imul, 1) := by decide +kernel
theorem dX9_comesAt_5 : decode cX9_comesAt 5 = .ok (.aload_n 0, 1) := by decide +kernel
theorem dX9_comesAt_6 : decode cX9_comesAt 6 = .ok (.getfield 30, 3) := by decide +kernel
theorem dX9_comesAt_9 : decode cX9_comesAt 9 = .ok (.iload_n 1, 1) := by decide +kernel
theorem dX9_comesAt_10 : decode cX9_comesAt 10 = .ok (.bipush 8, 2) := by decide +kernel
theorem dX9_comesAt_12 : decode cX9_comesAt 12 = .ok (.imul, 1) := by decide +kernel
theorem dX9_comesAt_13 : decode cX9_comesAt 13 = .ok (.iload_n 3, 1) := by decide +kernel
theorem dX9_comesAt_14 : decode cX9_comesAt 14 = .ok (.iadd, 1) := by decide +kernel
theorem dX9_comesAt_15 : decode cX9_comesAt 15 = .ok (.iaload, 1) := by decide +kernel
theorem dX9_comesAt_16 : decode cX9_comesAt 16 = .ok (.iadd, 1) := by decide +kernel
theorem dX9_comesAt_17 : decode cX9_comesAt 17 = .ok (.aload_n 0, 1) := by decide +kernel
theorem dX9_comesAt_18 : decode cX9_comesAt 18 = .ok (.getfield 45, 3) := by decide +kernel
theorem dX9_comesAt_21 : decode cX9_comesAt 21 = .ok (.iload_n 1, 1) := by decide +kernel
theorem dX9_comesAt_22 : decode cX9_comesAt 22 = .ok (.iload_n 2, 1) := by decide +kernel
theorem dX9_comesAt_23 : decode cX9_comesAt 23 = .ok (.iload_n 3, 1) := by decide +kernel
theorem dX9_comesAt_24 : decode cX9_comesAt 24 = .ok (.invokevirtual 57, 3) := by decide +kernel
theorem dX9_comesAt_27 : decode cX9_comesAt 27 = .ok (.iadd, 1) := by decide +kernel
theorem dX9_comesAt_28 : decode cX9_comesAt 28 = .ok (.ireturn, 1) := by decide +kernel
theorem dX9_leavesAt_0 : decode cX9_leavesAt 0 = .ok (.sipush 1440, 3) := by decide +kernel
theorem dX9_leavesAt_3 : decode cX9_leavesAt 3 = .ok (.iload_n 2, 1) := by decide +kernel
theorem dX9_leavesAt_4 : decode cX9_leavesAt 4 = .ok (.imul, 1) := by decide +kernel
theorem dX9_leavesAt_5 : decode cX9_leavesAt 5 = .ok (.aload_n 0, 1) := by decide +kernel
theorem dX9_leavesAt_6 : decode cX9_leavesAt 6 = .ok (.getfield 33, 3) := by decide +kernel
theorem dX9_leavesAt_9 : decode cX9_leavesAt 9 = .ok (.iload_n 1, 1) := by decide +kernel
theorem dX9_leavesAt_10 : decode cX9_leavesAt 10 = .ok (.bipush 8, 2) := by decide +kernel
theorem dX9_leavesAt_12 : decode cX9_leavesAt 12 = .ok (.imul, 1) := by decide +kernel
theorem dX9_leavesAt_13 : decode cX9_leavesAt 13 = .ok (.iload_n 3, 1) := by decide +kernel
theorem dX9_leavesAt_14 : decode cX9_leavesAt 14 = .ok (.iadd, 1) := by decide +kernel
theorem dX9_leavesAt_15 : decode cX9_leavesAt 15 = .ok (.iaload, 1) := by decide +kernel
theorem dX9_leavesAt_16 : decode cX9_leavesAt 16 = .ok (.iadd, 1) := by decide +kernel
theorem dX9_leavesAt_17 : decode cX9_leavesAt 17 = .ok (.aload_n 0, 1) := by decide +kernel
theorem dX9_leavesAt_18 : decode cX9_leavesAt 18 = .ok (.getfield 45, 3) := by decide +kernel
theorem dX9_leavesAt_21 : decode cX9_leavesAt 21 = .ok (.iload_n 1, 1) := by decide +kernel
theorem dX9_leavesAt_22 : decode cX9_leavesAt 22 = .ok (.iload_n 2, 1) := by decide +kernel
theorem dX9_leavesAt_23 : decode cX9_leavesAt 23 = .ok (.iload_n 3, 1) := by decide +kernel
theorem dX9_leavesAt_24 : decode cX9_leavesAt 24 = .ok (.invokevirtual 57, 3) := by decide +kernel
theorem dX9_leavesAt_27 : decode cX9_leavesAt 27 = .ok (.iadd, 1) := by decide +kernel
theorem dX9_leavesAt_28 : decode cX9_leavesAt 28 = .ok (.ireturn, 1) := by decide +kernel
theorem dX10_init_0 : decode cX10_init 0 = .ok (.aload_n 0, 1) := by decide +kernel
theorem dX10_init_1 : decode cX10_init 1 = .ok (.invokespecial 3, 3) := by decide +kernel
theorem dX10_init_4 : decode cX10_init 4 = .ok (.aload_n 0, 1) := by decide +kernel
theorem dX10_init_5 : decode cX10_init 5 = .ok (.bipush 20, 2) := by decide +kernel
theorem dX10_init_7 : decode cX10_init 7 = .ok (.newarray .int, 2) := by decide +kernel
theorem dX10_init_9 : decode cX10_init 9 = .ok (.putfield 9, 3) := by decide +kernel
theorem dX10_init_12 : decode cX10_init 12 = .ok (.aload_n 0, 1) := by decide +kernel
theorem dX10_init_13 : decode cX10_init 13 = .ok (.bipush 20, 2) := by decide +kernel
theorem dX10_init_15 : decode cX10_init 15 = .ok (.newarray .int, 2) := by decide +kernel
theorem dX10_init_17 : decode cX10_init 17 = .ok (.putfield 15, 3) := by decide +kernel
theorem dX10_init_20 : decode cX10_init 20 = .ok (.aload_n 0, 1) := by decide +kernel
theorem dX10_init_21 : decode cX10_init 21 = .ok (.bipush 20, 2) := by decide +kernel
theorem dX10_init_23 : decode cX10_init 23 = .ok (.newarray .int, 2) := by decide +kernel
theorem dX10_init_25 : decode cX10_init 25 = .ok (.putfield 18, 3) := by decide +kernel
theorem dX10_init_28 : decode cX10_init 28 = .ok (.aload_n 0, 1) := by decide +kernel
theorem dX10_init_29 : decode cX10_init 29 = .ok (.bipush 20, 2) := by decide +kernel
theorem dX10_init_31 : decode cX10_init 31 = .ok (.newarray .int, 2) := by decide +kernel
theorem dX10_init_33 : decode cX10_init 33 = .ok (.putfield 21, 3) := by decide +kernel
theorem dX10_init_36 : decode cX10_init 36 = .ok (.aload_n 0, 1) := by decide +kernel
theorem dX10_init_37 : decode cX10_init 37 = .ok (.bipush 20, 2) := by decide +kernel
theorem dX10_init_39 : decode cX10_init 39 = .ok (.newarray .int, 2) := by decide +kernel
theorem dX10_init_41 : decode cX10_init 41 = .ok (.putfield 24, 3) := by decide +kernel
theorem dX10_init_44 : decode cX10_init 44 = .ok (.aload_n 0, 1) := by decide +kernel
theorem dX10_init_45 : decode cX10_init 45 = .ok (.bipush 20, 2) := by decide +kernel
theorem dX10_init_47 : decode cX10_init 47 = .ok (.newarray .int, 2) := by decide +kernel
theorem dX10_init_49 : decode cX10_init 49 = .ok (.putfield 27, 3) := by decide +kernel
theorem dX10_init_52 : decode cX10_init 52 = .ok (.aload_n 0, 1) := by decide +kernel
theorem dX10_init_53 : decode cX10_init 53 = .ok (.bipush 20, 2) := by decide +kernel
theorem dX10_init_55 : decode cX10_init 55 = .ok (.newarray .int, 2) := by decide +kernel
theorem dX10_init_57 : decode cX10_init 57 = .ok (.putfield 30, 3) := by decide +kernel
theorem dX10_init_60 : decode cX10_init 60 = .ok (.aload_n 0, 1) := by decide +kernel
theorem dX10_init_61 : decode cX10_init 61 = .ok (.bipush 20, 2) := by decide +kernel
theorem dX10_init_63 : decode cX10_init 63 = .ok (.newarray .int, 2) := by decide +kernel
theorem dX10_init_65 : decode cX10_init 65 = .ok (.putfield 33, 3) := by decide +kernel
theorem dX10_init_68 : decode cX10_init 68 = .ok (.return_, 1) := by decide +kernel
theorem dX10_has_0 : decode cX10_has 0 = .ok (.iload_n 1, 1) := by decide +kernel
theorem dX10_has_1 : decode cX10_has 1 = .ok (.ifCond .lt 15, 3) := by decide +kernel
theorem dX10_has_4 : decode cX10_has 4 = .ok (.iload_n 1, 1) := by decide +kernel
theorem dX10_has_5 : decode cX10_has 5 = .ok (.aload_n 0, 1) := by decide +kernel
theorem dX10_has_6 : decode cX10_has 6 = .ok (.getfield 36, 3) := by decide +kernel
theorem dX10_has_9 : decode cX10_has 9 = .ok (.if_icmp .ge 7, 3) := by decide +kernel
theorem dX10_has_12 : decode cX10_has 12 = .ok (.iconst 1, 1) := by decide +kernel
theorem dX10_has_13 : decode cX10_has 13 = .ok (.goto 4, 3) := by decide +kernel
theorem dX10_has_16 : decode cX10_has 16 = .ok (.iconst 0, 1) := by decide +kernel
theorem dX10_has_17 : decode cX10_has 17 = .ok (.ireturn, 1) := by decide +kernel
theorem dX10_add_0 : decode cX10_add 0 = .ok (.aload_n 0, 1) := by decide +kernel
theorem dX10_add_1 : decode cX10_add 1 = .ok (.getfield 36, 3) := by decide +kernel
theorem dX10_add_4 : decode cX10_add 4 = .ok (.bipush 20, 2) := by decide +kernel
theorem dX10_add_6 : decode cX10_add 6 = .ok (.if_icmp .lt 6, 3) := by decide +kernel
theorem dX10_add_9 : decode cX10_add 9 = .ok (.bipush (-2), 2) := by decide +kernel
theorem dX10_add_11 : decode cX10_add 11 = .ok (.ireturn, 1) := by decide +kernel
theorem dX10_add_12 : decode cX10_add 12 = .ok (.aload_n 0, 1) := by decide +kernel
theorem dX10_add_13 : decode cX10_add 13 = .ok (.getfield 9, 3) := by decide +kernel
theorem dX10_add_16 : decode cX10_add 16 = .ok (.aload_n 0, 1) := by decide +kernel
theorem dX10_add_17 : decode cX10_add 17 = .ok (.getfield 36, 3) := by decide +kernel
theorem dX10_add_20 : decode cX10_add 20 = .ok (.iload_n 1, 1) := by decide +kernel
theorem dX10_add_21 : decode cX10_add 21 = .ok (.iastore, 1) := by decide +kernel
theorem dX10_add_22 : decode cX10_add 22 = .ok (.aload_n 0, 1) := by decide +kernel
theorem dX10_add_23 : decode cX10_add 23 = .ok (.getfield 15, 3) := by decide +kernel
theorem dX10_add_26 : decode cX10_add 26 = .ok (.aload_n 0, 1) := by decide +kernel
theorem dX10_add_27 : decode cX10_add 27 = .ok (.getfield 36, 3) := by decide +kernel
theorem dX10_add_30 : decode cX10_add 30 = .ok (.iload_n 2, 1) := by decide +kernel
theorem dX10_add_31 : decode cX10_add 31 = .ok (.iastore, 1) := by decide +kernel
theorem dX10_add_32 : decode cX10_add 32 = .ok (.aload_n 0, 1) := by decide +kernel
theorem dX10_add_33 : decode cX10_add 33 = .ok (.getfield 18, 3) := by decide +kernel
theorem dX10_add_36 : decode cX10_add 36 = .ok (.aload_n 0, 1) := by decide +kernel
theorem dX10_add_37 : decode cX10_add 37 = .ok (.getfield 36, 3) := by decide +kernel
theorem dX10_add_40 : decode cX10_add 40 = .ok (.iload_n 3, 1) := by decide +kernel
theorem dX10_add_41 : decode cX10_add 41 = .ok (.iastore, 1) := by decide +kernel
theorem dX10_add_42 : decode cX10_add 42 = .ok (.aload_n 0, 1) := by decide +kernel
theorem dX10_add_43 : decode cX10_add 43 = .ok (.getfield 21, 3) := by decide +kernel
theorem dX10_add_46 : decode cX10_add 46 = .ok (.aload_n 0, 1) := by decide +kernel
theorem dX10_add_47 : decode cX10_add 47 = .ok (.getfield 36, 3) := by decide +kernel
theorem dX10_add_50 : decode cX10_add 50 = .ok (.iconst 3, 1) := by decide +kernel
theorem dX10_add_51 : decode cX10_add 51 = .ok (.iastore, 1) := by decide +kernel
theorem dX10_add_52 : decode cX10_add 52 = .ok (.aload_n 0, 1) := by decide +kernel
theorem dX10_add_53 : decode cX10_add 53 = .ok (.dup, 1) := by decide +kernel
theorem dX10_add_54 : decode cX10_add 54 = .ok (.getfield 36, 3) := by decide +kernel
theorem dX10_add_57 : decode cX10_add 57 = .ok (.dup_x1, 1) := by decide +kernel
theorem dX10_add_58 : decode cX10_add 58 = .ok (.iconst 1, 1) := by decide +kernel
theorem dX10_add_59 : decode cX10_add 59 = .ok (.iadd, 1) := by decide +kernel
theorem dX10_add_60 : decode cX10_add 60 = .ok (.putfield 36, 3) := by decide +kernel
theorem dX10_add_63 : decode cX10_add 63 = .ok (.ireturn, 1) := by decide +kernel
theorem dX10_makeShuttle_0 : decode cX10_makeShuttle 0 = .ok (.aload_n 0, 1) := by decide +kernel
theorem dX10_makeShuttle_1 : decode cX10_makeShuttle 1 = .ok (.getfield 21, 3) := by decide +kernel
theorem dX10_makeShuttle_4 : decode cX10_makeShuttle 4 = .ok (.iload_n 1, 1) := by decide +kernel
theorem dX10_makeShuttle_5 : decode cX10_makeShuttle 5 = .ok (.iaload, 1) := by decide +kernel
theorem dX10_makeShuttle_6 : decode cX10_makeShuttle 6 = .ok (.istore 5, 2) := by decide +kernel
theorem dX10_makeShuttle_8 : decode cX10_makeShuttle 8 = .ok (.aload_n 0, 1) := by decide +kernel
theorem dX10_makeShuttle_9 : decode cX10_makeShuttle 9 = .ok (.getfield 21, 3) := by decide +kernel
theorem dX10_makeShuttle_12 : decode cX10_makeShuttle 12 = .ok (.iload_n 1, 1) := by decide +kernel
theorem dX10_makeShuttle_13 : decode cX10_makeShuttle 13 = .ok (.iconst 4, 1) := by decide +kernel
theorem dX10_makeShuttle_14 : decode cX10_makeShuttle 14 = .ok (.iastore, 1) := by decide +kernel
theorem dX10_makeShuttle_15 : decode cX10_makeShuttle 15 = .ok (.aload_n 0, 1) := by decide +kernel
theorem dX10_makeShuttle_16 : decode cX10_makeShuttle 16 = .ok (.getfield 24, 3) := by decide +kernel
theorem dX10_makeShuttle_19 : decode cX10_makeShuttle 19 = .ok (.iload_n 1, 1) := by decide +kernel
theorem dX10_makeShuttle_20 : decode cX10_makeShuttle 20 = .ok (.iload_n 2, 1) := by decide +kernel
theorem dX10_makeShuttle_21 : decode cX10_makeShuttle 21 = .ok (.iastore, 1) := by decide +kernel
theorem dX10_makeShuttle_22 : decode cX10_makeShuttle 22 = .ok (.aload_n 0, 1) := by decide +kernel
theorem dX10_makeShuttle_23 : decode cX10_makeShuttle 23 = .ok (.getfield 27, 3) := by decide +kernel
theorem dX10_makeShuttle_26 : decode cX10_makeShuttle 26 = .ok (.iload_n 1, 1) := by decide +kernel
theorem dX10_makeShuttle_27 : decode cX10_makeShuttle 27 = .ok (.iload_n 3, 1) := by decide +kernel
theorem dX10_makeShuttle_28 : decode cX10_makeShuttle 28 = .ok (.iastore, 1) := by decide +kernel
theorem dX10_makeShuttle_29 : decode cX10_makeShuttle 29 = .ok (.aload_n 0, 1) := by decide +kernel
theorem dX10_makeShuttle_30 : decode cX10_makeShuttle 30 = .ok (.getfield 30, 3) := by decide +kernel
theorem dX10_makeShuttle_33 : decode cX10_makeShuttle 33 = .ok (.iload_n 1, 1) := by decide +kernel
theorem dX10_makeShuttle_34 : decode cX10_makeShuttle 34 = .ok (.iload 4, 2) := by decide +kernel
theorem dX10_makeShuttle_36 : decode cX10_makeShuttle 36 = .ok (.iastore, 1) := by decide +kernel
theorem dX10_makeShuttle_37 : decode cX10_makeShuttle 37 = .ok (.iload 5, 2) := by decide +kernel
theorem dX10_makeShuttle_39 : decode cX10_makeShuttle 39 = .ok (.ireturn, 1) := by decide +kernel
theorem dX10_makeAsked_0 : decode cX10_makeAsked 0 = .ok (.aload_n 0, 1) := by decide +kernel
theorem dX10_makeAsked_1 : decode cX10_makeAsked 1 = .ok (.getfield 21, 3) := by decide +kernel
theorem dX10_makeAsked_4 : decode cX10_makeAsked 4 = .ok (.iload_n 1, 1) := by decide +kernel
theorem dX10_makeAsked_5 : decode cX10_makeAsked 5 = .ok (.iaload, 1) := by decide +kernel
theorem dX10_makeAsked_6 : decode cX10_makeAsked 6 = .ok (.istore_n 3, 1) := by decide +kernel
theorem dX10_makeAsked_7 : decode cX10_makeAsked 7 = .ok (.aload_n 0, 1) := by decide +kernel
theorem dX10_makeAsked_8 : decode cX10_makeAsked 8 = .ok (.getfield 21, 3) := by decide +kernel
theorem dX10_makeAsked_11 : decode cX10_makeAsked 11 = .ok (.iload_n 1, 1) := by decide +kernel
theorem dX10_makeAsked_12 : decode cX10_makeAsked 12 = .ok (.iconst 5, 1) := by decide +kernel
theorem dX10_makeAsked_13 : decode cX10_makeAsked 13 = .ok (.iastore, 1) := by decide +kernel
theorem dX10_makeAsked_14 : decode cX10_makeAsked 14 = .ok (.aload_n 0, 1) := by decide +kernel
theorem dX10_makeAsked_15 : decode cX10_makeAsked 15 = .ok (.getfield 33, 3) := by decide +kernel
theorem dX10_makeAsked_18 : decode cX10_makeAsked 18 = .ok (.iload_n 1, 1) := by decide +kernel
theorem dX10_makeAsked_19 : decode cX10_makeAsked 19 = .ok (.iload_n 2, 1) := by decide +kernel
theorem dX10_makeAsked_20 : decode cX10_makeAsked 20 = .ok (.iastore, 1) := by decide +kernel
theorem dX10_makeAsked_21 : decode cX10_makeAsked 21 = .ok (.iload_n 3, 1) := by decide +kernel
theorem dX10_makeAsked_22 : decode cX10_makeAsked 22 = .ok (.ireturn, 1) := by decide +kernel
theorem dX10_beginsAt_0 : decode cX10_beginsAt 0 = .ok (.aload_n 0, 1) := by decide +kernel
theorem dX10_beginsAt_1 : decode cX10_beginsAt 1 = .ok (.getfield 21, 3) := by decide +kernel
theorem dX10_beginsAt_4 : decode cX10_beginsAt 4 = .ok (.iload_n 1, 1) := by decide +kernel
theorem dX10_beginsAt_5 : decode cX10_beginsAt 5 = .ok (.iaload, 1) := by decide +kernel
theorem dX10_beginsAt_6 : decode cX10_beginsAt 6 = .ok (.iconst 3, 1) := by decide +kernel
theorem dX10_beginsAt_7 : decode cX10_beginsAt 7 = .ok (.if_icmp .ne 5, 3) := by decide +kernel
theorem dX10_beginsAt_10 : decode cX10_beginsAt 10 = .ok (.iload_n 2, 1) := by decide +kernel
theorem dX10_beginsAt_11 : decode cX10_beginsAt 11 = .ok (.ireturn, 1) := by decide +kernel
theorem dX10_beginsAt_12 : decode cX10_beginsAt 12 = .ok (.aload_n 0, 1) := by decide +kernel
theorem dX10_beginsAt_13 : decode cX10_beginsAt 13 = .ok (.getfield 21, 3) := by decide +kernel
theorem dX10_beginsAt_16 : decode cX10_beginsAt 16 = .ok (.iload_n 1, 1) := by decide +kernel
theorem dX10_beginsAt_17 : decode cX10_beginsAt 17 = .ok (.iaload, 1) := by decide +kernel
theorem dX10_beginsAt_18 : decode cX10_beginsAt 18 = .ok (.iconst 5, 1) := by decide +kernel
theorem dX10_beginsAt_19 : decode cX10_beginsAt 19 = .ok (.if_icmp .ne 21, 3) := by decide +kernel
theorem dX10_beginsAt_22 : decode cX10_beginsAt 22 = .ok (.aload_n 0, 1) := by decide +kernel
theorem dX10_beginsAt_23 : decode cX10_beginsAt 23 = .ok (.iload_n 1, 1) := by decide +kernel
theorem dX10_beginsAt_24 : decode cX10_beginsAt 24 = .ok (.iload_n 2, 1) := by decide +kernel
theorem dX10_beginsAt_25 : decode cX10_beginsAt 25 = .ok (.iload_n 3, 1) := by decide +kernel
theorem dX10_beginsAt_26 : decode cX10_beginsAt 26 = .ok (.aload_n 0, 1) := by decide +kernel
theorem dX10_beginsAt_27 : decode cX10_beginsAt 27 = .ok (.getfield 33, 3) := by decide +kernel
theorem dX10_beginsAt_30 : decode cX10_beginsAt 30 = .ok (.iload_n 1, 1) := by decide +kernel
theorem dX10_beginsAt_31 : decode cX10_beginsAt 31 = .ok (.iaload, 1) := by decide +kernel
theorem dX10_beginsAt_32 : decode cX10_beginsAt 32 = .ok (.iadd, 1) := by decide +kernel
theorem dX10_beginsAt_33 : decode cX10_beginsAt 33 = .ok (.invokestatic 40, 3) := by decide +kernel
theorem dX10_beginsAt_36 : decode cX10_beginsAt 36 = .ok (.invokevirtual 46, 3) := by decide +kernel
theorem dX10_beginsAt_39 : decode cX10_beginsAt 39 = .ok (.ireturn, 1) := by decide +kernel
theorem dX10_beginsAt_40 : decode cX10_beginsAt 40 = .ok (.aload_n 0, 1) := by decide +kernel
theorem dX10_beginsAt_41 : decode cX10_beginsAt 41 = .ok (.iload_n 1, 1) := by decide +kernel
theorem dX10_beginsAt_42 : decode cX10_beginsAt 42 = .ok (.iload_n 2, 1) := by decide +kernel
theorem dX10_beginsAt_43 : decode cX10_beginsAt 43 = .ok (.invokevirtual 46, 3) := by decide +kernel
theorem dX10_beginsAt_46 : decode cX10_beginsAt 46 = .ok (.ireturn, 1) := by decide +kernel
theorem dX10_endsAt_0 : decode cX10_endsAt 0 = .ok (.iload_n 2, 1) := by decide +kernel
theorem dX10_endsAt_1 : decode cX10_endsAt 1 = .ok (.ldc 49, 2) := by decide +kernel
theorem dX10_endsAt_3 : decode cX10_endsAt 3 = .ok (.if_icmp .lt 8, 3) := by decide +kernel
theorem dX10_endsAt_6 : decode cX10_endsAt 6 = .ok (.ldc 49, 2) := by decide +kernel
theorem dX10_endsAt_8 : decode cX10_endsAt 8 = .ok (.goto 17, 3) := by decide +kernel
theorem dX10_endsAt_11 : decode cX10_endsAt 11 = .ok (.aload_n 0, 1) := by decide +kernel
theorem dX10_endsAt_12 : decode cX10_endsAt 12 = .ok (.iload_n 1, 1) := by decide +kernel
theorem dX10_endsAt_13 : decode cX10_endsAt 13 = .ok (.iload_n 2, 1) := by decide +kernel
theorem dX10_endsAt_14 : decode cX10_endsAt 14 = .ok (.iload_n 3, 1) := by decide +kernel
theorem dX10_endsAt_15 : decode cX10_endsAt 15 = .ok (.invokevirtual 50, 3) := by decide +kernel
theorem dX10_endsAt_18 : decode cX10_endsAt 18 = .ok (.aload_n 0, 1) := by decide +kernel
theorem dX10_endsAt_19 : decode cX10_endsAt 19 = .ok (.getfield 18, 3) := by decide +kernel
theorem dX10_endsAt_22 : decode cX10_endsAt 22 = .ok (.iload_n 1, 1) := by decide +kernel
theorem dX10_endsAt_23 : decode cX10_endsAt 23 = .ok (.iaload, 1) := by decide +kernel
theorem dX10_endsAt_24 : decode cX10_endsAt 24 = .ok (.iadd, 1) := by decide +kernel
theorem dX10_endsAt_25 : decode cX10_endsAt 25 = .ok (.ireturn, 1) := by decide +kernel
theorem dX10_nextBeginning_0 : decode cX10_nextBeginning 0 = .ok (.iload_n 2, 1) := by decide +kernel
theorem dX10_nextBeginning_1 : decode cX10_nextBeginning 1 = .ok (.sipush 1440, 3) := by decide +kernel
theorem dX10_nextBeginning_4 : decode cX10_nextBeginning 4 = .ok (.irem, 1) := by decide +kernel
theorem dX10_nextBeginning_5 : decode cX10_nextBeginning 5 = .ok (.istore_n 3, 1) := by decide +kernel
theorem dX10_nextBeginning_6 : decode cX10_nextBeginning 6 = .ok (.iload_n 2, 1) := by decide +kernel
theorem dX10_nextBeginning_7 : decode cX10_nextBeginning 7 = .ok (.iload_n 3, 1) := by decide +kernel
theorem dX10_nextBeginning_8 : decode cX10_nextBeginning 8 = .ok (.isub, 1) := by decide +kernel
theorem dX10_nextBeginning_9 : decode cX10_nextBeginning 9 = .ok (.istore 4, 2) := by decide +kernel
theorem dX10_nextBeginning_11 : decode cX10_nextBeginning 11 = .ok (.iload_n 3, 1) := by decide +kernel
end
section
theorem dX10_nextBeginning_12 : decode cX10_nextBeginning 12 = .ok (.aload_n 0, 1) := by decide +kernel
theorem dX10_nextBeginning_13 : decode cX10_nextBeginning 13 = .ok (.getfield 24, 3) := by decide +kernel
theorem dX10_nextBeginning_16 : decode cX10_nextBeginning 16 = .ok (.iload_n 1, 1) := by decide +kernel
theorem dX10_nextBeginning_17 : decode cX10_nextBeginning 17 = .ok (.iaload, 1) := by decide +kernel
theorem dX10_nextBeginning_18 : decode cX10_nextBeginning 18 = .ok (.if_icmp .gt 13, 3) := by decide +kernel
theorem dX10_nextBeginning_21 : decode cX10_nextBeginning 21 = .ok (.iload 4, 2) := by decide +kernel
theorem dX10_nextBeginning_23 : decode cX10_nextBeginning 23 = .ok (.aload_n 0, 1) := by decide +kernel
theorem dX10_nextBeginning_24 : decode cX10_nextBeginning 24 = .ok (.getfield 24, 3) := by decide +kernel
theorem dX10_nextBeginning_27 : decode cX10_nextBeginning 27 = .ok (.iload_n 1, 1) := by decide +kernel
theorem dX10_nextBeginning_28 : decode cX10_nextBeginning 28 = .ok (.iaload, 1) := by decide +kernel
theorem dX10_nextBeginning_29 : decode cX10_nextBeginning 29 = .ok (.iadd, 1) := by decide +kernel
theorem dX10_nextBeginning_30 : decode cX10_nextBeginning 30 = .ok (.ireturn, 1) := by decide +kernel
theorem dX10_nextBeginning_31 : decode cX10_nextBeginning 31 = .ok (.iconst 1, 1) := by decide +kernel
theorem dX10_nextBeginning_32 : decode cX10_nextBeginning 32 = .ok (.aload_n 0, 1) := by decide +kernel
theorem dX10_nextBeginning_33 : decode cX10_nextBeginning 33 = .ok (.getfield 30, 3) := by decide +kernel
theorem dX10_nextBeginning_36 : decode cX10_nextBeginning 36 = .ok (.iload_n 1, 1) := by decide +kernel
theorem dX10_nextBeginning_37 : decode cX10_nextBeginning 37 = .ok (.iaload, 1) := by decide +kernel
theorem dX10_nextBeginning_38 : decode cX10_nextBeginning 38 = .ok (.invokestatic 40, 3) := by decide +kernel
theorem dX10_nextBeginning_41 : decode cX10_nextBeginning 41 = .ok (.istore 5, 2) := by decide +kernel
theorem dX10_nextBeginning_43 : decode cX10_nextBeginning 43 = .ok (.aload_n 0, 1) := by decide +kernel
theorem dX10_nextBeginning_44 : decode cX10_nextBeginning 44 = .ok (.getfield 24, 3) := by decide +kernel
theorem dX10_nextBeginning_47 : decode cX10_nextBeginning 47 = .ok (.iload_n 1, 1) := by decide +kernel
theorem dX10_nextBeginning_48 : decode cX10_nextBeginning 48 = .ok (.iaload, 1) := by decide +kernel
theorem dX10_nextBeginning_49 : decode cX10_nextBeginning 49 = .ok (.iload_n 3, 1) := by decide +kernel
theorem dX10_nextBeginning_50 : decode cX10_nextBeginning 50 = .ok (.aload_n 0, 1) := by decide +kernel
theorem dX10_nextBeginning_51 : decode cX10_nextBeginning 51 = .ok (.getfield 24, 3) := by decide +kernel
theorem dX10_nextBeginning_54 : decode cX10_nextBeginning 54 = .ok (.iload_n 1, 1) := by decide +kernel
theorem dX10_nextBeginning_55 : decode cX10_nextBeginning 55 = .ok (.iaload, 1) := by decide +kernel
theorem dX10_nextBeginning_56 : decode cX10_nextBeginning 56 = .ok (.isub, 1) := by decide +kernel
theorem dX10_nextBeginning_57 : decode cX10_nextBeginning 57 = .ok (.iload 5, 2) := by decide +kernel
theorem dX10_nextBeginning_59 : decode cX10_nextBeginning 59 = .ok (.iadd, 1) := by decide +kernel
theorem dX10_nextBeginning_60 : decode cX10_nextBeginning 60 = .ok (.iconst 1, 1) := by decide +kernel
theorem dX10_nextBeginning_61 : decode cX10_nextBeginning 61 = .ok (.isub, 1) := by decide +kernel
theorem dX10_nextBeginning_62 : decode cX10_nextBeginning 62 = .ok (.iload 5, 2) := by decide +kernel
theorem dX10_nextBeginning_64 : decode cX10_nextBeginning 64 = .ok (.idiv, 1) := by decide +kernel
theorem dX10_nextBeginning_65 : decode cX10_nextBeginning 65 = .ok (.iload 5, 2) := by decide +kernel
theorem dX10_nextBeginning_67 : decode cX10_nextBeginning 67 = .ok (.imul, 1) := by decide +kernel
theorem dX10_nextBeginning_68 : decode cX10_nextBeginning 68 = .ok (.iadd, 1) := by decide +kernel
theorem dX10_nextBeginning_69 : decode cX10_nextBeginning 69 = .ok (.istore 6, 2) := by decide +kernel
theorem dX10_nextBeginning_71 : decode cX10_nextBeginning 71 = .ok (.iload 6, 2) := by decide +kernel
theorem dX10_nextBeginning_73 : decode cX10_nextBeginning 73 = .ok (.aload_n 0, 1) := by decide +kernel
theorem dX10_nextBeginning_74 : decode cX10_nextBeginning 74 = .ok (.getfield 27, 3) := by decide +kernel
theorem dX10_nextBeginning_77 : decode cX10_nextBeginning 77 = .ok (.iload_n 1, 1) := by decide +kernel
theorem dX10_nextBeginning_78 : decode cX10_nextBeginning 78 = .ok (.iaload, 1) := by decide +kernel
theorem dX10_nextBeginning_79 : decode cX10_nextBeginning 79 = .ok (.if_icmp .gt 11, 3) := by decide +kernel
theorem dX10_nextBeginning_82 : decode cX10_nextBeginning 82 = .ok (.iload 4, 2) := by decide +kernel
theorem dX10_nextBeginning_84 : decode cX10_nextBeginning 84 = .ok (.iload 6, 2) := by decide +kernel
theorem dX10_nextBeginning_86 : decode cX10_nextBeginning 86 = .ok (.iadd, 1) := by decide +kernel
theorem dX10_nextBeginning_87 : decode cX10_nextBeginning 87 = .ok (.goto 16, 3) := by decide +kernel
theorem dX10_nextBeginning_90 : decode cX10_nextBeginning 90 = .ok (.iload 4, 2) := by decide +kernel
theorem dX10_nextBeginning_92 : decode cX10_nextBeginning 92 = .ok (.sipush 1440, 3) := by decide +kernel
theorem dX10_nextBeginning_95 : decode cX10_nextBeginning 95 = .ok (.iadd, 1) := by decide +kernel
theorem dX10_nextBeginning_96 : decode cX10_nextBeginning 96 = .ok (.aload_n 0, 1) := by decide +kernel
theorem dX10_nextBeginning_97 : decode cX10_nextBeginning 97 = .ok (.getfield 24, 3) := by decide +kernel
theorem dX10_nextBeginning_100 : decode cX10_nextBeginning 100 = .ok (.iload_n 1, 1) := by decide +kernel
theorem dX10_nextBeginning_101 : decode cX10_nextBeginning 101 = .ok (.iaload, 1) := by decide +kernel
theorem dX10_nextBeginning_102 : decode cX10_nextBeginning 102 = .ok (.iadd, 1) := by decide +kernel
theorem dX10_nextBeginning_103 : decode cX10_nextBeginning 103 = .ok (.ireturn, 1) := by decide +kernel
theorem dX11_init_0 : decode cX11_init 0 = .ok (.aload_n 0, 1) := by decide +kernel
theorem dX11_init_1 : decode cX11_init 1 = .ok (.invokespecial 3, 3) := by decide +kernel
theorem dX11_init_4 : decode cX11_init 4 = .ok (.aload_n 0, 1) := by decide +kernel
theorem dX11_init_5 : decode cX11_init 5 = .ok (.new 9, 3) := by decide +kernel
theorem dX11_init_8 : decode cX11_init 8 = .ok (.dup, 1) := by decide +kernel
theorem dX11_init_9 : decode cX11_init 9 = .ok (.invokespecial 11, 3) := by decide +kernel
theorem dX11_init_12 : decode cX11_init 12 = .ok (.putfield 12, 3) := by decide +kernel
theorem dX11_init_15 : decode cX11_init 15 = .ok (.aload_n 0, 1) := by decide +kernel
theorem dX11_init_16 : decode cX11_init 16 = .ok (.new 16, 3) := by decide +kernel
theorem dX11_init_19 : decode cX11_init 19 = .ok (.dup, 1) := by decide +kernel
theorem dX11_init_20 : decode cX11_init 20 = .ok (.invokespecial 18, 3) := by decide +kernel
theorem dX11_init_23 : decode cX11_init 23 = .ok (.putfield 19, 3) := by decide +kernel
theorem dX11_init_26 : decode cX11_init 26 = .ok (.aload_n 0, 1) := by decide +kernel
theorem dX11_init_27 : decode cX11_init 27 = .ok (.new 23, 3) := by decide +kernel
theorem dX11_init_30 : decode cX11_init 30 = .ok (.dup, 1) := by decide +kernel
theorem dX11_init_31 : decode cX11_init 31 = .ok (.invokespecial 25, 3) := by decide +kernel
theorem dX11_init_34 : decode cX11_init 34 = .ok (.putfield 26, 3) := by decide +kernel
theorem dX11_init_37 : decode cX11_init 37 = .ok (.aload_n 0, 1) := by decide +kernel
theorem dX11_init_38 : decode cX11_init 38 = .ok (.new 30, 3) := by decide +kernel
theorem dX11_init_41 : decode cX11_init 41 = .ok (.dup, 1) := by decide +kernel
theorem dX11_init_42 : decode cX11_init 42 = .ok (.invokespecial 32, 3) := by decide +kernel
theorem dX11_init_45 : decode cX11_init 45 = .ok (.putfield 33, 3) := by decide +kernel
theorem dX11_init_48 : decode cX11_init 48 = .ok (.aload_n 0, 1) := by decide +kernel
theorem dX11_init_49 : decode cX11_init 49 = .ok (.new 37, 3) := by decide +kernel
theorem dX11_init_52 : decode cX11_init 52 = .ok (.dup, 1) := by decide +kernel
theorem dX11_init_53 : decode cX11_init 53 = .ok (.aload_n 0, 1) := by decide +kernel
theorem dX11_init_54 : decode cX11_init 54 = .ok (.getfield 12, 3) := by decide +kernel
theorem dX11_init_57 : decode cX11_init 57 = .ok (.aload_n 0, 1) := by decide +kernel
theorem dX11_init_58 : decode cX11_init 58 = .ok (.getfield 19, 3) := by decide +kernel
theorem dX11_init_61 : decode cX11_init 61 = .ok (.aload_n 0, 1) := by decide +kernel
theorem dX11_init_62 : decode cX11_init 62 = .ok (.getfield 26, 3) := by decide +kernel
theorem dX11_init_65 : decode cX11_init 65 = .ok (.aload_n 0, 1) := by decide +kernel
theorem dX11_init_66 : decode cX11_init 66 = .ok (.getfield 33, 3) := by decide +kernel
theorem dX11_init_69 : decode cX11_init 69 = .ok (.invokespecial 39, 3) := by decide +kernel
theorem dX11_init_72 : decode cX11_init 72 = .ok (.putfield 42, 3) := by decide +kernel
theorem dX11_init_75 : decode cX11_init 75 = .ok (.aload_n 0, 1) := by decide +kernel
theorem dX11_init_76 : decode cX11_init 76 = .ok (.new 46, 3) := by decide +kernel
theorem dX11_init_79 : decode cX11_init 79 = .ok (.dup, 1) := by decide +kernel
theorem dX11_init_80 : decode cX11_init 80 = .ok (.aload_n 0, 1) := by decide +kernel
theorem dX11_init_81 : decode cX11_init 81 = .ok (.getfield 19, 3) := by decide +kernel
theorem dX11_init_84 : decode cX11_init 84 = .ok (.aload_n 0, 1) := by decide +kernel
theorem dX11_init_85 : decode cX11_init 85 = .ok (.getfield 33, 3) := by decide +kernel
theorem dX11_init_88 : decode cX11_init 88 = .ok (.invokespecial 48, 3) := by decide +kernel
theorem dX11_init_91 : decode cX11_init 91 = .ok (.putfield 51, 3) := by decide +kernel
theorem dX11_init_94 : decode cX11_init 94 = .ok (.aload_n 0, 1) := by decide +kernel
theorem dX11_init_95 : decode cX11_init 95 = .ok (.new 55, 3) := by decide +kernel
theorem dX11_init_98 : decode cX11_init 98 = .ok (.dup, 1) := by decide +kernel
theorem dX11_init_99 : decode cX11_init 99 = .ok (.aload_n 0, 1) := by decide +kernel
theorem dX11_init_100 : decode cX11_init 100 = .ok (.getfield 12, 3) := by decide +kernel
theorem dX11_init_103 : decode cX11_init 103 = .ok (.aload_n 0, 1) := by decide +kernel
theorem dX11_init_104 : decode cX11_init 104 = .ok (.getfield 19, 3) := by decide +kernel
theorem dX11_init_107 : decode cX11_init 107 = .ok (.aload_n 0, 1) := by decide +kernel
theorem dX11_init_108 : decode cX11_init 108 = .ok (.getfield 26, 3) := by decide +kernel
theorem dX11_init_111 : decode cX11_init 111 = .ok (.aload_n 0, 1) := by decide +kernel
theorem dX11_init_112 : decode cX11_init 112 = .ok (.getfield 51, 3) := by decide +kernel
theorem dX11_init_115 : decode cX11_init 115 = .ok (.invokespecial 57, 3) := by decide +kernel
theorem dX11_init_118 : decode cX11_init 118 = .ok (.putfield 60, 3) := by decide +kernel
theorem dX11_init_121 : decode cX11_init 121 = .ok (.aload_n 0, 1) := by decide +kernel
theorem dX11_init_122 : decode cX11_init 122 = .ok (.new 64, 3) := by decide +kernel
theorem dX11_init_125 : decode cX11_init 125 = .ok (.dup, 1) := by decide +kernel
theorem dX11_init_126 : decode cX11_init 126 = .ok (.aload_n 0, 1) := by decide +kernel
theorem dX11_init_127 : decode cX11_init 127 = .ok (.getfield 60, 3) := by decide +kernel
theorem dX11_init_130 : decode cX11_init 130 = .ok (.invokespecial 66, 3) := by decide +kernel
theorem dX11_init_133 : decode cX11_init 133 = .ok (.putfield 69, 3) := by decide +kernel
theorem dX11_init_136 : decode cX11_init 136 = .ok (.aload_n 0, 1) := by decide +kernel
theorem dX11_init_137 : decode cX11_init 137 = .ok (.new 73, 3) := by decide +kernel
theorem dX11_init_140 : decode cX11_init 140 = .ok (.dup, 1) := by decide +kernel
theorem dX11_init_141 : decode cX11_init 141 = .ok (.aload_n 0, 1) := by decide +kernel
theorem dX11_init_142 : decode cX11_init 142 = .ok (.getfield 19, 3) := by decide +kernel
theorem dX11_init_145 : decode cX11_init 145 = .ok (.invokespecial 75, 3) := by decide +kernel
theorem dX11_init_148 : decode cX11_init 148 = .ok (.putfield 78, 3) := by decide +kernel
theorem dX11_init_151 : decode cX11_init 151 = .ok (.aload_n 0, 1) := by decide +kernel
theorem dX11_init_152 : decode cX11_init 152 = .ok (.bipush 12, 2) := by decide +kernel
theorem dX11_init_154 : decode cX11_init 154 = .ok (.newarray .int, 2) := by decide +kernel
theorem dX11_init_156 : decode cX11_init 156 = .ok (.putfield 82, 3) := by decide +kernel
theorem dX11_init_159 : decode cX11_init 159 = .ok (.aload_n 0, 1) := by decide +kernel
theorem dX11_init_160 : decode cX11_init 160 = .ok (.iconst (-1), 1) := by decide +kernel
theorem dX11_init_161 : decode cX11_init 161 = .ok (.putfield 86, 3) := by decide +kernel
theorem dX11_init_164 : decode cX11_init 164 = .ok (.return_, 1) := by decide +kernel
theorem dX11_stop_0 : decode cX11_stop 0 = .ok (.iload_n 1, 1) := by decide +kernel
theorem dX11_stop_1 : decode cX11_stop 1 = .ok (.iconst 0, 1) := by decide +kernel
theorem dX11_stop_2 : decode cX11_stop 2 = .ok (.bipush 30, 2) := by decide +kernel
theorem dX11_stop_4 : decode cX11_stop 4 = .ok (.invokestatic 90, 3) := by decide +kernel
theorem dX11_stop_7 : decode cX11_stop 7 = .ok (.ifCond .eq 10, 3) := by decide +kernel
theorem dX11_stop_10 : decode cX11_stop 10 = .ok (.iload_n 2, 1) := by decide +kernel
theorem dX11_stop_11 : decode cX11_stop 11 = .ok (.invokestatic 94, 3) := by decide +kernel
theorem dX11_stop_14 : decode cX11_stop 14 = .ok (.ifCond .ne 6, 3) := by decide +kernel
theorem dX11_stop_17 : decode cX11_stop 17 = .ok (.bipush (-2), 2) := by decide +kernel
theorem dX11_stop_19 : decode cX11_stop 19 = .ok (.ireturn, 1) := by decide +kernel
theorem dX11_stop_20 : decode cX11_stop 20 = .ok (.aload_n 0, 1) := by decide +kernel
theorem dX11_stop_21 : decode cX11_stop 21 = .ok (.getfield 12, 3) := by decide +kernel
theorem dX11_stop_24 : decode cX11_stop 24 = .ok (.iload_n 1, 1) := by decide +kernel
theorem dX11_stop_25 : decode cX11_stop 25 = .ok (.iload_n 2, 1) := by decide +kernel
theorem dX11_stop_26 : decode cX11_stop 26 = .ok (.invokevirtual 98, 3) := by decide +kernel
theorem dX11_stop_29 : decode cX11_stop 29 = .ok (.ireturn, 1) := by decide +kernel
theorem dX11_fare_0 : decode cX11_fare 0 = .ok (.iload_n 1, 1) := by decide +kernel
theorem dX11_fare_1 : decode cX11_fare 1 = .ok (.invokestatic 94, 3) := by decide +kernel
theorem dX11_fare_4 : decode cX11_fare 4 = .ok (.ifCond .eq 20, 3) := by decide +kernel
theorem dX11_fare_7 : decode cX11_fare 7 = .ok (.iload_n 2, 1) := by decide +kernel
theorem dX11_fare_8 : decode cX11_fare 8 = .ok (.invokestatic 94, 3) := by decide +kernel
theorem dX11_fare_11 : decode cX11_fare 11 = .ok (.ifCond .eq 13, 3) := by decide +kernel
theorem dX11_fare_14 : decode cX11_fare 14 = .ok (.iload_n 3, 1) := by decide +kernel
theorem dX11_fare_15 : decode cX11_fare 15 = .ok (.iconst 0, 1) := by decide +kernel
theorem dX11_fare_16 : decode cX11_fare 16 = .ok (.bipush 9, 2) := by decide +kernel
theorem dX11_fare_18 : decode cX11_fare 18 = .ok (.invokestatic 90, 3) := by decide +kernel
theorem dX11_fare_21 : decode cX11_fare 21 = .ok (.ifCond .ne 6, 3) := by decide +kernel
theorem dX11_fare_24 : decode cX11_fare 24 = .ok (.bipush (-2), 2) := by decide +kernel
theorem dX11_fare_26 : decode cX11_fare 26 = .ok (.ireturn, 1) := by decide +kernel
theorem dX11_fare_27 : decode cX11_fare 27 = .ok (.aload_n 0, 1) := by decide +kernel
theorem dX11_fare_28 : decode cX11_fare 28 = .ok (.getfield 12, 3) := by decide +kernel
theorem dX11_fare_31 : decode cX11_fare 31 = .ok (.iload_n 1, 1) := by decide +kernel
theorem dX11_fare_32 : decode cX11_fare 32 = .ok (.iload_n 2, 1) := by decide +kernel
theorem dX11_fare_33 : decode cX11_fare 33 = .ok (.iload_n 3, 1) := by decide +kernel
theorem dX11_fare_34 : decode cX11_fare 34 = .ok (.invokevirtual 102, 3) := by decide +kernel
theorem dX11_fare_37 : decode cX11_fare 37 = .ok (.ireturn, 1) := by decide +kernel
theorem dX11_day_0 : decode cX11_day 0 = .ok (.iload_n 1, 1) := by decide +kernel
theorem dX11_day_1 : decode cX11_day 1 = .ok (.invokestatic 106, 3) := by decide +kernel
theorem dX11_day_4 : decode cX11_day 4 = .ok (.ifCond .eq 13, 3) := by decide +kernel
theorem dX11_day_7 : decode cX11_day 7 = .ok (.iload_n 2, 1) := by decide +kernel
theorem dX11_day_8 : decode cX11_day 8 = .ok (.iconst 0, 1) := by decide +kernel
theorem dX11_day_9 : decode cX11_day 9 = .ok (.bipush 6, 2) := by decide +kernel
theorem dX11_day_11 : decode cX11_day 11 = .ok (.invokestatic 90, 3) := by decide +kernel
theorem dX11_day_14 : decode cX11_day 14 = .ok (.ifCond .ne 6, 3) := by decide +kernel
theorem dX11_day_17 : decode cX11_day 17 = .ok (.bipush (-2), 2) := by decide +kernel
theorem dX11_day_19 : decode cX11_day 19 = .ok (.ireturn, 1) := by decide +kernel
theorem dX11_day_20 : decode cX11_day 20 = .ok (.aload_n 0, 1) := by decide +kernel
theorem dX11_day_21 : decode cX11_day 21 = .ok (.getfield 19, 3) := by decide +kernel
theorem dX11_day_24 : decode cX11_day 24 = .ok (.getfield 109, 3) := by decide +kernel
theorem dX11_day_27 : decode cX11_day 27 = .ok (.iload_n 1, 1) := by decide +kernel
theorem dX11_day_28 : decode cX11_day 28 = .ok (.iaload, 1) := by decide +kernel
theorem dX11_day_29 : decode cX11_day 29 = .ok (.istore_n 3, 1) := by decide +kernel
theorem dX11_day_30 : decode cX11_day 30 = .ok (.aload_n 0, 1) := by decide +kernel
theorem dX11_day_31 : decode cX11_day 31 = .ok (.getfield 19, 3) := by decide +kernel
theorem dX11_day_34 : decode cX11_day 34 = .ok (.getfield 109, 3) := by decide +kernel
theorem dX11_day_37 : decode cX11_day 37 = .ok (.iload_n 1, 1) := by decide +kernel
theorem dX11_day_38 : decode cX11_day 38 = .ok (.iload_n 2, 1) := by decide +kernel
theorem dX11_day_39 : decode cX11_day 39 = .ok (.iastore, 1) := by decide +kernel
theorem dX11_day_40 : decode cX11_day 40 = .ok (.iload_n 3, 1) := by decide +kernel
theorem dX11_day_41 : decode cX11_day 41 = .ok (.ireturn, 1) := by decide +kernel
theorem dX11_trip_0 : decode cX11_trip 0 = .ok (.iload_n 1, 1) := by decide +kernel
theorem dX11_trip_1 : decode cX11_trip 1 = .ok (.iconst 0, 1) := by decide +kernel
theorem dX11_trip_2 : decode cX11_trip 2 = .ok (.iconst 2, 1) := by decide +kernel
theorem dX11_trip_3 : decode cX11_trip 3 = .ok (.invokestatic 90, 3) := by decide +kernel
theorem dX11_trip_6 : decode cX11_trip 6 = .ok (.ifCond .eq 13, 3) := by decide +kernel
theorem dX11_trip_9 : decode cX11_trip 9 = .ok (.iload_n 2, 1) := by decide +kernel
theorem dX11_trip_10 : decode cX11_trip 10 = .ok (.iconst 1, 1) := by decide +kernel
theorem dX11_trip_11 : decode cX11_trip 11 = .ok (.bipush 127, 2) := by decide +kernel
theorem dX11_trip_13 : decode cX11_trip 13 = .ok (.invokestatic 90, 3) := by decide +kernel
theorem dX11_trip_16 : decode cX11_trip 16 = .ok (.ifCond .ne 6, 3) := by decide +kernel
theorem dX11_trip_19 : decode cX11_trip 19 = .ok (.bipush (-2), 2) := by decide +kernel
theorem dX11_trip_21 : decode cX11_trip 21 = .ok (.ireturn, 1) := by decide +kernel
theorem dX11_trip_22 : decode cX11_trip 22 = .ok (.iload_n 1, 1) := by decide +kernel
theorem dX11_trip_23 : decode cX11_trip 23 = .ok (.ifCond .ne 15, 3) := by decide +kernel
theorem dX11_trip_26 : decode cX11_trip 26 = .ok (.iload_n 3, 1) := by decide +kernel
theorem dX11_trip_27 : decode cX11_trip 27 = .ok (.ifCond .ne 7, 3) := by decide +kernel
theorem dX11_trip_30 : decode cX11_trip 30 = .ok (.iconst 1, 1) := by decide +kernel
theorem dX11_trip_31 : decode cX11_trip 31 = .ok (.goto 14, 3) := by decide +kernel
theorem dX11_trip_34 : decode cX11_trip 34 = .ok (.iconst 0, 1) := by decide +kernel
theorem dX11_trip_35 : decode cX11_trip 35 = .ok (.goto 10, 3) := by decide +kernel
theorem dX11_trip_38 : decode cX11_trip 38 = .ok (.iload_n 3, 1) := by decide +kernel
theorem dX11_trip_39 : decode cX11_trip 39 = .ok (.iconst 1, 1) := by decide +kernel
theorem dX11_trip_40 : decode cX11_trip 40 = .ok (.bipush 50, 2) := by decide +kernel
theorem dX11_trip_42 : decode cX11_trip 42 = .ok (.invokestatic 90, 3) := by decide +kernel
theorem dX11_trip_45 : decode cX11_trip 45 = .ok (.istore 4, 2) := by decide +kernel
theorem dX11_trip_47 : decode cX11_trip 47 = .ok (.iload 4, 2) := by decide +kernel
theorem dX11_trip_49 : decode cX11_trip 49 = .ok (.ifCond .eq 16, 3) := by decide +kernel
theorem dX11_trip_52 : decode cX11_trip 52 = .ok (.aload_n 0, 1) := by decide +kernel
theorem dX11_trip_53 : decode cX11_trip 53 = .ok (.getfield 19, 3) := by decide +kernel
theorem dX11_trip_56 : decode cX11_trip 56 = .ok (.iload_n 1, 1) := by decide +kernel
theorem dX11_trip_57 : decode cX11_trip 57 = .ok (.iload_n 2, 1) := by decide +kernel
theorem dX11_trip_58 : decode cX11_trip 58 = .ok (.iload_n 3, 1) := by decide +kernel
theorem dX11_trip_59 : decode cX11_trip 59 = .ok (.invokevirtual 112, 3) := by decide +kernel
theorem dX11_trip_62 : decode cX11_trip 62 = .ok (.goto 5, 3) := by decide +kernel
theorem dX11_trip_65 : decode cX11_trip 65 = .ok (.bipush (-2), 2) := by decide +kernel
theorem dX11_trip_67 : decode cX11_trip 67 = .ok (.ireturn, 1) := by decide +kernel
theorem dX11_call_0 : decode cX11_call 0 = .ok (.aload_n 0, 1) := by decide +kernel
theorem dX11_call_1 : decode cX11_call 1 = .ok (.getfield 19, 3) := by decide +kernel
theorem dX11_call_4 : decode cX11_call 4 = .ok (.iload_n 1, 1) := by decide +kernel
theorem dX11_call_5 : decode cX11_call 5 = .ok (.invokevirtual 114, 3) := by decide +kernel
theorem dX11_call_8 : decode cX11_call 8 = .ok (.ifCond .eq 14, 3) := by decide +kernel
theorem dX11_call_11 : decode cX11_call 11 = .ok (.aload_n 0, 1) := by decide +kernel
theorem dX11_call_12 : decode cX11_call 12 = .ok (.getfield 12, 3) := by decide +kernel
theorem dX11_call_15 : decode cX11_call 15 = .ok (.iload_n 2, 1) := by decide +kernel
theorem dX11_call_16 : decode cX11_call 16 = .ok (.invokevirtual 117, 3) := by decide +kernel
theorem dX11_call_19 : decode cX11_call 19 = .ok (.ifCond .ne 6, 3) := by decide +kernel
theorem dX11_call_22 : decode cX11_call 22 = .ok (.bipush (-2), 2) := by decide +kernel
theorem dX11_call_24 : decode cX11_call 24 = .ok (.ireturn, 1) := by decide +kernel
theorem dX11_call_25 : decode cX11_call 25 = .ok (.aload_n 0, 1) := by decide +kernel
theorem dX11_call_26 : decode cX11_call 26 = .ok (.getfield 19, 3) := by decide +kernel
theorem dX11_call_29 : decode cX11_call 29 = .ok (.iload_n 1, 1) := by decide +kernel
theorem dX11_call_30 : decode cX11_call 30 = .ok (.iload_n 2, 1) := by decide +kernel
theorem dX11_call_31 : decode cX11_call 31 = .ok (.iload_n 3, 1) := by decide +kernel
theorem dX11_call_32 : decode cX11_call 32 = .ok (.iload 4, 2) := by decide +kernel
theorem dX11_call_34 : decode cX11_call 34 = .ok (.invokevirtual 118, 3) := by decide +kernel
theorem dX11_call_37 : decode cX11_call 37 = .ok (.ireturn, 1) := by decide +kernel
theorem dX11_miss_0 : decode cX11_miss 0 = .ok (.aload_n 0, 1) := by decide +kernel
theorem dX11_miss_1 : decode cX11_miss 1 = .ok (.getfield 19, 3) := by decide +kernel
theorem dX11_miss_4 : decode cX11_miss 4 = .ok (.iload_n 1, 1) := by decide +kernel
theorem dX11_miss_5 : decode cX11_miss 5 = .ok (.iload_n 2, 1) := by decide +kernel
theorem dX11_miss_6 : decode cX11_miss 6 = .ok (.invokevirtual 122, 3) := by decide +kernel
theorem dX11_miss_9 : decode cX11_miss 9 = .ok (.ifCond .eq 16, 3) := by decide +kernel
theorem dX11_miss_12 : decode cX11_miss 12 = .ok (.aload_n 0, 1) := by decide +kernel
theorem dX11_miss_13 : decode cX11_miss 13 = .ok (.getfield 19, 3) := by decide +kernel
theorem dX11_miss_16 : decode cX11_miss 16 = .ok (.iload_n 1, 1) := by decide +kernel
theorem dX11_miss_17 : decode cX11_miss 17 = .ok (.iload_n 2, 1) := by decide +kernel
theorem dX11_miss_18 : decode cX11_miss 18 = .ok (.iload_n 3, 1) := by decide +kernel
theorem dX11_miss_19 : decode cX11_miss 19 = .ok (.invokevirtual 126, 3) := by decide +kernel
theorem dX11_miss_22 : decode cX11_miss 22 = .ok (.goto 5, 3) := by decide +kernel
theorem dX11_miss_25 : decode cX11_miss 25 = .ok (.bipush (-2), 2) := by decide +kernel
theorem dX11_miss_27 : decode cX11_miss 27 = .ok (.ireturn, 1) := by decide +kernel
theorem dX11_walk_0 : decode cX11_walk 0 = .ok (.aload_n 0, 1) := by decide +kernel
theorem dX11_walk_1 : decode cX11_walk 1 = .ok (.getfield 12, 3) := by decide +kernel
theorem dX11_walk_4 : decode cX11_walk 4 = .ok (.iload_n 1, 1) := by decide +kernel
theorem dX11_walk_5 : decode cX11_walk 5 = .ok (.invokevirtual 117, 3) := by decide +kernel
theorem dX11_walk_8 : decode cX11_walk 8 = .ok (.ifCond .eq 30, 3) := by decide +kernel
theorem dX11_walk_11 : decode cX11_walk 11 = .ok (.aload_n 0, 1) := by decide +kernel
theorem dX11_walk_12 : decode cX11_walk 12 = .ok (.getfield 12, 3) := by decide +kernel
theorem dX11_walk_15 : decode cX11_walk 15 = .ok (.iload_n 2, 1) := by decide +kernel
theorem dX11_walk_16 : decode cX11_walk 16 = .ok (.invokevirtual 117, 3) := by decide +kernel
theorem dX11_walk_19 : decode cX11_walk 19 = .ok (.ifCond .eq 19, 3) := by decide +kernel
theorem dX11_walk_22 : decode cX11_walk 22 = .ok (.iload_n 1, 1) := by decide +kernel
theorem dX11_walk_23 : decode cX11_walk 23 = .ok (.iload_n 2, 1) := by decide +kernel
theorem dX11_walk_24 : decode cX11_walk 24 = .ok (.if_icmp .eq 14, 3) := by decide +kernel
theorem dX11_walk_27 : decode cX11_walk 27 = .ok (.iload_n 3, 1) := by decide +kernel
theorem dX11_walk_28 : decode cX11_walk 28 = .ok (.iconst 1, 1) := by decide +kernel
theorem dX11_walk_29 : decode cX11_walk 29 = .ok (.sipush 240, 3) := by decide +kernel
theorem dX11_walk_32 : decode cX11_walk 32 = .ok (.invokestatic 90, 3) := by decide +kernel
theorem dX11_walk_35 : decode cX11_walk 35 = .ok (.ifCond .ne 6, 3) := by decide +kernel
theorem dX11_walk_38 : decode cX11_walk 38 = .ok (.bipush (-2), 2) := by decide +kernel
theorem dX11_walk_40 : decode cX11_walk 40 = .ok (.ireturn, 1) := by decide +kernel
theorem dX11_walk_41 : decode cX11_walk 41 = .ok (.aload_n 0, 1) := by decide +kernel
theorem dX11_walk_42 : decode cX11_walk 42 = .ok (.getfield 26, 3) := by decide +kernel
theorem dX11_walk_45 : decode cX11_walk 45 = .ok (.iload_n 1, 1) := by decide +kernel
theorem dX11_walk_46 : decode cX11_walk 46 = .ok (.iload_n 2, 1) := by decide +kernel
theorem dX11_walk_47 : decode cX11_walk 47 = .ok (.iload_n 3, 1) := by decide +kernel
theorem dX11_walk_48 : decode cX11_walk 48 = .ok (.invokevirtual 130, 3) := by decide +kernel
theorem dX11_walk_51 : decode cX11_walk 51 = .ok (.ireturn, 1) := by decide +kernel
theorem dX11_shuttle_0 : decode cX11_shuttle 0 = .ok (.aload_n 0, 1) := by decide +kernel
theorem dX11_shuttle_1 : decode cX11_shuttle 1 = .ok (.getfield 26, 3) := by decide +kernel
theorem dX11_shuttle_4 : decode cX11_shuttle 4 = .ok (.iload_n 1, 1) := by decide +kernel
theorem dX11_shuttle_5 : decode cX11_shuttle 5 = .ok (.invokevirtual 131, 3) := by decide +kernel
theorem dX11_shuttle_8 : decode cX11_shuttle 8 = .ok (.ifCond .eq 33, 3) := by decide +kernel
theorem dX11_shuttle_11 : decode cX11_shuttle 11 = .ok (.iload_n 2, 1) := by decide +kernel
theorem dX11_shuttle_12 : decode cX11_shuttle 12 = .ok (.invokestatic 132, 3) := by decide +kernel
theorem dX11_shuttle_15 : decode cX11_shuttle 15 = .ok (.ifCond .eq 26, 3) := by decide +kernel
theorem dX11_shuttle_18 : decode cX11_shuttle 18 = .ok (.iload_n 3, 1) := by decide +kernel
theorem dX11_shuttle_19 : decode cX11_shuttle 19 = .ok (.iload_n 2, 1) := by decide +kernel
theorem dX11_shuttle_20 : decode cX11_shuttle 20 = .ok (.sipush 1439, 3) := by decide +kernel
theorem dX11_shuttle_23 : decode cX11_shuttle 23 = .ok (.invokestatic 90, 3) := by decide +kernel
theorem dX11_shuttle_26 : decode cX11_shuttle 26 = .ok (.ifCond .eq 15, 3) := by decide +kernel
theorem dX11_shuttle_29 : decode cX11_shuttle 29 = .ok (.iload 4, 2) := by decide +kernel
theorem dX11_shuttle_31 : decode cX11_shuttle 31 = .ok (.iconst 1, 1) := by decide +kernel
theorem dX11_shuttle_32 : decode cX11_shuttle 32 = .ok (.sipush 1440, 3) := by decide +kernel
theorem dX11_shuttle_35 : decode cX11_shuttle 35 = .ok (.invokestatic 90, 3) := by decide +kernel
theorem dX11_shuttle_38 : decode cX11_shuttle 38 = .ok (.ifCond .ne 6, 3) := by decide +kernel
theorem dX11_shuttle_41 : decode cX11_shuttle 41 = .ok (.bipush (-2), 2) := by decide +kernel
theorem dX11_shuttle_43 : decode cX11_shuttle 43 = .ok (.ireturn, 1) := by decide +kernel
theorem dX11_shuttle_44 : decode cX11_shuttle 44 = .ok (.aload_n 0, 1) := by decide +kernel
theorem dX11_shuttle_45 : decode cX11_shuttle 45 = .ok (.getfield 26, 3) := by decide +kernel
theorem dX11_shuttle_48 : decode cX11_shuttle 48 = .ok (.iload_n 1, 1) := by decide +kernel
theorem dX11_shuttle_49 : decode cX11_shuttle 49 = .ok (.iload_n 2, 1) := by decide +kernel
theorem dX11_shuttle_50 : decode cX11_shuttle 50 = .ok (.iload_n 3, 1) := by decide +kernel
theorem dX11_shuttle_51 : decode cX11_shuttle 51 = .ok (.iload 4, 2) := by decide +kernel
theorem dX11_shuttle_53 : decode cX11_shuttle 53 = .ok (.invokevirtual 135, 3) := by decide +kernel
theorem dX11_shuttle_56 : decode cX11_shuttle 56 = .ok (.ireturn, 1) := by decide +kernel
theorem dX11_asked_0 : decode cX11_asked 0 = .ok (.aload_n 0, 1) := by decide +kernel
theorem dX11_asked_1 : decode cX11_asked 1 = .ok (.getfield 26, 3) := by decide +kernel
theorem dX11_asked_4 : decode cX11_asked 4 = .ok (.iload_n 1, 1) := by decide +kernel
theorem dX11_asked_5 : decode cX11_asked 5 = .ok (.invokevirtual 131, 3) := by decide +kernel
theorem dX11_asked_8 : decode cX11_asked 8 = .ok (.ifCond .eq 27, 3) := by decide +kernel
theorem dX11_asked_11 : decode cX11_asked 11 = .ok (.aload_n 0, 1) := by decide +kernel
theorem dX11_asked_12 : decode cX11_asked 12 = .ok (.getfield 26, 3) := by decide +kernel
theorem dX11_asked_15 : decode cX11_asked 15 = .ok (.getfield 138, 3) := by decide +kernel
theorem dX11_asked_18 : decode cX11_asked 18 = .ok (.iload_n 1, 1) := by decide +kernel
theorem dX11_asked_19 : decode cX11_asked 19 = .ok (.iaload, 1) := by decide +kernel
theorem dX11_asked_20 : decode cX11_asked 20 = .ok (.iconst 3, 1) := by decide +kernel
theorem dX11_asked_21 : decode cX11_asked 21 = .ok (.if_icmp .eq 14, 3) := by decide +kernel
theorem dX11_asked_24 : decode cX11_asked 24 = .ok (.iload_n 2, 1) := by decide +kernel
theorem dX11_asked_25 : decode cX11_asked 25 = .ok (.iconst 1, 1) := by decide +kernel
theorem dX11_asked_26 : decode cX11_asked 26 = .ok (.sipush 600, 3) := by decide +kernel
theorem dX11_asked_29 : decode cX11_asked 29 = .ok (.invokestatic 90, 3) := by decide +kernel
theorem dX11_asked_32 : decode cX11_asked 32 = .ok (.ifCond .ne 6, 3) := by decide +kernel
theorem dX11_asked_35 : decode cX11_asked 35 = .ok (.bipush (-2), 2) := by decide +kernel
theorem dX11_asked_37 : decode cX11_asked 37 = .ok (.ireturn, 1) := by decide +kernel
theorem dX11_asked_38 : decode cX11_asked 38 = .ok (.aload_n 0, 1) := by decide +kernel
theorem dX11_asked_39 : decode cX11_asked 39 = .ok (.getfield 26, 3) := by decide +kernel
theorem dX11_asked_42 : decode cX11_asked 42 = .ok (.iload_n 1, 1) := by decide +kernel
theorem dX11_asked_43 : decode cX11_asked 43 = .ok (.iload_n 2, 1) := by decide +kernel
theorem dX11_asked_44 : decode cX11_asked 44 = .ok (.invokevirtual 141, 3) := by decide +kernel
theorem dX11_asked_47 : decode cX11_asked 47 = .ok (.ireturn, 1) := by decide +kernel
theorem dX11_late_0 : decode cX11_late 0 = .ok (.aload_n 0, 1) := by decide +kernel
theorem dX11_late_1 : decode cX11_late 1 = .ok (.getfield 19, 3) := by decide +kernel
theorem dX11_late_4 : decode cX11_late 4 = .ok (.iload_n 1, 1) := by decide +kernel
theorem dX11_late_5 : decode cX11_late 5 = .ok (.iload_n 3, 1) := by decide +kernel
theorem dX11_late_6 : decode cX11_late 6 = .ok (.invokevirtual 122, 3) := by decide +kernel
theorem dX11_late_9 : decode cX11_late 9 = .ok (.ifCond .eq 22, 3) := by decide +kernel
theorem dX11_late_12 : decode cX11_late 12 = .ok (.iload_n 2, 1) := by decide +kernel
theorem dX11_late_13 : decode cX11_late 13 = .ok (.invokestatic 106, 3) := by decide +kernel
theorem dX11_late_16 : decode cX11_late 16 = .ok (.ifCond .eq 15, 3) := by decide +kernel
theorem dX11_late_19 : decode cX11_late 19 = .ok (.iload 4, 2) := by decide +kernel
theorem dX11_late_21 : decode cX11_late 21 = .ok (.iconst 1, 1) := by decide +kernel
theorem dX11_late_22 : decode cX11_late 22 = .ok (.sipush 240, 3) := by decide +kernel
theorem dX11_late_25 : decode cX11_late 25 = .ok (.invokestatic 90, 3) := by decide +kernel
theorem dX11_late_28 : decode cX11_late 28 = .ok (.ifCond .ne 6, 3) := by decide +kernel
theorem dX11_late_31 : decode cX11_late 31 = .ok (.bipush (-2), 2) := by decide +kernel
theorem dX11_late_33 : decode cX11_late 33 = .ok (.ireturn, 1) := by decide +kernel
theorem dX11_late_34 : decode cX11_late 34 = .ok (.aload_n 0, 1) := by decide +kernel
theorem dX11_late_35 : decode cX11_late 35 = .ok (.getfield 19, 3) := by decide +kernel
theorem dX11_late_38 : decode cX11_late 38 = .ok (.getfield 144, 3) := by decide +kernel
theorem dX11_late_41 : decode cX11_late 41 = .ok (.iload_n 1, 1) := by decide +kernel
theorem dX11_late_42 : decode cX11_late 42 = .ok (.iload_n 2, 1) := by decide +kernel
theorem dX11_late_43 : decode cX11_late 43 = .ok (.iload_n 3, 1) := by decide +kernel
theorem dX11_late_44 : decode cX11_late 44 = .ok (.iload 4, 2) := by decide +kernel
theorem dX11_late_46 : decode cX11_late 46 = .ok (.invokevirtual 148, 3) := by decide +kernel
theorem dX11_late_49 : decode cX11_late 49 = .ok (.ireturn, 1) := by decide +kernel
theorem dX11_gone_0 : decode cX11_gone 0 = .ok (.aload_n 0, 1) := by decide +kernel
theorem dX11_gone_1 : decode cX11_gone 1 = .ok (.getfield 19, 3) := by decide +kernel
theorem dX11_gone_4 : decode cX11_gone 4 = .ok (.iload_n 1, 1) := by decide +kernel
theorem dX11_gone_5 : decode cX11_gone 5 = .ok (.invokevirtual 114, 3) := by decide +kernel
theorem dX11_gone_8 : decode cX11_gone 8 = .ok (.ifCond .eq 23, 3) := by decide +kernel
theorem dX11_gone_11 : decode cX11_gone 11 = .ok (.iload_n 2, 1) := by decide +kernel
theorem dX11_gone_12 : decode cX11_gone 12 = .ok (.invokestatic 106, 3) := by decide +kernel
theorem dX11_gone_15 : decode cX11_gone 15 = .ok (.ifCond .eq 16, 3) := by decide +kernel
theorem dX11_gone_18 : decode cX11_gone 18 = .ok (.aload_n 0, 1) := by decide +kernel
theorem dX11_gone_19 : decode cX11_gone 19 = .ok (.getfield 19, 3) := by decide +kernel
theorem dX11_gone_22 : decode cX11_gone 22 = .ok (.iload_n 1, 1) := by decide +kernel
theorem dX11_gone_23 : decode cX11_gone 23 = .ok (.iload_n 2, 1) := by decide +kernel
theorem dX11_gone_24 : decode cX11_gone 24 = .ok (.iload_n 3, 1) := by decide +kernel
theorem dX11_gone_25 : decode cX11_gone 25 = .ok (.invokevirtual 153, 3) := by decide +kernel
theorem dX11_gone_28 : decode cX11_gone 28 = .ok (.goto 5, 3) := by decide +kernel
theorem dX11_gone_31 : decode cX11_gone 31 = .ok (.bipush (-2), 2) := by decide +kernel
theorem dX11_gone_33 : decode cX11_gone 33 = .ok (.ireturn, 1) := by decide +kernel
theorem dX11_ways_0 : decode cX11_ways 0 = .ok (.aload_n 0, 1) := by decide +kernel
theorem dX11_ways_1 : decode cX11_ways 1 = .ok (.getfield 12, 3) := by decide +kernel
theorem dX11_ways_4 : decode cX11_ways 4 = .ok (.iload_n 1, 1) := by decide +kernel
theorem dX11_ways_5 : decode cX11_ways 5 = .ok (.invokevirtual 117, 3) := by decide +kernel
theorem dX11_ways_8 : decode cX11_ways 8 = .ok (.ifCond .eq 29, 3) := by decide +kernel
theorem dX11_ways_11 : decode cX11_ways 11 = .ok (.aload_n 0, 1) := by decide +kernel
theorem dX11_ways_12 : decode cX11_ways 12 = .ok (.getfield 12, 3) := by decide +kernel
theorem dX11_ways_15 : decode cX11_ways 15 = .ok (.iload_n 2, 1) := by decide +kernel
theorem dX11_ways_16 : decode cX11_ways 16 = .ok (.invokevirtual 117, 3) := by decide +kernel
theorem dX11_ways_19 : decode cX11_ways 19 = .ok (.ifCond .eq 18, 3) := by decide +kernel
theorem dX11_ways_22 : decode cX11_ways 22 = .ok (.iload_n 3, 1) := by decide +kernel
theorem dX11_ways_23 : decode cX11_ways 23 = .ok (.invokestatic 106, 3) := by decide +kernel
theorem dX11_ways_26 : decode cX11_ways 26 = .ok (.ifCond .eq 11, 3) := by decide +kernel
theorem dX11_ways_29 : decode cX11_ways 29 = .ok (.iload 4, 2) := by decide +kernel
theorem dX11_ways_31 : decode cX11_ways 31 = .ok (.invokestatic 132, 3) := by decide +kernel
theorem dX11_ways_34 : decode cX11_ways 34 = .ok (.ifCond .ne 6, 3) := by decide +kernel
theorem dX11_ways_37 : decode cX11_ways 37 = .ok (.bipush (-2), 2) := by decide +kernel
theorem dX11_ways_39 : decode cX11_ways 39 = .ok (.ireturn, 1) := by decide +kernel
theorem dX11_ways_40 : decode cX11_ways 40 = .ok (.sipush 1440, 3) := by decide +kernel
theorem dX11_ways_43 : decode cX11_ways 43 = .ok (.iload_n 3, 1) := by decide +kernel
theorem dX11_ways_44 : decode cX11_ways 44 = .ok (.imul, 1) := by decide +kernel
theorem dX11_ways_45 : decode cX11_ways 45 = .ok (.iload 4, 2) := by decide +kernel
theorem dX11_ways_47 : decode cX11_ways 47 = .ok (.iadd, 1) := by decide +kernel
theorem dX11_ways_48 : decode cX11_ways 48 = .ok (.istore 5, 2) := by decide +kernel
theorem dX11_ways_50 : decode cX11_ways 50 = .ok (.aload_n 0, 1) := by decide +kernel
theorem dX11_ways_51 : decode cX11_ways 51 = .ok (.getfield 51, 3) := by decide +kernel
theorem dX11_ways_54 : decode cX11_ways 54 = .ok (.iload_n 3, 1) := by decide +kernel
theorem dX11_ways_55 : decode cX11_ways 55 = .ok (.iload 5, 2) := by decide +kernel
theorem dX11_ways_57 : decode cX11_ways 57 = .ok (.invokevirtual 156, 3) := by decide +kernel
theorem dX11_ways_60 : decode cX11_ways 60 = .ok (.aload_n 0, 1) := by decide +kernel
theorem dX11_ways_61 : decode cX11_ways 61 = .ok (.getfield 60, 3) := by decide +kernel
theorem dX11_ways_64 : decode cX11_ways 64 = .ok (.iload_n 1, 1) := by decide +kernel
theorem dX11_ways_65 : decode cX11_ways 65 = .ok (.iload 5, 2) := by decide +kernel
theorem dX11_ways_67 : decode cX11_ways 67 = .ok (.aload_n 0, 1) := by decide +kernel
theorem dX11_ways_68 : decode cX11_ways 68 = .ok (.getfield 12, 3) := by decide +kernel
theorem dX11_ways_71 : decode cX11_ways 71 = .ok (.invokevirtual 160, 3) := by decide +kernel
theorem dX11_ways_74 : decode cX11_ways 74 = .ok (.invokevirtual 164, 3) := by decide +kernel
theorem dX11_ways_77 : decode cX11_ways 77 = .ok (.aload_n 0, 1) := by decide +kernel
theorem dX11_ways_78 : decode cX11_ways 78 = .ok (.getfield 69, 3) := by decide +kernel
theorem dX11_ways_81 : decode cX11_ways 81 = .ok (.iload_n 2, 1) := by decide +kernel
theorem dX11_ways_82 : decode cX11_ways 82 = .ok (.invokevirtual 168, 3) := by decide +kernel
theorem dX11_ways_85 : decode cX11_ways 85 = .ok (.ireturn, 1) := by decide +kernel
theorem dX11_way_0 : decode cX11_way 0 = .ok (.aload_n 0, 1) := by decide +kernel
theorem dX11_way_1 : decode cX11_way 1 = .ok (.getfield 69, 3) := by decide +kernel
theorem dX11_way_4 : decode cX11_way 4 = .ok (.iload_n 1, 1) := by decide +kernel
theorem dX11_way_5 : decode cX11_way 5 = .ok (.invokevirtual 172, 3) := by decide +kernel
theorem dX11_way_8 : decode cX11_way 8 = .ok (.ifCond .eq 24, 3) := by decide +kernel
theorem dX11_way_11 : decode cX11_way 11 = .ok (.iload_n 2, 1) := by decide +kernel
theorem dX11_way_12 : decode cX11_way 12 = .ok (.iconst 0, 1) := by decide +kernel
theorem dX11_way_13 : decode cX11_way 13 = .ok (.iconst 4, 1) := by decide +kernel
theorem dX11_way_14 : decode cX11_way 14 = .ok (.invokestatic 90, 3) := by decide +kernel
theorem dX11_way_17 : decode cX11_way 17 = .ok (.ifCond .eq 15, 3) := by decide +kernel
theorem dX11_way_20 : decode cX11_way 20 = .ok (.aload_n 0, 1) := by decide +kernel
theorem dX11_way_21 : decode cX11_way 21 = .ok (.getfield 69, 3) := by decide +kernel
theorem dX11_way_24 : decode cX11_way 24 = .ok (.iload_n 1, 1) := by decide +kernel
theorem dX11_way_25 : decode cX11_way 25 = .ok (.iload_n 2, 1) := by decide +kernel
theorem dX11_way_26 : decode cX11_way 26 = .ok (.invokevirtual 173, 3) := by decide +kernel
theorem dX11_way_29 : decode cX11_way 29 = .ok (.goto 5, 3) := by decide +kernel
theorem dX11_way_32 : decode cX11_way 32 = .ok (.bipush (-2), 2) := by decide +kernel
theorem dX11_way_34 : decode cX11_way 34 = .ok (.ireturn, 1) := by decide +kernel
theorem dX11_leg_0 : decode cX11_leg 0 = .ok (.aload_n 0, 1) := by decide +kernel
theorem dX11_leg_1 : decode cX11_leg 1 = .ok (.getfield 69, 3) := by decide +kernel
theorem dX11_leg_4 : decode cX11_leg 4 = .ok (.iload_n 1, 1) := by decide +kernel
theorem dX11_leg_5 : decode cX11_leg 5 = .ok (.iload_n 2, 1) := by decide +kernel
theorem dX11_leg_6 : decode cX11_leg 6 = .ok (.invokevirtual 176, 3) := by decide +kernel
theorem dX11_leg_9 : decode cX11_leg 9 = .ok (.ifCond .eq 26, 3) := by decide +kernel
theorem dX11_leg_12 : decode cX11_leg 12 = .ok (.iload_n 3, 1) := by decide +kernel
theorem dX11_leg_13 : decode cX11_leg 13 = .ok (.iconst 0, 1) := by decide +kernel
theorem dX11_leg_14 : decode cX11_leg 14 = .ok (.bipush 8, 2) := by decide +kernel
theorem dX11_leg_16 : decode cX11_leg 16 = .ok (.invokestatic 90, 3) := by decide +kernel
theorem dX11_leg_19 : decode cX11_leg 19 = .ok (.ifCond .eq 16, 3) := by decide +kernel
theorem dX11_leg_22 : decode cX11_leg 22 = .ok (.aload_n 0, 1) := by decide +kernel
theorem dX11_leg_23 : decode cX11_leg 23 = .ok (.getfield 69, 3) := by decide +kernel
theorem dX11_leg_26 : decode cX11_leg 26 = .ok (.iload_n 1, 1) := by decide +kernel
theorem dX11_leg_27 : decode cX11_leg 27 = .ok (.iload_n 2, 1) := by decide +kernel
theorem dX11_leg_28 : decode cX11_leg 28 = .ok (.iload_n 3, 1) := by decide +kernel
theorem dX11_leg_29 : decode cX11_leg 29 = .ok (.invokevirtual 179, 3) := by decide +kernel
theorem dX11_leg_32 : decode cX11_leg 32 = .ok (.goto 5, 3) := by decide +kernel
theorem dX11_leg_35 : decode cX11_leg 35 = .ok (.bipush (-2), 2) := by decide +kernel
theorem dX11_leg_37 : decode cX11_leg 37 = .ok (.ireturn, 1) := by decide +kernel
theorem dX11_take_0 : decode cX11_take 0 = .ok (.aload_n 0, 1) := by decide +kernel
theorem dX11_take_1 : decode cX11_take 1 = .ok (.getfield 69, 3) := by decide +kernel
theorem dX11_take_4 : decode cX11_take 4 = .ok (.iload_n 1, 1) := by decide +kernel
theorem dX11_take_5 : decode cX11_take 5 = .ok (.invokevirtual 172, 3) := by decide +kernel
theorem dX11_take_8 : decode cX11_take 8 = .ok (.ifCond .eq 18, 3) := by decide +kernel
theorem dX11_take_11 : decode cX11_take 11 = .ok (.aload_n 0, 1) := by decide +kernel
theorem dX11_take_12 : decode cX11_take 12 = .ok (.getfield 42, 3) := by decide +kernel
theorem dX11_take_15 : decode cX11_take 15 = .ok (.aload_n 0, 1) := by decide +kernel
theorem dX11_take_16 : decode cX11_take 16 = .ok (.getfield 69, 3) := by decide +kernel
theorem dX11_take_19 : decode cX11_take 19 = .ok (.iload_n 1, 1) := by decide +kernel
theorem dX11_take_20 : decode cX11_take 20 = .ok (.invokevirtual 182, 3) := by decide +kernel
theorem dX11_take_23 : decode cX11_take 23 = .ok (.goto 5, 3) := by decide +kernel
theorem dX11_take_26 : decode cX11_take 26 = .ok (.bipush (-2), 2) := by decide +kernel
theorem dX11_take_28 : decode cX11_take 28 = .ok (.ireturn, 1) := by decide +kernel
theorem dX11_give_0 : decode cX11_give 0 = .ok (.aload_n 0, 1) := by decide +kernel
theorem dX11_give_1 : decode cX11_give 1 = .ok (.getfield 42, 3) := by decide +kernel
theorem dX11_give_4 : decode cX11_give 4 = .ok (.iload_n 1, 1) := by decide +kernel
theorem dX11_give_5 : decode cX11_give 5 = .ok (.invokevirtual 186, 3) := by decide +kernel
theorem dX11_give_8 : decode cX11_give 8 = .ok (.ifCond .ne 6, 3) := by decide +kernel
theorem dX11_give_11 : decode cX11_give 11 = .ok (.bipush (-2), 2) := by decide +kernel
theorem dX11_give_13 : decode cX11_give 13 = .ok (.ireturn, 1) := by decide +kernel
theorem dX11_give_14 : decode cX11_give 14 = .ok (.aload_n 0, 1) := by decide +kernel
theorem dX11_give_15 : decode cX11_give 15 = .ok (.getfield 42, 3) := by decide +kernel
theorem dX11_give_18 : decode cX11_give 18 = .ok (.iload_n 1, 1) := by decide +kernel
theorem dX11_give_19 : decode cX11_give 19 = .ok (.invokevirtual 189, 3) := by decide +kernel
theorem dX11_give_22 : decode cX11_give 22 = .ok (.iconst 1, 1) := by decide +kernel
theorem dX11_give_23 : decode cX11_give 23 = .ok (.ireturn, 1) := by decide +kernel
theorem dX11_still_0 : decode cX11_still 0 = .ok (.aload_n 0, 1) := by decide +kernel
theorem dX11_still_1 : decode cX11_still 1 = .ok (.getfield 42, 3) := by decide +kernel
theorem dX11_still_4 : decode cX11_still 4 = .ok (.iload_n 1, 1) := by decide +kernel
theorem dX11_still_5 : decode cX11_still 5 = .ok (.invokevirtual 186, 3) := by decide +kernel
theorem dX11_still_8 : decode cX11_still 8 = .ok (.ifCond .ne 6, 3) := by decide +kernel
theorem dX11_still_11 : decode cX11_still 11 = .ok (.bipush (-2), 2) := by decide +kernel
theorem dX11_still_13 : decode cX11_still 13 = .ok (.ireturn, 1) := by decide +kernel
theorem dX11_still_14 : decode cX11_still 14 = .ok (.aload_n 0, 1) := by decide +kernel
theorem dX11_still_15 : decode cX11_still 15 = .ok (.getfield 42, 3) := by decide +kernel
theorem dX11_still_18 : decode cX11_still 18 = .ok (.iload_n 1, 1) := by decide +kernel
theorem dX11_still_19 : decode cX11_still 19 = .ok (.invokevirtual 193, 3) := by decide +kernel
theorem dX11_still_22 : decode cX11_still 22 = .ok (.istore_n 2, 1) := by decide +kernel
theorem dX11_still_23 : decode cX11_still 23 = .ok (.iload_n 2, 1) := by decide +kernel
theorem dX11_still_24 : decode cX11_still 24 = .ok (.ifCond .ge 8, 3) := by decide +kernel
theorem dX11_still_27 : decode cX11_still 27 = .ok (.iload_n 2, 1) := by decide +kernel
theorem dX11_still_28 : decode cX11_still 28 = .ok (.ineg, 1) := by decide +kernel
theorem dX11_still_29 : decode cX11_still 29 = .ok (.goto 4, 3) := by decide +kernel
theorem dX11_still_32 : decode cX11_still 32 = .ok (.iconst 0, 1) := by decide +kernel
theorem dX11_still_33 : decode cX11_still 33 = .ok (.ireturn, 1) := by decide +kernel
theorem dX11_comes_0 : decode cX11_comes 0 = .ok (.aload_n 0, 1) := by decide +kernel
theorem dX11_comes_1 : decode cX11_comes 1 = .ok (.getfield 42, 3) := by decide +kernel
theorem dX11_comes_4 : decode cX11_comes 4 = .ok (.iload_n 1, 1) := by decide +kernel
theorem dX11_comes_5 : decode cX11_comes 5 = .ok (.invokevirtual 186, 3) := by decide +kernel
theorem dX11_comes_8 : decode cX11_comes 8 = .ok (.ifCond .eq 18, 3) := by decide +kernel
theorem dX11_comes_11 : decode cX11_comes 11 = .ok (.iconst (-1), 1) := by decide +kernel
theorem dX11_comes_12 : decode cX11_comes 12 = .ok (.aload_n 0, 1) := by decide +kernel
theorem dX11_comes_13 : decode cX11_comes 13 = .ok (.getfield 42, 3) := by decide +kernel
theorem dX11_comes_16 : decode cX11_comes 16 = .ok (.iload_n 1, 1) := by decide +kernel
theorem dX11_comes_17 : decode cX11_comes 17 = .ok (.invokevirtual 193, 3) := by decide +kernel
theorem dX11_comes_20 : decode cX11_comes 20 = .ok (.invokestatic 196, 3) := by decide +kernel
theorem dX11_comes_23 : decode cX11_comes 23 = .ok (.goto 5, 3) := by decide +kernel
theorem dX11_comes_26 : decode cX11_comes 26 = .ok (.bipush (-2), 2) := by decide +kernel
theorem dX11_comes_28 : decode cX11_comes 28 = .ok (.ireturn, 1) := by decide +kernel
theorem dX11_taken_0 : decode cX11_taken 0 = .ok (.aload_n 0, 1) := by decide +kernel
theorem dX11_taken_1 : decode cX11_taken 1 = .ok (.getfield 19, 3) := by decide +kernel
theorem dX11_taken_4 : decode cX11_taken 4 = .ok (.iload_n 1, 1) := by decide +kernel
theorem dX11_taken_5 : decode cX11_taken 5 = .ok (.iload_n 3, 1) := by decide +kernel
theorem dX11_taken_6 : decode cX11_taken 6 = .ok (.invokevirtual 122, 3) := by decide +kernel
theorem dX11_taken_9 : decode cX11_taken 9 = .ok (.ifCond .eq 23, 3) := by decide +kernel
theorem dX11_taken_12 : decode cX11_taken 12 = .ok (.iload_n 2, 1) := by decide +kernel
theorem dX11_taken_13 : decode cX11_taken 13 = .ok (.invokestatic 106, 3) := by decide +kernel
theorem dX11_taken_16 : decode cX11_taken 16 = .ok (.ifCond .eq 16, 3) := by decide +kernel
theorem dX11_taken_19 : decode cX11_taken 19 = .ok (.aload_n 0, 1) := by decide +kernel
theorem dX11_taken_20 : decode cX11_taken 20 = .ok (.getfield 33, 3) := by decide +kernel
theorem dX11_taken_23 : decode cX11_taken 23 = .ok (.iload_n 1, 1) := by decide +kernel
theorem dX11_taken_24 : decode cX11_taken 24 = .ok (.iload_n 2, 1) := by decide +kernel
theorem dX11_taken_25 : decode cX11_taken 25 = .ok (.iload_n 3, 1) := by decide +kernel
theorem dX11_taken_26 : decode cX11_taken 26 = .ok (.invokevirtual 201, 3) := by decide +kernel
theorem dX11_taken_29 : decode cX11_taken 29 = .ok (.goto 5, 3) := by decide +kernel
theorem dX11_taken_32 : decode cX11_taken 32 = .ok (.bipush (-2), 2) := by decide +kernel
theorem dX11_taken_34 : decode cX11_taken 34 = .ok (.ireturn, 1) := by decide +kernel
theorem dX11_latest_0 : decode cX11_latest 0 = .ok (.aload_n 0, 1) := by decide +kernel
theorem dX11_latest_1 : decode cX11_latest 1 = .ok (.getfield 12, 3) := by decide +kernel
theorem dX11_latest_4 : decode cX11_latest 4 = .ok (.iload_n 1, 1) := by decide +kernel
theorem dX11_latest_5 : decode cX11_latest 5 = .ok (.invokevirtual 117, 3) := by decide +kernel
theorem dX11_latest_8 : decode cX11_latest 8 = .ok (.ifCond .eq 21, 3) := by decide +kernel
theorem dX11_latest_11 : decode cX11_latest 11 = .ok (.aload_n 0, 1) := by decide +kernel
theorem dX11_latest_12 : decode cX11_latest 12 = .ok (.getfield 12, 3) := by decide +kernel
theorem dX11_latest_15 : decode cX11_latest 15 = .ok (.iload_n 2, 1) := by decide +kernel
theorem dX11_latest_16 : decode cX11_latest 16 = .ok (.invokevirtual 117, 3) := by decide +kernel
theorem dX11_latest_19 : decode cX11_latest 19 = .ok (.ifCond .eq 10, 3) := by decide +kernel
theorem dX11_latest_22 : decode cX11_latest 22 = .ok (.iload_n 3, 1) := by decide +kernel
theorem dX11_latest_23 : decode cX11_latest 23 = .ok (.invokestatic 106, 3) := by decide +kernel
theorem dX11_latest_26 : decode cX11_latest 26 = .ok (.ifCond .ne 6, 3) := by decide +kernel
theorem dX11_latest_29 : decode cX11_latest 29 = .ok (.bipush (-2), 2) := by decide +kernel
theorem dX11_latest_31 : decode cX11_latest 31 = .ok (.ireturn, 1) := by decide +kernel
theorem dX11_latest_32 : decode cX11_latest 32 = .ok (.sipush 1440, 3) := by decide +kernel
theorem dX11_latest_35 : decode cX11_latest 35 = .ok (.iload_n 3, 1) := by decide +kernel
theorem dX11_latest_36 : decode cX11_latest 36 = .ok (.imul, 1) := by decide +kernel
theorem dX11_latest_37 : decode cX11_latest 37 = .ok (.istore 5, 2) := by decide +kernel
theorem dX11_latest_39 : decode cX11_latest 39 = .ok (.aload_n 0, 1) := by decide +kernel
theorem dX11_latest_40 : decode cX11_latest 40 = .ok (.getfield 51, 3) := by decide +kernel
theorem dX11_latest_43 : decode cX11_latest 43 = .ok (.iload_n 3, 1) := by decide +kernel
theorem dX11_latest_44 : decode cX11_latest 44 = .ok (.iload 5, 2) := by decide +kernel
theorem dX11_latest_46 : decode cX11_latest 46 = .ok (.invokevirtual 156, 3) := by decide +kernel
theorem dX11_latest_49 : decode cX11_latest 49 = .ok (.iconst (-1), 1) := by decide +kernel
theorem dX11_latest_50 : decode cX11_latest 50 = .ok (.istore 6, 2) := by decide +kernel
theorem dX11_latest_52 : decode cX11_latest 52 = .ok (.sipush 1024, 3) := by decide +kernel
theorem dX11_latest_55 : decode cX11_latest 55 = .ok (.istore 7, 2) := by decide +kernel
theorem dX11_latest_57 : decode cX11_latest 57 = .ok (.iload 7, 2) := by decide +kernel
theorem dX11_latest_59 : decode cX11_latest 59 = .ok (.ifCond .le 72, 3) := by decide +kernel
theorem dX11_latest_62 : decode cX11_latest 62 = .ok (.iload 6, 2) := by decide +kernel
theorem dX11_latest_64 : decode cX11_latest 64 = .ok (.iload 7, 2) := by decide +kernel
theorem dX11_latest_66 : decode cX11_latest 66 = .ok (.iadd, 1) := by decide +kernel
theorem dX11_latest_67 : decode cX11_latest 67 = .ok (.istore 8, 2) := by decide +kernel
theorem dX11_latest_69 : decode cX11_latest 69 = .ok (.iload 8, 2) := by decide +kernel
theorem dX11_latest_71 : decode cX11_latest 71 = .ok (.sipush 1440, 3) := by decide +kernel
theorem dX11_latest_74 : decode cX11_latest 74 = .ok (.if_icmp .ge 48, 3) := by decide +kernel
theorem dX11_latest_77 : decode cX11_latest 77 = .ok (.aload_n 0, 1) := by decide +kernel
theorem dX11_latest_78 : decode cX11_latest 78 = .ok (.getfield 60, 3) := by decide +kernel
theorem dX11_latest_81 : decode cX11_latest 81 = .ok (.iload_n 1, 1) := by decide +kernel
theorem dX11_latest_82 : decode cX11_latest 82 = .ok (.iload 5, 2) := by decide +kernel
theorem dX11_latest_84 : decode cX11_latest 84 = .ok (.iload 8, 2) := by decide +kernel
theorem dX11_latest_86 : decode cX11_latest 86 = .ok (.iadd, 1) := by decide +kernel
theorem dX11_latest_87 : decode cX11_latest 87 = .ok (.invokevirtual 204, 3) := by decide +kernel
theorem dX11_latest_90 : decode cX11_latest 90 = .ok (.aload_n 0, 1) := by decide +kernel
theorem dX11_latest_91 : decode cX11_latest 91 = .ok (.getfield 60, 3) := by decide +kernel
theorem dX11_latest_94 : decode cX11_latest 94 = .ok (.getfield 207, 3) := by decide +kernel
theorem dX11_latest_97 : decode cX11_latest 97 = .ok (.iload_n 2, 1) := by decide +kernel
theorem dX11_latest_98 : decode cX11_latest 98 = .ok (.iaload, 1) := by decide +kernel
theorem dX11_latest_99 : decode cX11_latest 99 = .ok (.ldc 210, 2) := by decide +kernel
theorem dX11_latest_101 : decode cX11_latest 101 = .ok (.if_icmp .ge 21, 3) := by decide +kernel
theorem dX11_latest_104 : decode cX11_latest 104 = .ok (.aload_n 0, 1) := by decide +kernel
theorem dX11_latest_105 : decode cX11_latest 105 = .ok (.getfield 60, 3) := by decide +kernel
theorem dX11_latest_108 : decode cX11_latest 108 = .ok (.getfield 207, 3) := by decide +kernel
theorem dX11_latest_111 : decode cX11_latest 111 = .ok (.iload_n 2, 1) := by decide +kernel
theorem dX11_latest_112 : decode cX11_latest 112 = .ok (.iaload, 1) := by decide +kernel
theorem dX11_latest_113 : decode cX11_latest 113 = .ok (.iload 4, 2) := by decide +kernel
theorem dX11_latest_115 : decode cX11_latest 115 = .ok (.if_icmp .gt 7, 3) := by decide +kernel
theorem dX11_latest_118 : decode cX11_latest 118 = .ok (.iload 8, 2) := by decide +kernel
theorem dX11_latest_120 : decode cX11_latest 120 = .ok (.istore 6, 2) := by decide +kernel
theorem dX11_latest_122 : decode cX11_latest 122 = .ok (.iload 7, 2) := by decide +kernel
theorem dX11_latest_124 : decode cX11_latest 124 = .ok (.iconst 1, 1) := by decide +kernel
theorem dX11_latest_125 : decode cX11_latest 125 = .ok (.ishr, 1) := by decide +kernel
theorem dX11_latest_126 : decode cX11_latest 126 = .ok (.istore 7, 2) := by decide +kernel
theorem dX11_latest_128 : decode cX11_latest 128 = .ok (.goto (-71), 3) := by decide +kernel
theorem dX11_latest_131 : decode cX11_latest 131 = .ok (.iload 6, 2) := by decide +kernel
theorem dX11_latest_133 : decode cX11_latest 133 = .ok (.ireturn, 1) := by decide +kernel
theorem dX11_reach_0 : decode cX11_reach 0 = .ok (.aload_n 0, 1) := by decide +kernel
theorem dX11_reach_1 : decode cX11_reach 1 = .ok (.getfield 12, 3) := by decide +kernel
theorem dX11_reach_4 : decode cX11_reach 4 = .ok (.iload_n 1, 1) := by decide +kernel
theorem dX11_reach_5 : decode cX11_reach 5 = .ok (.invokevirtual 117, 3) := by decide +kernel
theorem dX11_reach_8 : decode cX11_reach 8 = .ok (.ifCond .eq 22, 3) := by decide +kernel
theorem dX11_reach_11 : decode cX11_reach 11 = .ok (.iload_n 2, 1) := by decide +kernel
theorem dX11_reach_12 : decode cX11_reach 12 = .ok (.invokestatic 106, 3) := by decide +kernel
theorem dX11_reach_15 : decode cX11_reach 15 = .ok (.ifCond .eq 15, 3) := by decide +kernel
theorem dX11_reach_18 : decode cX11_reach 18 = .ok (.iload_n 3, 1) := by decide +kernel
theorem dX11_reach_19 : decode cX11_reach 19 = .ok (.invokestatic 132, 3) := by decide +kernel
theorem dX11_reach_22 : decode cX11_reach 22 = .ok (.ifCond .eq 8, 3) := by decide +kernel
theorem dX11_reach_25 : decode cX11_reach 25 = .ok (.iload 4, 2) := by decide +kernel
theorem dX11_reach_27 : decode cX11_reach 27 = .ok (.ifCond .ge 6, 3) := by decide +kernel
theorem dX11_reach_30 : decode cX11_reach 30 = .ok (.bipush (-2), 2) := by decide +kernel
theorem dX11_reach_32 : decode cX11_reach 32 = .ok (.ireturn, 1) := by decide +kernel
theorem dX11_reach_33 : decode cX11_reach 33 = .ok (.sipush 1440, 3) := by decide +kernel
theorem dX11_reach_36 : decode cX11_reach 36 = .ok (.iload_n 2, 1) := by decide +kernel
theorem dX11_reach_37 : decode cX11_reach 37 = .ok (.imul, 1) := by decide +kernel
theorem dX11_reach_38 : decode cX11_reach 38 = .ok (.iload_n 3, 1) := by decide +kernel
theorem dX11_reach_39 : decode cX11_reach 39 = .ok (.iadd, 1) := by decide +kernel
theorem dX11_reach_40 : decode cX11_reach 40 = .ok (.istore 5, 2) := by decide +kernel
theorem dX11_reach_42 : decode cX11_reach 42 = .ok (.aload_n 0, 1) := by decide +kernel
theorem dX11_reach_43 : decode cX11_reach 43 = .ok (.getfield 51, 3) := by decide +kernel
theorem dX11_reach_46 : decode cX11_reach 46 = .ok (.iload_n 2, 1) := by decide +kernel
theorem dX11_reach_47 : decode cX11_reach 47 = .ok (.iload 5, 2) := by decide +kernel
theorem dX11_reach_49 : decode cX11_reach 49 = .ok (.invokevirtual 156, 3) := by decide +kernel
theorem dX11_reach_52 : decode cX11_reach 52 = .ok (.aload_n 0, 1) := by decide +kernel
theorem dX11_reach_53 : decode cX11_reach 53 = .ok (.getfield 60, 3) := by decide +kernel
theorem dX11_reach_56 : decode cX11_reach 56 = .ok (.iload_n 1, 1) := by decide +kernel
theorem dX11_reach_57 : decode cX11_reach 57 = .ok (.iload 5, 2) := by decide +kernel
theorem dX11_reach_59 : decode cX11_reach 59 = .ok (.invokevirtual 204, 3) := by decide +kernel
theorem dX11_reach_62 : decode cX11_reach 62 = .ok (.iconst 0, 1) := by decide +kernel
theorem dX11_reach_63 : decode cX11_reach 63 = .ok (.istore 6, 2) := by decide +kernel
theorem dX11_reach_65 : decode cX11_reach 65 = .ok (.iconst 0, 1) := by decide +kernel
theorem dX11_reach_66 : decode cX11_reach 66 = .ok (.istore 7, 2) := by decide +kernel
theorem dX11_reach_68 : decode cX11_reach 68 = .ok (.iload 7, 2) := by decide +kernel
theorem dX11_reach_70 : decode cX11_reach 70 = .ok (.aload_n 0, 1) := by decide +kernel
theorem dX11_reach_71 : decode cX11_reach 71 = .ok (.getfield 12, 3) := by decide +kernel
theorem dX11_reach_74 : decode cX11_reach 74 = .ok (.getfield 211, 3) := by decide +kernel
theorem dX11_reach_77 : decode cX11_reach 77 = .ok (.if_icmp .ge 51, 3) := by decide +kernel
theorem dX11_reach_80 : decode cX11_reach 80 = .ok (.aload_n 0, 1) := by decide +kernel
theorem dX11_reach_81 : decode cX11_reach 81 = .ok (.getfield 60, 3) := by decide +kernel
theorem dX11_reach_84 : decode cX11_reach 84 = .ok (.getfield 207, 3) := by decide +kernel
theorem dX11_reach_87 : decode cX11_reach 87 = .ok (.iload 7, 2) := by decide +kernel
theorem dX11_reach_89 : decode cX11_reach 89 = .ok (.iaload, 1) := by decide +kernel
theorem dX11_reach_90 : decode cX11_reach 90 = .ok (.ldc 210, 2) := by decide +kernel
theorem dX11_reach_92 : decode cX11_reach 92 = .ok (.if_icmp .ge 30, 3) := by decide +kernel
theorem dX11_reach_95 : decode cX11_reach 95 = .ok (.aload_n 0, 1) := by decide +kernel
theorem dX11_reach_96 : decode cX11_reach 96 = .ok (.getfield 60, 3) := by decide +kernel
theorem dX11_reach_99 : decode cX11_reach 99 = .ok (.getfield 207, 3) := by decide +kernel
theorem dX11_reach_102 : decode cX11_reach 102 = .ok (.iload 7, 2) := by decide +kernel
theorem dX11_reach_104 : decode cX11_reach 104 = .ok (.iaload, 1) := by decide +kernel
theorem dX11_reach_105 : decode cX11_reach 105 = .ok (.iload 5, 2) := by decide +kernel
theorem dX11_reach_107 : decode cX11_reach 107 = .ok (.isub, 1) := by decide +kernel
theorem dX11_reach_108 : decode cX11_reach 108 = .ok (.iload 4, 2) := by decide +kernel
theorem dX11_reach_110 : decode cX11_reach 110 = .ok (.if_icmp .gt 12, 3) := by decide +kernel
theorem dX11_reach_113 : decode cX11_reach 113 = .ok (.iload 6, 2) := by decide +kernel
theorem dX11_reach_115 : decode cX11_reach 115 = .ok (.iconst 1, 1) := by decide +kernel
theorem dX11_reach_116 : decode cX11_reach 116 = .ok (.iload 7, 2) := by decide +kernel
theorem dX11_reach_118 : decode cX11_reach 118 = .ok (.ishl, 1) := by decide +kernel
theorem dX11_reach_119 : decode cX11_reach 119 = .ok (.ior, 1) := by decide +kernel
theorem dX11_reach_120 : decode cX11_reach 120 = .ok (.istore 6, 2) := by decide +kernel
theorem dX11_reach_122 : decode cX11_reach 122 = .ok (.iinc 7 1, 3) := by decide +kernel
theorem dX11_reach_125 : decode cX11_reach 125 = .ok (.goto (-57), 3) := by decide +kernel
theorem dX11_reach_128 : decode cX11_reach 128 = .ok (.iload 6, 2) := by decide +kernel
theorem dX11_reach_130 : decode cX11_reach 130 = .ok (.ireturn, 1) := by decide +kernel
theorem dX11_meet_0 : decode cX11_meet 0 = .ok (.iload_n 1, 1) := by decide +kernel
theorem dX11_meet_1 : decode cX11_meet 1 = .ok (.ifCond .eq 29, 3) := by decide +kernel
theorem dX11_meet_4 : decode cX11_meet 4 = .ok (.iload_n 1, 1) := by decide +kernel
theorem dX11_meet_5 : decode cX11_meet 5 = .ok (.aload_n 0, 1) := by decide +kernel
theorem dX11_meet_6 : decode cX11_meet 6 = .ok (.getfield 12, 3) := by decide +kernel
theorem dX11_meet_9 : decode cX11_meet 9 = .ok (.getfield 211, 3) := by decide +kernel
theorem dX11_meet_12 : decode cX11_meet 12 = .ok (.iushr, 1) := by decide +kernel
theorem dX11_meet_13 : decode cX11_meet 13 = .ok (.ifCond .ne 17, 3) := by decide +kernel
theorem dX11_meet_16 : decode cX11_meet 16 = .ok (.iload_n 2, 1) := by decide +kernel
theorem dX11_meet_17 : decode cX11_meet 17 = .ok (.invokestatic 106, 3) := by decide +kernel
theorem dX11_meet_20 : decode cX11_meet 20 = .ok (.ifCond .eq 10, 3) := by decide +kernel
theorem dX11_meet_23 : decode cX11_meet 23 = .ok (.iload_n 3, 1) := by decide +kernel
theorem dX11_meet_24 : decode cX11_meet 24 = .ok (.invokestatic 132, 3) := by decide +kernel
theorem dX11_meet_27 : decode cX11_meet 27 = .ok (.ifCond .ne 6, 3) := by decide +kernel
theorem dX11_meet_30 : decode cX11_meet 30 = .ok (.bipush (-2), 2) := by decide +kernel
theorem dX11_meet_32 : decode cX11_meet 32 = .ok (.ireturn, 1) := by decide +kernel
theorem dX11_meet_33 : decode cX11_meet 33 = .ok (.aload_n 0, 1) := by decide +kernel
theorem dX11_meet_34 : decode cX11_meet 34 = .ok (.iload_n 1, 1) := by decide +kernel
theorem dX11_meet_35 : decode cX11_meet 35 = .ok (.iload_n 2, 1) := by decide +kernel
theorem dX11_meet_36 : decode cX11_meet 36 = .ok (.iload_n 3, 1) := by decide +kernel
theorem dX11_meet_37 : decode cX11_meet 37 = .ok (.invokevirtual 214, 3) := by decide +kernel
theorem dX11_meet_40 : decode cX11_meet 40 = .ok (.iconst (-1), 1) := by decide +kernel
theorem dX11_meet_41 : decode cX11_meet 41 = .ok (.istore 4, 2) := by decide +kernel
theorem dX11_meet_43 : decode cX11_meet 43 = .ok (.iconst 0, 1) := by decide +kernel
theorem dX11_meet_44 : decode cX11_meet 44 = .ok (.istore 5, 2) := by decide +kernel
theorem dX11_meet_46 : decode cX11_meet 46 = .ok (.iload 5, 2) := by decide +kernel
theorem dX11_meet_48 : decode cX11_meet 48 = .ok (.aload_n 0, 1) := by decide +kernel
theorem dX11_meet_49 : decode cX11_meet 49 = .ok (.getfield 12, 3) := by decide +kernel
theorem dX11_meet_52 : decode cX11_meet 52 = .ok (.getfield 211, 3) := by decide +kernel
theorem dX11_meet_55 : decode cX11_meet 55 = .ok (.if_icmp .ge 40, 3) := by decide +kernel
theorem dX11_meet_58 : decode cX11_meet 58 = .ok (.aload_n 0, 1) := by decide +kernel
theorem dX11_meet_59 : decode cX11_meet 59 = .ok (.getfield 82, 3) := by decide +kernel
theorem dX11_meet_62 : decode cX11_meet 62 = .ok (.iload 5, 2) := by decide +kernel
theorem dX11_meet_64 : decode cX11_meet 64 = .ok (.iaload, 1) := by decide +kernel
theorem dX11_meet_65 : decode cX11_meet 65 = .ok (.iload 4, 2) := by decide +kernel
theorem dX11_meet_67 : decode cX11_meet 67 = .ok (.ifCond .ge 8, 3) := by decide +kernel
theorem dX11_meet_70 : decode cX11_meet 70 = .ok (.ldc 210, 2) := by decide +kernel
theorem dX11_meet_72 : decode cX11_meet 72 = .ok (.goto 10, 3) := by decide +kernel
theorem dX11_meet_75 : decode cX11_meet 75 = .ok (.aload_n 0, 1) := by decide +kernel
theorem dX11_meet_76 : decode cX11_meet 76 = .ok (.getfield 82, 3) := by decide +kernel
theorem dX11_meet_79 : decode cX11_meet 79 = .ok (.iload 4, 2) := by decide +kernel
theorem dX11_meet_81 : decode cX11_meet 81 = .ok (.iaload, 1) := by decide +kernel
theorem dX11_meet_82 : decode cX11_meet 82 = .ok (.if_icmp .ge 7, 3) := by decide +kernel
theorem dX11_meet_85 : decode cX11_meet 85 = .ok (.iload 5, 2) := by decide +kernel
theorem dX11_meet_87 : decode cX11_meet 87 = .ok (.istore 4, 2) := by decide +kernel
theorem dX11_meet_89 : decode cX11_meet 89 = .ok (.iinc 5 1, 3) := by decide +kernel
theorem dX11_meet_92 : decode cX11_meet 92 = .ok (.goto (-46), 3) := by decide +kernel
theorem dX11_meet_95 : decode cX11_meet 95 = .ok (.iload 4, 2) := by decide +kernel
theorem dX11_meet_97 : decode cX11_meet 97 = .ok (.ifCond .lt 14, 3) := by decide +kernel
theorem dX11_meet_100 : decode cX11_meet 100 = .ok (.aload_n 0, 1) := by decide +kernel
theorem dX11_meet_101 : decode cX11_meet 101 = .ok (.aload_n 0, 1) := by decide +kernel
theorem dX11_meet_102 : decode cX11_meet 102 = .ok (.getfield 82, 3) := by decide +kernel
theorem dX11_meet_105 : decode cX11_meet 105 = .ok (.iload 4, 2) := by decide +kernel
theorem dX11_meet_107 : decode cX11_meet 107 = .ok (.iaload, 1) := by decide +kernel
theorem dX11_meet_108 : decode cX11_meet 108 = .ok (.putfield 86, 3) := by decide +kernel
theorem dX11_meet_111 : decode cX11_meet 111 = .ok (.iload 4, 2) := by decide +kernel
theorem dX11_meet_113 : decode cX11_meet 113 = .ok (.ireturn, 1) := by decide +kernel
theorem dX11_met_0 : decode cX11_met 0 = .ok (.aload_n 0, 1) := by decide +kernel
theorem dX11_met_1 : decode cX11_met 1 = .ok (.getfield 86, 3) := by decide +kernel
theorem dX11_met_4 : decode cX11_met 4 = .ok (.ireturn, 1) := by decide +kernel
theorem dX11_table_0 : decode cX11_table 0 = .ok (.aload_n 0, 1) := by decide +kernel
theorem dX11_table_1 : decode cX11_table 1 = .ok (.getfield 12, 3) := by decide +kernel
theorem dX11_table_4 : decode cX11_table 4 = .ok (.iload_n 1, 1) := by decide +kernel
theorem dX11_table_5 : decode cX11_table 5 = .ok (.invokevirtual 117, 3) := by decide +kernel
theorem dX11_table_8 : decode cX11_table 8 = .ok (.ifCond .eq 20, 3) := by decide +kernel
theorem dX11_table_11 : decode cX11_table 11 = .ok (.iload_n 2, 1) := by decide +kernel
theorem dX11_table_12 : decode cX11_table 12 = .ok (.invokestatic 106, 3) := by decide +kernel
theorem dX11_table_15 : decode cX11_table 15 = .ok (.ifCond .eq 13, 3) := by decide +kernel
theorem dX11_table_18 : decode cX11_table 18 = .ok (.iload 4, 2) := by decide +kernel
theorem dX11_table_20 : decode cX11_table 20 = .ok (.iconst 0, 1) := by decide +kernel
theorem dX11_table_21 : decode cX11_table 21 = .ok (.iconst 3, 1) := by decide +kernel
theorem dX11_table_22 : decode cX11_table 22 = .ok (.invokestatic 90, 3) := by decide +kernel
theorem dX11_table_25 : decode cX11_table 25 = .ok (.ifCond .ne 6, 3) := by decide +kernel
theorem dX11_table_28 : decode cX11_table 28 = .ok (.bipush (-2), 2) := by decide +kernel
theorem dX11_table_30 : decode cX11_table 30 = .ok (.ireturn, 1) := by decide +kernel
theorem dX11_table_31 : decode cX11_table 31 = .ok (.aload_n 0, 1) := by decide +kernel
theorem dX11_table_32 : decode cX11_table 32 = .ok (.getfield 78, 3) := by decide +kernel
theorem dX11_table_35 : decode cX11_table 35 = .ok (.iload_n 1, 1) := by decide +kernel
theorem dX11_table_36 : decode cX11_table 36 = .ok (.iload_n 2, 1) := by decide +kernel
theorem dX11_table_37 : decode cX11_table 37 = .ok (.invokevirtual 216, 3) := by decide +kernel
theorem dX11_table_40 : decode cX11_table 40 = .ok (.istore 5, 2) := by decide +kernel
theorem dX11_table_42 : decode cX11_table 42 = .ok (.iload_n 3, 1) := by decide +kernel
theorem dX11_table_43 : decode cX11_table 43 = .ok (.iconst 0, 1) := by decide +kernel
theorem dX11_table_44 : decode cX11_table 44 = .ok (.iload 5, 2) := by decide +kernel
theorem dX11_table_46 : decode cX11_table 46 = .ok (.iconst 1, 1) := by decide +kernel
theorem dX11_table_47 : decode cX11_table 47 = .ok (.isub, 1) := by decide +kernel
theorem dX11_table_48 : decode cX11_table 48 = .ok (.invokestatic 90, 3) := by decide +kernel
theorem dX11_table_51 : decode cX11_table 51 = .ok (.ifCond .eq 17, 3) := by decide +kernel
theorem dX11_table_54 : decode cX11_table 54 = .ok (.aload_n 0, 1) := by decide +kernel
theorem dX11_table_55 : decode cX11_table 55 = .ok (.getfield 78, 3) := by decide +kernel
theorem dX11_table_58 : decode cX11_table 58 = .ok (.iload_n 3, 1) := by decide +kernel
theorem dX11_table_59 : decode cX11_table 59 = .ok (.iload_n 2, 1) := by decide +kernel
theorem dX11_table_60 : decode cX11_table 60 = .ok (.iload 4, 2) := by decide +kernel
theorem dX11_table_62 : decode cX11_table 62 = .ok (.invokevirtual 218, 3) := by decide +kernel
theorem dX11_table_65 : decode cX11_table 65 = .ok (.goto 4, 3) := by decide +kernel
theorem dX11_table_68 : decode cX11_table 68 = .ok (.iconst (-1), 1) := by decide +kernel
theorem dX11_table_69 : decode cX11_table 69 = .ok (.ireturn, 1) := by decide +kernel
theorem dX11_count_0 : decode cX11_count 0 = .ok (.iload_n 1, 1) := by decide +kernel
theorem dX11_count_1 : decode cX11_count 1 = .ok (.tableswitch 102 0 6 #[43, 51, 59, 67, 75, 83, 91], 43) := by decide +kernel
theorem dX11_count_44 : decode cX11_count 44 = .ok (.aload_n 0, 1) := by decide +kernel
theorem dX11_count_45 : decode cX11_count 45 = .ok (.getfield 12, 3) := by decide +kernel
theorem dX11_count_48 : decode cX11_count 48 = .ok (.getfield 211, 3) := by decide +kernel
theorem dX11_count_51 : decode cX11_count 51 = .ok (.ireturn, 1) := by decide +kernel
theorem dX11_count_52 : decode cX11_count 52 = .ok (.aload_n 0, 1) := by decide +kernel
theorem dX11_count_53 : decode cX11_count 53 = .ok (.getfield 19, 3) := by decide +kernel
theorem dX11_count_56 : decode cX11_count 56 = .ok (.getfield 221, 3) := by decide +kernel
theorem dX11_count_59 : decode cX11_count 59 = .ok (.ireturn, 1) := by decide +kernel
theorem dX11_count_60 : decode cX11_count 60 = .ok (.aload_n 0, 1) := by decide +kernel
theorem dX11_count_61 : decode cX11_count 61 = .ok (.getfield 26, 3) := by decide +kernel
theorem dX11_count_64 : decode cX11_count 64 = .ok (.getfield 222, 3) := by decide +kernel
theorem dX11_count_67 : decode cX11_count 67 = .ok (.ireturn, 1) := by decide +kernel
theorem dX11_count_68 : decode cX11_count 68 = .ok (.aload_n 0, 1) := by decide +kernel
theorem dX11_count_69 : decode cX11_count 69 = .ok (.getfield 69, 3) := by decide +kernel
theorem dX11_count_72 : decode cX11_count 72 = .ok (.getfield 223, 3) := by decide +kernel
theorem dX11_count_75 : decode cX11_count 75 = .ok (.ireturn, 1) := by decide +kernel
theorem dX11_count_76 : decode cX11_count 76 = .ok (.aload_n 0, 1) := by decide +kernel
theorem dX11_count_77 : decode cX11_count 77 = .ok (.getfield 42, 3) := by decide +kernel
theorem dX11_count_80 : decode cX11_count 80 = .ok (.getfield 224, 3) := by decide +kernel
theorem dX11_count_83 : decode cX11_count 83 = .ok (.ireturn, 1) := by decide +kernel
theorem dX11_count_84 : decode cX11_count 84 = .ok (.aload_n 0, 1) := by decide +kernel
theorem dX11_count_85 : decode cX11_count 85 = .ok (.getfield 42, 3) := by decide +kernel
theorem dX11_count_88 : decode cX11_count 88 = .ok (.getfield 225, 3) := by decide +kernel
theorem dX11_count_91 : decode cX11_count 91 = .ok (.ireturn, 1) := by decide +kernel
theorem dX11_count_92 : decode cX11_count 92 = .ok (.aload_n 0, 1) := by decide +kernel
theorem dX11_count_93 : decode cX11_count 93 = .ok (.getfield 19, 3) := by decide +kernel
theorem dX11_count_96 : decode cX11_count 96 = .ok (.getfield 144, 3) := by decide +kernel
theorem dX11_count_99 : decode cX11_count 99 = .ok (.getfield 228, 3) := by decide +kernel
theorem dX11_count_102 : decode cX11_count 102 = .ok (.ireturn, 1) := by decide +kernel
theorem dX11_count_103 : decode cX11_count 103 = .ok (.bipush (-2), 2) := by decide +kernel
theorem dX11_count_105 : decode cX11_count 105 = .ok (.ireturn, 1) := by decide +kernel
theorem dX11_gather_0 : decode cX11_gather 0 = .ok (.sipush 1440, 3) := by decide +kernel
theorem dX11_gather_3 : decode cX11_gather 3 = .ok (.iload_n 2, 1) := by decide +kernel
theorem dX11_gather_4 : decode cX11_gather 4 = .ok (.imul, 1) := by decide +kernel
theorem dX11_gather_5 : decode cX11_gather 5 = .ok (.iload_n 3, 1) := by decide +kernel
theorem dX11_gather_6 : decode cX11_gather 6 = .ok (.iadd, 1) := by decide +kernel
theorem dX11_gather_7 : decode cX11_gather 7 = .ok (.istore 4, 2) := by decide +kernel
theorem dX11_gather_9 : decode cX11_gather 9 = .ok (.aload_n 0, 1) := by decide +kernel
theorem dX11_gather_10 : decode cX11_gather 10 = .ok (.getfield 51, 3) := by decide +kernel
theorem dX11_gather_13 : decode cX11_gather 13 = .ok (.iload_n 2, 1) := by decide +kernel
theorem dX11_gather_14 : decode cX11_gather 14 = .ok (.iload 4, 2) := by decide +kernel
theorem dX11_gather_16 : decode cX11_gather 16 = .ok (.invokevirtual 156, 3) := by decide +kernel
theorem dX11_gather_19 : decode cX11_gather 19 = .ok (.aload_n 0, 1) := by decide +kernel
theorem dX11_gather_20 : decode cX11_gather 20 = .ok (.getfield 82, 3) := by decide +kernel
theorem dX11_gather_23 : decode cX11_gather 23 = .ok (.iload 4, 2) := by decide +kernel
theorem dX11_gather_25 : decode cX11_gather 25 = .ok (.invokestatic 229, 3) := by decide +kernel
theorem dX11_gather_28 : decode cX11_gather 28 = .ok (.iconst 0, 1) := by decide +kernel
theorem dX11_gather_29 : decode cX11_gather 29 = .ok (.istore 5, 2) := by decide +kernel
theorem dX11_gather_31 : decode cX11_gather 31 = .ok (.iload 5, 2) := by decide +kernel
theorem dX11_gather_33 : decode cX11_gather 33 = .ok (.aload_n 0, 1) := by decide +kernel
theorem dX11_gather_34 : decode cX11_gather 34 = .ok (.getfield 12, 3) := by decide +kernel
theorem dX11_gather_37 : decode cX11_gather 37 = .ok (.getfield 211, 3) := by decide +kernel
theorem dX11_gather_40 : decode cX11_gather 40 = .ok (.if_icmp .ge 77, 3) := by decide +kernel
theorem dX11_gather_43 : decode cX11_gather 43 = .ok (.iload_n 1, 1) := by decide +kernel
theorem dX11_gather_44 : decode cX11_gather 44 = .ok (.iload 5, 2) := by decide +kernel
theorem dX11_gather_46 : decode cX11_gather 46 = .ok (.ishr, 1) := by decide +kernel
theorem dX11_gather_47 : decode cX11_gather 47 = .ok (.iconst 1, 1) := by decide +kernel
theorem dX11_gather_48 : decode cX11_gather 48 = .ok (.iand, 1) := by decide +kernel
theorem dX11_gather_49 : decode cX11_gather 49 = .ok (.ifCond .eq 62, 3) := by decide +kernel
theorem dX11_gather_52 : decode cX11_gather 52 = .ok (.aload_n 0, 1) := by decide +kernel
theorem dX11_gather_53 : decode cX11_gather 53 = .ok (.getfield 60, 3) := by decide +kernel
theorem dX11_gather_56 : decode cX11_gather 56 = .ok (.iload 5, 2) := by decide +kernel
theorem dX11_gather_58 : decode cX11_gather 58 = .ok (.iload 4, 2) := by decide +kernel
theorem dX11_gather_60 : decode cX11_gather 60 = .ok (.invokevirtual 204, 3) := by decide +kernel
theorem dX11_gather_63 : decode cX11_gather 63 = .ok (.iconst 0, 1) := by decide +kernel
theorem dX11_gather_64 : decode cX11_gather 64 = .ok (.istore 6, 2) := by decide +kernel
theorem dX11_gather_66 : decode cX11_gather 66 = .ok (.iload 6, 2) := by decide +kernel
theorem dX11_gather_68 : decode cX11_gather 68 = .ok (.aload_n 0, 1) := by decide +kernel
theorem dX11_gather_69 : decode cX11_gather 69 = .ok (.getfield 12, 3) := by decide +kernel
theorem dX11_gather_72 : decode cX11_gather 72 = .ok (.getfield 211, 3) := by decide +kernel
theorem dX11_gather_75 : decode cX11_gather 75 = .ok (.if_icmp .ge 36, 3) := by decide +kernel
theorem dX11_gather_78 : decode cX11_gather 78 = .ok (.aload_n 0, 1) := by decide +kernel
theorem dX11_gather_79 : decode cX11_gather 79 = .ok (.getfield 82, 3) := by decide +kernel
theorem dX11_gather_82 : decode cX11_gather 82 = .ok (.iload 6, 2) := by decide +kernel
theorem dX11_gather_84 : decode cX11_gather 84 = .ok (.aload_n 0, 1) := by decide +kernel
theorem dX11_gather_85 : decode cX11_gather 85 = .ok (.getfield 82, 3) := by decide +kernel
theorem dX11_gather_88 : decode cX11_gather 88 = .ok (.iload 6, 2) := by decide +kernel
theorem dX11_gather_90 : decode cX11_gather 90 = .ok (.iaload, 1) := by decide +kernel
theorem dX11_gather_91 : decode cX11_gather 91 = .ok (.aload_n 0, 1) := by decide +kernel
theorem dX11_gather_92 : decode cX11_gather 92 = .ok (.getfield 60, 3) := by decide +kernel
theorem dX11_gather_95 : decode cX11_gather 95 = .ok (.getfield 207, 3) := by decide +kernel
theorem dX11_gather_98 : decode cX11_gather 98 = .ok (.iload 6, 2) := by decide +kernel
theorem dX11_gather_100 : decode cX11_gather 100 = .ok (.iaload, 1) := by decide +kernel
theorem dX11_gather_101 : decode cX11_gather 101 = .ok (.invokestatic 196, 3) := by decide +kernel
theorem dX11_gather_104 : decode cX11_gather 104 = .ok (.iastore, 1) := by decide +kernel
theorem dX11_gather_105 : decode cX11_gather 105 = .ok (.iinc 6 1, 3) := by decide +kernel
theorem dX11_gather_108 : decode cX11_gather 108 = .ok (.goto (-42), 3) := by decide +kernel
theorem dX11_gather_111 : decode cX11_gather 111 = .ok (.iinc 5 1, 3) := by decide +kernel
theorem dX11_gather_114 : decode cX11_gather 114 = .ok (.goto (-83), 3) := by decide +kernel
theorem dX11_gather_117 : decode cX11_gather 117 = .ok (.return_, 1) := by decide +kernel
theorem dX11_between_0 : decode cX11_between 0 = .ok (.iload_n 0, 1) := by decide +kernel
theorem dX11_between_1 : decode cX11_between 1 = .ok (.iload_n 1, 1) := by decide +kernel
theorem dX11_between_2 : decode cX11_between 2 = .ok (.if_icmp .lt 12, 3) := by decide +kernel
theorem dX11_between_5 : decode cX11_between 5 = .ok (.iload_n 0, 1) := by decide +kernel
theorem dX11_between_6 : decode cX11_between 6 = .ok (.iload_n 2, 1) := by decide +kernel
theorem dX11_between_7 : decode cX11_between 7 = .ok (.if_icmp .gt 7, 3) := by decide +kernel
theorem dX11_between_10 : decode cX11_between 10 = .ok (.iconst 1, 1) := by decide +kernel
theorem dX11_between_11 : decode cX11_between 11 = .ok (.goto 4, 3) := by decide +kernel
theorem dX11_between_14 : decode cX11_between 14 = .ok (.iconst 0, 1) := by decide +kernel
theorem dX11_between_15 : decode cX11_between 15 = .ok (.ireturn, 1) := by decide +kernel
theorem dX11_isZone_0 : decode cX11_isZone 0 = .ok (.iload_n 0, 1) := by decide +kernel
theorem dX11_isZone_1 : decode cX11_isZone 1 = .ok (.iconst 0, 1) := by decide +kernel
theorem dX11_isZone_2 : decode cX11_isZone 2 = .ok (.iconst 3, 1) := by decide +kernel
theorem dX11_isZone_3 : decode cX11_isZone 3 = .ok (.invokestatic 90, 3) := by decide +kernel
theorem dX11_isZone_6 : decode cX11_isZone 6 = .ok (.ireturn, 1) := by decide +kernel
theorem dX11_isDay_0 : decode cX11_isDay 0 = .ok (.iload_n 0, 1) := by decide +kernel
theorem dX11_isDay_1 : decode cX11_isDay 1 = .ok (.iconst 0, 1) := by decide +kernel
theorem dX11_isDay_2 : decode cX11_isDay 2 = .ok (.bipush 99, 2) := by decide +kernel
theorem dX11_isDay_4 : decode cX11_isDay 4 = .ok (.invokestatic 90, 3) := by decide +kernel
theorem dX11_isDay_7 : decode cX11_isDay 7 = .ok (.ireturn, 1) := by decide +kernel
theorem dX11_isMinute_0 : decode cX11_isMinute 0 = .ok (.iload_n 0, 1) := by decide +kernel
theorem dX11_isMinute_1 : decode cX11_isMinute 1 = .ok (.iconst 0, 1) := by decide +kernel
theorem dX11_isMinute_2 : decode cX11_isMinute 2 = .ok (.sipush 1439, 3) := by decide +kernel
theorem dX11_isMinute_5 : decode cX11_isMinute 5 = .ok (.invokestatic 90, 3) := by decide +kernel
theorem dX11_isMinute_8 : decode cX11_isMinute 8 = .ok (.ireturn, 1) := by decide +kernel
theorem dX12_init_0 : decode cX12_init 0 = .ok (.aload_n 0, 1) := by decide +kernel
theorem dX12_init_1 : decode cX12_init 1 = .ok (.invokespecial 1, 3) := by decide +kernel
theorem dX12_init_4 : decode cX12_init 4 = .ok (.aload_n 0, 1) := by decide +kernel
theorem dX12_init_5 : decode cX12_init 5 = .ok (.bipush 12, 2) := by decide +kernel
theorem dX12_init_7 : decode cX12_init 7 = .ok (.newarray .int, 2) := by decide +kernel
theorem dX12_init_9 : decode cX12_init 9 = .ok (.putfield 7, 3) := by decide +kernel
theorem dX12_init_12 : decode cX12_init 12 = .ok (.aload_n 0, 1) := by decide +kernel
theorem dX12_init_13 : decode cX12_init 13 = .ok (.bipush 12, 2) := by decide +kernel
theorem dX12_init_15 : decode cX12_init 15 = .ok (.newarray .int, 2) := by decide +kernel
theorem dX12_init_17 : decode cX12_init 17 = .ok (.putfield 13, 3) := by decide +kernel
theorem dX12_init_20 : decode cX12_init 20 = .ok (.aload_n 0, 1) := by decide +kernel
theorem dX12_init_21 : decode cX12_init 21 = .ok (.bipush 16, 2) := by decide +kernel
theorem dX12_init_23 : decode cX12_init 23 = .ok (.newarray .int, 2) := by decide +kernel
theorem dX12_init_25 : decode cX12_init 25 = .ok (.putfield 16, 3) := by decide +kernel
theorem dX12_init_28 : decode cX12_init 28 = .ok (.aload_n 0, 1) := by decide +kernel
theorem dX12_init_29 : decode cX12_init 29 = .ok (.bipush 100, 2) := by decide +kernel
theorem dX12_init_31 : decode cX12_init 31 = .ok (.newarray .int, 2) := by decide +kernel
theorem dX12_init_33 : decode cX12_init 33 = .ok (.putfield 19, 3) := by decide +kernel
theorem dX12_init_36 : decode cX12_init 36 = .ok (.aload_n 0, 1) := by decide +kernel
theorem dX12_init_37 : decode cX12_init 37 = .ok (.bipush 24, 2) := by decide +kernel
theorem dX12_init_39 : decode cX12_init 39 = .ok (.newarray .int, 2) := by decide +kernel
theorem dX12_init_41 : decode cX12_init 41 = .ok (.putfield 22, 3) := by decide +kernel
theorem dX12_init_44 : decode cX12_init 44 = .ok (.aload_n 0, 1) := by decide +kernel
theorem dX12_init_45 : decode cX12_init 45 = .ok (.bipush 24, 2) := by decide +kernel
theorem dX12_init_47 : decode cX12_init 47 = .ok (.newarray .int, 2) := by decide +kernel
theorem dX12_init_49 : decode cX12_init 49 = .ok (.putfield 25, 3) := by decide +kernel
theorem dX12_init_52 : decode cX12_init 52 = .ok (.aload_n 0, 1) := by decide +kernel
theorem dX12_init_53 : decode cX12_init 53 = .ok (.bipush 24, 2) := by decide +kernel
theorem dX12_init_55 : decode cX12_init 55 = .ok (.newarray .int, 2) := by decide +kernel
theorem dX12_init_57 : decode cX12_init 57 = .ok (.putfield 28, 3) := by decide +kernel
theorem dX12_init_60 : decode cX12_init 60 = .ok (.aload_n 0, 1) := by decide +kernel
theorem dX12_init_61 : decode cX12_init 61 = .ok (.bipush 24, 2) := by decide +kernel
theorem dX12_init_63 : decode cX12_init 63 = .ok (.newarray .int, 2) := by decide +kernel
theorem dX12_init_65 : decode cX12_init 65 = .ok (.putfield 31, 3) := by decide +kernel
theorem dX12_init_68 : decode cX12_init 68 = .ok (.aload_n 0, 1) := by decide +kernel
theorem dX12_init_69 : decode cX12_init 69 = .ok (.sipush 192, 3) := by decide +kernel
theorem dX12_init_72 : decode cX12_init 72 = .ok (.newarray .int, 2) := by decide +kernel
theorem dX12_init_74 : decode cX12_init 74 = .ok (.putfield 34, 3) := by decide +kernel
theorem dX12_init_77 : decode cX12_init 77 = .ok (.aload_n 0, 1) := by decide +kernel
theorem dX12_init_78 : decode cX12_init 78 = .ok (.sipush 192, 3) := by decide +kernel
theorem dX12_init_81 : decode cX12_init 81 = .ok (.newarray .int, 2) := by decide +kernel
theorem dX12_init_83 : decode cX12_init 83 = .ok (.putfield 37, 3) := by decide +kernel
theorem dX12_init_86 : decode cX12_init 86 = .ok (.aload_n 0, 1) := by decide +kernel
theorem dX12_init_87 : decode cX12_init 87 = .ok (.sipush 192, 3) := by decide +kernel
theorem dX12_init_90 : decode cX12_init 90 = .ok (.newarray .int, 2) := by decide +kernel
theorem dX12_init_92 : decode cX12_init 92 = .ok (.putfield 40, 3) := by decide +kernel
theorem dX12_init_95 : decode cX12_init 95 = .ok (.aload_n 0, 1) := by decide +kernel
theorem dX12_init_96 : decode cX12_init 96 = .ok (.sipush 192, 3) := by decide +kernel
theorem dX12_init_99 : decode cX12_init 99 = .ok (.newarray .boolean, 2) := by decide +kernel
theorem dX12_init_101 : decode cX12_init 101 = .ok (.putfield 43, 3) := by decide +kernel
theorem dX12_init_104 : decode cX12_init 104 = .ok (.aload_n 0, 1) := by decide +kernel
theorem dX12_init_105 : decode cX12_init 105 = .ok (.sipush 2400, 3) := by decide +kernel
theorem dX12_init_108 : decode cX12_init 108 = .ok (.newarray .boolean, 2) := by decide +kernel
theorem dX12_init_110 : decode cX12_init 110 = .ok (.putfield 47, 3) := by decide +kernel
theorem dX12_init_113 : decode cX12_init 113 = .ok (.aload_n 0, 1) := by decide +kernel
theorem dX12_init_114 : decode cX12_init 114 = .ok (.bipush 20, 2) := by decide +kernel
theorem dX12_init_116 : decode cX12_init 116 = .ok (.newarray .int, 2) := by decide +kernel
theorem dX12_init_118 : decode cX12_init 118 = .ok (.putfield 50, 3) := by decide +kernel
theorem dX12_init_121 : decode cX12_init 121 = .ok (.aload_n 0, 1) := by decide +kernel
theorem dX12_init_122 : decode cX12_init 122 = .ok (.bipush 20, 2) := by decide +kernel
theorem dX12_init_124 : decode cX12_init 124 = .ok (.newarray .int, 2) := by decide +kernel
theorem dX12_init_126 : decode cX12_init 126 = .ok (.putfield 53, 3) := by decide +kernel
theorem dX12_init_129 : decode cX12_init 129 = .ok (.aload_n 0, 1) := by decide +kernel
theorem dX12_init_130 : decode cX12_init 130 = .ok (.bipush 20, 2) := by decide +kernel
theorem dX12_init_132 : decode cX12_init 132 = .ok (.newarray .int, 2) := by decide +kernel
theorem dX12_init_134 : decode cX12_init 134 = .ok (.putfield 56, 3) := by decide +kernel
theorem dX12_init_137 : decode cX12_init 137 = .ok (.aload_n 0, 1) := by decide +kernel
theorem dX12_init_138 : decode cX12_init 138 = .ok (.bipush 20, 2) := by decide +kernel
theorem dX12_init_140 : decode cX12_init 140 = .ok (.newarray .int, 2) := by decide +kernel
theorem dX12_init_142 : decode cX12_init 142 = .ok (.putfield 59, 3) := by decide +kernel
theorem dX12_init_145 : decode cX12_init 145 = .ok (.aload_n 0, 1) := by decide +kernel
theorem dX12_init_146 : decode cX12_init 146 = .ok (.bipush 20, 2) := by decide +kernel
theorem dX12_init_148 : decode cX12_init 148 = .ok (.newarray .int, 2) := by decide +kernel
theorem dX12_init_150 : decode cX12_init 150 = .ok (.putfield 62, 3) := by decide +kernel
theorem dX12_init_153 : decode cX12_init 153 = .ok (.aload_n 0, 1) := by decide +kernel
theorem dX12_init_154 : decode cX12_init 154 = .ok (.bipush 20, 2) := by decide +kernel
theorem dX12_init_156 : decode cX12_init 156 = .ok (.newarray .int, 2) := by decide +kernel
theorem dX12_init_158 : decode cX12_init 158 = .ok (.putfield 65, 3) := by decide +kernel
theorem dX12_init_161 : decode cX12_init 161 = .ok (.aload_n 0, 1) := by decide +kernel
theorem dX12_init_162 : decode cX12_init 162 = .ok (.bipush 20, 2) := by decide +kernel
theorem dX12_init_164 : decode cX12_init 164 = .ok (.newarray .int, 2) := by decide +kernel
theorem dX12_init_166 : decode cX12_init 166 = .ok (.putfield 68, 3) := by decide +kernel
theorem dX12_init_169 : decode cX12_init 169 = .ok (.aload_n 0, 1) := by decide +kernel
theorem dX12_init_170 : decode cX12_init 170 = .ok (.bipush 20, 2) := by decide +kernel
theorem dX12_init_172 : decode cX12_init 172 = .ok (.newarray .int, 2) := by decide +kernel
theorem dX12_init_174 : decode cX12_init 174 = .ok (.putfield 71, 3) := by decide +kernel
theorem dX12_init_177 : decode cX12_init 177 = .ok (.aload_n 0, 1) := by decide +kernel
theorem dX12_init_178 : decode cX12_init 178 = .ok (.bipush 60, 2) := by decide +kernel
theorem dX12_init_180 : decode cX12_init 180 = .ok (.newarray .int, 2) := by decide +kernel
theorem dX12_init_182 : decode cX12_init 182 = .ok (.putfield 74, 3) := by decide +kernel
theorem dX12_init_185 : decode cX12_init 185 = .ok (.aload_n 0, 1) := by decide +kernel
theorem dX12_init_186 : decode cX12_init 186 = .ok (.bipush 60, 2) := by decide +kernel
theorem dX12_init_188 : decode cX12_init 188 = .ok (.newarray .int, 2) := by decide +kernel
theorem dX12_init_190 : decode cX12_init 190 = .ok (.putfield 77, 3) := by decide +kernel
theorem dX12_init_193 : decode cX12_init 193 = .ok (.aload_n 0, 1) := by decide +kernel
theorem dX12_init_194 : decode cX12_init 194 = .ok (.bipush 60, 2) := by decide +kernel
theorem dX12_init_196 : decode cX12_init 196 = .ok (.newarray .int, 2) := by decide +kernel
theorem dX12_init_198 : decode cX12_init 198 = .ok (.putfield 80, 3) := by decide +kernel
theorem dX12_init_201 : decode cX12_init 201 = .ok (.aload_n 0, 1) := by decide +kernel
theorem dX12_init_202 : decode cX12_init 202 = .ok (.bipush 60, 2) := by decide +kernel
theorem dX12_init_204 : decode cX12_init 204 = .ok (.newarray .int, 2) := by decide +kernel
theorem dX12_init_206 : decode cX12_init 206 = .ok (.putfield 83, 3) := by decide +kernel
theorem dX12_init_209 : decode cX12_init 209 = .ok (.aload_n 0, 1) := by decide +kernel
theorem dX12_init_210 : decode cX12_init 210 = .ok (.sipush 19200, 3) := by decide +kernel
theorem dX12_init_213 : decode cX12_init 213 = .ok (.newarray .int, 2) := by decide +kernel
theorem dX12_init_215 : decode cX12_init 215 = .ok (.putfield 86, 3) := by decide +kernel
theorem dX12_init_218 : decode cX12_init 218 = .ok (.aload_n 0, 1) := by decide +kernel
theorem dX12_init_219 : decode cX12_init 219 = .ok (.sipush 2400, 3) := by decide +kernel
theorem dX12_init_222 : decode cX12_init 222 = .ok (.newarray .int, 2) := by decide +kernel
theorem dX12_init_224 : decode cX12_init 224 = .ok (.putfield 89, 3) := by decide +kernel
theorem dX12_init_227 : decode cX12_init 227 = .ok (.aload_n 0, 1) := by decide +kernel
theorem dX12_init_228 : decode cX12_init 228 = .ok (.sipush 2400, 3) := by decide +kernel
theorem dX12_init_231 : decode cX12_init 231 = .ok (.newarray .int, 2) := by decide +kernel
theorem dX12_init_233 : decode cX12_init 233 = .ok (.putfield 92, 3) := by decide +kernel
theorem dX12_init_236 : decode cX12_init 236 = .ok (.aload_n 0, 1) := by decide +kernel
theorem dX12_init_237 : decode cX12_init 237 = .ok (.sipush 19200, 3) := by decide +kernel
theorem dX12_init_240 : decode cX12_init 240 = .ok (.newarray .int, 2) := by decide +kernel
theorem dX12_init_242 : decode cX12_init 242 = .ok (.putfield 95, 3) := by decide +kernel
theorem dX12_init_245 : decode cX12_init 245 = .ok (.aload_n 0, 1) := by decide +kernel
theorem dX12_init_246 : decode cX12_init 246 = .ok (.sipush 19200, 3) := by decide +kernel
theorem dX12_init_249 : decode cX12_init 249 = .ok (.newarray .int, 2) := by decide +kernel
theorem dX12_init_251 : decode cX12_init 251 = .ok (.putfield 98, 3) := by decide +kernel
theorem dX12_init_254 : decode cX12_init 254 = .ok (.aload_n 0, 1) := by decide +kernel
theorem dX12_init_255 : decode cX12_init 255 = .ok (.sipush 1344, 3) := by decide +kernel
theorem dX12_init_258 : decode cX12_init 258 = .ok (.newarray .int, 2) := by decide +kernel
theorem dX12_init_260 : decode cX12_init 260 = .ok (.putfield 101, 3) := by decide +kernel
theorem dX12_init_263 : decode cX12_init 263 = .ok (.aload_n 0, 1) := by decide +kernel
theorem dX12_init_264 : decode cX12_init 264 = .ok (.sipush 1344, 3) := by decide +kernel
theorem dX12_init_267 : decode cX12_init 267 = .ok (.newarray .int, 2) := by decide +kernel
theorem dX12_init_269 : decode cX12_init 269 = .ok (.putfield 104, 3) := by decide +kernel
theorem dX12_init_272 : decode cX12_init 272 = .ok (.aload_n 0, 1) := by decide +kernel
theorem dX12_init_273 : decode cX12_init 273 = .ok (.bipush 112, 2) := by decide +kernel
theorem dX12_init_275 : decode cX12_init 275 = .ok (.newarray .int, 2) := by decide +kernel
theorem dX12_init_277 : decode cX12_init 277 = .ok (.putfield 107, 3) := by decide +kernel
theorem dX12_init_280 : decode cX12_init 280 = .ok (.aload_n 0, 1) := by decide +kernel
theorem dX12_init_281 : decode cX12_init 281 = .ok (.bipush 112, 2) := by decide +kernel
theorem dX12_init_283 : decode cX12_init 283 = .ok (.newarray .int, 2) := by decide +kernel
theorem dX12_init_285 : decode cX12_init 285 = .ok (.putfield 110, 3) := by decide +kernel
theorem dX12_init_288 : decode cX12_init 288 = .ok (.aload_n 0, 1) := by decide +kernel
theorem dX12_init_289 : decode cX12_init 289 = .ok (.bipush 112, 2) := by decide +kernel
theorem dX12_init_291 : decode cX12_init 291 = .ok (.newarray .int, 2) := by decide +kernel
theorem dX12_init_293 : decode cX12_init 293 = .ok (.putfield 113, 3) := by decide +kernel
theorem dX12_init_296 : decode cX12_init 296 = .ok (.aload_n 0, 1) := by decide +kernel
theorem dX12_init_297 : decode cX12_init 297 = .ok (.bipush 112, 2) := by decide +kernel
theorem dX12_init_299 : decode cX12_init 299 = .ok (.newarray .int, 2) := by decide +kernel
theorem dX12_init_301 : decode cX12_init 301 = .ok (.putfield 116, 3) := by decide +kernel
theorem dX12_init_304 : decode cX12_init 304 = .ok (.aload_n 0, 1) := by decide +kernel
theorem dX12_init_305 : decode cX12_init 305 = .ok (.bipush 112, 2) := by decide +kernel
theorem dX12_init_307 : decode cX12_init 307 = .ok (.newarray .int, 2) := by decide +kernel
theorem dX12_init_309 : decode cX12_init 309 = .ok (.putfield 119, 3) := by decide +kernel
theorem dX12_init_312 : decode cX12_init 312 = .ok (.aload_n 0, 1) := by decide +kernel
theorem dX12_init_313 : decode cX12_init 313 = .ok (.sipush 7056, 3) := by decide +kernel
theorem dX12_init_316 : decode cX12_init 316 = .ok (.newarray .int, 2) := by decide +kernel
theorem dX12_init_318 : decode cX12_init 318 = .ok (.putfield 122, 3) := by decide +kernel
theorem dX12_init_321 : decode cX12_init 321 = .ok (.aload_n 0, 1) := by decide +kernel
theorem dX12_init_322 : decode cX12_init 322 = .ok (.bipush 63, 2) := by decide +kernel
theorem dX12_init_324 : decode cX12_init 324 = .ok (.newarray .int, 2) := by decide +kernel
theorem dX12_init_326 : decode cX12_init 326 = .ok (.putfield 125, 3) := by decide +kernel
theorem dX12_init_329 : decode cX12_init 329 = .ok (.aload_n 0, 1) := by decide +kernel
theorem dX12_init_330 : decode cX12_init 330 = .ok (.bipush 30, 2) := by decide +kernel
theorem dX12_init_332 : decode cX12_init 332 = .ok (.newarray .int, 2) := by decide +kernel
theorem dX12_init_334 : decode cX12_init 334 = .ok (.putfield 128, 3) := by decide +kernel
theorem dX12_init_337 : decode cX12_init 337 = .ok (.aload_n 0, 1) := by decide +kernel
theorem dX12_init_338 : decode cX12_init 338 = .ok (.bipush 30, 2) := by decide +kernel
theorem dX12_init_340 : decode cX12_init 340 = .ok (.newarray .int, 2) := by decide +kernel
theorem dX12_init_342 : decode cX12_init 342 = .ok (.putfield 131, 3) := by decide +kernel
theorem dX12_init_345 : decode cX12_init 345 = .ok (.aload_n 0, 1) := by decide +kernel
theorem dX12_init_346 : decode cX12_init 346 = .ok (.sipush 1890, 3) := by decide +kernel
theorem dX12_init_349 : decode cX12_init 349 = .ok (.newarray .int, 2) := by decide +kernel
theorem dX12_init_351 : decode cX12_init 351 = .ok (.putfield 134, 3) := by decide +kernel
theorem dX12_init_354 : decode cX12_init 354 = .ok (.aload_n 0, 1) := by decide +kernel
theorem dX12_init_355 : decode cX12_init 355 = .ok (.bipush 30, 2) := by decide +kernel
theorem dX12_init_357 : decode cX12_init 357 = .ok (.newarray .boolean, 2) := by decide +kernel
theorem dX12_init_359 : decode cX12_init 359 = .ok (.putfield 137, 3) := by decide +kernel
theorem dX12_init_362 : decode cX12_init 362 = .ok (.aload_n 0, 1) := by decide +kernel
theorem dX12_init_363 : decode cX12_init 363 = .ok (.iconst (-1), 1) := by decide +kernel
theorem dX12_init_364 : decode cX12_init 364 = .ok (.putfield 140, 3) := by decide +kernel
theorem dX12_init_367 : decode cX12_init 367 = .ok (.aload_n 0, 1) := by decide +kernel
theorem dX12_init_368 : decode cX12_init 368 = .ok (.bipush 12, 2) := by decide +kernel
theorem dX12_init_370 : decode cX12_init 370 = .ok (.newarray .int, 2) := by decide +kernel
theorem dX12_init_372 : decode cX12_init 372 = .ok (.putfield 144, 3) := by decide +kernel
theorem dX12_init_375 : decode cX12_init 375 = .ok (.iconst 0, 1) := by decide +kernel
theorem dX12_init_376 : decode cX12_init 376 = .ok (.istore_n 1, 1) := by decide +kernel
theorem dX12_init_377 : decode cX12_init 377 = .ok (.iload_n 1, 1) := by decide +kernel
theorem dX12_init_378 : decode cX12_init 378 = .ok (.bipush 100, 2) := by decide +kernel
theorem dX12_init_380 : decode cX12_init 380 = .ok (.if_icmp .ge 19, 3) := by decide +kernel
theorem dX12_init_383 : decode cX12_init 383 = .ok (.aload_n 0, 1) := by decide +kernel
theorem dX12_init_384 : decode cX12_init 384 = .ok (.getfield 19, 3) := by decide +kernel
theorem dX12_init_387 : decode cX12_init 387 = .ok (.iload_n 1, 1) := by decide +kernel
theorem dX12_init_388 : decode cX12_init 388 = .ok (.iload_n 1, 1) := by decide +kernel
theorem dX12_init_389 : decode cX12_init 389 = .ok (.bipush 7, 2) := by decide +kernel
theorem dX12_init_391 : decode cX12_init 391 = .ok (.irem, 1) := by decide +kernel
theorem dX12_init_392 : decode cX12_init 392 = .ok (.iastore, 1) := by decide +kernel
theorem dX12_init_393 : decode cX12_init 393 = .ok (.iinc 1 1, 3) := by decide +kernel
theorem dX12_init_396 : decode cX12_init 396 = .ok (.goto (-19), 3) := by decide +kernel
theorem dX12_init_399 : decode cX12_init 399 = .ok (.return_, 1) := by decide +kernel
theorem dX12_in_0 : decode cX12_in 0 = .ok (.iload_n 0, 1) := by decide +kernel
theorem dX12_in_1 : decode cX12_in 1 = .ok (.iload_n 1, 1) := by decide +kernel
theorem dX12_in_2 : decode cX12_in 2 = .ok (.if_icmp .lt 12, 3) := by decide +kernel
theorem dX12_in_5 : decode cX12_in 5 = .ok (.iload_n 0, 1) := by decide +kernel
theorem dX12_in_6 : decode cX12_in 6 = .ok (.iload_n 2, 1) := by decide +kernel
theorem dX12_in_7 : decode cX12_in 7 = .ok (.if_icmp .gt 7, 3) := by decide +kernel
theorem dX12_in_10 : decode cX12_in 10 = .ok (.iconst 1, 1) := by decide +kernel
theorem dX12_in_11 : decode cX12_in 11 = .ok (.goto 4, 3) := by decide +kernel
theorem dX12_in_14 : decode cX12_in 14 = .ok (.iconst 0, 1) := by decide +kernel
theorem dX12_in_15 : decode cX12_in 15 = .ok (.ireturn, 1) := by decide +kernel
theorem dX12_isStop_0 : decode cX12_isStop 0 = .ok (.iload_n 1, 1) := by decide +kernel
theorem dX12_isStop_1 : decode cX12_isStop 1 = .ok (.iconst 0, 1) := by decide +kernel
theorem dX12_isStop_2 : decode cX12_isStop 2 = .ok (.aload_n 0, 1) := by decide +kernel
theorem dX12_isStop_3 : decode cX12_isStop 3 = .ok (.getfield 147, 3) := by decide +kernel
theorem dX12_isStop_6 : decode cX12_isStop 6 = .ok (.iconst 1, 1) := by decide +kernel
theorem dX12_isStop_7 : decode cX12_isStop 7 = .ok (.isub, 1) := by decide +kernel
theorem dX12_isStop_8 : decode cX12_isStop 8 = .ok (.invokestatic 150, 3) := by decide +kernel
theorem dX12_isStop_11 : decode cX12_isStop 11 = .ok (.ireturn, 1) := by decide +kernel
theorem dX12_isDay_0 : decode cX12_isDay 0 = .ok (.iload_n 0, 1) := by decide +kernel
theorem dX12_isDay_1 : decode cX12_isDay 1 = .ok (.iconst 0, 1) := by decide +kernel
theorem dX12_isDay_2 : decode cX12_isDay 2 = .ok (.bipush 99, 2) := by decide +kernel
theorem dX12_isDay_4 : decode cX12_isDay 4 = .ok (.invokestatic 150, 3) := by decide +kernel
theorem dX12_isDay_7 : decode cX12_isDay 7 = .ok (.ireturn, 1) := by decide +kernel
theorem dX12_isTrip_0 : decode cX12_isTrip 0 = .ok (.iload_n 1, 1) := by decide +kernel
theorem dX12_isTrip_1 : decode cX12_isTrip 1 = .ok (.iconst 0, 1) := by decide +kernel
theorem dX12_isTrip_2 : decode cX12_isTrip 2 = .ok (.aload_n 0, 1) := by decide +kernel
theorem dX12_isTrip_3 : decode cX12_isTrip 3 = .ok (.getfield 154, 3) := by decide +kernel
theorem dX12_isTrip_6 : decode cX12_isTrip 6 = .ok (.iconst 1, 1) := by decide +kernel
theorem dX12_isTrip_7 : decode cX12_isTrip 7 = .ok (.isub, 1) := by decide +kernel
theorem dX12_isTrip_8 : decode cX12_isTrip 8 = .ok (.invokestatic 150, 3) := by decide +kernel
theorem dX12_isTrip_11 : decode cX12_isTrip 11 = .ok (.ireturn, 1) := by decide +kernel
theorem dX12_isCall_0 : decode cX12_isCall 0 = .ok (.aload_n 0, 1) := by decide +kernel
theorem dX12_isCall_1 : decode cX12_isCall 1 = .ok (.iload_n 1, 1) := by decide +kernel
theorem dX12_isCall_2 : decode cX12_isCall 2 = .ok (.invokevirtual 157, 3) := by decide +kernel
theorem dX12_isCall_5 : decode cX12_isCall 5 = .ok (.ifCond .eq 23, 3) := by decide +kernel
theorem dX12_isCall_8 : decode cX12_isCall 8 = .ok (.iload_n 2, 1) := by decide +kernel
theorem dX12_isCall_9 : decode cX12_isCall 9 = .ok (.iconst 0, 1) := by decide +kernel
theorem dX12_isCall_10 : decode cX12_isCall 10 = .ok (.aload_n 0, 1) := by decide +kernel
theorem dX12_isCall_11 : decode cX12_isCall 11 = .ok (.getfield 31, 3) := by decide +kernel
theorem dX12_isCall_14 : decode cX12_isCall 14 = .ok (.iload_n 1, 1) := by decide +kernel
theorem dX12_isCall_15 : decode cX12_isCall 15 = .ok (.iaload, 1) := by decide +kernel
theorem dX12_isCall_16 : decode cX12_isCall 16 = .ok (.iconst 1, 1) := by decide +kernel
theorem dX12_isCall_17 : decode cX12_isCall 17 = .ok (.isub, 1) := by decide +kernel
theorem dX12_isCall_18 : decode cX12_isCall 18 = .ok (.invokestatic 150, 3) := by decide +kernel
theorem dX12_isCall_21 : decode cX12_isCall 21 = .ok (.ifCond .eq 7, 3) := by decide +kernel
theorem dX12_isCall_24 : decode cX12_isCall 24 = .ok (.iconst 1, 1) := by decide +kernel
theorem dX12_isCall_25 : decode cX12_isCall 25 = .ok (.goto 4, 3) := by decide +kernel
theorem dX12_isCall_28 : decode cX12_isCall 28 = .ok (.iconst 0, 1) := by decide +kernel
theorem dX12_isCall_29 : decode cX12_isCall 29 = .ok (.ireturn, 1) := by decide +kernel
theorem dX12_isWalk_0 : decode cX12_isWalk 0 = .ok (.iload_n 1, 1) := by decide +kernel
theorem dX12_isWalk_1 : decode cX12_isWalk 1 = .ok (.iconst 0, 1) := by decide +kernel
theorem dX12_isWalk_2 : decode cX12_isWalk 2 = .ok (.aload_n 0, 1) := by decide +kernel
theorem dX12_isWalk_3 : decode cX12_isWalk 3 = .ok (.getfield 161, 3) := by decide +kernel
theorem dX12_isWalk_6 : decode cX12_isWalk 6 = .ok (.iconst 1, 1) := by decide +kernel
theorem dX12_isWalk_7 : decode cX12_isWalk 7 = .ok (.isub, 1) := by decide +kernel
theorem dX12_isWalk_8 : decode cX12_isWalk 8 = .ok (.invokestatic 150, 3) := by decide +kernel
theorem dX12_isWalk_11 : decode cX12_isWalk 11 = .ok (.ireturn, 1) := by decide +kernel
theorem dX12_stop_0 : decode cX12_stop 0 = .ok (.iload_n 1, 1) := by decide +kernel
theorem dX12_stop_1 : decode cX12_stop 1 = .ok (.iconst 0, 1) := by decide +kernel
theorem dX12_stop_2 : decode cX12_stop 2 = .ok (.bipush 30, 2) := by decide +kernel
theorem dX12_stop_4 : decode cX12_stop 4 = .ok (.invokestatic 150, 3) := by decide +kernel
theorem dX12_stop_7 : decode cX12_stop 7 = .ok (.ifCond .eq 21, 3) := by decide +kernel
theorem dX12_stop_10 : decode cX12_stop 10 = .ok (.iload_n 2, 1) := by decide +kernel
theorem dX12_stop_11 : decode cX12_stop 11 = .ok (.iconst 0, 1) := by decide +kernel
theorem dX12_stop_12 : decode cX12_stop 12 = .ok (.iconst 3, 1) := by decide +kernel
theorem dX12_stop_13 : decode cX12_stop 13 = .ok (.invokestatic 150, 3) := by decide +kernel
theorem dX12_stop_16 : decode cX12_stop 16 = .ok (.ifCond .eq 12, 3) := by decide +kernel
theorem dX12_stop_19 : decode cX12_stop 19 = .ok (.aload_n 0, 1) := by decide +kernel
theorem dX12_stop_20 : decode cX12_stop 20 = .ok (.getfield 147, 3) := by decide +kernel
theorem dX12_stop_23 : decode cX12_stop 23 = .ok (.bipush 12, 2) := by decide +kernel
theorem dX12_stop_25 : decode cX12_stop 25 = .ok (.if_icmp .ne 6, 3) := by decide +kernel
theorem dX12_stop_28 : decode cX12_stop 28 = .ok (.bipush (-2), 2) := by decide +kernel
theorem dX12_stop_30 : decode cX12_stop 30 = .ok (.ireturn, 1) := by decide +kernel
theorem dX12_stop_31 : decode cX12_stop 31 = .ok (.aload_n 0, 1) := by decide +kernel
theorem dX12_stop_32 : decode cX12_stop 32 = .ok (.getfield 7, 3) := by decide +kernel
theorem dX12_stop_35 : decode cX12_stop 35 = .ok (.aload_n 0, 1) := by decide +kernel
theorem dX12_stop_36 : decode cX12_stop 36 = .ok (.getfield 147, 3) := by decide +kernel
theorem dX12_stop_39 : decode cX12_stop 39 = .ok (.iload_n 1, 1) := by decide +kernel
theorem dX12_stop_40 : decode cX12_stop 40 = .ok (.iastore, 1) := by decide +kernel
theorem dX12_stop_41 : decode cX12_stop 41 = .ok (.aload_n 0, 1) := by decide +kernel
theorem dX12_stop_42 : decode cX12_stop 42 = .ok (.getfield 13, 3) := by decide +kernel
theorem dX12_stop_45 : decode cX12_stop 45 = .ok (.aload_n 0, 1) := by decide +kernel
theorem dX12_stop_46 : decode cX12_stop 46 = .ok (.getfield 147, 3) := by decide +kernel
theorem dX12_stop_49 : decode cX12_stop 49 = .ok (.iload_n 2, 1) := by decide +kernel
theorem dX12_stop_50 : decode cX12_stop 50 = .ok (.iastore, 1) := by decide +kernel
theorem dX12_stop_51 : decode cX12_stop 51 = .ok (.aload_n 0, 1) := by decide +kernel
theorem dX12_stop_52 : decode cX12_stop 52 = .ok (.dup, 1) := by decide +kernel
theorem dX12_stop_53 : decode cX12_stop 53 = .ok (.getfield 147, 3) := by decide +kernel
theorem dX12_stop_56 : decode cX12_stop 56 = .ok (.iconst 1, 1) := by decide +kernel
theorem dX12_stop_57 : decode cX12_stop 57 = .ok (.iadd, 1) := by decide +kernel
theorem dX12_stop_58 : decode cX12_stop 58 = .ok (.putfield 147, 3) := by decide +kernel
theorem dX12_stop_61 : decode cX12_stop 61 = .ok (.aload_n 0, 1) := by decide +kernel
theorem dX12_stop_62 : decode cX12_stop 62 = .ok (.getfield 147, 3) := by decide +kernel
theorem dX12_stop_65 : decode cX12_stop 65 = .ok (.iconst 1, 1) := by decide +kernel
theorem dX12_stop_66 : decode cX12_stop 66 = .ok (.isub, 1) := by decide +kernel
theorem dX12_stop_67 : decode cX12_stop 67 = .ok (.ireturn, 1) := by decide +kernel
theorem dX12_fare_0 : decode cX12_fare 0 = .ok (.iload_n 1, 1) := by decide +kernel
theorem dX12_fare_1 : decode cX12_fare 1 = .ok (.iconst 0, 1) := by decide +kernel
theorem dX12_fare_2 : decode cX12_fare 2 = .ok (.iconst 3, 1) := by decide +kernel
theorem dX12_fare_3 : decode cX12_fare 3 = .ok (.invokestatic 150, 3) := by decide +kernel
theorem dX12_fare_6 : decode cX12_fare 6 = .ok (.ifCond .eq 22, 3) := by decide +kernel
theorem dX12_fare_9 : decode cX12_fare 9 = .ok (.iload_n 2, 1) := by decide +kernel
theorem dX12_fare_10 : decode cX12_fare 10 = .ok (.iconst 0, 1) := by decide +kernel
theorem dX12_fare_11 : decode cX12_fare 11 = .ok (.iconst 3, 1) := by decide +kernel
theorem dX12_fare_12 : decode cX12_fare 12 = .ok (.invokestatic 150, 3) := by decide +kernel
theorem dX12_fare_15 : decode cX12_fare 15 = .ok (.ifCond .eq 13, 3) := by decide +kernel
theorem dX12_fare_18 : decode cX12_fare 18 = .ok (.iload_n 3, 1) := by decide +kernel
theorem dX12_fare_19 : decode cX12_fare 19 = .ok (.iconst 0, 1) := by decide +kernel
theorem dX12_fare_20 : decode cX12_fare 20 = .ok (.bipush 9, 2) := by decide +kernel
theorem dX12_fare_22 : decode cX12_fare 22 = .ok (.invokestatic 150, 3) := by decide +kernel
theorem dX12_fare_25 : decode cX12_fare 25 = .ok (.ifCond .ne 6, 3) := by decide +kernel
theorem dX12_fare_28 : decode cX12_fare 28 = .ok (.bipush (-2), 2) := by decide +kernel
theorem dX12_fare_30 : decode cX12_fare 30 = .ok (.ireturn, 1) := by decide +kernel
theorem dX12_fare_31 : decode cX12_fare 31 = .ok (.aload_n 0, 1) := by decide +kernel
theorem dX12_fare_32 : decode cX12_fare 32 = .ok (.getfield 16, 3) := by decide +kernel
theorem dX12_fare_35 : decode cX12_fare 35 = .ok (.iconst 4, 1) := by decide +kernel
theorem dX12_fare_36 : decode cX12_fare 36 = .ok (.iload_n 1, 1) := by decide +kernel
theorem dX12_fare_37 : decode cX12_fare 37 = .ok (.imul, 1) := by decide +kernel
theorem dX12_fare_38 : decode cX12_fare 38 = .ok (.iload_n 2, 1) := by decide +kernel
theorem dX12_fare_39 : decode cX12_fare 39 = .ok (.iadd, 1) := by decide +kernel
theorem dX12_fare_40 : decode cX12_fare 40 = .ok (.iaload, 1) := by decide +kernel
theorem dX12_fare_41 : decode cX12_fare 41 = .ok (.istore 4, 2) := by decide +kernel
theorem dX12_fare_43 : decode cX12_fare 43 = .ok (.aload_n 0, 1) := by decide +kernel
theorem dX12_fare_44 : decode cX12_fare 44 = .ok (.getfield 16, 3) := by decide +kernel
theorem dX12_fare_47 : decode cX12_fare 47 = .ok (.iconst 4, 1) := by decide +kernel
theorem dX12_fare_48 : decode cX12_fare 48 = .ok (.iload_n 1, 1) := by decide +kernel
theorem dX12_fare_49 : decode cX12_fare 49 = .ok (.imul, 1) := by decide +kernel
theorem dX12_fare_50 : decode cX12_fare 50 = .ok (.iload_n 2, 1) := by decide +kernel
theorem dX12_fare_51 : decode cX12_fare 51 = .ok (.iadd, 1) := by decide +kernel
theorem dX12_fare_52 : decode cX12_fare 52 = .ok (.iload_n 3, 1) := by decide +kernel
theorem dX12_fare_53 : decode cX12_fare 53 = .ok (.iastore, 1) := by decide +kernel
theorem dX12_fare_54 : decode cX12_fare 54 = .ok (.iload 4, 2) := by decide +kernel
theorem dX12_fare_56 : decode cX12_fare 56 = .ok (.ireturn, 1) := by decide +kernel
theorem dX12_day_0 : decode cX12_day 0 = .ok (.iload_n 1, 1) := by decide +kernel
theorem dX12_day_1 : decode cX12_day 1 = .ok (.invokestatic 164, 3) := by decide +kernel
theorem dX12_day_4 : decode cX12_day 4 = .ok (.ifCond .eq 13, 3) := by decide +kernel
theorem dX12_day_7 : decode cX12_day 7 = .ok (.iload_n 2, 1) := by decide +kernel
theorem dX12_day_8 : decode cX12_day 8 = .ok (.iconst 0, 1) := by decide +kernel
theorem dX12_day_9 : decode cX12_day 9 = .ok (.bipush 6, 2) := by decide +kernel
theorem dX12_day_11 : decode cX12_day 11 = .ok (.invokestatic 150, 3) := by decide +kernel
theorem dX12_day_14 : decode cX12_day 14 = .ok (.ifCond .ne 6, 3) := by decide +kernel
theorem dX12_day_17 : decode cX12_day 17 = .ok (.bipush (-2), 2) := by decide +kernel
theorem dX12_day_19 : decode cX12_day 19 = .ok (.ireturn, 1) := by decide +kernel
theorem dX12_day_20 : decode cX12_day 20 = .ok (.aload_n 0, 1) := by decide +kernel
theorem dX12_day_21 : decode cX12_day 21 = .ok (.getfield 19, 3) := by decide +kernel
theorem dX12_day_24 : decode cX12_day 24 = .ok (.iload_n 1, 1) := by decide +kernel
theorem dX12_day_25 : decode cX12_day 25 = .ok (.iaload, 1) := by decide +kernel
theorem dX12_day_26 : decode cX12_day 26 = .ok (.istore_n 3, 1) := by decide +kernel
theorem dX12_day_27 : decode cX12_day 27 = .ok (.aload_n 0, 1) := by decide +kernel
theorem dX12_day_28 : decode cX12_day 28 = .ok (.getfield 19, 3) := by decide +kernel
theorem dX12_day_31 : decode cX12_day 31 = .ok (.iload_n 1, 1) := by decide +kernel
theorem dX12_day_32 : decode cX12_day 32 = .ok (.iload_n 2, 1) := by decide +kernel
theorem dX12_day_33 : decode cX12_day 33 = .ok (.iastore, 1) := by decide +kernel
theorem dX12_day_34 : decode cX12_day 34 = .ok (.iload_n 3, 1) := by decide +kernel
theorem dX12_day_35 : decode cX12_day 35 = .ok (.ireturn, 1) := by decide +kernel
theorem dX12_trip_0 : decode cX12_trip 0 = .ok (.iload_n 1, 1) := by decide +kernel
theorem dX12_trip_1 : decode cX12_trip 1 = .ok (.iconst 0, 1) := by decide +kernel
theorem dX12_trip_2 : decode cX12_trip 2 = .ok (.iconst 2, 1) := by decide +kernel
theorem dX12_trip_3 : decode cX12_trip 3 = .ok (.invokestatic 150, 3) := by decide +kernel
theorem dX12_trip_6 : decode cX12_trip 6 = .ok (.ifCond .eq 43, 3) := by decide +kernel
theorem dX12_trip_9 : decode cX12_trip 9 = .ok (.iload_n 2, 1) := by decide +kernel
theorem dX12_trip_10 : decode cX12_trip 10 = .ok (.iconst 1, 1) := by decide +kernel
theorem dX12_trip_11 : decode cX12_trip 11 = .ok (.bipush 127, 2) := by decide +kernel
theorem dX12_trip_13 : decode cX12_trip 13 = .ok (.invokestatic 150, 3) := by decide +kernel
theorem dX12_trip_16 : decode cX12_trip 16 = .ok (.ifCond .eq 33, 3) := by decide +kernel
theorem dX12_trip_19 : decode cX12_trip 19 = .ok (.iload_n 1, 1) := by decide +kernel
theorem dX12_trip_20 : decode cX12_trip 20 = .ok (.ifCond .ne 10, 3) := by decide +kernel
theorem dX12_trip_23 : decode cX12_trip 23 = .ok (.iload_n 3, 1) := by decide +kernel
theorem dX12_trip_24 : decode cX12_trip 24 = .ok (.ifCond .eq 16, 3) := by decide +kernel
theorem dX12_trip_27 : decode cX12_trip 27 = .ok (.goto 22, 3) := by decide +kernel
theorem dX12_trip_30 : decode cX12_trip 30 = .ok (.iload_n 3, 1) := by decide +kernel
theorem dX12_trip_31 : decode cX12_trip 31 = .ok (.iconst 1, 1) := by decide +kernel
theorem dX12_trip_32 : decode cX12_trip 32 = .ok (.bipush 50, 2) := by decide +kernel
theorem dX12_trip_34 : decode cX12_trip 34 = .ok (.invokestatic 150, 3) := by decide +kernel
theorem dX12_trip_37 : decode cX12_trip 37 = .ok (.ifCond .eq 12, 3) := by decide +kernel
theorem dX12_trip_40 : decode cX12_trip 40 = .ok (.aload_n 0, 1) := by decide +kernel
theorem dX12_trip_41 : decode cX12_trip 41 = .ok (.getfield 154, 3) := by decide +kernel
theorem dX12_trip_44 : decode cX12_trip 44 = .ok (.bipush 24, 2) := by decide +kernel
theorem dX12_trip_46 : decode cX12_trip 46 = .ok (.if_icmp .ne 6, 3) := by decide +kernel
theorem dX12_trip_49 : decode cX12_trip 49 = .ok (.bipush (-2), 2) := by decide +kernel
theorem dX12_trip_51 : decode cX12_trip 51 = .ok (.ireturn, 1) := by decide +kernel
theorem dX12_trip_52 : decode cX12_trip 52 = .ok (.aload_n 0, 1) := by decide +kernel
theorem dX12_trip_53 : decode cX12_trip 53 = .ok (.getfield 22, 3) := by decide +kernel
theorem dX12_trip_56 : decode cX12_trip 56 = .ok (.aload_n 0, 1) := by decide +kernel
theorem dX12_trip_57 : decode cX12_trip 57 = .ok (.getfield 154, 3) := by decide +kernel
theorem dX12_trip_60 : decode cX12_trip 60 = .ok (.iload_n 1, 1) := by decide +kernel
theorem dX12_trip_61 : decode cX12_trip 61 = .ok (.iastore, 1) := by decide +kernel
theorem dX12_trip_62 : decode cX12_trip 62 = .ok (.aload_n 0, 1) := by decide +kernel
theorem dX12_trip_63 : decode cX12_trip 63 = .ok (.getfield 25, 3) := by decide +kernel
theorem dX12_trip_66 : decode cX12_trip 66 = .ok (.aload_n 0, 1) := by decide +kernel
theorem dX12_trip_67 : decode cX12_trip 67 = .ok (.getfield 154, 3) := by decide +kernel
theorem dX12_trip_70 : decode cX12_trip 70 = .ok (.iload_n 2, 1) := by decide +kernel
theorem dX12_trip_71 : decode cX12_trip 71 = .ok (.iastore, 1) := by decide +kernel
theorem dX12_trip_72 : decode cX12_trip 72 = .ok (.aload_n 0, 1) := by decide +kernel
theorem dX12_trip_73 : decode cX12_trip 73 = .ok (.getfield 28, 3) := by decide +kernel
theorem dX12_trip_76 : decode cX12_trip 76 = .ok (.aload_n 0, 1) := by decide +kernel
theorem dX12_trip_77 : decode cX12_trip 77 = .ok (.getfield 154, 3) := by decide +kernel
theorem dX12_trip_80 : decode cX12_trip 80 = .ok (.iload_n 3, 1) := by decide +kernel
theorem dX12_trip_81 : decode cX12_trip 81 = .ok (.iastore, 1) := by decide +kernel
theorem dX12_trip_82 : decode cX12_trip 82 = .ok (.aload_n 0, 1) := by decide +kernel
theorem dX12_trip_83 : decode cX12_trip 83 = .ok (.getfield 31, 3) := by decide +kernel
theorem dX12_trip_86 : decode cX12_trip 86 = .ok (.aload_n 0, 1) := by decide +kernel
theorem dX12_trip_87 : decode cX12_trip 87 = .ok (.getfield 154, 3) := by decide +kernel
theorem dX12_trip_90 : decode cX12_trip 90 = .ok (.iconst 0, 1) := by decide +kernel
theorem dX12_trip_91 : decode cX12_trip 91 = .ok (.iastore, 1) := by decide +kernel
theorem dX12_trip_92 : decode cX12_trip 92 = .ok (.aload_n 0, 1) := by decide +kernel
theorem dX12_trip_93 : decode cX12_trip 93 = .ok (.dup, 1) := by decide +kernel
theorem dX12_trip_94 : decode cX12_trip 94 = .ok (.getfield 154, 3) := by decide +kernel
theorem dX12_trip_97 : decode cX12_trip 97 = .ok (.iconst 1, 1) := by decide +kernel
theorem dX12_trip_98 : decode cX12_trip 98 = .ok (.iadd, 1) := by decide +kernel
theorem dX12_trip_99 : decode cX12_trip 99 = .ok (.putfield 154, 3) := by decide +kernel
theorem dX12_trip_102 : decode cX12_trip 102 = .ok (.aload_n 0, 1) := by decide +kernel
theorem dX12_trip_103 : decode cX12_trip 103 = .ok (.getfield 154, 3) := by decide +kernel
theorem dX12_trip_106 : decode cX12_trip 106 = .ok (.iconst 1, 1) := by decide +kernel
theorem dX12_trip_107 : decode cX12_trip 107 = .ok (.isub, 1) := by decide +kernel
theorem dX12_trip_108 : decode cX12_trip 108 = .ok (.ireturn, 1) := by decide +kernel
theorem dX12_call_0 : decode cX12_call 0 = .ok (.aload_n 0, 1) := by decide +kernel
theorem dX12_call_1 : decode cX12_call 1 = .ok (.iload_n 1, 1) := by decide +kernel
theorem dX12_call_2 : decode cX12_call 2 = .ok (.invokevirtual 157, 3) := by decide +kernel
theorem dX12_call_5 : decode cX12_call 5 = .ok (.ifCond .eq 22, 3) := by decide +kernel
theorem dX12_call_8 : decode cX12_call 8 = .ok (.aload_n 0, 1) := by decide +kernel
theorem dX12_call_9 : decode cX12_call 9 = .ok (.iload_n 2, 1) := by decide +kernel
theorem dX12_call_10 : decode cX12_call 10 = .ok (.invokevirtual 167, 3) := by decide +kernel
theorem dX12_call_13 : decode cX12_call 13 = .ok (.ifCond .eq 14, 3) := by decide +kernel
theorem dX12_call_16 : decode cX12_call 16 = .ok (.aload_n 0, 1) := by decide +kernel
theorem dX12_call_17 : decode cX12_call 17 = .ok (.getfield 31, 3) := by decide +kernel
theorem dX12_call_20 : decode cX12_call 20 = .ok (.iload_n 1, 1) := by decide +kernel
theorem dX12_call_21 : decode cX12_call 21 = .ok (.iaload, 1) := by decide +kernel
theorem dX12_call_22 : decode cX12_call 22 = .ok (.bipush 8, 2) := by decide +kernel
theorem dX12_call_24 : decode cX12_call 24 = .ok (.if_icmp .ne 6, 3) := by decide +kernel
theorem dX12_call_27 : decode cX12_call 27 = .ok (.bipush (-2), 2) := by decide +kernel
theorem dX12_call_29 : decode cX12_call 29 = .ok (.ireturn, 1) := by decide +kernel
theorem dX12_call_30 : decode cX12_call 30 = .ok (.bipush 8, 2) := by decide +kernel
theorem dX12_call_32 : decode cX12_call 32 = .ok (.iload_n 1, 1) := by decide +kernel
theorem dX12_call_33 : decode cX12_call 33 = .ok (.imul, 1) := by decide +kernel
theorem dX12_call_34 : decode cX12_call 34 = .ok (.aload_n 0, 1) := by decide +kernel
theorem dX12_call_35 : decode cX12_call 35 = .ok (.getfield 31, 3) := by decide +kernel
theorem dX12_call_38 : decode cX12_call 38 = .ok (.iload_n 1, 1) := by decide +kernel
theorem dX12_call_39 : decode cX12_call 39 = .ok (.iaload, 1) := by decide +kernel
theorem dX12_call_40 : decode cX12_call 40 = .ok (.iadd, 1) := by decide +kernel
theorem dX12_call_41 : decode cX12_call 41 = .ok (.istore 5, 2) := by decide +kernel
theorem dX12_call_43 : decode cX12_call 43 = .ok (.aload_n 0, 1) := by decide +kernel
theorem dX12_call_44 : decode cX12_call 44 = .ok (.getfield 31, 3) := by decide +kernel
theorem dX12_call_47 : decode cX12_call 47 = .ok (.iload_n 1, 1) := by decide +kernel
theorem dX12_call_48 : decode cX12_call 48 = .ok (.iaload, 1) := by decide +kernel
theorem dX12_call_49 : decode cX12_call 49 = .ok (.ifCond .ne 7, 3) := by decide +kernel
theorem dX12_call_52 : decode cX12_call 52 = .ok (.iconst 0, 1) := by decide +kernel
theorem dX12_call_53 : decode cX12_call 53 = .ok (.goto 12, 3) := by decide +kernel
theorem dX12_call_56 : decode cX12_call 56 = .ok (.aload_n 0, 1) := by decide +kernel
theorem dX12_call_57 : decode cX12_call 57 = .ok (.getfield 40, 3) := by decide +kernel
theorem dX12_call_60 : decode cX12_call 60 = .ok (.iload 5, 2) := by decide +kernel
theorem dX12_call_62 : decode cX12_call 62 = .ok (.iconst 1, 1) := by decide +kernel
theorem dX12_call_63 : decode cX12_call 63 = .ok (.isub, 1) := by decide +kernel
theorem dX12_call_64 : decode cX12_call 64 = .ok (.iaload, 1) := by decide +kernel
theorem dX12_call_65 : decode cX12_call 65 = .ok (.istore 6, 2) := by decide +kernel
theorem dX12_call_67 : decode cX12_call 67 = .ok (.iload_n 3, 1) := by decide +kernel
theorem dX12_call_68 : decode cX12_call 68 = .ok (.iload 6, 2) := by decide +kernel
theorem dX12_call_70 : decode cX12_call 70 = .ok (.if_icmp .lt 33, 3) := by decide +kernel
theorem dX12_call_73 : decode cX12_call 73 = .ok (.iload 4, 2) := by decide +kernel
theorem dX12_call_75 : decode cX12_call 75 = .ok (.iload_n 3, 1) := by decide +kernel
theorem dX12_call_76 : decode cX12_call 76 = .ok (.if_icmp .lt 27, 3) := by decide +kernel
theorem dX12_call_79 : decode cX12_call 79 = .ok (.iload 4, 2) := by decide +kernel
theorem dX12_call_81 : decode cX12_call 81 = .ok (.aload_n 0, 1) := by decide +kernel
theorem dX12_call_82 : decode cX12_call 82 = .ok (.getfield 22, 3) := by decide +kernel
theorem dX12_call_85 : decode cX12_call 85 = .ok (.iload_n 1, 1) := by decide +kernel
theorem dX12_call_86 : decode cX12_call 86 = .ok (.iaload, 1) := by decide +kernel
theorem dX12_call_87 : decode cX12_call 87 = .ok (.iconst 2, 1) := by decide +kernel
theorem dX12_call_88 : decode cX12_call 88 = .ok (.if_icmp .ne 9, 3) := by decide +kernel
theorem dX12_call_91 : decode cX12_call 91 = .ok (.sipush 2879, 3) := by decide +kernel
theorem dX12_call_94 : decode cX12_call 94 = .ok (.goto 6, 3) := by decide +kernel
theorem dX12_call_97 : decode cX12_call 97 = .ok (.sipush 1439, 3) := by decide +kernel
theorem dX12_call_100 : decode cX12_call 100 = .ok (.if_icmp .le 6, 3) := by decide +kernel
theorem dX12_call_103 : decode cX12_call 103 = .ok (.bipush (-2), 2) := by decide +kernel
theorem dX12_call_105 : decode cX12_call 105 = .ok (.ireturn, 1) := by decide +kernel
theorem dX12_call_106 : decode cX12_call 106 = .ok (.aload_n 0, 1) := by decide +kernel
theorem dX12_call_107 : decode cX12_call 107 = .ok (.getfield 34, 3) := by decide +kernel
theorem dX12_call_110 : decode cX12_call 110 = .ok (.iload 5, 2) := by decide +kernel
theorem dX12_call_112 : decode cX12_call 112 = .ok (.iload_n 2, 1) := by decide +kernel
theorem dX12_call_113 : decode cX12_call 113 = .ok (.iastore, 1) := by decide +kernel
theorem dX12_call_114 : decode cX12_call 114 = .ok (.aload_n 0, 1) := by decide +kernel
theorem dX12_call_115 : decode cX12_call 115 = .ok (.getfield 37, 3) := by decide +kernel
theorem dX12_call_118 : decode cX12_call 118 = .ok (.iload 5, 2) := by decide +kernel
theorem dX12_call_120 : decode cX12_call 120 = .ok (.iload_n 3, 1) := by decide +kernel
theorem dX12_call_121 : decode cX12_call 121 = .ok (.iastore, 1) := by decide +kernel
theorem dX12_call_122 : decode cX12_call 122 = .ok (.aload_n 0, 1) := by decide +kernel
theorem dX12_call_123 : decode cX12_call 123 = .ok (.getfield 40, 3) := by decide +kernel
theorem dX12_call_126 : decode cX12_call 126 = .ok (.iload 5, 2) := by decide +kernel
theorem dX12_call_128 : decode cX12_call 128 = .ok (.iload 4, 2) := by decide +kernel
theorem dX12_call_130 : decode cX12_call 130 = .ok (.iastore, 1) := by decide +kernel
theorem dX12_call_131 : decode cX12_call 131 = .ok (.aload_n 0, 1) := by decide +kernel
theorem dX12_call_132 : decode cX12_call 132 = .ok (.getfield 43, 3) := by decide +kernel
theorem dX12_call_135 : decode cX12_call 135 = .ok (.iload 5, 2) := by decide +kernel
theorem dX12_call_137 : decode cX12_call 137 = .ok (.iconst 0, 1) := by decide +kernel
theorem dX12_call_138 : decode cX12_call 138 = .ok (.bastore, 1) := by decide +kernel
theorem dX12_call_139 : decode cX12_call 139 = .ok (.aload_n 0, 1) := by decide +kernel
theorem dX12_call_140 : decode cX12_call 140 = .ok (.getfield 31, 3) := by decide +kernel
theorem dX12_call_143 : decode cX12_call 143 = .ok (.iload_n 1, 1) := by decide +kernel
theorem dX12_call_144 : decode cX12_call 144 = .ok (.dup2, 1) := by decide +kernel
theorem dX12_call_145 : decode cX12_call 145 = .ok (.iaload, 1) := by decide +kernel
theorem dX12_call_146 : decode cX12_call 146 = .ok (.iconst 1, 1) := by decide +kernel
theorem dX12_call_147 : decode cX12_call 147 = .ok (.iadd, 1) := by decide +kernel
theorem dX12_call_148 : decode cX12_call 148 = .ok (.iastore, 1) := by decide +kernel
theorem dX12_call_149 : decode cX12_call 149 = .ok (.aload_n 0, 1) := by decide +kernel
theorem dX12_call_150 : decode cX12_call 150 = .ok (.getfield 31, 3) := by decide +kernel
theorem dX12_call_153 : decode cX12_call 153 = .ok (.iload_n 1, 1) := by decide +kernel
theorem dX12_call_154 : decode cX12_call 154 = .ok (.iaload, 1) := by decide +kernel
theorem dX12_call_155 : decode cX12_call 155 = .ok (.iconst 1, 1) := by decide +kernel
theorem dX12_call_156 : decode cX12_call 156 = .ok (.isub, 1) := by decide +kernel
theorem dX12_call_157 : decode cX12_call 157 = .ok (.ireturn, 1) := by decide +kernel
theorem dX12_miss_0 : decode cX12_miss 0 = .ok (.aload_n 0, 1) := by decide +kernel
theorem dX12_miss_1 : decode cX12_miss 1 = .ok (.iload_n 1, 1) := by decide +kernel
theorem dX12_miss_2 : decode cX12_miss 2 = .ok (.iload_n 2, 1) := by decide +kernel
theorem dX12_miss_3 : decode cX12_miss 3 = .ok (.invokevirtual 170, 3) := by decide +kernel
theorem dX12_miss_6 : decode cX12_miss 6 = .ok (.ifCond .ne 6, 3) := by decide +kernel
theorem dX12_miss_9 : decode cX12_miss 9 = .ok (.bipush (-2), 2) := by decide +kernel
theorem dX12_miss_11 : decode cX12_miss 11 = .ok (.ireturn, 1) := by decide +kernel
theorem dX12_miss_12 : decode cX12_miss 12 = .ok (.aload_n 0, 1) := by decide +kernel
theorem dX12_miss_13 : decode cX12_miss 13 = .ok (.getfield 43, 3) := by decide +kernel
theorem dX12_miss_16 : decode cX12_miss 16 = .ok (.bipush 8, 2) := by decide +kernel
theorem dX12_miss_18 : decode cX12_miss 18 = .ok (.iload_n 1, 1) := by decide +kernel
theorem dX12_miss_19 : decode cX12_miss 19 = .ok (.imul, 1) := by decide +kernel
theorem dX12_miss_20 : decode cX12_miss 20 = .ok (.iload_n 2, 1) := by decide +kernel
theorem dX12_miss_21 : decode cX12_miss 21 = .ok (.iadd, 1) := by decide +kernel
theorem dX12_miss_22 : decode cX12_miss 22 = .ok (.baload, 1) := by decide +kernel
theorem dX12_miss_23 : decode cX12_miss 23 = .ok (.istore 4, 2) := by decide +kernel
theorem dX12_miss_25 : decode cX12_miss 25 = .ok (.aload_n 0, 1) := by decide +kernel
theorem dX12_miss_26 : decode cX12_miss 26 = .ok (.getfield 43, 3) := by decide +kernel
theorem dX12_miss_29 : decode cX12_miss 29 = .ok (.bipush 8, 2) := by decide +kernel
theorem dX12_miss_31 : decode cX12_miss 31 = .ok (.iload_n 1, 1) := by decide +kernel
theorem dX12_miss_32 : decode cX12_miss 32 = .ok (.imul, 1) := by decide +kernel
theorem dX12_miss_33 : decode cX12_miss 33 = .ok (.iload_n 2, 1) := by decide +kernel
theorem dX12_miss_34 : decode cX12_miss 34 = .ok (.iadd, 1) := by decide +kernel
theorem dX12_miss_35 : decode cX12_miss 35 = .ok (.iload_n 3, 1) := by decide +kernel
theorem dX12_miss_36 : decode cX12_miss 36 = .ok (.bastore, 1) := by decide +kernel
theorem dX12_miss_37 : decode cX12_miss 37 = .ok (.iload 4, 2) := by decide +kernel
theorem dX12_miss_39 : decode cX12_miss 39 = .ok (.ifCond .eq 7, 3) := by decide +kernel
theorem dX12_miss_42 : decode cX12_miss 42 = .ok (.iconst 1, 1) := by decide +kernel
theorem dX12_miss_43 : decode cX12_miss 43 = .ok (.goto 4, 3) := by decide +kernel
theorem dX12_miss_46 : decode cX12_miss 46 = .ok (.iconst 0, 1) := by decide +kernel
theorem dX12_miss_47 : decode cX12_miss 47 = .ok (.ireturn, 1) := by decide +kernel
theorem dX12_walk_0 : decode cX12_walk 0 = .ok (.aload_n 0, 1) := by decide +kernel
theorem dX12_walk_1 : decode cX12_walk 1 = .ok (.iload_n 1, 1) := by decide +kernel
theorem dX12_walk_2 : decode cX12_walk 2 = .ok (.invokevirtual 167, 3) := by decide +kernel
theorem dX12_walk_5 : decode cX12_walk 5 = .ok (.ifCond .eq 36, 3) := by decide +kernel
theorem dX12_walk_8 : decode cX12_walk 8 = .ok (.aload_n 0, 1) := by decide +kernel
theorem dX12_walk_9 : decode cX12_walk 9 = .ok (.iload_n 2, 1) := by decide +kernel
theorem dX12_walk_10 : decode cX12_walk 10 = .ok (.invokevirtual 167, 3) := by decide +kernel
theorem dX12_walk_13 : decode cX12_walk 13 = .ok (.ifCond .eq 28, 3) := by decide +kernel
theorem dX12_walk_16 : decode cX12_walk 16 = .ok (.iload_n 1, 1) := by decide +kernel
theorem dX12_walk_17 : decode cX12_walk 17 = .ok (.iload_n 2, 1) := by decide +kernel
theorem dX12_walk_18 : decode cX12_walk 18 = .ok (.if_icmp .eq 23, 3) := by decide +kernel
theorem dX12_walk_21 : decode cX12_walk 21 = .ok (.iload_n 3, 1) := by decide +kernel
theorem dX12_walk_22 : decode cX12_walk 22 = .ok (.iconst 1, 1) := by decide +kernel
theorem dX12_walk_23 : decode cX12_walk 23 = .ok (.sipush 240, 3) := by decide +kernel
theorem dX12_walk_26 : decode cX12_walk 26 = .ok (.invokestatic 150, 3) := by decide +kernel
theorem dX12_walk_29 : decode cX12_walk 29 = .ok (.ifCond .eq 12, 3) := by decide +kernel
theorem dX12_walk_32 : decode cX12_walk 32 = .ok (.aload_n 0, 1) := by decide +kernel
theorem dX12_walk_33 : decode cX12_walk 33 = .ok (.getfield 161, 3) := by decide +kernel
theorem dX12_walk_36 : decode cX12_walk 36 = .ok (.bipush 20, 2) := by decide +kernel
theorem dX12_walk_38 : decode cX12_walk 38 = .ok (.if_icmp .ne 6, 3) := by decide +kernel
theorem dX12_walk_41 : decode cX12_walk 41 = .ok (.bipush (-2), 2) := by decide +kernel
theorem dX12_walk_43 : decode cX12_walk 43 = .ok (.ireturn, 1) := by decide +kernel
theorem dX12_walk_44 : decode cX12_walk 44 = .ok (.aload_n 0, 1) := by decide +kernel
theorem dX12_walk_45 : decode cX12_walk 45 = .ok (.getfield 50, 3) := by decide +kernel
theorem dX12_walk_48 : decode cX12_walk 48 = .ok (.aload_n 0, 1) := by decide +kernel
theorem dX12_walk_49 : decode cX12_walk 49 = .ok (.getfield 161, 3) := by decide +kernel
theorem dX12_walk_52 : decode cX12_walk 52 = .ok (.iload_n 1, 1) := by decide +kernel
theorem dX12_walk_53 : decode cX12_walk 53 = .ok (.iastore, 1) := by decide +kernel
theorem dX12_walk_54 : decode cX12_walk 54 = .ok (.aload_n 0, 1) := by decide +kernel
theorem dX12_walk_55 : decode cX12_walk 55 = .ok (.getfield 53, 3) := by decide +kernel
theorem dX12_walk_58 : decode cX12_walk 58 = .ok (.aload_n 0, 1) := by decide +kernel
theorem dX12_walk_59 : decode cX12_walk 59 = .ok (.getfield 161, 3) := by decide +kernel
theorem dX12_walk_62 : decode cX12_walk 62 = .ok (.iload_n 2, 1) := by decide +kernel
theorem dX12_walk_63 : decode cX12_walk 63 = .ok (.iastore, 1) := by decide +kernel
theorem dX12_walk_64 : decode cX12_walk 64 = .ok (.aload_n 0, 1) := by decide +kernel
theorem dX12_walk_65 : decode cX12_walk 65 = .ok (.getfield 56, 3) := by decide +kernel
theorem dX12_walk_68 : decode cX12_walk 68 = .ok (.aload_n 0, 1) := by decide +kernel
theorem dX12_walk_69 : decode cX12_walk 69 = .ok (.getfield 161, 3) := by decide +kernel
theorem dX12_walk_72 : decode cX12_walk 72 = .ok (.iload_n 3, 1) := by decide +kernel
theorem dX12_walk_73 : decode cX12_walk 73 = .ok (.iastore, 1) := by decide +kernel
theorem dX12_walk_74 : decode cX12_walk 74 = .ok (.aload_n 0, 1) := by decide +kernel
theorem dX12_walk_75 : decode cX12_walk 75 = .ok (.getfield 59, 3) := by decide +kernel
theorem dX12_walk_78 : decode cX12_walk 78 = .ok (.aload_n 0, 1) := by decide +kernel
theorem dX12_walk_79 : decode cX12_walk 79 = .ok (.getfield 161, 3) := by decide +kernel
theorem dX12_walk_82 : decode cX12_walk 82 = .ok (.iconst 3, 1) := by decide +kernel
theorem dX12_walk_83 : decode cX12_walk 83 = .ok (.iastore, 1) := by decide +kernel
theorem dX12_walk_84 : decode cX12_walk 84 = .ok (.aload_n 0, 1) := by decide +kernel
theorem dX12_walk_85 : decode cX12_walk 85 = .ok (.dup, 1) := by decide +kernel
theorem dX12_walk_86 : decode cX12_walk 86 = .ok (.getfield 161, 3) := by decide +kernel
theorem dX12_walk_89 : decode cX12_walk 89 = .ok (.iconst 1, 1) := by decide +kernel
theorem dX12_walk_90 : decode cX12_walk 90 = .ok (.iadd, 1) := by decide +kernel
theorem dX12_walk_91 : decode cX12_walk 91 = .ok (.putfield 161, 3) := by decide +kernel
theorem dX12_walk_94 : decode cX12_walk 94 = .ok (.aload_n 0, 1) := by decide +kernel
theorem dX12_walk_95 : decode cX12_walk 95 = .ok (.getfield 161, 3) := by decide +kernel
theorem dX12_walk_98 : decode cX12_walk 98 = .ok (.iconst 1, 1) := by decide +kernel
theorem dX12_walk_99 : decode cX12_walk 99 = .ok (.isub, 1) := by decide +kernel
theorem dX12_walk_100 : decode cX12_walk 100 = .ok (.ireturn, 1) := by decide +kernel
theorem dX12_shuttle_0 : decode cX12_shuttle 0 = .ok (.aload_n 0, 1) := by decide +kernel
theorem dX12_shuttle_1 : decode cX12_shuttle 1 = .ok (.iload_n 1, 1) := by decide +kernel
theorem dX12_shuttle_2 : decode cX12_shuttle 2 = .ok (.invokevirtual 174, 3) := by decide +kernel
theorem dX12_shuttle_5 : decode cX12_shuttle 5 = .ok (.ifCond .eq 37, 3) := by decide +kernel
theorem dX12_shuttle_8 : decode cX12_shuttle 8 = .ok (.iload_n 2, 1) := by decide +kernel
theorem dX12_shuttle_9 : decode cX12_shuttle 9 = .ok (.iconst 0, 1) := by decide +kernel
theorem dX12_shuttle_10 : decode cX12_shuttle 10 = .ok (.sipush 1439, 3) := by decide +kernel
theorem dX12_shuttle_13 : decode cX12_shuttle 13 = .ok (.invokestatic 150, 3) := by decide +kernel
theorem dX12_shuttle_16 : decode cX12_shuttle 16 = .ok (.ifCond .eq 26, 3) := by decide +kernel
theorem dX12_shuttle_19 : decode cX12_shuttle 19 = .ok (.iload_n 3, 1) := by decide +kernel
theorem dX12_shuttle_20 : decode cX12_shuttle 20 = .ok (.iload_n 2, 1) := by decide +kernel
theorem dX12_shuttle_21 : decode cX12_shuttle 21 = .ok (.sipush 1439, 3) := by decide +kernel
theorem dX12_shuttle_24 : decode cX12_shuttle 24 = .ok (.invokestatic 150, 3) := by decide +kernel
theorem dX12_shuttle_27 : decode cX12_shuttle 27 = .ok (.ifCond .eq 15, 3) := by decide +kernel
theorem dX12_shuttle_30 : decode cX12_shuttle 30 = .ok (.iload 4, 2) := by decide +kernel
theorem dX12_shuttle_32 : decode cX12_shuttle 32 = .ok (.iconst 1, 1) := by decide +kernel
theorem dX12_shuttle_33 : decode cX12_shuttle 33 = .ok (.sipush 1440, 3) := by decide +kernel
theorem dX12_shuttle_36 : decode cX12_shuttle 36 = .ok (.invokestatic 150, 3) := by decide +kernel
theorem dX12_shuttle_39 : decode cX12_shuttle 39 = .ok (.ifCond .ne 6, 3) := by decide +kernel
theorem dX12_shuttle_42 : decode cX12_shuttle 42 = .ok (.bipush (-2), 2) := by decide +kernel
theorem dX12_shuttle_44 : decode cX12_shuttle 44 = .ok (.ireturn, 1) := by decide +kernel
theorem dX12_shuttle_45 : decode cX12_shuttle 45 = .ok (.aload_n 0, 1) := by decide +kernel
theorem dX12_shuttle_46 : decode cX12_shuttle 46 = .ok (.getfield 59, 3) := by decide +kernel
theorem dX12_shuttle_49 : decode cX12_shuttle 49 = .ok (.iload_n 1, 1) := by decide +kernel
theorem dX12_shuttle_50 : decode cX12_shuttle 50 = .ok (.iaload, 1) := by decide +kernel
theorem dX12_shuttle_51 : decode cX12_shuttle 51 = .ok (.istore 5, 2) := by decide +kernel
theorem dX12_shuttle_53 : decode cX12_shuttle 53 = .ok (.aload_n 0, 1) := by decide +kernel
theorem dX12_shuttle_54 : decode cX12_shuttle 54 = .ok (.getfield 59, 3) := by decide +kernel
theorem dX12_shuttle_57 : decode cX12_shuttle 57 = .ok (.iload_n 1, 1) := by decide +kernel
theorem dX12_shuttle_58 : decode cX12_shuttle 58 = .ok (.iconst 4, 1) := by decide +kernel
theorem dX12_shuttle_59 : decode cX12_shuttle 59 = .ok (.iastore, 1) := by decide +kernel
theorem dX12_shuttle_60 : decode cX12_shuttle 60 = .ok (.aload_n 0, 1) := by decide +kernel
theorem dX12_shuttle_61 : decode cX12_shuttle 61 = .ok (.getfield 62, 3) := by decide +kernel
theorem dX12_shuttle_64 : decode cX12_shuttle 64 = .ok (.iload_n 1, 1) := by decide +kernel
theorem dX12_shuttle_65 : decode cX12_shuttle 65 = .ok (.iload_n 2, 1) := by decide +kernel
theorem dX12_shuttle_66 : decode cX12_shuttle 66 = .ok (.iastore, 1) := by decide +kernel
theorem dX12_shuttle_67 : decode cX12_shuttle 67 = .ok (.aload_n 0, 1) := by decide +kernel
theorem dX12_shuttle_68 : decode cX12_shuttle 68 = .ok (.getfield 65, 3) := by decide +kernel
theorem dX12_shuttle_71 : decode cX12_shuttle 71 = .ok (.iload_n 1, 1) := by decide +kernel
theorem dX12_shuttle_72 : decode cX12_shuttle 72 = .ok (.iload_n 3, 1) := by decide +kernel
theorem dX12_shuttle_73 : decode cX12_shuttle 73 = .ok (.iastore, 1) := by decide +kernel
theorem dX12_shuttle_74 : decode cX12_shuttle 74 = .ok (.aload_n 0, 1) := by decide +kernel
theorem dX12_shuttle_75 : decode cX12_shuttle 75 = .ok (.getfield 68, 3) := by decide +kernel
theorem dX12_shuttle_78 : decode cX12_shuttle 78 = .ok (.iload_n 1, 1) := by decide +kernel
theorem dX12_shuttle_79 : decode cX12_shuttle 79 = .ok (.iload 4, 2) := by decide +kernel
theorem dX12_shuttle_81 : decode cX12_shuttle 81 = .ok (.iastore, 1) := by decide +kernel
theorem dX12_shuttle_82 : decode cX12_shuttle 82 = .ok (.iload 5, 2) := by decide +kernel
theorem dX12_shuttle_84 : decode cX12_shuttle 84 = .ok (.ireturn, 1) := by decide +kernel
theorem dX12_asked_0 : decode cX12_asked 0 = .ok (.aload_n 0, 1) := by decide +kernel
theorem dX12_asked_1 : decode cX12_asked 1 = .ok (.iload_n 1, 1) := by decide +kernel
theorem dX12_asked_2 : decode cX12_asked 2 = .ok (.invokevirtual 174, 3) := by decide +kernel
theorem dX12_asked_5 : decode cX12_asked 5 = .ok (.ifCond .eq 24, 3) := by decide +kernel
theorem dX12_asked_8 : decode cX12_asked 8 = .ok (.aload_n 0, 1) := by decide +kernel
theorem dX12_asked_9 : decode cX12_asked 9 = .ok (.getfield 59, 3) := by decide +kernel
theorem dX12_asked_12 : decode cX12_asked 12 = .ok (.iload_n 1, 1) := by decide +kernel
theorem dX12_asked_13 : decode cX12_asked 13 = .ok (.iaload, 1) := by decide +kernel
theorem dX12_asked_14 : decode cX12_asked 14 = .ok (.iconst 3, 1) := by decide +kernel
theorem dX12_asked_15 : decode cX12_asked 15 = .ok (.if_icmp .eq 14, 3) := by decide +kernel
theorem dX12_asked_18 : decode cX12_asked 18 = .ok (.iload_n 2, 1) := by decide +kernel
theorem dX12_asked_19 : decode cX12_asked 19 = .ok (.iconst 1, 1) := by decide +kernel
theorem dX12_asked_20 : decode cX12_asked 20 = .ok (.sipush 600, 3) := by decide +kernel
theorem dX12_asked_23 : decode cX12_asked 23 = .ok (.invokestatic 150, 3) := by decide +kernel
theorem dX12_asked_26 : decode cX12_asked 26 = .ok (.ifCond .ne 6, 3) := by decide +kernel
theorem dX12_asked_29 : decode cX12_asked 29 = .ok (.bipush (-2), 2) := by decide +kernel
theorem dX12_asked_31 : decode cX12_asked 31 = .ok (.ireturn, 1) := by decide +kernel
theorem dX12_asked_32 : decode cX12_asked 32 = .ok (.aload_n 0, 1) := by decide +kernel
theorem dX12_asked_33 : decode cX12_asked 33 = .ok (.getfield 59, 3) := by decide +kernel
theorem dX12_asked_36 : decode cX12_asked 36 = .ok (.iload_n 1, 1) := by decide +kernel
theorem dX12_asked_37 : decode cX12_asked 37 = .ok (.iaload, 1) := by decide +kernel
theorem dX12_asked_38 : decode cX12_asked 38 = .ok (.istore_n 3, 1) := by decide +kernel
theorem dX12_asked_39 : decode cX12_asked 39 = .ok (.aload_n 0, 1) := by decide +kernel
theorem dX12_asked_40 : decode cX12_asked 40 = .ok (.getfield 59, 3) := by decide +kernel
theorem dX12_asked_43 : decode cX12_asked 43 = .ok (.iload_n 1, 1) := by decide +kernel
theorem dX12_asked_44 : decode cX12_asked 44 = .ok (.iconst 5, 1) := by decide +kernel
theorem dX12_asked_45 : decode cX12_asked 45 = .ok (.iastore, 1) := by decide +kernel
theorem dX12_asked_46 : decode cX12_asked 46 = .ok (.aload_n 0, 1) := by decide +kernel
theorem dX12_asked_47 : decode cX12_asked 47 = .ok (.getfield 71, 3) := by decide +kernel
theorem dX12_asked_50 : decode cX12_asked 50 = .ok (.iload_n 1, 1) := by decide +kernel
theorem dX12_asked_51 : decode cX12_asked 51 = .ok (.iload_n 2, 1) := by decide +kernel
theorem dX12_asked_52 : decode cX12_asked 52 = .ok (.iastore, 1) := by decide +kernel
theorem dX12_asked_53 : decode cX12_asked 53 = .ok (.iload_n 3, 1) := by decide +kernel
theorem dX12_asked_54 : decode cX12_asked 54 = .ok (.ireturn, 1) := by decide +kernel
theorem dX12_lateAt_0 : decode cX12_lateAt 0 = .ok (.iconst 0, 1) := by decide +kernel
theorem dX12_lateAt_1 : decode cX12_lateAt 1 = .ok (.istore 4, 2) := by decide +kernel
theorem dX12_lateAt_3 : decode cX12_lateAt 3 = .ok (.iconst 0, 1) := by decide +kernel
theorem dX12_lateAt_4 : decode cX12_lateAt 4 = .ok (.istore 5, 2) := by decide +kernel
theorem dX12_lateAt_6 : decode cX12_lateAt 6 = .ok (.iload 5, 2) := by decide +kernel
theorem dX12_lateAt_8 : decode cX12_lateAt 8 = .ok (.aload_n 0, 1) := by decide +kernel
theorem dX12_lateAt_9 : decode cX12_lateAt 9 = .ok (.getfield 177, 3) := by decide +kernel
theorem dX12_lateAt_12 : decode cX12_lateAt 12 = .ok (.if_icmp .ge 54, 3) := by decide +kernel
theorem dX12_lateAt_15 : decode cX12_lateAt 15 = .ok (.aload_n 0, 1) := by decide +kernel
theorem dX12_lateAt_16 : decode cX12_lateAt 16 = .ok (.getfield 74, 3) := by decide +kernel
theorem dX12_lateAt_19 : decode cX12_lateAt 19 = .ok (.iload 5, 2) := by decide +kernel
theorem dX12_lateAt_21 : decode cX12_lateAt 21 = .ok (.iaload, 1) := by decide +kernel
theorem dX12_lateAt_22 : decode cX12_lateAt 22 = .ok (.iload_n 1, 1) := by decide +kernel
theorem dX12_lateAt_23 : decode cX12_lateAt 23 = .ok (.if_icmp .ne 37, 3) := by decide +kernel
theorem dX12_lateAt_26 : decode cX12_lateAt 26 = .ok (.aload_n 0, 1) := by decide +kernel
theorem dX12_lateAt_27 : decode cX12_lateAt 27 = .ok (.getfield 77, 3) := by decide +kernel
theorem dX12_lateAt_30 : decode cX12_lateAt 30 = .ok (.iload 5, 2) := by decide +kernel
theorem dX12_lateAt_32 : decode cX12_lateAt 32 = .ok (.iaload, 1) := by decide +kernel
theorem dX12_lateAt_33 : decode cX12_lateAt 33 = .ok (.iload_n 2, 1) := by decide +kernel
theorem dX12_lateAt_34 : decode cX12_lateAt 34 = .ok (.if_icmp .ne 26, 3) := by decide +kernel
theorem dX12_lateAt_37 : decode cX12_lateAt 37 = .ok (.aload_n 0, 1) := by decide +kernel
theorem dX12_lateAt_38 : decode cX12_lateAt 38 = .ok (.getfield 80, 3) := by decide +kernel
theorem dX12_lateAt_41 : decode cX12_lateAt 41 = .ok (.iload 5, 2) := by decide +kernel
theorem dX12_lateAt_43 : decode cX12_lateAt 43 = .ok (.iaload, 1) := by decide +kernel
theorem dX12_lateAt_44 : decode cX12_lateAt 44 = .ok (.iload_n 3, 1) := by decide +kernel
theorem dX12_lateAt_45 : decode cX12_lateAt 45 = .ok (.if_icmp .gt 15, 3) := by decide +kernel
theorem dX12_lateAt_48 : decode cX12_lateAt 48 = .ok (.iload 4, 2) := by decide +kernel
theorem dX12_lateAt_50 : decode cX12_lateAt 50 = .ok (.aload_n 0, 1) := by decide +kernel
theorem dX12_lateAt_51 : decode cX12_lateAt 51 = .ok (.getfield 83, 3) := by decide +kernel
theorem dX12_lateAt_54 : decode cX12_lateAt 54 = .ok (.iload 5, 2) := by decide +kernel
theorem dX12_lateAt_56 : decode cX12_lateAt 56 = .ok (.iaload, 1) := by decide +kernel
theorem dX12_lateAt_57 : decode cX12_lateAt 57 = .ok (.iadd, 1) := by decide +kernel
theorem dX12_lateAt_58 : decode cX12_lateAt 58 = .ok (.istore 4, 2) := by decide +kernel
theorem dX12_lateAt_60 : decode cX12_lateAt 60 = .ok (.iinc 5 1, 3) := by decide +kernel
theorem dX12_lateAt_63 : decode cX12_lateAt 63 = .ok (.goto (-57), 3) := by decide +kernel
theorem dX12_lateAt_66 : decode cX12_lateAt 66 = .ok (.iload 4, 2) := by decide +kernel
theorem dX12_lateAt_68 : decode cX12_lateAt 68 = .ok (.ireturn, 1) := by decide +kernel
theorem dX12_late_0 : decode cX12_late 0 = .ok (.aload_n 0, 1) := by decide +kernel
theorem dX12_late_1 : decode cX12_late 1 = .ok (.iload_n 1, 1) := by decide +kernel
theorem dX12_late_2 : decode cX12_late 2 = .ok (.iload_n 3, 1) := by decide +kernel
theorem dX12_late_3 : decode cX12_late 3 = .ok (.invokevirtual 170, 3) := by decide +kernel
theorem dX12_late_6 : decode cX12_late 6 = .ok (.ifCond .eq 31, 3) := by decide +kernel
theorem dX12_late_9 : decode cX12_late 9 = .ok (.iload_n 2, 1) := by decide +kernel
theorem dX12_late_10 : decode cX12_late 10 = .ok (.invokestatic 164, 3) := by decide +kernel
theorem dX12_late_13 : decode cX12_late 13 = .ok (.ifCond .eq 24, 3) := by decide +kernel
theorem dX12_late_16 : decode cX12_late 16 = .ok (.iload 4, 2) := by decide +kernel
theorem dX12_late_18 : decode cX12_late 18 = .ok (.iconst 1, 1) := by decide +kernel
theorem dX12_late_19 : decode cX12_late 19 = .ok (.sipush 240, 3) := by decide +kernel
theorem dX12_late_22 : decode cX12_late 22 = .ok (.invokestatic 150, 3) := by decide +kernel
theorem dX12_late_25 : decode cX12_late 25 = .ok (.ifCond .eq 12, 3) := by decide +kernel
theorem dX12_late_28 : decode cX12_late 28 = .ok (.aload_n 0, 1) := by decide +kernel
theorem dX12_late_29 : decode cX12_late 29 = .ok (.getfield 177, 3) := by decide +kernel
theorem dX12_late_32 : decode cX12_late 32 = .ok (.bipush 60, 2) := by decide +kernel
theorem dX12_late_34 : decode cX12_late 34 = .ok (.if_icmp .ne 6, 3) := by decide +kernel
theorem dX12_late_37 : decode cX12_late 37 = .ok (.bipush (-2), 2) := by decide +kernel
theorem dX12_late_39 : decode cX12_late 39 = .ok (.ireturn, 1) := by decide +kernel
theorem dX12_late_40 : decode cX12_late 40 = .ok (.aload_n 0, 1) := by decide +kernel
theorem dX12_late_41 : decode cX12_late 41 = .ok (.getfield 74, 3) := by decide +kernel
theorem dX12_late_44 : decode cX12_late 44 = .ok (.aload_n 0, 1) := by decide +kernel
theorem dX12_late_45 : decode cX12_late 45 = .ok (.getfield 177, 3) := by decide +kernel
theorem dX12_late_48 : decode cX12_late 48 = .ok (.iload_n 1, 1) := by decide +kernel
theorem dX12_late_49 : decode cX12_late 49 = .ok (.iastore, 1) := by decide +kernel
theorem dX12_late_50 : decode cX12_late 50 = .ok (.aload_n 0, 1) := by decide +kernel
theorem dX12_late_51 : decode cX12_late 51 = .ok (.getfield 77, 3) := by decide +kernel
theorem dX12_late_54 : decode cX12_late 54 = .ok (.aload_n 0, 1) := by decide +kernel
theorem dX12_late_55 : decode cX12_late 55 = .ok (.getfield 177, 3) := by decide +kernel
theorem dX12_late_58 : decode cX12_late 58 = .ok (.iload_n 2, 1) := by decide +kernel
theorem dX12_late_59 : decode cX12_late 59 = .ok (.iastore, 1) := by decide +kernel
theorem dX12_late_60 : decode cX12_late 60 = .ok (.aload_n 0, 1) := by decide +kernel
theorem dX12_late_61 : decode cX12_late 61 = .ok (.getfield 80, 3) := by decide +kernel
theorem dX12_late_64 : decode cX12_late 64 = .ok (.aload_n 0, 1) := by decide +kernel
theorem dX12_late_65 : decode cX12_late 65 = .ok (.getfield 177, 3) := by decide +kernel
theorem dX12_late_68 : decode cX12_late 68 = .ok (.iload_n 3, 1) := by decide +kernel
theorem dX12_late_69 : decode cX12_late 69 = .ok (.iastore, 1) := by decide +kernel
theorem dX12_late_70 : decode cX12_late 70 = .ok (.aload_n 0, 1) := by decide +kernel
theorem dX12_late_71 : decode cX12_late 71 = .ok (.getfield 83, 3) := by decide +kernel
theorem dX12_late_74 : decode cX12_late 74 = .ok (.aload_n 0, 1) := by decide +kernel
theorem dX12_late_75 : decode cX12_late 75 = .ok (.getfield 177, 3) := by decide +kernel
theorem dX12_late_78 : decode cX12_late 78 = .ok (.iload 4, 2) := by decide +kernel
theorem dX12_late_80 : decode cX12_late 80 = .ok (.iastore, 1) := by decide +kernel
theorem dX12_late_81 : decode cX12_late 81 = .ok (.aload_n 0, 1) := by decide +kernel
theorem dX12_late_82 : decode cX12_late 82 = .ok (.dup, 1) := by decide +kernel
theorem dX12_late_83 : decode cX12_late 83 = .ok (.getfield 177, 3) := by decide +kernel
theorem dX12_late_86 : decode cX12_late 86 = .ok (.iconst 1, 1) := by decide +kernel
theorem dX12_late_87 : decode cX12_late 87 = .ok (.iadd, 1) := by decide +kernel
theorem dX12_late_88 : decode cX12_late 88 = .ok (.putfield 177, 3) := by decide +kernel
theorem dX12_late_91 : decode cX12_late 91 = .ok (.aload_n 0, 1) := by decide +kernel
theorem dX12_late_92 : decode cX12_late 92 = .ok (.iload_n 1, 1) := by decide +kernel
theorem dX12_late_93 : decode cX12_late 93 = .ok (.iload_n 2, 1) := by decide +kernel
theorem dX12_late_94 : decode cX12_late 94 = .ok (.iload_n 3, 1) := by decide +kernel
theorem dX12_late_95 : decode cX12_late 95 = .ok (.invokevirtual 180, 3) := by decide +kernel
theorem dX12_late_98 : decode cX12_late 98 = .ok (.ireturn, 1) := by decide +kernel
theorem dX12_gone_0 : decode cX12_gone 0 = .ok (.aload_n 0, 1) := by decide +kernel
theorem dX12_gone_1 : decode cX12_gone 1 = .ok (.iload_n 1, 1) := by decide +kernel
theorem dX12_gone_2 : decode cX12_gone 2 = .ok (.invokevirtual 157, 3) := by decide +kernel
theorem dX12_gone_5 : decode cX12_gone 5 = .ok (.ifCond .eq 10, 3) := by decide +kernel
theorem dX12_gone_8 : decode cX12_gone 8 = .ok (.iload_n 2, 1) := by decide +kernel
theorem dX12_gone_9 : decode cX12_gone 9 = .ok (.invokestatic 164, 3) := by decide +kernel
theorem dX12_gone_12 : decode cX12_gone 12 = .ok (.ifCond .ne 6, 3) := by decide +kernel
theorem dX12_gone_15 : decode cX12_gone 15 = .ok (.bipush (-2), 2) := by decide +kernel
theorem dX12_gone_17 : decode cX12_gone 17 = .ok (.ireturn, 1) := by decide +kernel
theorem dX12_gone_18 : decode cX12_gone 18 = .ok (.aload_n 0, 1) := by decide +kernel
theorem dX12_gone_19 : decode cX12_gone 19 = .ok (.getfield 47, 3) := by decide +kernel
theorem dX12_gone_22 : decode cX12_gone 22 = .ok (.bipush 100, 2) := by decide +kernel
theorem dX12_gone_24 : decode cX12_gone 24 = .ok (.iload_n 1, 1) := by decide +kernel
theorem dX12_gone_25 : decode cX12_gone 25 = .ok (.imul, 1) := by decide +kernel
theorem dX12_gone_26 : decode cX12_gone 26 = .ok (.iload_n 2, 1) := by decide +kernel
theorem dX12_gone_27 : decode cX12_gone 27 = .ok (.iadd, 1) := by decide +kernel
theorem dX12_gone_28 : decode cX12_gone 28 = .ok (.baload, 1) := by decide +kernel
theorem dX12_gone_29 : decode cX12_gone 29 = .ok (.istore 4, 2) := by decide +kernel
theorem dX12_gone_31 : decode cX12_gone 31 = .ok (.aload_n 0, 1) := by decide +kernel
theorem dX12_gone_32 : decode cX12_gone 32 = .ok (.getfield 47, 3) := by decide +kernel
theorem dX12_gone_35 : decode cX12_gone 35 = .ok (.bipush 100, 2) := by decide +kernel
theorem dX12_gone_37 : decode cX12_gone 37 = .ok (.iload_n 1, 1) := by decide +kernel
theorem dX12_gone_38 : decode cX12_gone 38 = .ok (.imul, 1) := by decide +kernel
theorem dX12_gone_39 : decode cX12_gone 39 = .ok (.iload_n 2, 1) := by decide +kernel
theorem dX12_gone_40 : decode cX12_gone 40 = .ok (.iadd, 1) := by decide +kernel
theorem dX12_gone_41 : decode cX12_gone 41 = .ok (.iload_n 3, 1) := by decide +kernel
theorem dX12_gone_42 : decode cX12_gone 42 = .ok (.bastore, 1) := by decide +kernel
theorem dX12_gone_43 : decode cX12_gone 43 = .ok (.iload 4, 2) := by decide +kernel
theorem dX12_gone_45 : decode cX12_gone 45 = .ok (.ifCond .eq 7, 3) := by decide +kernel
theorem dX12_gone_48 : decode cX12_gone 48 = .ok (.iconst 1, 1) := by decide +kernel
theorem dX12_gone_49 : decode cX12_gone 49 = .ok (.goto 4, 3) := by decide +kernel
theorem dX12_gone_52 : decode cX12_gone 52 = .ok (.iconst 0, 1) := by decide +kernel
theorem dX12_gone_53 : decode cX12_gone 53 = .ok (.ireturn, 1) := by decide +kernel
theorem dX12_runs_0 : decode cX12_runs 0 = .ok (.aload_n 0, 1) := by decide +kernel
theorem dX12_runs_1 : decode cX12_runs 1 = .ok (.getfield 25, 3) := by decide +kernel
theorem dX12_runs_4 : decode cX12_runs 4 = .ok (.iload_n 1, 1) := by decide +kernel
theorem dX12_runs_5 : decode cX12_runs 5 = .ok (.iaload, 1) := by decide +kernel
theorem dX12_runs_6 : decode cX12_runs 6 = .ok (.aload_n 0, 1) := by decide +kernel
theorem dX12_runs_7 : decode cX12_runs 7 = .ok (.getfield 19, 3) := by decide +kernel
theorem dX12_runs_10 : decode cX12_runs 10 = .ok (.iload_n 2, 1) := by decide +kernel
theorem dX12_runs_11 : decode cX12_runs 11 = .ok (.iaload, 1) := by decide +kernel
theorem dX12_runs_12 : decode cX12_runs 12 = .ok (.ishr, 1) := by decide +kernel
theorem dX12_runs_13 : decode cX12_runs 13 = .ok (.iconst 1, 1) := by decide +kernel
theorem dX12_runs_14 : decode cX12_runs 14 = .ok (.iand, 1) := by decide +kernel
theorem dX12_runs_15 : decode cX12_runs 15 = .ok (.iconst 1, 1) := by decide +kernel
theorem dX12_runs_16 : decode cX12_runs 16 = .ok (.if_icmp .ne 21, 3) := by decide +kernel
theorem dX12_runs_19 : decode cX12_runs 19 = .ok (.aload_n 0, 1) := by decide +kernel
theorem dX12_runs_20 : decode cX12_runs 20 = .ok (.getfield 47, 3) := by decide +kernel
theorem dX12_runs_23 : decode cX12_runs 23 = .ok (.bipush 100, 2) := by decide +kernel
theorem dX12_runs_25 : decode cX12_runs 25 = .ok (.iload_n 1, 1) := by decide +kernel
theorem dX12_runs_26 : decode cX12_runs 26 = .ok (.imul, 1) := by decide +kernel
theorem dX12_runs_27 : decode cX12_runs 27 = .ok (.iload_n 2, 1) := by decide +kernel
theorem dX12_runs_28 : decode cX12_runs 28 = .ok (.iadd, 1) := by decide +kernel
theorem dX12_runs_29 : decode cX12_runs 29 = .ok (.baload, 1) := by decide +kernel
theorem dX12_runs_30 : decode cX12_runs 30 = .ok (.ifCond .ne 7, 3) := by decide +kernel
theorem dX12_runs_33 : decode cX12_runs 33 = .ok (.iconst 1, 1) := by decide +kernel
theorem dX12_runs_34 : decode cX12_runs 34 = .ok (.goto 4, 3) := by decide +kernel
theorem dX12_runs_37 : decode cX12_runs 37 = .ok (.iconst 0, 1) := by decide +kernel
theorem dX12_runs_38 : decode cX12_runs 38 = .ok (.ireturn, 1) := by decide +kernel
theorem dX12_comesAt_0 : decode cX12_comesAt 0 = .ok (.sipush 1440, 3) := by decide +kernel
theorem dX12_comesAt_3 : decode cX12_comesAt 3 = .ok (.iload_n 2, 1) := by decide +kernel
theorem dX12_comesAt_4 : decode cX12_comesAt 4 = .ok (.imul, 1) := by decide +kernel
theorem dX12_comesAt_5 : decode cX12_comesAt 5 = .ok (.aload_n 0, 1) := by decide +kernel
theorem dX12_comesAt_6 : decode cX12_comesAt 6 = .ok (.getfield 37, 3) := by decide +kernel
theorem dX12_comesAt_9 : decode cX12_comesAt 9 = .ok (.bipush 8, 2) := by decide +kernel
theorem dX12_comesAt_11 : decode cX12_comesAt 11 = .ok (.iload_n 1, 1) := by decide +kernel
theorem dX12_comesAt_12 : decode cX12_comesAt 12 = .ok (.imul, 1) := by decide +kernel
theorem dX12_comesAt_13 : decode cX12_comesAt 13 = .ok (.iload_n 3, 1) := by decide +kernel
theorem dX12_comesAt_14 : decode cX12_comesAt 14 = .ok (.iadd, 1) := by decide +kernel
theorem dX12_comesAt_15 : decode cX12_comesAt 15 = .ok (.iaload, 1) := by decide +kernel
theorem dX12_comesAt_16 : decode cX12_comesAt 16 = .ok (.iadd, 1) := by decide +kernel
theorem dX12_comesAt_17 : decode cX12_comesAt 17 = .ok (.aload_n 0, 1) := by decide +kernel
theorem dX12_comesAt_18 : decode cX12_comesAt 18 = .ok (.iload_n 1, 1) := by decide +kernel
theorem dX12_comesAt_19 : decode cX12_comesAt 19 = .ok (.iload_n 2, 1) := by decide +kernel
theorem dX12_comesAt_20 : decode cX12_comesAt 20 = .ok (.iload_n 3, 1) := by decide +kernel
theorem dX12_comesAt_21 : decode cX12_comesAt 21 = .ok (.invokevirtual 180, 3) := by decide +kernel
theorem dX12_comesAt_24 : decode cX12_comesAt 24 = .ok (.iadd, 1) := by decide +kernel
theorem dX12_comesAt_25 : decode cX12_comesAt 25 = .ok (.ireturn, 1) := by decide +kernel
theorem dX12_leavesAt_0 : decode cX12_leavesAt 0 = .ok (.sipush 1440, 3) := by decide +kernel
theorem dX12_leavesAt_3 : decode cX12_leavesAt 3 = .ok (.iload_n 2, 1) := by decide +kernel
theorem dX12_leavesAt_4 : decode cX12_leavesAt 4 = .ok (.imul, 1) := by decide +kernel
theorem dX12_leavesAt_5 : decode cX12_leavesAt 5 = .ok (.aload_n 0, 1) := by decide +kernel
theorem dX12_leavesAt_6 : decode cX12_leavesAt 6 = .ok (.getfield 40, 3) := by decide +kernel
theorem dX12_leavesAt_9 : decode cX12_leavesAt 9 = .ok (.bipush 8, 2) := by decide +kernel
theorem dX12_leavesAt_11 : decode cX12_leavesAt 11 = .ok (.iload_n 1, 1) := by decide +kernel
theorem dX12_leavesAt_12 : decode cX12_leavesAt 12 = .ok (.imul, 1) := by decide +kernel
theorem dX12_leavesAt_13 : decode cX12_leavesAt 13 = .ok (.iload_n 3, 1) := by decide +kernel
theorem dX12_leavesAt_14 : decode cX12_leavesAt 14 = .ok (.iadd, 1) := by decide +kernel
theorem dX12_leavesAt_15 : decode cX12_leavesAt 15 = .ok (.iaload, 1) := by decide +kernel
theorem dX12_leavesAt_16 : decode cX12_leavesAt 16 = .ok (.iadd, 1) := by decide +kernel
end
section
theorem dX12_leavesAt_17 : decode cX12_leavesAt 17 = .ok (.aload_n 0, 1) := by decide +kernel
theorem dX12_leavesAt_18 : decode cX12_leavesAt 18 = .ok (.iload_n 1, 1) := by decide +kernel
theorem dX12_leavesAt_19 : decode cX12_leavesAt 19 = .ok (.iload_n 2, 1) := by decide +kernel
theorem dX12_leavesAt_20 : decode cX12_leavesAt 20 = .ok (.iload_n 3, 1) := by decide +kernel
theorem dX12_leavesAt_21 : decode cX12_leavesAt 21 = .ok (.invokevirtual 180, 3) := by decide +kernel
theorem dX12_leavesAt_24 : decode cX12_leavesAt 24 = .ok (.iadd, 1) := by decide +kernel
theorem dX12_leavesAt_25 : decode cX12_leavesAt 25 = .ok (.ireturn, 1) := by decide +kernel
theorem dX12_begins_0 : decode cX12_begins 0 = .ok (.aload_n 0, 1) := by decide +kernel
theorem dX12_begins_1 : decode cX12_begins 1 = .ok (.getfield 59, 3) := by decide +kernel
theorem dX12_begins_4 : decode cX12_begins 4 = .ok (.iload_n 1, 1) := by decide +kernel
theorem dX12_begins_5 : decode cX12_begins 5 = .ok (.iaload, 1) := by decide +kernel
theorem dX12_begins_6 : decode cX12_begins 6 = .ok (.iconst 3, 1) := by decide +kernel
theorem dX12_begins_7 : decode cX12_begins 7 = .ok (.if_icmp .ne 5, 3) := by decide +kernel
theorem dX12_begins_10 : decode cX12_begins 10 = .ok (.iload_n 2, 1) := by decide +kernel
theorem dX12_begins_11 : decode cX12_begins 11 = .ok (.ireturn, 1) := by decide +kernel
theorem dX12_begins_12 : decode cX12_begins 12 = .ok (.aload_n 0, 1) := by decide +kernel
theorem dX12_begins_13 : decode cX12_begins 13 = .ok (.getfield 59, 3) := by decide +kernel
theorem dX12_begins_16 : decode cX12_begins 16 = .ok (.iload_n 1, 1) := by decide +kernel
theorem dX12_begins_17 : decode cX12_begins 17 = .ok (.iaload, 1) := by decide +kernel
theorem dX12_begins_18 : decode cX12_begins 18 = .ok (.iconst 5, 1) := by decide +kernel
theorem dX12_begins_19 : decode cX12_begins 19 = .ok (.if_icmp .ne 26, 3) := by decide +kernel
theorem dX12_begins_22 : decode cX12_begins 22 = .ok (.iload_n 3, 1) := by decide +kernel
theorem dX12_begins_23 : decode cX12_begins 23 = .ok (.aload_n 0, 1) := by decide +kernel
theorem dX12_begins_24 : decode cX12_begins 24 = .ok (.getfield 71, 3) := by decide +kernel
theorem dX12_begins_27 : decode cX12_begins 27 = .ok (.iload_n 1, 1) := by decide +kernel
theorem dX12_begins_28 : decode cX12_begins 28 = .ok (.iaload, 1) := by decide +kernel
theorem dX12_begins_29 : decode cX12_begins 29 = .ok (.iadd, 1) := by decide +kernel
theorem dX12_begins_30 : decode cX12_begins 30 = .ok (.iload_n 2, 1) := by decide +kernel
theorem dX12_begins_31 : decode cX12_begins 31 = .ok (.if_icmp .le 14, 3) := by decide +kernel
theorem dX12_begins_34 : decode cX12_begins 34 = .ok (.iload_n 3, 1) := by decide +kernel
theorem dX12_begins_35 : decode cX12_begins 35 = .ok (.aload_n 0, 1) := by decide +kernel
theorem dX12_begins_36 : decode cX12_begins 36 = .ok (.getfield 71, 3) := by decide +kernel
theorem dX12_begins_39 : decode cX12_begins 39 = .ok (.iload_n 1, 1) := by decide +kernel
theorem dX12_begins_40 : decode cX12_begins 40 = .ok (.iaload, 1) := by decide +kernel
theorem dX12_begins_41 : decode cX12_begins 41 = .ok (.iadd, 1) := by decide +kernel
theorem dX12_begins_42 : decode cX12_begins 42 = .ok (.goto 4, 3) := by decide +kernel
theorem dX12_begins_45 : decode cX12_begins 45 = .ok (.iload_n 2, 1) := by decide +kernel
theorem dX12_begins_46 : decode cX12_begins 46 = .ok (.istore 4, 2) := by decide +kernel
theorem dX12_begins_48 : decode cX12_begins 48 = .ok (.iload 4, 2) := by decide +kernel
theorem dX12_begins_50 : decode cX12_begins 50 = .ok (.sipush 1440, 3) := by decide +kernel
theorem dX12_begins_53 : decode cX12_begins 53 = .ok (.idiv, 1) := by decide +kernel
theorem dX12_begins_54 : decode cX12_begins 54 = .ok (.istore 5, 2) := by decide +kernel
theorem dX12_begins_56 : decode cX12_begins 56 = .ok (.aload_n 0, 1) := by decide +kernel
theorem dX12_begins_57 : decode cX12_begins 57 = .ok (.getfield 62, 3) := by decide +kernel
theorem dX12_begins_60 : decode cX12_begins 60 = .ok (.iload_n 1, 1) := by decide +kernel
theorem dX12_begins_61 : decode cX12_begins 61 = .ok (.iaload, 1) := by decide +kernel
theorem dX12_begins_62 : decode cX12_begins 62 = .ok (.istore 6, 2) := by decide +kernel
theorem dX12_begins_64 : decode cX12_begins 64 = .ok (.iload 6, 2) := by decide +kernel
theorem dX12_begins_66 : decode cX12_begins 66 = .ok (.aload_n 0, 1) := by decide +kernel
theorem dX12_begins_67 : decode cX12_begins 67 = .ok (.getfield 65, 3) := by decide +kernel
theorem dX12_begins_70 : decode cX12_begins 70 = .ok (.iload_n 1, 1) := by decide +kernel
theorem dX12_begins_71 : decode cX12_begins 71 = .ok (.iaload, 1) := by decide +kernel
theorem dX12_begins_72 : decode cX12_begins 72 = .ok (.if_icmp .gt 41, 3) := by decide +kernel
theorem dX12_begins_75 : decode cX12_begins 75 = .ok (.sipush 1440, 3) := by decide +kernel
theorem dX12_begins_78 : decode cX12_begins 78 = .ok (.iload 5, 2) := by decide +kernel
theorem dX12_begins_80 : decode cX12_begins 80 = .ok (.imul, 1) := by decide +kernel
theorem dX12_begins_81 : decode cX12_begins 81 = .ok (.iload 6, 2) := by decide +kernel
theorem dX12_begins_83 : decode cX12_begins 83 = .ok (.iadd, 1) := by decide +kernel
theorem dX12_begins_84 : decode cX12_begins 84 = .ok (.iload 4, 2) := by decide +kernel
theorem dX12_begins_86 : decode cX12_begins 86 = .ok (.if_icmp .lt 13, 3) := by decide +kernel
theorem dX12_begins_89 : decode cX12_begins 89 = .ok (.sipush 1440, 3) := by decide +kernel
theorem dX12_begins_92 : decode cX12_begins 92 = .ok (.iload 5, 2) := by decide +kernel
theorem dX12_begins_94 : decode cX12_begins 94 = .ok (.imul, 1) := by decide +kernel
theorem dX12_begins_95 : decode cX12_begins 95 = .ok (.iload 6, 2) := by decide +kernel
theorem dX12_begins_97 : decode cX12_begins 97 = .ok (.iadd, 1) := by decide +kernel
theorem dX12_begins_98 : decode cX12_begins 98 = .ok (.ireturn, 1) := by decide +kernel
theorem dX12_begins_99 : decode cX12_begins 99 = .ok (.iload 6, 2) := by decide +kernel
theorem dX12_begins_101 : decode cX12_begins 101 = .ok (.aload_n 0, 1) := by decide +kernel
theorem dX12_begins_102 : decode cX12_begins 102 = .ok (.getfield 68, 3) := by decide +kernel
theorem dX12_begins_105 : decode cX12_begins 105 = .ok (.iload_n 1, 1) := by decide +kernel
theorem dX12_begins_106 : decode cX12_begins 106 = .ok (.iaload, 1) := by decide +kernel
theorem dX12_begins_107 : decode cX12_begins 107 = .ok (.iadd, 1) := by decide +kernel
theorem dX12_begins_108 : decode cX12_begins 108 = .ok (.istore 6, 2) := by decide +kernel
theorem dX12_begins_110 : decode cX12_begins 110 = .ok (.goto (-46), 3) := by decide +kernel
theorem dX12_begins_113 : decode cX12_begins 113 = .ok (.iinc 5 1, 3) := by decide +kernel
theorem dX12_begins_116 : decode cX12_begins 116 = .ok (.goto (-60), 3) := by decide +kernel
theorem dX12_behind_0 : decode cX12_behind 0 = .ok (.aload_n 0, 1) := by decide +kernel
theorem dX12_behind_1 : decode cX12_behind 1 = .ok (.iload_n 1, 1) := by decide +kernel
theorem dX12_behind_2 : decode cX12_behind 2 = .ok (.iload_n 2, 1) := by decide +kernel
theorem dX12_behind_3 : decode cX12_behind 3 = .ok (.iload_n 3, 1) := by decide +kernel
theorem dX12_behind_4 : decode cX12_behind 4 = .ok (.invokevirtual 184, 3) := by decide +kernel
theorem dX12_behind_7 : decode cX12_behind 7 = .ok (.aload_n 0, 1) := by decide +kernel
theorem dX12_behind_8 : decode cX12_behind 8 = .ok (.getfield 56, 3) := by decide +kernel
theorem dX12_behind_11 : decode cX12_behind 11 = .ok (.iload_n 1, 1) := by decide +kernel
theorem dX12_behind_12 : decode cX12_behind 12 = .ok (.iaload, 1) := by decide +kernel
theorem dX12_behind_13 : decode cX12_behind 13 = .ok (.iadd, 1) := by decide +kernel
theorem dX12_behind_14 : decode cX12_behind 14 = .ok (.ireturn, 1) := by decide +kernel
theorem dX12_look_0 : decode cX12_look 0 = .ok (.aload_n 0, 1) := by decide +kernel
theorem dX12_look_1 : decode cX12_look 1 = .ok (.sipush 1440, 3) := by decide +kernel
theorem dX12_look_4 : decode cX12_look 4 = .ok (.iload_n 1, 1) := by decide +kernel
theorem dX12_look_5 : decode cX12_look 5 = .ok (.imul, 1) := by decide +kernel
theorem dX12_look_6 : decode cX12_look 6 = .ok (.iload_n 2, 1) := by decide +kernel
theorem dX12_look_7 : decode cX12_look 7 = .ok (.iadd, 1) := by decide +kernel
theorem dX12_look_8 : decode cX12_look 8 = .ok (.putfield 187, 3) := by decide +kernel
theorem dX12_look_11 : decode cX12_look 11 = .ok (.aload_n 0, 1) := by decide +kernel
theorem dX12_look_12 : decode cX12_look 12 = .ok (.sipush 1440, 3) := by decide +kernel
theorem dX12_look_15 : decode cX12_look 15 = .ok (.iload_n 1, 1) := by decide +kernel
theorem dX12_look_16 : decode cX12_look 16 = .ok (.iconst 2, 1) := by decide +kernel
theorem dX12_look_17 : decode cX12_look 17 = .ok (.iadd, 1) := by decide +kernel
theorem dX12_look_18 : decode cX12_look 18 = .ok (.imul, 1) := by decide +kernel
theorem dX12_look_19 : decode cX12_look 19 = .ok (.putfield 190, 3) := by decide +kernel
theorem dX12_look_22 : decode cX12_look 22 = .ok (.aload_n 0, 1) := by decide +kernel
theorem dX12_look_23 : decode cX12_look 23 = .ok (.iconst 0, 1) := by decide +kernel
theorem dX12_look_24 : decode cX12_look 24 = .ok (.putfield 193, 3) := by decide +kernel
theorem dX12_look_27 : decode cX12_look 27 = .ok (.iconst 0, 1) := by decide +kernel
theorem dX12_look_28 : decode cX12_look 28 = .ok (.istore_n 3, 1) := by decide +kernel
theorem dX12_look_29 : decode cX12_look 29 = .ok (.iload_n 3, 1) := by decide +kernel
theorem dX12_look_30 : decode cX12_look 30 = .ok (.bipush 100, 2) := by decide +kernel
theorem dX12_look_32 : decode cX12_look 32 = .ok (.if_icmp .ge 192, 3) := by decide +kernel
theorem dX12_look_35 : decode cX12_look 35 = .ok (.iconst 0, 1) := by decide +kernel
theorem dX12_look_36 : decode cX12_look 36 = .ok (.istore 4, 2) := by decide +kernel
theorem dX12_look_38 : decode cX12_look 38 = .ok (.iload 4, 2) := by decide +kernel
theorem dX12_look_40 : decode cX12_look 40 = .ok (.aload_n 0, 1) := by decide +kernel
theorem dX12_look_41 : decode cX12_look 41 = .ok (.getfield 154, 3) := by decide +kernel
theorem dX12_look_44 : decode cX12_look 44 = .ok (.if_icmp .ge 174, 3) := by decide +kernel
theorem dX12_look_47 : decode cX12_look 47 = .ok (.aload_n 0, 1) := by decide +kernel
theorem dX12_look_48 : decode cX12_look 48 = .ok (.getfield 31, 3) := by decide +kernel
theorem dX12_look_51 : decode cX12_look 51 = .ok (.iload 4, 2) := by decide +kernel
theorem dX12_look_53 : decode cX12_look 53 = .ok (.iaload, 1) := by decide +kernel
theorem dX12_look_54 : decode cX12_look 54 = .ok (.iconst 2, 1) := by decide +kernel
theorem dX12_look_55 : decode cX12_look 55 = .ok (.if_icmp .lt 157, 3) := by decide +kernel
theorem dX12_look_58 : decode cX12_look 58 = .ok (.aload_n 0, 1) := by decide +kernel
theorem dX12_look_59 : decode cX12_look 59 = .ok (.iload 4, 2) := by decide +kernel
theorem dX12_look_61 : decode cX12_look 61 = .ok (.iload_n 3, 1) := by decide +kernel
theorem dX12_look_62 : decode cX12_look 62 = .ok (.invokevirtual 196, 3) := by decide +kernel
theorem dX12_look_65 : decode cX12_look 65 = .ok (.ifCond .ne 6, 3) := by decide +kernel
theorem dX12_look_68 : decode cX12_look 68 = .ok (.goto 144, 3) := by decide +kernel
theorem dX12_look_71 : decode cX12_look 71 = .ok (.aload_n 0, 1) := by decide +kernel
theorem dX12_look_72 : decode cX12_look 72 = .ok (.iload 4, 2) := by decide +kernel
theorem dX12_look_74 : decode cX12_look 74 = .ok (.iload_n 3, 1) := by decide +kernel
theorem dX12_look_75 : decode cX12_look 75 = .ok (.aload_n 0, 1) := by decide +kernel
theorem dX12_look_76 : decode cX12_look 76 = .ok (.getfield 31, 3) := by decide +kernel
theorem dX12_look_79 : decode cX12_look 79 = .ok (.iload 4, 2) := by decide +kernel
theorem dX12_look_81 : decode cX12_look 81 = .ok (.iaload, 1) := by decide +kernel
theorem dX12_look_82 : decode cX12_look 82 = .ok (.iconst 1, 1) := by decide +kernel
theorem dX12_look_83 : decode cX12_look 83 = .ok (.isub, 1) := by decide +kernel
theorem dX12_look_84 : decode cX12_look 84 = .ok (.invokevirtual 199, 3) := by decide +kernel
theorem dX12_look_87 : decode cX12_look 87 = .ok (.aload_n 0, 1) := by decide +kernel
theorem dX12_look_88 : decode cX12_look 88 = .ok (.getfield 187, 3) := by decide +kernel
theorem dX12_look_91 : decode cX12_look 91 = .ok (.if_icmp .lt 121, 3) := by decide +kernel
theorem dX12_look_94 : decode cX12_look 94 = .ok (.aload_n 0, 1) := by decide +kernel
theorem dX12_look_95 : decode cX12_look 95 = .ok (.iload 4, 2) := by decide +kernel
theorem dX12_look_97 : decode cX12_look 97 = .ok (.iload_n 3, 1) := by decide +kernel
theorem dX12_look_98 : decode cX12_look 98 = .ok (.iconst 0, 1) := by decide +kernel
theorem dX12_look_99 : decode cX12_look 99 = .ok (.invokevirtual 202, 3) := by decide +kernel
theorem dX12_look_102 : decode cX12_look 102 = .ok (.aload_n 0, 1) := by decide +kernel
theorem dX12_look_103 : decode cX12_look 103 = .ok (.getfield 190, 3) := by decide +kernel
theorem dX12_look_106 : decode cX12_look 106 = .ok (.if_icmp .lt 6, 3) := by decide +kernel
theorem dX12_look_109 : decode cX12_look 109 = .ok (.goto 103, 3) := by decide +kernel
theorem dX12_look_112 : decode cX12_look 112 = .ok (.aload_n 0, 1) := by decide +kernel
theorem dX12_look_113 : decode cX12_look 113 = .ok (.getfield 89, 3) := by decide +kernel
theorem dX12_look_116 : decode cX12_look 116 = .ok (.aload_n 0, 1) := by decide +kernel
theorem dX12_look_117 : decode cX12_look 117 = .ok (.getfield 193, 3) := by decide +kernel
theorem dX12_look_120 : decode cX12_look 120 = .ok (.iload 4, 2) := by decide +kernel
theorem dX12_look_122 : decode cX12_look 122 = .ok (.iastore, 1) := by decide +kernel
theorem dX12_look_123 : decode cX12_look 123 = .ok (.aload_n 0, 1) := by decide +kernel
theorem dX12_look_124 : decode cX12_look 124 = .ok (.getfield 92, 3) := by decide +kernel
theorem dX12_look_127 : decode cX12_look 127 = .ok (.aload_n 0, 1) := by decide +kernel
theorem dX12_look_128 : decode cX12_look 128 = .ok (.getfield 193, 3) := by decide +kernel
theorem dX12_look_131 : decode cX12_look 131 = .ok (.iload_n 3, 1) := by decide +kernel
theorem dX12_look_132 : decode cX12_look 132 = .ok (.iastore, 1) := by decide +kernel
theorem dX12_look_133 : decode cX12_look 133 = .ok (.iconst 0, 1) := by decide +kernel
theorem dX12_look_134 : decode cX12_look 134 = .ok (.istore 5, 2) := by decide +kernel
theorem dX12_look_136 : decode cX12_look 136 = .ok (.iload 5, 2) := by decide +kernel
theorem dX12_look_138 : decode cX12_look 138 = .ok (.aload_n 0, 1) := by decide +kernel
theorem dX12_look_139 : decode cX12_look 139 = .ok (.getfield 31, 3) := by decide +kernel
theorem dX12_look_142 : decode cX12_look 142 = .ok (.iload 4, 2) := by decide +kernel
theorem dX12_look_144 : decode cX12_look 144 = .ok (.iaload, 1) := by decide +kernel
theorem dX12_look_145 : decode cX12_look 145 = .ok (.if_icmp .ge 57, 3) := by decide +kernel
theorem dX12_look_148 : decode cX12_look 148 = .ok (.aload_n 0, 1) := by decide +kernel
theorem dX12_look_149 : decode cX12_look 149 = .ok (.getfield 95, 3) := by decide +kernel
theorem dX12_look_152 : decode cX12_look 152 = .ok (.bipush 8, 2) := by decide +kernel
theorem dX12_look_154 : decode cX12_look 154 = .ok (.aload_n 0, 1) := by decide +kernel
theorem dX12_look_155 : decode cX12_look 155 = .ok (.getfield 193, 3) := by decide +kernel
theorem dX12_look_158 : decode cX12_look 158 = .ok (.imul, 1) := by decide +kernel
theorem dX12_look_159 : decode cX12_look 159 = .ok (.iload 5, 2) := by decide +kernel
theorem dX12_look_161 : decode cX12_look 161 = .ok (.iadd, 1) := by decide +kernel
theorem dX12_look_162 : decode cX12_look 162 = .ok (.aload_n 0, 1) := by decide +kernel
theorem dX12_look_163 : decode cX12_look 163 = .ok (.iload 4, 2) := by decide +kernel
theorem dX12_look_165 : decode cX12_look 165 = .ok (.iload_n 3, 1) := by decide +kernel
theorem dX12_look_166 : decode cX12_look 166 = .ok (.iload 5, 2) := by decide +kernel
theorem dX12_look_168 : decode cX12_look 168 = .ok (.invokevirtual 199, 3) := by decide +kernel
theorem dX12_look_171 : decode cX12_look 171 = .ok (.iastore, 1) := by decide +kernel
theorem dX12_look_172 : decode cX12_look 172 = .ok (.aload_n 0, 1) := by decide +kernel
theorem dX12_look_173 : decode cX12_look 173 = .ok (.getfield 98, 3) := by decide +kernel
theorem dX12_look_176 : decode cX12_look 176 = .ok (.bipush 8, 2) := by decide +kernel
theorem dX12_look_178 : decode cX12_look 178 = .ok (.aload_n 0, 1) := by decide +kernel
theorem dX12_look_179 : decode cX12_look 179 = .ok (.getfield 193, 3) := by decide +kernel
theorem dX12_look_182 : decode cX12_look 182 = .ok (.imul, 1) := by decide +kernel
theorem dX12_look_183 : decode cX12_look 183 = .ok (.iload 5, 2) := by decide +kernel
theorem dX12_look_185 : decode cX12_look 185 = .ok (.iadd, 1) := by decide +kernel
theorem dX12_look_186 : decode cX12_look 186 = .ok (.aload_n 0, 1) := by decide +kernel
theorem dX12_look_187 : decode cX12_look 187 = .ok (.iload 4, 2) := by decide +kernel
theorem dX12_look_189 : decode cX12_look 189 = .ok (.iload_n 3, 1) := by decide +kernel
theorem dX12_look_190 : decode cX12_look 190 = .ok (.iload 5, 2) := by decide +kernel
theorem dX12_look_192 : decode cX12_look 192 = .ok (.invokevirtual 202, 3) := by decide +kernel
theorem dX12_look_195 : decode cX12_look 195 = .ok (.iastore, 1) := by decide +kernel
theorem dX12_look_196 : decode cX12_look 196 = .ok (.iinc 5 1, 3) := by decide +kernel
theorem dX12_look_199 : decode cX12_look 199 = .ok (.goto (-63), 3) := by decide +kernel
theorem dX12_look_202 : decode cX12_look 202 = .ok (.aload_n 0, 1) := by decide +kernel
theorem dX12_look_203 : decode cX12_look 203 = .ok (.dup, 1) := by decide +kernel
theorem dX12_look_204 : decode cX12_look 204 = .ok (.getfield 193, 3) := by decide +kernel
theorem dX12_look_207 : decode cX12_look 207 = .ok (.iconst 1, 1) := by decide +kernel
theorem dX12_look_208 : decode cX12_look 208 = .ok (.iadd, 1) := by decide +kernel
theorem dX12_look_209 : decode cX12_look 209 = .ok (.putfield 193, 3) := by decide +kernel
theorem dX12_look_212 : decode cX12_look 212 = .ok (.iinc 4 1, 3) := by decide +kernel
theorem dX12_look_215 : decode cX12_look 215 = .ok (.goto (-177), 3) := by decide +kernel
theorem dX12_look_218 : decode cX12_look 218 = .ok (.iinc 3 1, 3) := by decide +kernel
theorem dX12_look_221 : decode cX12_look 221 = .ok (.goto (-192), 3) := by decide +kernel
theorem dX12_look_224 : decode cX12_look 224 = .ok (.return_, 1) := by decide +kernel
theorem dX12_at_0 : decode cX12_at 0 = .ok (.iload_n 0, 1) := by decide +kernel
theorem dX12_at_1 : decode cX12_at 1 = .ok (.bipush 28, 2) := by decide +kernel
theorem dX12_at_3 : decode cX12_at 3 = .ok (.imul, 1) := by decide +kernel
theorem dX12_at_4 : decode cX12_at 4 = .ok (.iload_n 1, 1) := by decide +kernel
theorem dX12_at_5 : decode cX12_at 5 = .ok (.iadd, 1) := by decide +kernel
theorem dX12_at_6 : decode cX12_at 6 = .ok (.bipush 12, 2) := by decide +kernel
theorem dX12_at_8 : decode cX12_at 8 = .ok (.imul, 1) := by decide +kernel
theorem dX12_at_9 : decode cX12_at 9 = .ok (.iload_n 2, 1) := by decide +kernel
theorem dX12_at_10 : decode cX12_at 10 = .ok (.iadd, 1) := by decide +kernel
theorem dX12_at_11 : decode cX12_at 11 = .ok (.ireturn, 1) := by decide +kernel
theorem dX12_fareOf_0 : decode cX12_fareOf 0 = .ok (.aload_n 0, 1) := by decide +kernel
theorem dX12_fareOf_1 : decode cX12_fareOf 1 = .ok (.getfield 16, 3) := by decide +kernel
theorem dX12_fareOf_4 : decode cX12_fareOf 4 = .ok (.iconst 4, 1) := by decide +kernel
theorem dX12_fareOf_5 : decode cX12_fareOf 5 = .ok (.aload_n 0, 1) := by decide +kernel
theorem dX12_fareOf_6 : decode cX12_fareOf 6 = .ok (.getfield 13, 3) := by decide +kernel
theorem dX12_fareOf_9 : decode cX12_fareOf 9 = .ok (.aload_n 0, 1) := by decide +kernel
theorem dX12_fareOf_10 : decode cX12_fareOf 10 = .ok (.getfield 34, 3) := by decide +kernel
theorem dX12_fareOf_13 : decode cX12_fareOf 13 = .ok (.bipush 8, 2) := by decide +kernel
theorem dX12_fareOf_15 : decode cX12_fareOf 15 = .ok (.iload_n 1, 1) := by decide +kernel
theorem dX12_fareOf_16 : decode cX12_fareOf 16 = .ok (.imul, 1) := by decide +kernel
theorem dX12_fareOf_17 : decode cX12_fareOf 17 = .ok (.iload_n 2, 1) := by decide +kernel
theorem dX12_fareOf_18 : decode cX12_fareOf 18 = .ok (.iadd, 1) := by decide +kernel
theorem dX12_fareOf_19 : decode cX12_fareOf 19 = .ok (.iaload, 1) := by decide +kernel
theorem dX12_fareOf_20 : decode cX12_fareOf 20 = .ok (.iaload, 1) := by decide +kernel
theorem dX12_fareOf_21 : decode cX12_fareOf 21 = .ok (.imul, 1) := by decide +kernel
theorem dX12_fareOf_22 : decode cX12_fareOf 22 = .ok (.aload_n 0, 1) := by decide +kernel
theorem dX12_fareOf_23 : decode cX12_fareOf 23 = .ok (.getfield 13, 3) := by decide +kernel
theorem dX12_fareOf_26 : decode cX12_fareOf 26 = .ok (.aload_n 0, 1) := by decide +kernel
theorem dX12_fareOf_27 : decode cX12_fareOf 27 = .ok (.getfield 34, 3) := by decide +kernel
theorem dX12_fareOf_30 : decode cX12_fareOf 30 = .ok (.bipush 8, 2) := by decide +kernel
theorem dX12_fareOf_32 : decode cX12_fareOf 32 = .ok (.iload_n 1, 1) := by decide +kernel
theorem dX12_fareOf_33 : decode cX12_fareOf 33 = .ok (.imul, 1) := by decide +kernel
theorem dX12_fareOf_34 : decode cX12_fareOf 34 = .ok (.iload_n 3, 1) := by decide +kernel
theorem dX12_fareOf_35 : decode cX12_fareOf 35 = .ok (.iadd, 1) := by decide +kernel
theorem dX12_fareOf_36 : decode cX12_fareOf 36 = .ok (.iaload, 1) := by decide +kernel
theorem dX12_fareOf_37 : decode cX12_fareOf 37 = .ok (.iaload, 1) := by decide +kernel
theorem dX12_fareOf_38 : decode cX12_fareOf 38 = .ok (.iadd, 1) := by decide +kernel
theorem dX12_fareOf_39 : decode cX12_fareOf 39 = .ok (.iaload, 1) := by decide +kernel
theorem dX12_fareOf_40 : decode cX12_fareOf 40 = .ok (.ireturn, 1) := by decide +kernel
theorem dX12_hasPlace_0 : decode cX12_hasPlace 0 = .ok (.aload_n 0, 1) := by decide +kernel
theorem dX12_hasPlace_1 : decode cX12_hasPlace 1 = .ok (.getfield 43, 3) := by decide +kernel
theorem dX12_hasPlace_4 : decode cX12_hasPlace 4 = .ok (.bipush 8, 2) := by decide +kernel
theorem dX12_hasPlace_6 : decode cX12_hasPlace 6 = .ok (.iload_n 1, 1) := by decide +kernel
theorem dX12_hasPlace_7 : decode cX12_hasPlace 7 = .ok (.imul, 1) := by decide +kernel
theorem dX12_hasPlace_8 : decode cX12_hasPlace 8 = .ok (.iload_n 3, 1) := by decide +kernel
theorem dX12_hasPlace_9 : decode cX12_hasPlace 9 = .ok (.iadd, 1) := by decide +kernel
theorem dX12_hasPlace_10 : decode cX12_hasPlace 10 = .ok (.baload, 1) := by decide +kernel
theorem dX12_hasPlace_11 : decode cX12_hasPlace 11 = .ok (.ifCond .ne 18, 3) := by decide +kernel
theorem dX12_hasPlace_14 : decode cX12_hasPlace 14 = .ok (.aload_n 0, 1) := by decide +kernel
theorem dX12_hasPlace_15 : decode cX12_hasPlace 15 = .ok (.getfield 43, 3) := by decide +kernel
theorem dX12_hasPlace_18 : decode cX12_hasPlace 18 = .ok (.bipush 8, 2) := by decide +kernel
theorem dX12_hasPlace_20 : decode cX12_hasPlace 20 = .ok (.iload_n 1, 1) := by decide +kernel
theorem dX12_hasPlace_21 : decode cX12_hasPlace 21 = .ok (.imul, 1) := by decide +kernel
theorem dX12_hasPlace_22 : decode cX12_hasPlace 22 = .ok (.iload 4, 2) := by decide +kernel
theorem dX12_hasPlace_24 : decode cX12_hasPlace 24 = .ok (.iadd, 1) := by decide +kernel
theorem dX12_hasPlace_25 : decode cX12_hasPlace 25 = .ok (.baload, 1) := by decide +kernel
theorem dX12_hasPlace_26 : decode cX12_hasPlace 26 = .ok (.ifCond .eq 5, 3) := by decide +kernel
theorem dX12_hasPlace_29 : decode cX12_hasPlace 29 = .ok (.iconst 0, 1) := by decide +kernel
theorem dX12_hasPlace_30 : decode cX12_hasPlace 30 = .ok (.ireturn, 1) := by decide +kernel
theorem dX12_hasPlace_31 : decode cX12_hasPlace 31 = .ok (.iload_n 3, 1) := by decide +kernel
theorem dX12_hasPlace_32 : decode cX12_hasPlace 32 = .ok (.istore 5, 2) := by decide +kernel
theorem dX12_hasPlace_34 : decode cX12_hasPlace 34 = .ok (.iload 5, 2) := by decide +kernel
theorem dX12_hasPlace_36 : decode cX12_hasPlace 36 = .ok (.iload 4, 2) := by decide +kernel
theorem dX12_hasPlace_38 : decode cX12_hasPlace 38 = .ok (.if_icmp .ge 46, 3) := by decide +kernel
theorem dX12_hasPlace_41 : decode cX12_hasPlace 41 = .ok (.aload_n 0, 1) := by decide +kernel
theorem dX12_hasPlace_42 : decode cX12_hasPlace 42 = .ok (.getfield 22, 3) := by decide +kernel
theorem dX12_hasPlace_45 : decode cX12_hasPlace 45 = .ok (.iload_n 1, 1) := by decide +kernel
theorem dX12_hasPlace_46 : decode cX12_hasPlace 46 = .ok (.iaload, 1) := by decide +kernel
theorem dX12_hasPlace_47 : decode cX12_hasPlace 47 = .ok (.ifCond .eq 37, 3) := by decide +kernel
theorem dX12_hasPlace_50 : decode cX12_hasPlace 50 = .ok (.aload_n 0, 1) := by decide +kernel
theorem dX12_hasPlace_51 : decode cX12_hasPlace 51 = .ok (.getfield 86, 3) := by decide +kernel
theorem dX12_hasPlace_54 : decode cX12_hasPlace 54 = .ok (.bipush 100, 2) := by decide +kernel
theorem dX12_hasPlace_56 : decode cX12_hasPlace 56 = .ok (.iload_n 1, 1) := by decide +kernel
theorem dX12_hasPlace_57 : decode cX12_hasPlace 57 = .ok (.imul, 1) := by decide +kernel
theorem dX12_hasPlace_58 : decode cX12_hasPlace 58 = .ok (.iload_n 2, 1) := by decide +kernel
theorem dX12_hasPlace_59 : decode cX12_hasPlace 59 = .ok (.iadd, 1) := by decide +kernel
theorem dX12_hasPlace_60 : decode cX12_hasPlace 60 = .ok (.bipush 8, 2) := by decide +kernel
theorem dX12_hasPlace_62 : decode cX12_hasPlace 62 = .ok (.imul, 1) := by decide +kernel
theorem dX12_hasPlace_63 : decode cX12_hasPlace 63 = .ok (.iload 5, 2) := by decide +kernel
theorem dX12_hasPlace_65 : decode cX12_hasPlace 65 = .ok (.iadd, 1) := by decide +kernel
theorem dX12_hasPlace_66 : decode cX12_hasPlace 66 = .ok (.iaload, 1) := by decide +kernel
theorem dX12_hasPlace_67 : decode cX12_hasPlace 67 = .ok (.aload_n 0, 1) := by decide +kernel
theorem dX12_hasPlace_68 : decode cX12_hasPlace 68 = .ok (.getfield 28, 3) := by decide +kernel
theorem dX12_hasPlace_71 : decode cX12_hasPlace 71 = .ok (.iload_n 1, 1) := by decide +kernel
theorem dX12_hasPlace_72 : decode cX12_hasPlace 72 = .ok (.iaload, 1) := by decide +kernel
theorem dX12_hasPlace_73 : decode cX12_hasPlace 73 = .ok (.if_icmp .lt 5, 3) := by decide +kernel
theorem dX12_hasPlace_76 : decode cX12_hasPlace 76 = .ok (.iconst 0, 1) := by decide +kernel
theorem dX12_hasPlace_77 : decode cX12_hasPlace 77 = .ok (.ireturn, 1) := by decide +kernel
theorem dX12_hasPlace_78 : decode cX12_hasPlace 78 = .ok (.iinc 5 1, 3) := by decide +kernel
theorem dX12_hasPlace_81 : decode cX12_hasPlace 81 = .ok (.goto (-47), 3) := by decide +kernel
theorem dX12_hasPlace_84 : decode cX12_hasPlace 84 = .ok (.iconst 1, 1) := by decide +kernel
theorem dX12_hasPlace_85 : decode cX12_hasPlace 85 = .ok (.ireturn, 1) := by decide +kernel
theorem dX12_go_0 : decode cX12_go 0 = .ok (.aload_n 0, 1) := by decide +kernel
theorem dX12_go_1 : decode cX12_go 1 = .ok (.iload_n 1, 1) := by decide +kernel
theorem dX12_go_2 : decode cX12_go 2 = .ok (.putfield 205, 3) := by decide +kernel
theorem dX12_go_5 : decode cX12_go 5 = .ok (.aload_n 0, 1) := by decide +kernel
theorem dX12_go_6 : decode cX12_go 6 = .ok (.iload_n 2, 1) := by decide +kernel
theorem dX12_go_7 : decode cX12_go 7 = .ok (.putfield 187, 3) := by decide +kernel
theorem dX12_go_10 : decode cX12_go 10 = .ok (.iconst 0, 1) := by decide +kernel
theorem dX12_go_11 : decode cX12_go 11 = .ok (.istore_n 3, 1) := by decide +kernel
theorem dX12_go_12 : decode cX12_go 12 = .ok (.iload_n 3, 1) := by decide +kernel
theorem dX12_go_13 : decode cX12_go 13 = .ok (.sipush 1344, 3) := by decide +kernel
theorem dX12_go_16 : decode cX12_go 16 = .ok (.if_icmp .ge 25, 3) := by decide +kernel
theorem dX12_go_19 : decode cX12_go 19 = .ok (.aload_n 0, 1) := by decide +kernel
theorem dX12_go_20 : decode cX12_go 20 = .ok (.getfield 101, 3) := by decide +kernel
theorem dX12_go_23 : decode cX12_go 23 = .ok (.iload_n 3, 1) := by decide +kernel
theorem dX12_go_24 : decode cX12_go 24 = .ok (.ldc 208, 2) := by decide +kernel
theorem dX12_go_26 : decode cX12_go 26 = .ok (.iastore, 1) := by decide +kernel
theorem dX12_go_27 : decode cX12_go 27 = .ok (.aload_n 0, 1) := by decide +kernel
theorem dX12_go_28 : decode cX12_go 28 = .ok (.getfield 104, 3) := by decide +kernel
theorem dX12_go_31 : decode cX12_go 31 = .ok (.iload_n 3, 1) := by decide +kernel
theorem dX12_go_32 : decode cX12_go 32 = .ok (.ldc 208, 2) := by decide +kernel
theorem dX12_go_34 : decode cX12_go 34 = .ok (.iastore, 1) := by decide +kernel
theorem dX12_go_35 : decode cX12_go 35 = .ok (.iinc 3 1, 3) := by decide +kernel
theorem dX12_go_38 : decode cX12_go 38 = .ok (.goto (-26), 3) := by decide +kernel
theorem dX12_go_41 : decode cX12_go 41 = .ok (.aload_n 0, 1) := by decide +kernel
theorem dX12_go_42 : decode cX12_go 42 = .ok (.getfield 104, 3) := by decide +kernel
theorem dX12_go_45 : decode cX12_go 45 = .ok (.iconst 0, 1) := by decide +kernel
theorem dX12_go_46 : decode cX12_go 46 = .ok (.iconst 0, 1) := by decide +kernel
theorem dX12_go_47 : decode cX12_go 47 = .ok (.aload_n 0, 1) := by decide +kernel
theorem dX12_go_48 : decode cX12_go 48 = .ok (.getfield 205, 3) := by decide +kernel
theorem dX12_go_51 : decode cX12_go 51 = .ok (.invokestatic 209, 3) := by decide +kernel
theorem dX12_go_54 : decode cX12_go 54 = .ok (.iload_n 2, 1) := by decide +kernel
theorem dX12_go_55 : decode cX12_go 55 = .ok (.iastore, 1) := by decide +kernel
theorem dX12_go_56 : decode cX12_go 56 = .ok (.iconst 0, 1) := by decide +kernel
theorem dX12_go_57 : decode cX12_go 57 = .ok (.istore_n 3, 1) := by decide +kernel
theorem dX12_go_58 : decode cX12_go 58 = .ok (.iload_n 3, 1) := by decide +kernel
theorem dX12_go_59 : decode cX12_go 59 = .ok (.aload_n 0, 1) := by decide +kernel
theorem dX12_go_60 : decode cX12_go 60 = .ok (.getfield 161, 3) := by decide +kernel
theorem dX12_go_63 : decode cX12_go 63 = .ok (.if_icmp .ge 47, 3) := by decide +kernel
theorem dX12_go_66 : decode cX12_go 66 = .ok (.aload_n 0, 1) := by decide +kernel
theorem dX12_go_67 : decode cX12_go 67 = .ok (.getfield 50, 3) := by decide +kernel
theorem dX12_go_70 : decode cX12_go 70 = .ok (.iload_n 3, 1) := by decide +kernel
theorem dX12_go_71 : decode cX12_go 71 = .ok (.iaload, 1) := by decide +kernel
theorem dX12_go_72 : decode cX12_go 72 = .ok (.aload_n 0, 1) := by decide +kernel
theorem dX12_go_73 : decode cX12_go 73 = .ok (.getfield 205, 3) := by decide +kernel
theorem dX12_go_76 : decode cX12_go 76 = .ok (.if_icmp .ne 28, 3) := by decide +kernel
theorem dX12_go_79 : decode cX12_go 79 = .ok (.aload_n 0, 1) := by decide +kernel
theorem dX12_go_80 : decode cX12_go 80 = .ok (.getfield 104, 3) := by decide +kernel
theorem dX12_go_83 : decode cX12_go 83 = .ok (.iconst 0, 1) := by decide +kernel
theorem dX12_go_84 : decode cX12_go 84 = .ok (.iconst 0, 1) := by decide +kernel
theorem dX12_go_85 : decode cX12_go 85 = .ok (.aload_n 0, 1) := by decide +kernel
theorem dX12_go_86 : decode cX12_go 86 = .ok (.getfield 53, 3) := by decide +kernel
theorem dX12_go_89 : decode cX12_go 89 = .ok (.iload_n 3, 1) := by decide +kernel
theorem dX12_go_90 : decode cX12_go 90 = .ok (.iaload, 1) := by decide +kernel
theorem dX12_go_91 : decode cX12_go 91 = .ok (.invokestatic 209, 3) := by decide +kernel
theorem dX12_go_94 : decode cX12_go 94 = .ok (.aload_n 0, 1) := by decide +kernel
theorem dX12_go_95 : decode cX12_go 95 = .ok (.iload_n 3, 1) := by decide +kernel
theorem dX12_go_96 : decode cX12_go 96 = .ok (.iload_n 2, 1) := by decide +kernel
theorem dX12_go_97 : decode cX12_go 97 = .ok (.iload_n 2, 1) := by decide +kernel
theorem dX12_go_98 : decode cX12_go 98 = .ok (.invokevirtual 212, 3) := by decide +kernel
theorem dX12_go_101 : decode cX12_go 101 = .ok (.invokestatic 215, 3) := by decide +kernel
theorem dX12_go_104 : decode cX12_go 104 = .ok (.iinc 3 1, 3) := by decide +kernel
theorem dX12_go_107 : decode cX12_go 107 = .ok (.goto (-49), 3) := by decide +kernel
theorem dX12_go_110 : decode cX12_go 110 = .ok (.iconst 1, 1) := by decide +kernel
theorem dX12_go_111 : decode cX12_go 111 = .ok (.istore_n 3, 1) := by decide +kernel
theorem dX12_go_112 : decode cX12_go 112 = .ok (.iload_n 3, 1) := by decide +kernel
theorem dX12_go_113 : decode cX12_go 113 = .ok (.iconst 4, 1) := by decide +kernel
theorem dX12_go_114 : decode cX12_go 114 = .ok (.if_icmp .ge 196, 3) := by decide +kernel
theorem dX12_go_117 : decode cX12_go 117 = .ok (.iconst 0, 1) := by decide +kernel
theorem dX12_go_118 : decode cX12_go 118 = .ok (.istore 4, 2) := by decide +kernel
theorem dX12_go_120 : decode cX12_go 120 = .ok (.iload 4, 2) := by decide +kernel
theorem dX12_go_122 : decode cX12_go 122 = .ok (.aload_n 0, 1) := by decide +kernel
theorem dX12_go_123 : decode cX12_go 123 = .ok (.getfield 193, 3) := by decide +kernel
theorem dX12_go_126 : decode cX12_go 126 = .ok (.if_icmp .ge 16, 3) := by decide +kernel
theorem dX12_go_129 : decode cX12_go 129 = .ok (.aload_n 0, 1) := by decide +kernel
theorem dX12_go_130 : decode cX12_go 130 = .ok (.iload_n 3, 1) := by decide +kernel
theorem dX12_go_131 : decode cX12_go 131 = .ok (.iload 4, 2) := by decide +kernel
theorem dX12_go_133 : decode cX12_go 133 = .ok (.invokevirtual 219, 3) := by decide +kernel
theorem dX12_go_136 : decode cX12_go 136 = .ok (.iinc 4 1, 3) := by decide +kernel
theorem dX12_go_139 : decode cX12_go 139 = .ok (.goto (-19), 3) := by decide +kernel
theorem dX12_go_142 : decode cX12_go 142 = .ok (.iconst 0, 1) := by decide +kernel
theorem dX12_go_143 : decode cX12_go 143 = .ok (.istore 4, 2) := by decide +kernel
theorem dX12_go_145 : decode cX12_go 145 = .ok (.iload 4, 2) := by decide +kernel
theorem dX12_go_147 : decode cX12_go 147 = .ok (.bipush 28, 2) := by decide +kernel
theorem dX12_go_149 : decode cX12_go 149 = .ok (.if_icmp .ge 155, 3) := by decide +kernel
theorem dX12_go_152 : decode cX12_go 152 = .ok (.iconst 0, 1) := by decide +kernel
theorem dX12_go_153 : decode cX12_go 153 = .ok (.istore 5, 2) := by decide +kernel
theorem dX12_go_155 : decode cX12_go 155 = .ok (.iload 5, 2) := by decide +kernel
theorem dX12_go_157 : decode cX12_go 157 = .ok (.aload_n 0, 1) := by decide +kernel
theorem dX12_go_158 : decode cX12_go 158 = .ok (.getfield 147, 3) := by decide +kernel
theorem dX12_go_161 : decode cX12_go 161 = .ok (.if_icmp .ge 63, 3) := by decide +kernel
theorem dX12_go_164 : decode cX12_go 164 = .ok (.aload_n 0, 1) := by decide +kernel
theorem dX12_go_165 : decode cX12_go 165 = .ok (.getfield 101, 3) := by decide +kernel
theorem dX12_go_168 : decode cX12_go 168 = .ok (.iload_n 3, 1) := by decide +kernel
theorem dX12_go_169 : decode cX12_go 169 = .ok (.iload 4, 2) := by decide +kernel
theorem dX12_go_171 : decode cX12_go 171 = .ok (.iload 5, 2) := by decide +kernel
theorem dX12_go_173 : decode cX12_go 173 = .ok (.invokestatic 209, 3) := by decide +kernel
theorem dX12_go_176 : decode cX12_go 176 = .ok (.iaload, 1) := by decide +kernel
theorem dX12_go_177 : decode cX12_go 177 = .ok (.ldc 208, 2) := by decide +kernel
theorem dX12_go_179 : decode cX12_go 179 = .ok (.if_icmp .ge 39, 3) := by decide +kernel
theorem dX12_go_182 : decode cX12_go 182 = .ok (.aload_n 0, 1) := by decide +kernel
theorem dX12_go_183 : decode cX12_go 183 = .ok (.getfield 104, 3) := by decide +kernel
theorem dX12_go_186 : decode cX12_go 186 = .ok (.iload_n 3, 1) := by decide +kernel
theorem dX12_go_187 : decode cX12_go 187 = .ok (.iload 4, 2) := by decide +kernel
theorem dX12_go_189 : decode cX12_go 189 = .ok (.iload 5, 2) := by decide +kernel
theorem dX12_go_191 : decode cX12_go 191 = .ok (.invokestatic 209, 3) := by decide +kernel
theorem dX12_go_194 : decode cX12_go 194 = .ok (.aload_n 0, 1) := by decide +kernel
theorem dX12_go_195 : decode cX12_go 195 = .ok (.getfield 101, 3) := by decide +kernel
theorem dX12_go_198 : decode cX12_go 198 = .ok (.iload_n 3, 1) := by decide +kernel
theorem dX12_go_199 : decode cX12_go 199 = .ok (.iload 4, 2) := by decide +kernel
theorem dX12_go_201 : decode cX12_go 201 = .ok (.iload 5, 2) := by decide +kernel
theorem dX12_go_203 : decode cX12_go 203 = .ok (.invokestatic 209, 3) := by decide +kernel
theorem dX12_go_206 : decode cX12_go 206 = .ok (.iaload, 1) := by decide +kernel
theorem dX12_go_207 : decode cX12_go 207 = .ok (.aload_n 0, 1) := by decide +kernel
theorem dX12_go_208 : decode cX12_go 208 = .ok (.getfield 7, 3) := by decide +kernel
theorem dX12_go_211 : decode cX12_go 211 = .ok (.iload 5, 2) := by decide +kernel
theorem dX12_go_213 : decode cX12_go 213 = .ok (.iaload, 1) := by decide +kernel
theorem dX12_go_214 : decode cX12_go 214 = .ok (.iadd, 1) := by decide +kernel
theorem dX12_go_215 : decode cX12_go 215 = .ok (.invokestatic 215, 3) := by decide +kernel
theorem dX12_go_218 : decode cX12_go 218 = .ok (.iinc 5 1, 3) := by decide +kernel
theorem dX12_go_221 : decode cX12_go 221 = .ok (.goto (-66), 3) := by decide +kernel
theorem dX12_go_224 : decode cX12_go 224 = .ok (.iconst 0, 1) := by decide +kernel
theorem dX12_go_225 : decode cX12_go 225 = .ok (.istore 5, 2) := by decide +kernel
theorem dX12_go_227 : decode cX12_go 227 = .ok (.iload 5, 2) := by decide +kernel
theorem dX12_go_229 : decode cX12_go 229 = .ok (.aload_n 0, 1) := by decide +kernel
theorem dX12_go_230 : decode cX12_go 230 = .ok (.getfield 161, 3) := by decide +kernel
theorem dX12_go_233 : decode cX12_go 233 = .ok (.if_icmp .ge 65, 3) := by decide +kernel
theorem dX12_go_236 : decode cX12_go 236 = .ok (.aload_n 0, 1) := by decide +kernel
theorem dX12_go_237 : decode cX12_go 237 = .ok (.getfield 101, 3) := by decide +kernel
theorem dX12_go_240 : decode cX12_go 240 = .ok (.iload_n 3, 1) := by decide +kernel
theorem dX12_go_241 : decode cX12_go 241 = .ok (.iload 4, 2) := by decide +kernel
theorem dX12_go_243 : decode cX12_go 243 = .ok (.aload_n 0, 1) := by decide +kernel
theorem dX12_go_244 : decode cX12_go 244 = .ok (.getfield 50, 3) := by decide +kernel
theorem dX12_go_247 : decode cX12_go 247 = .ok (.iload 5, 2) := by decide +kernel
theorem dX12_go_249 : decode cX12_go 249 = .ok (.iaload, 1) := by decide +kernel
theorem dX12_go_250 : decode cX12_go 250 = .ok (.invokestatic 209, 3) := by decide +kernel
theorem dX12_go_253 : decode cX12_go 253 = .ok (.iaload, 1) := by decide +kernel
theorem dX12_go_254 : decode cX12_go 254 = .ok (.istore 6, 2) := by decide +kernel
theorem dX12_go_256 : decode cX12_go 256 = .ok (.iload 6, 2) := by decide +kernel
theorem dX12_go_258 : decode cX12_go 258 = .ok (.ldc 208, 2) := by decide +kernel
theorem dX12_go_260 : decode cX12_go 260 = .ok (.if_icmp .ge 32, 3) := by decide +kernel
theorem dX12_go_263 : decode cX12_go 263 = .ok (.aload_n 0, 1) := by decide +kernel
theorem dX12_go_264 : decode cX12_go 264 = .ok (.getfield 104, 3) := by decide +kernel
theorem dX12_go_267 : decode cX12_go 267 = .ok (.iload_n 3, 1) := by decide +kernel
theorem dX12_go_268 : decode cX12_go 268 = .ok (.iload 4, 2) := by decide +kernel
theorem dX12_go_270 : decode cX12_go 270 = .ok (.aload_n 0, 1) := by decide +kernel
theorem dX12_go_271 : decode cX12_go 271 = .ok (.getfield 53, 3) := by decide +kernel
theorem dX12_go_274 : decode cX12_go 274 = .ok (.iload 5, 2) := by decide +kernel
theorem dX12_go_276 : decode cX12_go 276 = .ok (.iaload, 1) := by decide +kernel
theorem dX12_go_277 : decode cX12_go 277 = .ok (.invokestatic 209, 3) := by decide +kernel
theorem dX12_go_280 : decode cX12_go 280 = .ok (.aload_n 0, 1) := by decide +kernel
theorem dX12_go_281 : decode cX12_go 281 = .ok (.iload 5, 2) := by decide +kernel
theorem dX12_go_283 : decode cX12_go 283 = .ok (.iload 6, 2) := by decide +kernel
theorem dX12_go_285 : decode cX12_go 285 = .ok (.iload_n 2, 1) := by decide +kernel
theorem dX12_go_286 : decode cX12_go 286 = .ok (.invokevirtual 212, 3) := by decide +kernel
theorem dX12_go_289 : decode cX12_go 289 = .ok (.invokestatic 215, 3) := by decide +kernel
theorem dX12_go_292 : decode cX12_go 292 = .ok (.iinc 5 1, 3) := by decide +kernel
theorem dX12_go_295 : decode cX12_go 295 = .ok (.goto (-68), 3) := by decide +kernel
theorem dX12_go_298 : decode cX12_go 298 = .ok (.iinc 4 1, 3) := by decide +kernel
theorem dX12_go_301 : decode cX12_go 301 = .ok (.goto (-156), 3) := by decide +kernel
theorem dX12_go_304 : decode cX12_go 304 = .ok (.iinc 3 1, 3) := by decide +kernel
theorem dX12_go_307 : decode cX12_go 307 = .ok (.goto (-195), 3) := by decide +kernel
theorem dX12_go_310 : decode cX12_go 310 = .ok (.return_, 1) := by decide +kernel
theorem dX12_least_0 : decode cX12_least 0 = .ok (.aload_n 0, 1) := by decide +kernel
theorem dX12_least_1 : decode cX12_least 1 = .ok (.iload_n 1, 1) := by decide +kernel
theorem dX12_least_2 : decode cX12_least 2 = .ok (.iload_n 2, 1) := by decide +kernel
theorem dX12_least_3 : decode cX12_least 3 = .ok (.aload_n 0, 1) := by decide +kernel
theorem dX12_least_4 : decode cX12_least 4 = .ok (.iload_n 1, 1) := by decide +kernel
theorem dX12_least_5 : decode cX12_least 5 = .ok (.iaload, 1) := by decide +kernel
theorem dX12_least_6 : decode cX12_least 6 = .ok (.if_icmp .ge 7, 3) := by decide +kernel
theorem dX12_least_9 : decode cX12_least 9 = .ok (.iload_n 2, 1) := by decide +kernel
theorem dX12_least_10 : decode cX12_least 10 = .ok (.goto 6, 3) := by decide +kernel
theorem dX12_least_13 : decode cX12_least 13 = .ok (.aload_n 0, 1) := by decide +kernel
theorem dX12_least_14 : decode cX12_least 14 = .ok (.iload_n 1, 1) := by decide +kernel
theorem dX12_least_15 : decode cX12_least 15 = .ok (.iaload, 1) := by decide +kernel
theorem dX12_least_16 : decode cX12_least 16 = .ok (.iastore, 1) := by decide +kernel
theorem dX12_least_17 : decode cX12_least 17 = .ok (.return_, 1) := by decide +kernel
theorem dX12_ride_0 : decode cX12_ride 0 = .ok (.aload_n 0, 1) := by decide +kernel
theorem dX12_ride_1 : decode cX12_ride 1 = .ok (.getfield 89, 3) := by decide +kernel
theorem dX12_ride_4 : decode cX12_ride 4 = .ok (.iload_n 2, 1) := by decide +kernel
theorem dX12_ride_5 : decode cX12_ride 5 = .ok (.iaload, 1) := by decide +kernel
theorem dX12_ride_6 : decode cX12_ride 6 = .ok (.istore_n 3, 1) := by decide +kernel
theorem dX12_ride_7 : decode cX12_ride 7 = .ok (.iconst 0, 1) := by decide +kernel
theorem dX12_ride_8 : decode cX12_ride 8 = .ok (.istore 4, 2) := by decide +kernel
theorem dX12_ride_10 : decode cX12_ride 10 = .ok (.iload 4, 2) := by decide +kernel
theorem dX12_ride_12 : decode cX12_ride 12 = .ok (.aload_n 0, 1) := by decide +kernel
theorem dX12_ride_13 : decode cX12_ride 13 = .ok (.getfield 31, 3) := by decide +kernel
theorem dX12_ride_16 : decode cX12_ride 16 = .ok (.iload_n 3, 1) := by decide +kernel
theorem dX12_ride_17 : decode cX12_ride 17 = .ok (.iaload, 1) := by decide +kernel
theorem dX12_ride_18 : decode cX12_ride 18 = .ok (.if_icmp .ge 182, 3) := by decide +kernel
theorem dX12_ride_21 : decode cX12_ride 21 = .ok (.iload 4, 2) := by decide +kernel
theorem dX12_ride_23 : decode cX12_ride 23 = .ok (.iconst 1, 1) := by decide +kernel
theorem dX12_ride_24 : decode cX12_ride 24 = .ok (.iadd, 1) := by decide +kernel
theorem dX12_ride_25 : decode cX12_ride 25 = .ok (.istore 5, 2) := by decide +kernel
theorem dX12_ride_27 : decode cX12_ride 27 = .ok (.iload 5, 2) := by decide +kernel
theorem dX12_ride_29 : decode cX12_ride 29 = .ok (.aload_n 0, 1) := by decide +kernel
theorem dX12_ride_30 : decode cX12_ride 30 = .ok (.getfield 31, 3) := by decide +kernel
theorem dX12_ride_33 : decode cX12_ride 33 = .ok (.iload_n 3, 1) := by decide +kernel
theorem dX12_ride_34 : decode cX12_ride 34 = .ok (.iaload, 1) := by decide +kernel
theorem dX12_ride_35 : decode cX12_ride 35 = .ok (.if_icmp .ge 159, 3) := by decide +kernel
theorem dX12_ride_38 : decode cX12_ride 38 = .ok (.aload_n 0, 1) := by decide +kernel
theorem dX12_ride_39 : decode cX12_ride 39 = .ok (.getfield 95, 3) := by decide +kernel
theorem dX12_ride_42 : decode cX12_ride 42 = .ok (.bipush 8, 2) := by decide +kernel
theorem dX12_ride_44 : decode cX12_ride 44 = .ok (.iload_n 2, 1) := by decide +kernel
theorem dX12_ride_45 : decode cX12_ride 45 = .ok (.imul, 1) := by decide +kernel
theorem dX12_ride_46 : decode cX12_ride 46 = .ok (.iload 5, 2) := by decide +kernel
theorem dX12_ride_48 : decode cX12_ride 48 = .ok (.iadd, 1) := by decide +kernel
theorem dX12_ride_49 : decode cX12_ride 49 = .ok (.iaload, 1) := by decide +kernel
theorem dX12_ride_50 : decode cX12_ride 50 = .ok (.aload_n 0, 1) := by decide +kernel
theorem dX12_ride_51 : decode cX12_ride 51 = .ok (.getfield 190, 3) := by decide +kernel
theorem dX12_ride_54 : decode cX12_ride 54 = .ok (.if_icmp .ge 134, 3) := by decide +kernel
theorem dX12_ride_57 : decode cX12_ride 57 = .ok (.aload_n 0, 1) := by decide +kernel
theorem dX12_ride_58 : decode cX12_ride 58 = .ok (.iload_n 3, 1) := by decide +kernel
theorem dX12_ride_59 : decode cX12_ride 59 = .ok (.aload_n 0, 1) := by decide +kernel
theorem dX12_ride_60 : decode cX12_ride 60 = .ok (.getfield 92, 3) := by decide +kernel
theorem dX12_ride_63 : decode cX12_ride 63 = .ok (.iload_n 2, 1) := by decide +kernel
theorem dX12_ride_64 : decode cX12_ride 64 = .ok (.iaload, 1) := by decide +kernel
theorem dX12_ride_65 : decode cX12_ride 65 = .ok (.iload 4, 2) := by decide +kernel
theorem dX12_ride_67 : decode cX12_ride 67 = .ok (.iload 5, 2) := by decide +kernel
theorem dX12_ride_69 : decode cX12_ride 69 = .ok (.invokevirtual 223, 3) := by decide +kernel
theorem dX12_ride_72 : decode cX12_ride 72 = .ok (.ifCond .ne 6, 3) := by decide +kernel
theorem dX12_ride_75 : decode cX12_ride 75 = .ok (.goto 113, 3) := by decide +kernel
theorem dX12_ride_78 : decode cX12_ride 78 = .ok (.aload_n 0, 1) := by decide +kernel
theorem dX12_ride_79 : decode cX12_ride 79 = .ok (.iload_n 3, 1) := by decide +kernel
theorem dX12_ride_80 : decode cX12_ride 80 = .ok (.iload 4, 2) := by decide +kernel
theorem dX12_ride_82 : decode cX12_ride 82 = .ok (.iload 5, 2) := by decide +kernel
theorem dX12_ride_84 : decode cX12_ride 84 = .ok (.invokevirtual 227, 3) := by decide +kernel
theorem dX12_ride_87 : decode cX12_ride 87 = .ok (.istore 6, 2) := by decide +kernel
theorem dX12_ride_89 : decode cX12_ride 89 = .ok (.iconst 0, 1) := by decide +kernel
theorem dX12_ride_90 : decode cX12_ride 90 = .ok (.istore 7, 2) := by decide +kernel
theorem dX12_ride_92 : decode cX12_ride 92 = .ok (.iload 7, 2) := by decide +kernel
theorem dX12_ride_94 : decode cX12_ride 94 = .ok (.iload 6, 2) := by decide +kernel
theorem dX12_ride_96 : decode cX12_ride 96 = .ok (.iadd, 1) := by decide +kernel
theorem dX12_ride_97 : decode cX12_ride 97 = .ok (.bipush 28, 2) := by decide +kernel
theorem dX12_ride_99 : decode cX12_ride 99 = .ok (.if_icmp .ge 89, 3) := by decide +kernel
theorem dX12_ride_102 : decode cX12_ride 102 = .ok (.aload_n 0, 1) := by decide +kernel
theorem dX12_ride_103 : decode cX12_ride 103 = .ok (.getfield 104, 3) := by decide +kernel
theorem dX12_ride_106 : decode cX12_ride 106 = .ok (.iload_n 1, 1) := by decide +kernel
theorem dX12_ride_107 : decode cX12_ride 107 = .ok (.iconst 1, 1) := by decide +kernel
theorem dX12_ride_108 : decode cX12_ride 108 = .ok (.isub, 1) := by decide +kernel
theorem dX12_ride_109 : decode cX12_ride 109 = .ok (.iload 7, 2) := by decide +kernel
theorem dX12_ride_111 : decode cX12_ride 111 = .ok (.aload_n 0, 1) := by decide +kernel
theorem dX12_ride_112 : decode cX12_ride 112 = .ok (.getfield 34, 3) := by decide +kernel
theorem dX12_ride_115 : decode cX12_ride 115 = .ok (.bipush 8, 2) := by decide +kernel
theorem dX12_ride_117 : decode cX12_ride 117 = .ok (.iload_n 3, 1) := by decide +kernel
theorem dX12_ride_118 : decode cX12_ride 118 = .ok (.imul, 1) := by decide +kernel
theorem dX12_ride_119 : decode cX12_ride 119 = .ok (.iload 4, 2) := by decide +kernel
theorem dX12_ride_121 : decode cX12_ride 121 = .ok (.iadd, 1) := by decide +kernel
theorem dX12_ride_122 : decode cX12_ride 122 = .ok (.iaload, 1) := by decide +kernel
theorem dX12_ride_123 : decode cX12_ride 123 = .ok (.invokestatic 209, 3) := by decide +kernel
theorem dX12_ride_126 : decode cX12_ride 126 = .ok (.iaload, 1) := by decide +kernel
theorem dX12_ride_127 : decode cX12_ride 127 = .ok (.aload_n 0, 1) := by decide +kernel
theorem dX12_ride_128 : decode cX12_ride 128 = .ok (.getfield 98, 3) := by decide +kernel
theorem dX12_ride_131 : decode cX12_ride 131 = .ok (.bipush 8, 2) := by decide +kernel
theorem dX12_ride_133 : decode cX12_ride 133 = .ok (.iload_n 2, 1) := by decide +kernel
theorem dX12_ride_134 : decode cX12_ride 134 = .ok (.imul, 1) := by decide +kernel
theorem dX12_ride_135 : decode cX12_ride 135 = .ok (.iload 4, 2) := by decide +kernel
theorem dX12_ride_137 : decode cX12_ride 137 = .ok (.iadd, 1) := by decide +kernel
theorem dX12_ride_138 : decode cX12_ride 138 = .ok (.iaload, 1) := by decide +kernel
theorem dX12_ride_139 : decode cX12_ride 139 = .ok (.if_icmp .gt 43, 3) := by decide +kernel
theorem dX12_ride_142 : decode cX12_ride 142 = .ok (.aload_n 0, 1) := by decide +kernel
theorem dX12_ride_143 : decode cX12_ride 143 = .ok (.getfield 101, 3) := by decide +kernel
theorem dX12_ride_146 : decode cX12_ride 146 = .ok (.iload_n 1, 1) := by decide +kernel
theorem dX12_ride_147 : decode cX12_ride 147 = .ok (.iload 7, 2) := by decide +kernel
theorem dX12_ride_149 : decode cX12_ride 149 = .ok (.iload 6, 2) := by decide +kernel
theorem dX12_ride_151 : decode cX12_ride 151 = .ok (.iadd, 1) := by decide +kernel
theorem dX12_ride_152 : decode cX12_ride 152 = .ok (.aload_n 0, 1) := by decide +kernel
theorem dX12_ride_153 : decode cX12_ride 153 = .ok (.getfield 34, 3) := by decide +kernel
theorem dX12_ride_156 : decode cX12_ride 156 = .ok (.bipush 8, 2) := by decide +kernel
theorem dX12_ride_158 : decode cX12_ride 158 = .ok (.iload_n 3, 1) := by decide +kernel
theorem dX12_ride_159 : decode cX12_ride 159 = .ok (.imul, 1) := by decide +kernel
theorem dX12_ride_160 : decode cX12_ride 160 = .ok (.iload 5, 2) := by decide +kernel
theorem dX12_ride_162 : decode cX12_ride 162 = .ok (.iadd, 1) := by decide +kernel
theorem dX12_ride_163 : decode cX12_ride 163 = .ok (.iaload, 1) := by decide +kernel
theorem dX12_ride_164 : decode cX12_ride 164 = .ok (.invokestatic 209, 3) := by decide +kernel
theorem dX12_ride_167 : decode cX12_ride 167 = .ok (.aload_n 0, 1) := by decide +kernel
theorem dX12_ride_168 : decode cX12_ride 168 = .ok (.getfield 95, 3) := by decide +kernel
theorem dX12_ride_171 : decode cX12_ride 171 = .ok (.bipush 8, 2) := by decide +kernel
theorem dX12_ride_173 : decode cX12_ride 173 = .ok (.iload_n 2, 1) := by decide +kernel
theorem dX12_ride_174 : decode cX12_ride 174 = .ok (.imul, 1) := by decide +kernel
theorem dX12_ride_175 : decode cX12_ride 175 = .ok (.iload 5, 2) := by decide +kernel
theorem dX12_ride_177 : decode cX12_ride 177 = .ok (.iadd, 1) := by decide +kernel
theorem dX12_ride_178 : decode cX12_ride 178 = .ok (.iaload, 1) := by decide +kernel
theorem dX12_ride_179 : decode cX12_ride 179 = .ok (.invokestatic 215, 3) := by decide +kernel
theorem dX12_ride_182 : decode cX12_ride 182 = .ok (.iinc 7 1, 3) := by decide +kernel
theorem dX12_ride_185 : decode cX12_ride 185 = .ok (.goto (-93), 3) := by decide +kernel
theorem dX12_ride_188 : decode cX12_ride 188 = .ok (.iinc 5 1, 3) := by decide +kernel
theorem dX12_ride_191 : decode cX12_ride 191 = .ok (.goto (-164), 3) := by decide +kernel
theorem dX12_ride_194 : decode cX12_ride 194 = .ok (.iinc 4 1, 3) := by decide +kernel
theorem dX12_ride_197 : decode cX12_ride 197 = .ok (.goto (-187), 3) := by decide +kernel
theorem dX12_ride_200 : decode cX12_ride 200 = .ok (.return_, 1) := by decide +kernel
theorem dX12_arrival_0 : decode cX12_arrival 0 = .ok (.iload_n 1, 1) := by decide +kernel
theorem dX12_arrival_1 : decode cX12_arrival 1 = .ok (.ifCond .le 17, 3) := by decide +kernel
theorem dX12_arrival_4 : decode cX12_arrival 4 = .ok (.aload_n 0, 1) := by decide +kernel
theorem dX12_arrival_5 : decode cX12_arrival 5 = .ok (.getfield 101, 3) := by decide +kernel
theorem dX12_arrival_8 : decode cX12_arrival 8 = .ok (.iload_n 1, 1) := by decide +kernel
theorem dX12_arrival_9 : decode cX12_arrival 9 = .ok (.iload_n 2, 1) := by decide +kernel
theorem dX12_arrival_10 : decode cX12_arrival 10 = .ok (.iload_n 3, 1) := by decide +kernel
theorem dX12_arrival_11 : decode cX12_arrival 11 = .ok (.invokestatic 209, 3) := by decide +kernel
theorem dX12_arrival_14 : decode cX12_arrival 14 = .ok (.iaload, 1) := by decide +kernel
theorem dX12_arrival_15 : decode cX12_arrival 15 = .ok (.goto 24, 3) := by decide +kernel
theorem dX12_arrival_18 : decode cX12_arrival 18 = .ok (.iload_n 2, 1) := by decide +kernel
theorem dX12_arrival_19 : decode cX12_arrival 19 = .ok (.ifCond .ne 18, 3) := by decide +kernel
theorem dX12_arrival_22 : decode cX12_arrival 22 = .ok (.iload_n 3, 1) := by decide +kernel
theorem dX12_arrival_23 : decode cX12_arrival 23 = .ok (.aload_n 0, 1) := by decide +kernel
theorem dX12_arrival_24 : decode cX12_arrival 24 = .ok (.getfield 205, 3) := by decide +kernel
theorem dX12_arrival_27 : decode cX12_arrival 27 = .ok (.if_icmp .ne 10, 3) := by decide +kernel
theorem dX12_arrival_30 : decode cX12_arrival 30 = .ok (.aload_n 0, 1) := by decide +kernel
theorem dX12_arrival_31 : decode cX12_arrival 31 = .ok (.getfield 187, 3) := by decide +kernel
theorem dX12_arrival_34 : decode cX12_arrival 34 = .ok (.goto 5, 3) := by decide +kernel
theorem dX12_arrival_37 : decode cX12_arrival 37 = .ok (.ldc 208, 2) := by decide +kernel
theorem dX12_arrival_39 : decode cX12_arrival 39 = .ok (.istore 4, 2) := by decide +kernel
theorem dX12_arrival_41 : decode cX12_arrival 41 = .ok (.iconst 0, 1) := by decide +kernel
theorem dX12_arrival_42 : decode cX12_arrival 42 = .ok (.istore 5, 2) := by decide +kernel
theorem dX12_arrival_44 : decode cX12_arrival 44 = .ok (.iload 5, 2) := by decide +kernel
theorem dX12_arrival_46 : decode cX12_arrival 46 = .ok (.aload_n 0, 1) := by decide +kernel
theorem dX12_arrival_47 : decode cX12_arrival 47 = .ok (.getfield 161, 3) := by decide +kernel
theorem dX12_arrival_50 : decode cX12_arrival 50 = .ok (.if_icmp .ge 116, 3) := by decide +kernel
theorem dX12_arrival_53 : decode cX12_arrival 53 = .ok (.aload_n 0, 1) := by decide +kernel
theorem dX12_arrival_54 : decode cX12_arrival 54 = .ok (.getfield 53, 3) := by decide +kernel
theorem dX12_arrival_57 : decode cX12_arrival 57 = .ok (.iload 5, 2) := by decide +kernel
theorem dX12_arrival_59 : decode cX12_arrival 59 = .ok (.iaload, 1) := by decide +kernel
theorem dX12_arrival_60 : decode cX12_arrival 60 = .ok (.iload_n 3, 1) := by decide +kernel
theorem dX12_arrival_61 : decode cX12_arrival 61 = .ok (.if_icmp .eq 6, 3) := by decide +kernel
theorem dX12_arrival_64 : decode cX12_arrival 64 = .ok (.goto 96, 3) := by decide +kernel
theorem dX12_arrival_67 : decode cX12_arrival 67 = .ok (.iload_n 1, 1) := by decide +kernel
theorem dX12_arrival_68 : decode cX12_arrival 68 = .ok (.ifCond .le 23, 3) := by decide +kernel
theorem dX12_arrival_71 : decode cX12_arrival 71 = .ok (.aload_n 0, 1) := by decide +kernel
theorem dX12_arrival_72 : decode cX12_arrival 72 = .ok (.getfield 101, 3) := by decide +kernel
theorem dX12_arrival_75 : decode cX12_arrival 75 = .ok (.iload_n 1, 1) := by decide +kernel
theorem dX12_arrival_76 : decode cX12_arrival 76 = .ok (.iload_n 2, 1) := by decide +kernel
theorem dX12_arrival_77 : decode cX12_arrival 77 = .ok (.aload_n 0, 1) := by decide +kernel
theorem dX12_arrival_78 : decode cX12_arrival 78 = .ok (.getfield 50, 3) := by decide +kernel
theorem dX12_arrival_81 : decode cX12_arrival 81 = .ok (.iload 5, 2) := by decide +kernel
theorem dX12_arrival_83 : decode cX12_arrival 83 = .ok (.iaload, 1) := by decide +kernel
theorem dX12_arrival_84 : decode cX12_arrival 84 = .ok (.invokestatic 209, 3) := by decide +kernel
theorem dX12_arrival_87 : decode cX12_arrival 87 = .ok (.iaload, 1) := by decide +kernel
theorem dX12_arrival_88 : decode cX12_arrival 88 = .ok (.goto 30, 3) := by decide +kernel
theorem dX12_arrival_91 : decode cX12_arrival 91 = .ok (.iload_n 2, 1) := by decide +kernel
theorem dX12_arrival_92 : decode cX12_arrival 92 = .ok (.ifCond .ne 24, 3) := by decide +kernel
theorem dX12_arrival_95 : decode cX12_arrival 95 = .ok (.aload_n 0, 1) := by decide +kernel
theorem dX12_arrival_96 : decode cX12_arrival 96 = .ok (.getfield 50, 3) := by decide +kernel
theorem dX12_arrival_99 : decode cX12_arrival 99 = .ok (.iload 5, 2) := by decide +kernel
theorem dX12_arrival_101 : decode cX12_arrival 101 = .ok (.iaload, 1) := by decide +kernel
theorem dX12_arrival_102 : decode cX12_arrival 102 = .ok (.aload_n 0, 1) := by decide +kernel
theorem dX12_arrival_103 : decode cX12_arrival 103 = .ok (.getfield 205, 3) := by decide +kernel
theorem dX12_arrival_106 : decode cX12_arrival 106 = .ok (.if_icmp .ne 10, 3) := by decide +kernel
theorem dX12_arrival_109 : decode cX12_arrival 109 = .ok (.aload_n 0, 1) := by decide +kernel
theorem dX12_arrival_110 : decode cX12_arrival 110 = .ok (.getfield 187, 3) := by decide +kernel
theorem dX12_arrival_113 : decode cX12_arrival 113 = .ok (.goto 5, 3) := by decide +kernel
theorem dX12_arrival_116 : decode cX12_arrival 116 = .ok (.ldc 208, 2) := by decide +kernel
theorem dX12_arrival_118 : decode cX12_arrival 118 = .ok (.istore 6, 2) := by decide +kernel
theorem dX12_arrival_120 : decode cX12_arrival 120 = .ok (.iload 6, 2) := by decide +kernel
theorem dX12_arrival_122 : decode cX12_arrival 122 = .ok (.ldc 208, 2) := by decide +kernel
theorem dX12_arrival_124 : decode cX12_arrival 124 = .ok (.if_icmp .ne 6, 3) := by decide +kernel
theorem dX12_arrival_127 : decode cX12_arrival 127 = .ok (.goto 33, 3) := by decide +kernel
theorem dX12_arrival_130 : decode cX12_arrival 130 = .ok (.aload_n 0, 1) := by decide +kernel
theorem dX12_arrival_131 : decode cX12_arrival 131 = .ok (.iload 5, 2) := by decide +kernel
theorem dX12_arrival_133 : decode cX12_arrival 133 = .ok (.iload 6, 2) := by decide +kernel
theorem dX12_arrival_135 : decode cX12_arrival 135 = .ok (.aload_n 0, 1) := by decide +kernel
theorem dX12_arrival_136 : decode cX12_arrival 136 = .ok (.getfield 187, 3) := by decide +kernel
theorem dX12_arrival_139 : decode cX12_arrival 139 = .ok (.invokevirtual 212, 3) := by decide +kernel
theorem dX12_arrival_142 : decode cX12_arrival 142 = .ok (.istore 7, 2) := by decide +kernel
theorem dX12_arrival_144 : decode cX12_arrival 144 = .ok (.iload 7, 2) := by decide +kernel
theorem dX12_arrival_146 : decode cX12_arrival 146 = .ok (.iload 4, 2) := by decide +kernel
theorem dX12_arrival_148 : decode cX12_arrival 148 = .ok (.if_icmp .ge 8, 3) := by decide +kernel
theorem dX12_arrival_151 : decode cX12_arrival 151 = .ok (.iload 7, 2) := by decide +kernel
theorem dX12_arrival_153 : decode cX12_arrival 153 = .ok (.goto 5, 3) := by decide +kernel
theorem dX12_arrival_156 : decode cX12_arrival 156 = .ok (.iload 4, 2) := by decide +kernel
theorem dX12_arrival_158 : decode cX12_arrival 158 = .ok (.istore 4, 2) := by decide +kernel
theorem dX12_arrival_160 : decode cX12_arrival 160 = .ok (.iinc 5 1, 3) := by decide +kernel
theorem dX12_arrival_163 : decode cX12_arrival 163 = .ok (.goto (-119), 3) := by decide +kernel
theorem dX12_arrival_166 : decode cX12_arrival 166 = .ok (.iload 4, 2) := by decide +kernel
theorem dX12_arrival_168 : decode cX12_arrival 168 = .ok (.aload_n 0, 1) := by decide +kernel
theorem dX12_arrival_169 : decode cX12_arrival 169 = .ok (.getfield 190, 3) := by decide +kernel
theorem dX12_arrival_172 : decode cX12_arrival 172 = .ok (.if_icmp .ge 8, 3) := by decide +kernel
theorem dX12_arrival_175 : decode cX12_arrival 175 = .ok (.iload 4, 2) := by decide +kernel
theorem dX12_arrival_177 : decode cX12_arrival 177 = .ok (.goto 5, 3) := by decide +kernel
theorem dX12_arrival_180 : decode cX12_arrival 180 = .ok (.ldc 208, 2) := by decide +kernel
theorem dX12_arrival_182 : decode cX12_arrival 182 = .ok (.ireturn, 1) := by decide +kernel
theorem dX12_soonestOf_0 : decode cX12_soonestOf 0 = .ok (.ldc 208, 2) := by decide +kernel
theorem dX12_soonestOf_2 : decode cX12_soonestOf 2 = .ok (.istore_n 2, 1) := by decide +kernel
theorem dX12_soonestOf_3 : decode cX12_soonestOf 3 = .ok (.iconst 0, 1) := by decide +kernel
theorem dX12_soonestOf_4 : decode cX12_soonestOf 4 = .ok (.istore_n 3, 1) := by decide +kernel
theorem dX12_soonestOf_5 : decode cX12_soonestOf 5 = .ok (.iload_n 3, 1) := by decide +kernel
theorem dX12_soonestOf_6 : decode cX12_soonestOf 6 = .ok (.iconst 4, 1) := by decide +kernel
theorem dX12_soonestOf_7 : decode cX12_soonestOf 7 = .ok (.if_icmp .ge 48, 3) := by decide +kernel
theorem dX12_soonestOf_10 : decode cX12_soonestOf 10 = .ok (.iconst 0, 1) := by decide +kernel
theorem dX12_soonestOf_11 : decode cX12_soonestOf 11 = .ok (.istore 4, 2) := by decide +kernel
theorem dX12_soonestOf_13 : decode cX12_soonestOf 13 = .ok (.iload 4, 2) := by decide +kernel
theorem dX12_soonestOf_15 : decode cX12_soonestOf 15 = .ok (.bipush 28, 2) := by decide +kernel
theorem dX12_soonestOf_17 : decode cX12_soonestOf 17 = .ok (.if_icmp .ge 32, 3) := by decide +kernel
theorem dX12_soonestOf_20 : decode cX12_soonestOf 20 = .ok (.aload_n 0, 1) := by decide +kernel
theorem dX12_soonestOf_21 : decode cX12_soonestOf 21 = .ok (.iload_n 3, 1) := by decide +kernel
theorem dX12_soonestOf_22 : decode cX12_soonestOf 22 = .ok (.iload 4, 2) := by decide +kernel
theorem dX12_soonestOf_24 : decode cX12_soonestOf 24 = .ok (.iload_n 1, 1) := by decide +kernel
theorem dX12_soonestOf_25 : decode cX12_soonestOf 25 = .ok (.invokevirtual 230, 3) := by decide +kernel
theorem dX12_soonestOf_28 : decode cX12_soonestOf 28 = .ok (.istore 5, 2) := by decide +kernel
theorem dX12_soonestOf_30 : decode cX12_soonestOf 30 = .ok (.iload 5, 2) := by decide +kernel
theorem dX12_soonestOf_32 : decode cX12_soonestOf 32 = .ok (.iload_n 2, 1) := by decide +kernel
theorem dX12_soonestOf_33 : decode cX12_soonestOf 33 = .ok (.if_icmp .ge 8, 3) := by decide +kernel
theorem dX12_soonestOf_36 : decode cX12_soonestOf 36 = .ok (.iload 5, 2) := by decide +kernel
theorem dX12_soonestOf_38 : decode cX12_soonestOf 38 = .ok (.goto 4, 3) := by decide +kernel
theorem dX12_soonestOf_41 : decode cX12_soonestOf 41 = .ok (.iload_n 2, 1) := by decide +kernel
theorem dX12_soonestOf_42 : decode cX12_soonestOf 42 = .ok (.istore_n 2, 1) := by decide +kernel
theorem dX12_soonestOf_43 : decode cX12_soonestOf 43 = .ok (.iinc 4 1, 3) := by decide +kernel
theorem dX12_soonestOf_46 : decode cX12_soonestOf 46 = .ok (.goto (-33), 3) := by decide +kernel
theorem dX12_soonestOf_49 : decode cX12_soonestOf 49 = .ok (.iinc 3 1, 3) := by decide +kernel
theorem dX12_soonestOf_52 : decode cX12_soonestOf 52 = .ok (.goto (-47), 3) := by decide +kernel
theorem dX12_soonestOf_55 : decode cX12_soonestOf 55 = .ok (.iload_n 2, 1) := by decide +kernel
theorem dX12_soonestOf_56 : decode cX12_soonestOf 56 = .ok (.ireturn, 1) := by decide +kernel
theorem dX12_putWalk_0 : decode cX12_putWalk 0 = .ok (.bipush 9, 2) := by decide +kernel
theorem dX12_putWalk_2 : decode cX12_putWalk 2 = .ok (.aload_n 0, 1) := by decide +kernel
theorem dX12_putWalk_3 : decode cX12_putWalk 3 = .ok (.getfield 233, 3) := by decide +kernel
theorem dX12_putWalk_6 : decode cX12_putWalk 6 = .ok (.imul, 1) := by decide +kernel
theorem dX12_putWalk_7 : decode cX12_putWalk 7 = .ok (.istore_n 2, 1) := by decide +kernel
theorem dX12_putWalk_8 : decode cX12_putWalk 8 = .ok (.aload_n 0, 1) := by decide +kernel
theorem dX12_putWalk_9 : decode cX12_putWalk 9 = .ok (.getfield 125, 3) := by decide +kernel
theorem dX12_putWalk_12 : decode cX12_putWalk 12 = .ok (.iload_n 2, 1) := by decide +kernel
theorem dX12_putWalk_13 : decode cX12_putWalk 13 = .ok (.aload_n 0, 1) := by decide +kernel
theorem dX12_putWalk_14 : decode cX12_putWalk 14 = .ok (.getfield 59, 3) := by decide +kernel
theorem dX12_putWalk_17 : decode cX12_putWalk 17 = .ok (.iload_n 1, 1) := by decide +kernel
theorem dX12_putWalk_18 : decode cX12_putWalk 18 = .ok (.iaload, 1) := by decide +kernel
theorem dX12_putWalk_19 : decode cX12_putWalk 19 = .ok (.iastore, 1) := by decide +kernel
theorem dX12_putWalk_20 : decode cX12_putWalk 20 = .ok (.aload_n 0, 1) := by decide +kernel
theorem dX12_putWalk_21 : decode cX12_putWalk 21 = .ok (.getfield 125, 3) := by decide +kernel
theorem dX12_putWalk_24 : decode cX12_putWalk 24 = .ok (.iload_n 2, 1) := by decide +kernel
theorem dX12_putWalk_25 : decode cX12_putWalk 25 = .ok (.iconst 1, 1) := by decide +kernel
theorem dX12_putWalk_26 : decode cX12_putWalk 26 = .ok (.iadd, 1) := by decide +kernel
theorem dX12_putWalk_27 : decode cX12_putWalk 27 = .ok (.iload_n 1, 1) := by decide +kernel
theorem dX12_putWalk_28 : decode cX12_putWalk 28 = .ok (.iastore, 1) := by decide +kernel
theorem dX12_putWalk_29 : decode cX12_putWalk 29 = .ok (.aload_n 0, 1) := by decide +kernel
theorem dX12_putWalk_30 : decode cX12_putWalk 30 = .ok (.getfield 125, 3) := by decide +kernel
theorem dX12_putWalk_33 : decode cX12_putWalk 33 = .ok (.iload_n 2, 1) := by decide +kernel
theorem dX12_putWalk_34 : decode cX12_putWalk 34 = .ok (.iconst 2, 1) := by decide +kernel
theorem dX12_putWalk_35 : decode cX12_putWalk 35 = .ok (.iadd, 1) := by decide +kernel
theorem dX12_putWalk_36 : decode cX12_putWalk 36 = .ok (.aload_n 0, 1) := by decide +kernel
theorem dX12_putWalk_37 : decode cX12_putWalk 37 = .ok (.getfield 50, 3) := by decide +kernel
theorem dX12_putWalk_40 : decode cX12_putWalk 40 = .ok (.iload_n 1, 1) := by decide +kernel
theorem dX12_putWalk_41 : decode cX12_putWalk 41 = .ok (.iaload, 1) := by decide +kernel
theorem dX12_putWalk_42 : decode cX12_putWalk 42 = .ok (.iastore, 1) := by decide +kernel
theorem dX12_putWalk_43 : decode cX12_putWalk 43 = .ok (.aload_n 0, 1) := by decide +kernel
theorem dX12_putWalk_44 : decode cX12_putWalk 44 = .ok (.getfield 125, 3) := by decide +kernel
theorem dX12_putWalk_47 : decode cX12_putWalk 47 = .ok (.iload_n 2, 1) := by decide +kernel
theorem dX12_putWalk_48 : decode cX12_putWalk 48 = .ok (.iconst 3, 1) := by decide +kernel
theorem dX12_putWalk_49 : decode cX12_putWalk 49 = .ok (.iadd, 1) := by decide +kernel
theorem dX12_putWalk_50 : decode cX12_putWalk 50 = .ok (.aload_n 0, 1) := by decide +kernel
theorem dX12_putWalk_51 : decode cX12_putWalk 51 = .ok (.getfield 53, 3) := by decide +kernel
theorem dX12_putWalk_54 : decode cX12_putWalk 54 = .ok (.iload_n 1, 1) := by decide +kernel
theorem dX12_putWalk_55 : decode cX12_putWalk 55 = .ok (.iaload, 1) := by decide +kernel
theorem dX12_putWalk_56 : decode cX12_putWalk 56 = .ok (.iastore, 1) := by decide +kernel
theorem dX12_putWalk_57 : decode cX12_putWalk 57 = .ok (.aload_n 0, 1) := by decide +kernel
theorem dX12_putWalk_58 : decode cX12_putWalk 58 = .ok (.getfield 125, 3) := by decide +kernel
theorem dX12_putWalk_61 : decode cX12_putWalk 61 = .ok (.iload_n 2, 1) := by decide +kernel
theorem dX12_putWalk_62 : decode cX12_putWalk 62 = .ok (.bipush 6, 2) := by decide +kernel
theorem dX12_putWalk_64 : decode cX12_putWalk 64 = .ok (.iadd, 1) := by decide +kernel
theorem dX12_putWalk_65 : decode cX12_putWalk 65 = .ok (.iconst (-1), 1) := by decide +kernel
theorem dX12_putWalk_66 : decode cX12_putWalk 66 = .ok (.iastore, 1) := by decide +kernel
theorem dX12_putWalk_67 : decode cX12_putWalk 67 = .ok (.aload_n 0, 1) := by decide +kernel
theorem dX12_putWalk_68 : decode cX12_putWalk 68 = .ok (.getfield 125, 3) := by decide +kernel
theorem dX12_putWalk_71 : decode cX12_putWalk 71 = .ok (.iload_n 2, 1) := by decide +kernel
theorem dX12_putWalk_72 : decode cX12_putWalk 72 = .ok (.bipush 7, 2) := by decide +kernel
theorem dX12_putWalk_74 : decode cX12_putWalk 74 = .ok (.iadd, 1) := by decide +kernel
theorem dX12_putWalk_75 : decode cX12_putWalk 75 = .ok (.iconst (-1), 1) := by decide +kernel
theorem dX12_putWalk_76 : decode cX12_putWalk 76 = .ok (.iastore, 1) := by decide +kernel
theorem dX12_putWalk_77 : decode cX12_putWalk 77 = .ok (.aload_n 0, 1) := by decide +kernel
theorem dX12_putWalk_78 : decode cX12_putWalk 78 = .ok (.getfield 125, 3) := by decide +kernel
theorem dX12_putWalk_81 : decode cX12_putWalk 81 = .ok (.iload_n 2, 1) := by decide +kernel
theorem dX12_putWalk_82 : decode cX12_putWalk 82 = .ok (.bipush 8, 2) := by decide +kernel
theorem dX12_putWalk_84 : decode cX12_putWalk 84 = .ok (.iadd, 1) := by decide +kernel
theorem dX12_putWalk_85 : decode cX12_putWalk 85 = .ok (.iconst (-1), 1) := by decide +kernel
theorem dX12_putWalk_86 : decode cX12_putWalk 86 = .ok (.iastore, 1) := by decide +kernel
theorem dX12_putWalk_87 : decode cX12_putWalk 87 = .ok (.aload_n 0, 1) := by decide +kernel
theorem dX12_putWalk_88 : decode cX12_putWalk 88 = .ok (.dup, 1) := by decide +kernel
theorem dX12_putWalk_89 : decode cX12_putWalk 89 = .ok (.getfield 233, 3) := by decide +kernel
theorem dX12_putWalk_92 : decode cX12_putWalk 92 = .ok (.iconst 1, 1) := by decide +kernel
theorem dX12_putWalk_93 : decode cX12_putWalk 93 = .ok (.iadd, 1) := by decide +kernel
theorem dX12_putWalk_94 : decode cX12_putWalk 94 = .ok (.putfield 233, 3) := by decide +kernel
theorem dX12_putWalk_97 : decode cX12_putWalk 97 = .ok (.return_, 1) := by decide +kernel
theorem dX12_putRide_0 : decode cX12_putRide 0 = .ok (.aload_n 0, 1) := by decide +kernel
theorem dX12_putRide_1 : decode cX12_putRide 1 = .ok (.getfield 89, 3) := by decide +kernel
theorem dX12_putRide_4 : decode cX12_putRide 4 = .ok (.iload_n 1, 1) := by decide +kernel
theorem dX12_putRide_5 : decode cX12_putRide 5 = .ok (.iaload, 1) := by decide +kernel
theorem dX12_putRide_6 : decode cX12_putRide 6 = .ok (.istore 4, 2) := by decide +kernel
theorem dX12_putRide_8 : decode cX12_putRide 8 = .ok (.bipush 9, 2) := by decide +kernel
theorem dX12_putRide_10 : decode cX12_putRide 10 = .ok (.aload_n 0, 1) := by decide +kernel
theorem dX12_putRide_11 : decode cX12_putRide 11 = .ok (.getfield 233, 3) := by decide +kernel
theorem dX12_putRide_14 : decode cX12_putRide 14 = .ok (.imul, 1) := by decide +kernel
theorem dX12_putRide_15 : decode cX12_putRide 15 = .ok (.istore 5, 2) := by decide +kernel
theorem dX12_putRide_17 : decode cX12_putRide 17 = .ok (.aload_n 0, 1) := by decide +kernel
theorem dX12_putRide_18 : decode cX12_putRide 18 = .ok (.getfield 125, 3) := by decide +kernel
theorem dX12_putRide_21 : decode cX12_putRide 21 = .ok (.iload 5, 2) := by decide +kernel
theorem dX12_putRide_23 : decode cX12_putRide 23 = .ok (.aload_n 0, 1) := by decide +kernel
theorem dX12_putRide_24 : decode cX12_putRide 24 = .ok (.getfield 22, 3) := by decide +kernel
theorem dX12_putRide_27 : decode cX12_putRide 27 = .ok (.iload 4, 2) := by decide +kernel
theorem dX12_putRide_29 : decode cX12_putRide 29 = .ok (.iaload, 1) := by decide +kernel
theorem dX12_putRide_30 : decode cX12_putRide 30 = .ok (.iastore, 1) := by decide +kernel
theorem dX12_putRide_31 : decode cX12_putRide 31 = .ok (.aload_n 0, 1) := by decide +kernel
theorem dX12_putRide_32 : decode cX12_putRide 32 = .ok (.getfield 125, 3) := by decide +kernel
theorem dX12_putRide_35 : decode cX12_putRide 35 = .ok (.iload 5, 2) := by decide +kernel
theorem dX12_putRide_37 : decode cX12_putRide 37 = .ok (.iconst 1, 1) := by decide +kernel
theorem dX12_putRide_38 : decode cX12_putRide 38 = .ok (.iadd, 1) := by decide +kernel
theorem dX12_putRide_39 : decode cX12_putRide 39 = .ok (.iload 4, 2) := by decide +kernel
theorem dX12_putRide_41 : decode cX12_putRide 41 = .ok (.iastore, 1) := by decide +kernel
theorem dX12_putRide_42 : decode cX12_putRide 42 = .ok (.aload_n 0, 1) := by decide +kernel
theorem dX12_putRide_43 : decode cX12_putRide 43 = .ok (.getfield 125, 3) := by decide +kernel
theorem dX12_putRide_46 : decode cX12_putRide 46 = .ok (.iload 5, 2) := by decide +kernel
theorem dX12_putRide_48 : decode cX12_putRide 48 = .ok (.iconst 2, 1) := by decide +kernel
theorem dX12_putRide_49 : decode cX12_putRide 49 = .ok (.iadd, 1) := by decide +kernel
theorem dX12_putRide_50 : decode cX12_putRide 50 = .ok (.aload_n 0, 1) := by decide +kernel
theorem dX12_putRide_51 : decode cX12_putRide 51 = .ok (.getfield 34, 3) := by decide +kernel
theorem dX12_putRide_54 : decode cX12_putRide 54 = .ok (.bipush 8, 2) := by decide +kernel
theorem dX12_putRide_56 : decode cX12_putRide 56 = .ok (.iload 4, 2) := by decide +kernel
theorem dX12_putRide_58 : decode cX12_putRide 58 = .ok (.imul, 1) := by decide +kernel
theorem dX12_putRide_59 : decode cX12_putRide 59 = .ok (.iload_n 2, 1) := by decide +kernel
theorem dX12_putRide_60 : decode cX12_putRide 60 = .ok (.iadd, 1) := by decide +kernel
theorem dX12_putRide_61 : decode cX12_putRide 61 = .ok (.iaload, 1) := by decide +kernel
theorem dX12_putRide_62 : decode cX12_putRide 62 = .ok (.iastore, 1) := by decide +kernel
theorem dX12_putRide_63 : decode cX12_putRide 63 = .ok (.aload_n 0, 1) := by decide +kernel
theorem dX12_putRide_64 : decode cX12_putRide 64 = .ok (.getfield 125, 3) := by decide +kernel
theorem dX12_putRide_67 : decode cX12_putRide 67 = .ok (.iload 5, 2) := by decide +kernel
theorem dX12_putRide_69 : decode cX12_putRide 69 = .ok (.iconst 3, 1) := by decide +kernel
theorem dX12_putRide_70 : decode cX12_putRide 70 = .ok (.iadd, 1) := by decide +kernel
theorem dX12_putRide_71 : decode cX12_putRide 71 = .ok (.aload_n 0, 1) := by decide +kernel
theorem dX12_putRide_72 : decode cX12_putRide 72 = .ok (.getfield 34, 3) := by decide +kernel
theorem dX12_putRide_75 : decode cX12_putRide 75 = .ok (.bipush 8, 2) := by decide +kernel
theorem dX12_putRide_77 : decode cX12_putRide 77 = .ok (.iload 4, 2) := by decide +kernel
theorem dX12_putRide_79 : decode cX12_putRide 79 = .ok (.imul, 1) := by decide +kernel
theorem dX12_putRide_80 : decode cX12_putRide 80 = .ok (.iload_n 3, 1) := by decide +kernel
theorem dX12_putRide_81 : decode cX12_putRide 81 = .ok (.iadd, 1) := by decide +kernel
theorem dX12_putRide_82 : decode cX12_putRide 82 = .ok (.iaload, 1) := by decide +kernel
theorem dX12_putRide_83 : decode cX12_putRide 83 = .ok (.iastore, 1) := by decide +kernel
theorem dX12_putRide_84 : decode cX12_putRide 84 = .ok (.aload_n 0, 1) := by decide +kernel
theorem dX12_putRide_85 : decode cX12_putRide 85 = .ok (.getfield 125, 3) := by decide +kernel
theorem dX12_putRide_88 : decode cX12_putRide 88 = .ok (.iload 5, 2) := by decide +kernel
theorem dX12_putRide_90 : decode cX12_putRide 90 = .ok (.iconst 4, 1) := by decide +kernel
theorem dX12_putRide_91 : decode cX12_putRide 91 = .ok (.iadd, 1) := by decide +kernel
theorem dX12_putRide_92 : decode cX12_putRide 92 = .ok (.aload_n 0, 1) := by decide +kernel
theorem dX12_putRide_93 : decode cX12_putRide 93 = .ok (.getfield 98, 3) := by decide +kernel
theorem dX12_putRide_96 : decode cX12_putRide 96 = .ok (.bipush 8, 2) := by decide +kernel
theorem dX12_putRide_98 : decode cX12_putRide 98 = .ok (.iload_n 1, 1) := by decide +kernel
theorem dX12_putRide_99 : decode cX12_putRide 99 = .ok (.imul, 1) := by decide +kernel
theorem dX12_putRide_100 : decode cX12_putRide 100 = .ok (.iload_n 2, 1) := by decide +kernel
theorem dX12_putRide_101 : decode cX12_putRide 101 = .ok (.iadd, 1) := by decide +kernel
theorem dX12_putRide_102 : decode cX12_putRide 102 = .ok (.iaload, 1) := by decide +kernel
theorem dX12_putRide_103 : decode cX12_putRide 103 = .ok (.iastore, 1) := by decide +kernel
theorem dX12_putRide_104 : decode cX12_putRide 104 = .ok (.aload_n 0, 1) := by decide +kernel
theorem dX12_putRide_105 : decode cX12_putRide 105 = .ok (.getfield 125, 3) := by decide +kernel
theorem dX12_putRide_108 : decode cX12_putRide 108 = .ok (.iload 5, 2) := by decide +kernel
theorem dX12_putRide_110 : decode cX12_putRide 110 = .ok (.iconst 5, 1) := by decide +kernel
theorem dX12_putRide_111 : decode cX12_putRide 111 = .ok (.iadd, 1) := by decide +kernel
theorem dX12_putRide_112 : decode cX12_putRide 112 = .ok (.aload_n 0, 1) := by decide +kernel
theorem dX12_putRide_113 : decode cX12_putRide 113 = .ok (.getfield 95, 3) := by decide +kernel
theorem dX12_putRide_116 : decode cX12_putRide 116 = .ok (.bipush 8, 2) := by decide +kernel
theorem dX12_putRide_118 : decode cX12_putRide 118 = .ok (.iload_n 1, 1) := by decide +kernel
theorem dX12_putRide_119 : decode cX12_putRide 119 = .ok (.imul, 1) := by decide +kernel
theorem dX12_putRide_120 : decode cX12_putRide 120 = .ok (.iload_n 3, 1) := by decide +kernel
theorem dX12_putRide_121 : decode cX12_putRide 121 = .ok (.iadd, 1) := by decide +kernel
theorem dX12_putRide_122 : decode cX12_putRide 122 = .ok (.iaload, 1) := by decide +kernel
theorem dX12_putRide_123 : decode cX12_putRide 123 = .ok (.iastore, 1) := by decide +kernel
theorem dX12_putRide_124 : decode cX12_putRide 124 = .ok (.aload_n 0, 1) := by decide +kernel
theorem dX12_putRide_125 : decode cX12_putRide 125 = .ok (.getfield 125, 3) := by decide +kernel
theorem dX12_putRide_128 : decode cX12_putRide 128 = .ok (.iload 5, 2) := by decide +kernel
theorem dX12_putRide_130 : decode cX12_putRide 130 = .ok (.bipush 6, 2) := by decide +kernel
theorem dX12_putRide_132 : decode cX12_putRide 132 = .ok (.iadd, 1) := by decide +kernel
theorem dX12_putRide_133 : decode cX12_putRide 133 = .ok (.aload_n 0, 1) := by decide +kernel
theorem dX12_putRide_134 : decode cX12_putRide 134 = .ok (.getfield 92, 3) := by decide +kernel
theorem dX12_putRide_137 : decode cX12_putRide 137 = .ok (.iload_n 1, 1) := by decide +kernel
theorem dX12_putRide_138 : decode cX12_putRide 138 = .ok (.iaload, 1) := by decide +kernel
theorem dX12_putRide_139 : decode cX12_putRide 139 = .ok (.iastore, 1) := by decide +kernel
theorem dX12_putRide_140 : decode cX12_putRide 140 = .ok (.aload_n 0, 1) := by decide +kernel
theorem dX12_putRide_141 : decode cX12_putRide 141 = .ok (.getfield 125, 3) := by decide +kernel
theorem dX12_putRide_144 : decode cX12_putRide 144 = .ok (.iload 5, 2) := by decide +kernel
theorem dX12_putRide_146 : decode cX12_putRide 146 = .ok (.bipush 7, 2) := by decide +kernel
theorem dX12_putRide_148 : decode cX12_putRide 148 = .ok (.iadd, 1) := by decide +kernel
theorem dX12_putRide_149 : decode cX12_putRide 149 = .ok (.iload_n 2, 1) := by decide +kernel
theorem dX12_putRide_150 : decode cX12_putRide 150 = .ok (.iastore, 1) := by decide +kernel
theorem dX12_putRide_151 : decode cX12_putRide 151 = .ok (.aload_n 0, 1) := by decide +kernel
theorem dX12_putRide_152 : decode cX12_putRide 152 = .ok (.getfield 125, 3) := by decide +kernel
theorem dX12_putRide_155 : decode cX12_putRide 155 = .ok (.iload 5, 2) := by decide +kernel
theorem dX12_putRide_157 : decode cX12_putRide 157 = .ok (.bipush 8, 2) := by decide +kernel
theorem dX12_putRide_159 : decode cX12_putRide 159 = .ok (.iadd, 1) := by decide +kernel
theorem dX12_putRide_160 : decode cX12_putRide 160 = .ok (.iload_n 3, 1) := by decide +kernel
theorem dX12_putRide_161 : decode cX12_putRide 161 = .ok (.iastore, 1) := by decide +kernel
theorem dX12_putRide_162 : decode cX12_putRide 162 = .ok (.aload_n 0, 1) := by decide +kernel
theorem dX12_putRide_163 : decode cX12_putRide 163 = .ok (.dup, 1) := by decide +kernel
theorem dX12_putRide_164 : decode cX12_putRide 164 = .ok (.getfield 233, 3) := by decide +kernel
theorem dX12_putRide_167 : decode cX12_putRide 167 = .ok (.iconst 1, 1) := by decide +kernel
theorem dX12_putRide_168 : decode cX12_putRide 168 = .ok (.iadd, 1) := by decide +kernel
theorem dX12_putRide_169 : decode cX12_putRide 169 = .ok (.putfield 233, 3) := by decide +kernel
theorem dX12_putRide_172 : decode cX12_putRide 172 = .ok (.return_, 1) := by decide +kernel
theorem dX12_findRide_0 : decode cX12_findRide 0 = .ok (.iconst 0, 1) := by decide +kernel
theorem dX12_findRide_1 : decode cX12_findRide 1 = .ok (.istore 7, 2) := by decide +kernel
theorem dX12_findRide_3 : decode cX12_findRide 3 = .ok (.iload 7, 2) := by decide +kernel
theorem dX12_findRide_5 : decode cX12_findRide 5 = .ok (.aload_n 0, 1) := by decide +kernel
theorem dX12_findRide_6 : decode cX12_findRide 6 = .ok (.getfield 193, 3) := by decide +kernel
theorem dX12_findRide_9 : decode cX12_findRide 9 = .ok (.if_icmp .ge 288, 3) := by decide +kernel
theorem dX12_findRide_12 : decode cX12_findRide 12 = .ok (.aload_n 0, 1) := by decide +kernel
theorem dX12_findRide_13 : decode cX12_findRide 13 = .ok (.getfield 89, 3) := by decide +kernel
theorem dX12_findRide_16 : decode cX12_findRide 16 = .ok (.iload 7, 2) := by decide +kernel
theorem dX12_findRide_18 : decode cX12_findRide 18 = .ok (.iaload, 1) := by decide +kernel
theorem dX12_findRide_19 : decode cX12_findRide 19 = .ok (.istore 8, 2) := by decide +kernel
theorem dX12_findRide_21 : decode cX12_findRide 21 = .ok (.iconst 0, 1) := by decide +kernel
theorem dX12_findRide_22 : decode cX12_findRide 22 = .ok (.istore 9, 2) := by decide +kernel
theorem dX12_findRide_24 : decode cX12_findRide 24 = .ok (.iload 9, 2) := by decide +kernel
theorem dX12_findRide_26 : decode cX12_findRide 26 = .ok (.aload_n 0, 1) := by decide +kernel
theorem dX12_findRide_27 : decode cX12_findRide 27 = .ok (.getfield 31, 3) := by decide +kernel
theorem dX12_findRide_30 : decode cX12_findRide 30 = .ok (.iload 8, 2) := by decide +kernel
theorem dX12_findRide_32 : decode cX12_findRide 32 = .ok (.iaload, 1) := by decide +kernel
theorem dX12_findRide_33 : decode cX12_findRide 33 = .ok (.if_icmp .ge 258, 3) := by decide +kernel
theorem dX12_findRide_36 : decode cX12_findRide 36 = .ok (.iload 9, 2) := by decide +kernel
theorem dX12_findRide_38 : decode cX12_findRide 38 = .ok (.iconst 1, 1) := by decide +kernel
theorem dX12_findRide_39 : decode cX12_findRide 39 = .ok (.iadd, 1) := by decide +kernel
theorem dX12_findRide_40 : decode cX12_findRide 40 = .ok (.istore 10, 2) := by decide +kernel
theorem dX12_findRide_42 : decode cX12_findRide 42 = .ok (.iload 10, 2) := by decide +kernel
theorem dX12_findRide_44 : decode cX12_findRide 44 = .ok (.aload_n 0, 1) := by decide +kernel
theorem dX12_findRide_45 : decode cX12_findRide 45 = .ok (.getfield 31, 3) := by decide +kernel
theorem dX12_findRide_48 : decode cX12_findRide 48 = .ok (.iload 8, 2) := by decide +kernel
theorem dX12_findRide_50 : decode cX12_findRide 50 = .ok (.iaload, 1) := by decide +kernel
theorem dX12_findRide_51 : decode cX12_findRide 51 = .ok (.if_icmp .ge 234, 3) := by decide +kernel
theorem dX12_findRide_54 : decode cX12_findRide 54 = .ok (.aload_n 0, 1) := by decide +kernel
theorem dX12_findRide_55 : decode cX12_findRide 55 = .ok (.getfield 34, 3) := by decide +kernel
theorem dX12_findRide_58 : decode cX12_findRide 58 = .ok (.bipush 8, 2) := by decide +kernel
theorem dX12_findRide_60 : decode cX12_findRide 60 = .ok (.iload 8, 2) := by decide +kernel
theorem dX12_findRide_62 : decode cX12_findRide 62 = .ok (.imul, 1) := by decide +kernel
theorem dX12_findRide_63 : decode cX12_findRide 63 = .ok (.iload 10, 2) := by decide +kernel
theorem dX12_findRide_65 : decode cX12_findRide 65 = .ok (.iadd, 1) := by decide +kernel
theorem dX12_findRide_66 : decode cX12_findRide 66 = .ok (.iaload, 1) := by decide +kernel
theorem dX12_findRide_67 : decode cX12_findRide 67 = .ok (.iload_n 3, 1) := by decide +kernel
theorem dX12_findRide_68 : decode cX12_findRide 68 = .ok (.if_icmp .ne 211, 3) := by decide +kernel
theorem dX12_findRide_71 : decode cX12_findRide 71 = .ok (.aload_n 0, 1) := by decide +kernel
theorem dX12_findRide_72 : decode cX12_findRide 72 = .ok (.getfield 95, 3) := by decide +kernel
theorem dX12_findRide_75 : decode cX12_findRide 75 = .ok (.bipush 8, 2) := by decide +kernel
theorem dX12_findRide_77 : decode cX12_findRide 77 = .ok (.iload 7, 2) := by decide +kernel
theorem dX12_findRide_79 : decode cX12_findRide 79 = .ok (.imul, 1) := by decide +kernel
theorem dX12_findRide_80 : decode cX12_findRide 80 = .ok (.iload 10, 2) := by decide +kernel
theorem dX12_findRide_82 : decode cX12_findRide 82 = .ok (.iadd, 1) := by decide +kernel
theorem dX12_findRide_83 : decode cX12_findRide 83 = .ok (.iaload, 1) := by decide +kernel
theorem dX12_findRide_84 : decode cX12_findRide 84 = .ok (.aload_n 0, 1) := by decide +kernel
theorem dX12_findRide_85 : decode cX12_findRide 85 = .ok (.getfield 190, 3) := by decide +kernel
theorem dX12_findRide_88 : decode cX12_findRide 88 = .ok (.if_icmp .ge 191, 3) := by decide +kernel
theorem dX12_findRide_91 : decode cX12_findRide 91 = .ok (.aload_n 0, 1) := by decide +kernel
theorem dX12_findRide_92 : decode cX12_findRide 92 = .ok (.iload 8, 2) := by decide +kernel
theorem dX12_findRide_94 : decode cX12_findRide 94 = .ok (.aload_n 0, 1) := by decide +kernel
theorem dX12_findRide_95 : decode cX12_findRide 95 = .ok (.getfield 92, 3) := by decide +kernel
theorem dX12_findRide_98 : decode cX12_findRide 98 = .ok (.iload 7, 2) := by decide +kernel
theorem dX12_findRide_100 : decode cX12_findRide 100 = .ok (.iaload, 1) := by decide +kernel
theorem dX12_findRide_101 : decode cX12_findRide 101 = .ok (.iload 9, 2) := by decide +kernel
theorem dX12_findRide_103 : decode cX12_findRide 103 = .ok (.iload 10, 2) := by decide +kernel
theorem dX12_findRide_105 : decode cX12_findRide 105 = .ok (.invokevirtual 223, 3) := by decide +kernel
theorem dX12_findRide_108 : decode cX12_findRide 108 = .ok (.ifCond .ne 6, 3) := by decide +kernel
theorem dX12_findRide_111 : decode cX12_findRide 111 = .ok (.goto 168, 3) := by decide +kernel
theorem dX12_findRide_114 : decode cX12_findRide 114 = .ok (.iload_n 2, 1) := by decide +kernel
theorem dX12_findRide_115 : decode cX12_findRide 115 = .ok (.aload_n 0, 1) := by decide +kernel
theorem dX12_findRide_116 : decode cX12_findRide 116 = .ok (.iload 8, 2) := by decide +kernel
theorem dX12_findRide_118 : decode cX12_findRide 118 = .ok (.iload 9, 2) := by decide +kernel
theorem dX12_findRide_120 : decode cX12_findRide 120 = .ok (.iload 10, 2) := by decide +kernel
theorem dX12_findRide_122 : decode cX12_findRide 122 = .ok (.invokevirtual 227, 3) := by decide +kernel
theorem dX12_findRide_125 : decode cX12_findRide 125 = .ok (.isub, 1) := by decide +kernel
theorem dX12_findRide_126 : decode cX12_findRide 126 = .ok (.istore 11, 2) := by decide +kernel
theorem dX12_findRide_128 : decode cX12_findRide 128 = .ok (.iload 11, 2) := by decide +kernel
theorem dX12_findRide_130 : decode cX12_findRide 130 = .ok (.ifCond .lt 149, 3) := by decide +kernel
theorem dX12_findRide_133 : decode cX12_findRide 133 = .ok (.aload_n 0, 1) := by decide +kernel
theorem dX12_findRide_134 : decode cX12_findRide 134 = .ok (.getfield 104, 3) := by decide +kernel
theorem dX12_findRide_137 : decode cX12_findRide 137 = .ok (.iload_n 1, 1) := by decide +kernel
theorem dX12_findRide_138 : decode cX12_findRide 138 = .ok (.iconst 1, 1) := by decide +kernel
theorem dX12_findRide_139 : decode cX12_findRide 139 = .ok (.isub, 1) := by decide +kernel
theorem dX12_findRide_140 : decode cX12_findRide 140 = .ok (.iload 11, 2) := by decide +kernel
theorem dX12_findRide_142 : decode cX12_findRide 142 = .ok (.aload_n 0, 1) := by decide +kernel
theorem dX12_findRide_143 : decode cX12_findRide 143 = .ok (.getfield 34, 3) := by decide +kernel
theorem dX12_findRide_146 : decode cX12_findRide 146 = .ok (.bipush 8, 2) := by decide +kernel
theorem dX12_findRide_148 : decode cX12_findRide 148 = .ok (.iload 8, 2) := by decide +kernel
theorem dX12_findRide_150 : decode cX12_findRide 150 = .ok (.imul, 1) := by decide +kernel
theorem dX12_findRide_151 : decode cX12_findRide 151 = .ok (.iload 9, 2) := by decide +kernel
theorem dX12_findRide_153 : decode cX12_findRide 153 = .ok (.iadd, 1) := by decide +kernel
theorem dX12_findRide_154 : decode cX12_findRide 154 = .ok (.iaload, 1) := by decide +kernel
theorem dX12_findRide_155 : decode cX12_findRide 155 = .ok (.invokestatic 209, 3) := by decide +kernel
theorem dX12_findRide_158 : decode cX12_findRide 158 = .ok (.iaload, 1) := by decide +kernel
theorem dX12_findRide_159 : decode cX12_findRide 159 = .ok (.aload_n 0, 1) := by decide +kernel
theorem dX12_findRide_160 : decode cX12_findRide 160 = .ok (.getfield 98, 3) := by decide +kernel
theorem dX12_findRide_163 : decode cX12_findRide 163 = .ok (.bipush 8, 2) := by decide +kernel
theorem dX12_findRide_165 : decode cX12_findRide 165 = .ok (.iload 7, 2) := by decide +kernel
theorem dX12_findRide_167 : decode cX12_findRide 167 = .ok (.imul, 1) := by decide +kernel
theorem dX12_findRide_168 : decode cX12_findRide 168 = .ok (.iload 9, 2) := by decide +kernel
theorem dX12_findRide_170 : decode cX12_findRide 170 = .ok (.iadd, 1) := by decide +kernel
theorem dX12_findRide_171 : decode cX12_findRide 171 = .ok (.iaload, 1) := by decide +kernel
theorem dX12_findRide_172 : decode cX12_findRide 172 = .ok (.if_icmp .le 6, 3) := by decide +kernel
theorem dX12_findRide_175 : decode cX12_findRide 175 = .ok (.goto 104, 3) := by decide +kernel
theorem dX12_findRide_178 : decode cX12_findRide 178 = .ok (.aload_n 0, 1) := by decide +kernel
theorem dX12_findRide_179 : decode cX12_findRide 179 = .ok (.getfield 95, 3) := by decide +kernel
theorem dX12_findRide_182 : decode cX12_findRide 182 = .ok (.bipush 8, 2) := by decide +kernel
theorem dX12_findRide_184 : decode cX12_findRide 184 = .ok (.iload 7, 2) := by decide +kernel
theorem dX12_findRide_186 : decode cX12_findRide 186 = .ok (.imul, 1) := by decide +kernel
theorem dX12_findRide_187 : decode cX12_findRide 187 = .ok (.iload 10, 2) := by decide +kernel
theorem dX12_findRide_189 : decode cX12_findRide 189 = .ok (.iadd, 1) := by decide +kernel
theorem dX12_findRide_190 : decode cX12_findRide 190 = .ok (.iaload, 1) := by decide +kernel
theorem dX12_findRide_191 : decode cX12_findRide 191 = .ok (.istore 12, 2) := by decide +kernel
theorem dX12_findRide_193 : decode cX12_findRide 193 = .ok (.iload 4, 2) := by decide +kernel
theorem dX12_findRide_195 : decode cX12_findRide 195 = .ok (.ifCond .lt 18, 3) := by decide +kernel
theorem dX12_findRide_198 : decode cX12_findRide 198 = .ok (.aload_n 0, 1) := by decide +kernel
theorem dX12_findRide_199 : decode cX12_findRide 199 = .ok (.iload 4, 2) := by decide +kernel
theorem dX12_findRide_201 : decode cX12_findRide 201 = .ok (.iload 12, 2) := by decide +kernel
theorem dX12_findRide_203 : decode cX12_findRide 203 = .ok (.aload_n 0, 1) := by decide +kernel
theorem dX12_findRide_204 : decode cX12_findRide 204 = .ok (.getfield 187, 3) := by decide +kernel
theorem dX12_findRide_207 : decode cX12_findRide 207 = .ok (.invokevirtual 212, 3) := by decide +kernel
theorem dX12_findRide_210 : decode cX12_findRide 210 = .ok (.goto 22, 3) := by decide +kernel
theorem dX12_findRide_213 : decode cX12_findRide 213 = .ok (.iload 5, 2) := by decide +kernel
theorem dX12_findRide_215 : decode cX12_findRide 215 = .ok (.ifCond .eq 8, 3) := by decide +kernel
theorem dX12_findRide_218 : decode cX12_findRide 218 = .ok (.iload 12, 2) := by decide +kernel
theorem dX12_findRide_220 : decode cX12_findRide 220 = .ok (.goto 12, 3) := by decide +kernel
theorem dX12_findRide_223 : decode cX12_findRide 223 = .ok (.iload 12, 2) := by decide +kernel
theorem dX12_findRide_225 : decode cX12_findRide 225 = .ok (.aload_n 0, 1) := by decide +kernel
theorem dX12_findRide_226 : decode cX12_findRide 226 = .ok (.getfield 7, 3) := by decide +kernel
theorem dX12_findRide_229 : decode cX12_findRide 229 = .ok (.iload_n 3, 1) := by decide +kernel
theorem dX12_findRide_230 : decode cX12_findRide 230 = .ok (.iaload, 1) := by decide +kernel
theorem dX12_findRide_231 : decode cX12_findRide 231 = .ok (.iadd, 1) := by decide +kernel
theorem dX12_findRide_232 : decode cX12_findRide 232 = .ok (.istore 13, 2) := by decide +kernel
theorem dX12_findRide_234 : decode cX12_findRide 234 = .ok (.iload 5, 2) := by decide +kernel
theorem dX12_findRide_236 : decode cX12_findRide 236 = .ok (.ifCond .eq 13, 3) := by decide +kernel
theorem dX12_findRide_239 : decode cX12_findRide 239 = .ok (.iload 13, 2) := by decide +kernel
theorem dX12_findRide_241 : decode cX12_findRide 241 = .ok (.iload 6, 2) := by decide +kernel
theorem dX12_findRide_243 : decode cX12_findRide 243 = .ok (.if_icmp .eq 16, 3) := by decide +kernel
theorem dX12_findRide_246 : decode cX12_findRide 246 = .ok (.goto 33, 3) := by decide +kernel
theorem dX12_findRide_249 : decode cX12_findRide 249 = .ok (.iload 13, 2) := by decide +kernel
theorem dX12_findRide_251 : decode cX12_findRide 251 = .ok (.iload 6, 2) := by decide +kernel
theorem dX12_findRide_253 : decode cX12_findRide 253 = .ok (.if_icmp .le 6, 3) := by decide +kernel
theorem dX12_findRide_256 : decode cX12_findRide 256 = .ok (.goto 23, 3) := by decide +kernel
theorem dX12_findRide_259 : decode cX12_findRide 259 = .ok (.aload_n 0, 1) := by decide +kernel
theorem dX12_findRide_260 : decode cX12_findRide 260 = .ok (.iload 7, 2) := by decide +kernel
theorem dX12_findRide_262 : decode cX12_findRide 262 = .ok (.putfield 236, 3) := by decide +kernel
theorem dX12_findRide_265 : decode cX12_findRide 265 = .ok (.aload_n 0, 1) := by decide +kernel
theorem dX12_findRide_266 : decode cX12_findRide 266 = .ok (.iload 9, 2) := by decide +kernel
theorem dX12_findRide_268 : decode cX12_findRide 268 = .ok (.putfield 239, 3) := by decide +kernel
theorem dX12_findRide_271 : decode cX12_findRide 271 = .ok (.aload_n 0, 1) := by decide +kernel
theorem dX12_findRide_272 : decode cX12_findRide 272 = .ok (.iload 10, 2) := by decide +kernel
theorem dX12_findRide_274 : decode cX12_findRide 274 = .ok (.putfield 242, 3) := by decide +kernel
theorem dX12_findRide_277 : decode cX12_findRide 277 = .ok (.iconst 1, 1) := by decide +kernel
theorem dX12_findRide_278 : decode cX12_findRide 278 = .ok (.ireturn, 1) := by decide +kernel
theorem dX12_findRide_279 : decode cX12_findRide 279 = .ok (.iinc 10 1, 3) := by decide +kernel
theorem dX12_findRide_282 : decode cX12_findRide 282 = .ok (.goto (-240), 3) := by decide +kernel
theorem dX12_findRide_285 : decode cX12_findRide 285 = .ok (.iinc 9 1, 3) := by decide +kernel
theorem dX12_findRide_288 : decode cX12_findRide 288 = .ok (.goto (-264), 3) := by decide +kernel
theorem dX12_findRide_291 : decode cX12_findRide 291 = .ok (.iinc 7 1, 3) := by decide +kernel
theorem dX12_findRide_294 : decode cX12_findRide 294 = .ok (.goto (-291), 3) := by decide +kernel
theorem dX12_findRide_297 : decode cX12_findRide 297 = .ok (.iconst 0, 1) := by decide +kernel
theorem dX12_findRide_298 : decode cX12_findRide 298 = .ok (.ireturn, 1) := by decide +kernel
theorem dX12_findWay_0 : decode cX12_findWay 0 = .ok (.aload_n 0, 1) := by decide +kernel
theorem dX12_findWay_1 : decode cX12_findWay 1 = .ok (.iconst 0, 1) := by decide +kernel
theorem dX12_findWay_2 : decode cX12_findWay 2 = .ok (.putfield 233, 3) := by decide +kernel
theorem dX12_findWay_5 : decode cX12_findWay 5 = .ok (.iload_n 1, 1) := by decide +kernel
theorem dX12_findWay_6 : decode cX12_findWay 6 = .ok (.istore 5, 2) := by decide +kernel
theorem dX12_findWay_8 : decode cX12_findWay 8 = .ok (.iload_n 2, 1) := by decide +kernel
theorem dX12_findWay_9 : decode cX12_findWay 9 = .ok (.istore 6, 2) := by decide +kernel
theorem dX12_findWay_11 : decode cX12_findWay 11 = .ok (.iload_n 3, 1) := by decide +kernel
theorem dX12_findWay_12 : decode cX12_findWay 12 = .ok (.istore 7, 2) := by decide +kernel
theorem dX12_findWay_14 : decode cX12_findWay 14 = .ok (.iload 4, 2) := by decide +kernel
theorem dX12_findWay_16 : decode cX12_findWay 16 = .ok (.istore 8, 2) := by decide +kernel
theorem dX12_findWay_18 : decode cX12_findWay 18 = .ok (.iconst 1, 1) := by decide +kernel
theorem dX12_findWay_19 : decode cX12_findWay 19 = .ok (.istore 9, 2) := by decide +kernel
theorem dX12_findWay_21 : decode cX12_findWay 21 = .ok (.iconst 1, 1) := by decide +kernel
theorem dX12_findWay_22 : decode cX12_findWay 22 = .ok (.istore 10, 2) := by decide +kernel
theorem dX12_findWay_24 : decode cX12_findWay 24 = .ok (.iload 10, 2) := by decide +kernel
theorem dX12_findWay_26 : decode cX12_findWay 26 = .ok (.ifCond .eq 174, 3) := by decide +kernel
theorem dX12_findWay_29 : decode cX12_findWay 29 = .ok (.aload_n 0, 1) := by decide +kernel
theorem dX12_findWay_30 : decode cX12_findWay 30 = .ok (.iload 5, 2) := by decide +kernel
theorem dX12_findWay_32 : decode cX12_findWay 32 = .ok (.iload 6, 2) := by decide +kernel
theorem dX12_findWay_34 : decode cX12_findWay 34 = .ok (.iload 7, 2) := by decide +kernel
theorem dX12_findWay_36 : decode cX12_findWay 36 = .ok (.iload 9, 2) := by decide +kernel
theorem dX12_findWay_38 : decode cX12_findWay 38 = .ok (.iload 8, 2) := by decide +kernel
theorem dX12_findWay_40 : decode cX12_findWay 40 = .ok (.invokevirtual 245, 3) := by decide +kernel
theorem dX12_findWay_43 : decode cX12_findWay 43 = .ok (.istore 11, 2) := by decide +kernel
theorem dX12_findWay_45 : decode cX12_findWay 45 = .ok (.iload 11, 2) := by decide +kernel
theorem dX12_findWay_47 : decode cX12_findWay 47 = .ok (.ifCond .lt 9, 3) := by decide +kernel
theorem dX12_findWay_50 : decode cX12_findWay 50 = .ok (.aload_n 0, 1) := by decide +kernel
theorem dX12_findWay_51 : decode cX12_findWay 51 = .ok (.iload 11, 2) := by decide +kernel
theorem dX12_findWay_53 : decode cX12_findWay 53 = .ok (.invokevirtual 249, 3) := by decide +kernel
theorem dX12_findWay_56 : decode cX12_findWay 56 = .ok (.iload 5, 2) := by decide +kernel
theorem dX12_findWay_58 : decode cX12_findWay 58 = .ok (.ifCond .le 7, 3) := by decide +kernel
theorem dX12_findWay_61 : decode cX12_findWay 61 = .ok (.iconst 1, 1) := by decide +kernel
theorem dX12_findWay_62 : decode cX12_findWay 62 = .ok (.goto 4, 3) := by decide +kernel
theorem dX12_findWay_65 : decode cX12_findWay 65 = .ok (.iconst 0, 1) := by decide +kernel
theorem dX12_findWay_66 : decode cX12_findWay 66 = .ok (.istore 10, 2) := by decide +kernel
theorem dX12_findWay_68 : decode cX12_findWay 68 = .ok (.iload 10, 2) := by decide +kernel
theorem dX12_findWay_70 : decode cX12_findWay 70 = .ok (.ifCond .ne 6, 3) := by decide +kernel
theorem dX12_findWay_73 : decode cX12_findWay 73 = .ok (.goto (-49), 3) := by decide +kernel
theorem dX12_findWay_76 : decode cX12_findWay 76 = .ok (.aload_n 0, 1) := by decide +kernel
theorem dX12_findWay_77 : decode cX12_findWay 77 = .ok (.iload 5, 2) := by decide +kernel
theorem dX12_findWay_79 : decode cX12_findWay 79 = .ok (.iload 6, 2) := by decide +kernel
theorem dX12_findWay_81 : decode cX12_findWay 81 = .ok (.iload 11, 2) := by decide +kernel
theorem dX12_findWay_83 : decode cX12_findWay 83 = .ok (.ifCond .lt 13, 3) := by decide +kernel
theorem dX12_findWay_86 : decode cX12_findWay 86 = .ok (.aload_n 0, 1) := by decide +kernel
theorem dX12_findWay_87 : decode cX12_findWay 87 = .ok (.getfield 50, 3) := by decide +kernel
theorem dX12_findWay_90 : decode cX12_findWay 90 = .ok (.iload 11, 2) := by decide +kernel
theorem dX12_findWay_92 : decode cX12_findWay 92 = .ok (.iaload, 1) := by decide +kernel
theorem dX12_findWay_93 : decode cX12_findWay 93 = .ok (.goto 5, 3) := by decide +kernel
theorem dX12_findWay_96 : decode cX12_findWay 96 = .ok (.iload 7, 2) := by decide +kernel
theorem dX12_findWay_98 : decode cX12_findWay 98 = .ok (.iload 11, 2) := by decide +kernel
theorem dX12_findWay_100 : decode cX12_findWay 100 = .ok (.iload 9, 2) := by decide +kernel
theorem dX12_findWay_102 : decode cX12_findWay 102 = .ok (.iload 8, 2) := by decide +kernel
theorem dX12_findWay_104 : decode cX12_findWay 104 = .ok (.invokevirtual 253, 3) := by decide +kernel
theorem dX12_findWay_107 : decode cX12_findWay 107 = .ok (.istore 12, 2) := by decide +kernel
theorem dX12_findWay_109 : decode cX12_findWay 109 = .ok (.aload_n 0, 1) := by decide +kernel
theorem dX12_findWay_110 : decode cX12_findWay 110 = .ok (.getfield 89, 3) := by decide +kernel
theorem dX12_findWay_113 : decode cX12_findWay 113 = .ok (.aload_n 0, 1) := by decide +kernel
theorem dX12_findWay_114 : decode cX12_findWay 114 = .ok (.getfield 236, 3) := by decide +kernel
theorem dX12_findWay_117 : decode cX12_findWay 117 = .ok (.iaload, 1) := by decide +kernel
theorem dX12_findWay_118 : decode cX12_findWay 118 = .ok (.istore 13, 2) := by decide +kernel
theorem dX12_findWay_120 : decode cX12_findWay 120 = .ok (.aload_n 0, 1) := by decide +kernel
theorem dX12_findWay_121 : decode cX12_findWay 121 = .ok (.aload_n 0, 1) := by decide +kernel
theorem dX12_findWay_122 : decode cX12_findWay 122 = .ok (.getfield 236, 3) := by decide +kernel
theorem dX12_findWay_125 : decode cX12_findWay 125 = .ok (.aload_n 0, 1) := by decide +kernel
theorem dX12_findWay_126 : decode cX12_findWay 126 = .ok (.getfield 239, 3) := by decide +kernel
theorem dX12_findWay_129 : decode cX12_findWay 129 = .ok (.aload_n 0, 1) := by decide +kernel
theorem dX12_findWay_130 : decode cX12_findWay 130 = .ok (.getfield 242, 3) := by decide +kernel
theorem dX12_findWay_133 : decode cX12_findWay 133 = .ok (.invokevirtual 257, 3) := by decide +kernel
theorem dX12_findWay_136 : decode cX12_findWay 136 = .ok (.iload 6, 2) := by decide +kernel
theorem dX12_findWay_138 : decode cX12_findWay 138 = .ok (.aload_n 0, 1) := by decide +kernel
theorem dX12_findWay_139 : decode cX12_findWay 139 = .ok (.iload 13, 2) := by decide +kernel
theorem dX12_findWay_141 : decode cX12_findWay 141 = .ok (.aload_n 0, 1) := by decide +kernel
theorem dX12_findWay_142 : decode cX12_findWay 142 = .ok (.getfield 239, 3) := by decide +kernel
theorem dX12_findWay_145 : decode cX12_findWay 145 = .ok (.aload_n 0, 1) := by decide +kernel
theorem dX12_findWay_146 : decode cX12_findWay 146 = .ok (.getfield 242, 3) := by decide +kernel
theorem dX12_findWay_149 : decode cX12_findWay 149 = .ok (.invokevirtual 227, 3) := by decide +kernel
theorem dX12_findWay_152 : decode cX12_findWay 152 = .ok (.isub, 1) := by decide +kernel
theorem dX12_findWay_153 : decode cX12_findWay 153 = .ok (.istore 6, 2) := by decide +kernel
theorem dX12_findWay_155 : decode cX12_findWay 155 = .ok (.aload_n 0, 1) := by decide +kernel
theorem dX12_findWay_156 : decode cX12_findWay 156 = .ok (.getfield 34, 3) := by decide +kernel
theorem dX12_findWay_159 : decode cX12_findWay 159 = .ok (.bipush 8, 2) := by decide +kernel
theorem dX12_findWay_161 : decode cX12_findWay 161 = .ok (.iload 13, 2) := by decide +kernel
theorem dX12_findWay_163 : decode cX12_findWay 163 = .ok (.imul, 1) := by decide +kernel
theorem dX12_findWay_164 : decode cX12_findWay 164 = .ok (.aload_n 0, 1) := by decide +kernel
theorem dX12_findWay_165 : decode cX12_findWay 165 = .ok (.getfield 239, 3) := by decide +kernel
theorem dX12_findWay_168 : decode cX12_findWay 168 = .ok (.iadd, 1) := by decide +kernel
theorem dX12_findWay_169 : decode cX12_findWay 169 = .ok (.iaload, 1) := by decide +kernel
theorem dX12_findWay_170 : decode cX12_findWay 170 = .ok (.istore 7, 2) := by decide +kernel
theorem dX12_findWay_172 : decode cX12_findWay 172 = .ok (.aload_n 0, 1) := by decide +kernel
theorem dX12_findWay_173 : decode cX12_findWay 173 = .ok (.getfield 98, 3) := by decide +kernel
theorem dX12_findWay_176 : decode cX12_findWay 176 = .ok (.bipush 8, 2) := by decide +kernel
theorem dX12_findWay_178 : decode cX12_findWay 178 = .ok (.aload_n 0, 1) := by decide +kernel
theorem dX12_findWay_179 : decode cX12_findWay 179 = .ok (.getfield 236, 3) := by decide +kernel
theorem dX12_findWay_182 : decode cX12_findWay 182 = .ok (.imul, 1) := by decide +kernel
theorem dX12_findWay_183 : decode cX12_findWay 183 = .ok (.aload_n 0, 1) := by decide +kernel
theorem dX12_findWay_184 : decode cX12_findWay 184 = .ok (.getfield 239, 3) := by decide +kernel
theorem dX12_findWay_187 : decode cX12_findWay 187 = .ok (.iadd, 1) := by decide +kernel
theorem dX12_findWay_188 : decode cX12_findWay 188 = .ok (.iaload, 1) := by decide +kernel
theorem dX12_findWay_189 : decode cX12_findWay 189 = .ok (.istore 8, 2) := by decide +kernel
theorem dX12_findWay_191 : decode cX12_findWay 191 = .ok (.iconst 0, 1) := by decide +kernel
theorem dX12_findWay_192 : decode cX12_findWay 192 = .ok (.istore 9, 2) := by decide +kernel
theorem dX12_findWay_194 : decode cX12_findWay 194 = .ok (.iinc 5 (-1), 3) := by decide +kernel
theorem dX12_findWay_197 : decode cX12_findWay 197 = .ok (.goto (-173), 3) := by decide +kernel
theorem dX12_findWay_200 : decode cX12_findWay 200 = .ok (.return_, 1) := by decide +kernel
theorem dX12_walkAhead_0 : decode cX12_walkAhead 0 = .ok (.iload_n 1, 1) := by decide +kernel
theorem dX12_walkAhead_1 : decode cX12_walkAhead 1 = .ok (.ifCond .ne 43, 3) := by decide +kernel
theorem dX12_walkAhead_4 : decode cX12_walkAhead 4 = .ok (.iload_n 2, 1) := by decide +kernel
theorem dX12_walkAhead_5 : decode cX12_walkAhead 5 = .ok (.ifCond .ne 39, 3) := by decide +kernel
theorem dX12_walkAhead_8 : decode cX12_walkAhead 8 = .ok (.iload_n 3, 1) := by decide +kernel
theorem dX12_walkAhead_9 : decode cX12_walkAhead 9 = .ok (.aload_n 0, 1) := by decide +kernel
theorem dX12_walkAhead_10 : decode cX12_walkAhead 10 = .ok (.getfield 205, 3) := by decide +kernel
theorem dX12_walkAhead_13 : decode cX12_walkAhead 13 = .ok (.if_icmp .ne 31, 3) := by decide +kernel
theorem dX12_walkAhead_16 : decode cX12_walkAhead 16 = .ok (.iload 4, 2) := by decide +kernel
theorem dX12_walkAhead_18 : decode cX12_walkAhead 18 = .ok (.ifCond .eq 15, 3) := by decide +kernel
theorem dX12_walkAhead_21 : decode cX12_walkAhead 21 = .ok (.aload_n 0, 1) := by decide +kernel
theorem dX12_walkAhead_22 : decode cX12_walkAhead 22 = .ok (.getfield 187, 3) := by decide +kernel
theorem dX12_walkAhead_25 : decode cX12_walkAhead 25 = .ok (.iload 5, 2) := by decide +kernel
theorem dX12_walkAhead_27 : decode cX12_walkAhead 27 = .ok (.if_icmp .ne 17, 3) := by decide +kernel
theorem dX12_walkAhead_30 : decode cX12_walkAhead 30 = .ok (.goto 12, 3) := by decide +kernel
theorem dX12_walkAhead_33 : decode cX12_walkAhead 33 = .ok (.aload_n 0, 1) := by decide +kernel
theorem dX12_walkAhead_34 : decode cX12_walkAhead 34 = .ok (.getfield 187, 3) := by decide +kernel
theorem dX12_walkAhead_37 : decode cX12_walkAhead 37 = .ok (.iload 5, 2) := by decide +kernel
theorem dX12_walkAhead_39 : decode cX12_walkAhead 39 = .ok (.if_icmp .gt 5, 3) := by decide +kernel
theorem dX12_walkAhead_42 : decode cX12_walkAhead 42 = .ok (.iconst (-1), 1) := by decide +kernel
theorem dX12_walkAhead_43 : decode cX12_walkAhead 43 = .ok (.ireturn, 1) := by decide +kernel
theorem dX12_walkAhead_44 : decode cX12_walkAhead 44 = .ok (.iload_n 1, 1) := by decide +kernel
theorem dX12_walkAhead_45 : decode cX12_walkAhead 45 = .ok (.ifCond .le 20, 3) := by decide +kernel
theorem dX12_walkAhead_48 : decode cX12_walkAhead 48 = .ok (.aload_n 0, 1) := by decide +kernel
theorem dX12_walkAhead_49 : decode cX12_walkAhead 49 = .ok (.iload_n 1, 1) := by decide +kernel
theorem dX12_walkAhead_50 : decode cX12_walkAhead 50 = .ok (.iload_n 2, 1) := by decide +kernel
theorem dX12_walkAhead_51 : decode cX12_walkAhead 51 = .ok (.iload_n 3, 1) := by decide +kernel
theorem dX12_walkAhead_52 : decode cX12_walkAhead 52 = .ok (.iconst (-1), 1) := by decide +kernel
theorem dX12_walkAhead_53 : decode cX12_walkAhead 53 = .ok (.iload 4, 2) := by decide +kernel
theorem dX12_walkAhead_55 : decode cX12_walkAhead 55 = .ok (.iload 5, 2) := by decide +kernel
theorem dX12_walkAhead_57 : decode cX12_walkAhead 57 = .ok (.invokevirtual 253, 3) := by decide +kernel
theorem dX12_walkAhead_60 : decode cX12_walkAhead 60 = .ok (.ifCond .eq 5, 3) := by decide +kernel
theorem dX12_walkAhead_63 : decode cX12_walkAhead 63 = .ok (.iconst (-1), 1) := by decide +kernel
theorem dX12_walkAhead_64 : decode cX12_walkAhead 64 = .ok (.ireturn, 1) := by decide +kernel
theorem dX12_walkAhead_65 : decode cX12_walkAhead 65 = .ok (.iconst 0, 1) := by decide +kernel
theorem dX12_walkAhead_66 : decode cX12_walkAhead 66 = .ok (.istore 6, 2) := by decide +kernel
theorem dX12_walkAhead_68 : decode cX12_walkAhead 68 = .ok (.iload 6, 2) := by decide +kernel
theorem dX12_walkAhead_70 : decode cX12_walkAhead 70 = .ok (.aload_n 0, 1) := by decide +kernel
theorem dX12_walkAhead_71 : decode cX12_walkAhead 71 = .ok (.getfield 161, 3) := by decide +kernel
theorem dX12_walkAhead_74 : decode cX12_walkAhead 74 = .ok (.if_icmp .ge 107, 3) := by decide +kernel
theorem dX12_walkAhead_77 : decode cX12_walkAhead 77 = .ok (.aload_n 0, 1) := by decide +kernel
theorem dX12_walkAhead_78 : decode cX12_walkAhead 78 = .ok (.getfield 53, 3) := by decide +kernel
theorem dX12_walkAhead_81 : decode cX12_walkAhead 81 = .ok (.iload 6, 2) := by decide +kernel
theorem dX12_walkAhead_83 : decode cX12_walkAhead 83 = .ok (.iaload, 1) := by decide +kernel
theorem dX12_walkAhead_84 : decode cX12_walkAhead 84 = .ok (.iload_n 3, 1) := by decide +kernel
theorem dX12_walkAhead_85 : decode cX12_walkAhead 85 = .ok (.if_icmp .eq 6, 3) := by decide +kernel
theorem dX12_walkAhead_88 : decode cX12_walkAhead 88 = .ok (.goto 87, 3) := by decide +kernel
theorem dX12_walkAhead_91 : decode cX12_walkAhead 91 = .ok (.iload_n 1, 1) := by decide +kernel
theorem dX12_walkAhead_92 : decode cX12_walkAhead 92 = .ok (.ifCond .le 28, 3) := by decide +kernel
theorem dX12_walkAhead_95 : decode cX12_walkAhead 95 = .ok (.aload_n 0, 1) := by decide +kernel
theorem dX12_walkAhead_96 : decode cX12_walkAhead 96 = .ok (.iload_n 1, 1) := by decide +kernel
theorem dX12_walkAhead_97 : decode cX12_walkAhead 97 = .ok (.iload_n 2, 1) := by decide +kernel
theorem dX12_walkAhead_98 : decode cX12_walkAhead 98 = .ok (.aload_n 0, 1) := by decide +kernel
theorem dX12_walkAhead_99 : decode cX12_walkAhead 99 = .ok (.getfield 50, 3) := by decide +kernel
theorem dX12_walkAhead_102 : decode cX12_walkAhead 102 = .ok (.iload 6, 2) := by decide +kernel
theorem dX12_walkAhead_104 : decode cX12_walkAhead 104 = .ok (.iaload, 1) := by decide +kernel
theorem dX12_walkAhead_105 : decode cX12_walkAhead 105 = .ok (.iload 6, 2) := by decide +kernel
theorem dX12_walkAhead_107 : decode cX12_walkAhead 107 = .ok (.iload 4, 2) := by decide +kernel
theorem dX12_walkAhead_109 : decode cX12_walkAhead 109 = .ok (.iload 5, 2) := by decide +kernel
theorem dX12_walkAhead_111 : decode cX12_walkAhead 111 = .ok (.invokevirtual 253, 3) := by decide +kernel
theorem dX12_walkAhead_114 : decode cX12_walkAhead 114 = .ok (.ifCond .eq 61, 3) := by decide +kernel
theorem dX12_walkAhead_117 : decode cX12_walkAhead 117 = .ok (.iload 6, 2) := by decide +kernel
theorem dX12_walkAhead_119 : decode cX12_walkAhead 119 = .ok (.ireturn, 1) := by decide +kernel
theorem dX12_walkAhead_120 : decode cX12_walkAhead 120 = .ok (.aload_n 0, 1) := by decide +kernel
theorem dX12_walkAhead_121 : decode cX12_walkAhead 121 = .ok (.getfield 50, 3) := by decide +kernel
theorem dX12_walkAhead_124 : decode cX12_walkAhead 124 = .ok (.iload 6, 2) := by decide +kernel
theorem dX12_walkAhead_126 : decode cX12_walkAhead 126 = .ok (.iaload, 1) := by decide +kernel
theorem dX12_walkAhead_127 : decode cX12_walkAhead 127 = .ok (.aload_n 0, 1) := by decide +kernel
theorem dX12_walkAhead_128 : decode cX12_walkAhead 128 = .ok (.getfield 205, 3) := by decide +kernel
theorem dX12_walkAhead_131 : decode cX12_walkAhead 131 = .ok (.if_icmp .ne 44, 3) := by decide +kernel
theorem dX12_walkAhead_134 : decode cX12_walkAhead 134 = .ok (.aload_n 0, 1) := by decide +kernel
theorem dX12_walkAhead_135 : decode cX12_walkAhead 135 = .ok (.iload 6, 2) := by decide +kernel
theorem dX12_walkAhead_137 : decode cX12_walkAhead 137 = .ok (.aload_n 0, 1) := by decide +kernel
theorem dX12_walkAhead_138 : decode cX12_walkAhead 138 = .ok (.getfield 187, 3) := by decide +kernel
theorem dX12_walkAhead_141 : decode cX12_walkAhead 141 = .ok (.aload_n 0, 1) := by decide +kernel
theorem dX12_walkAhead_142 : decode cX12_walkAhead 142 = .ok (.getfield 187, 3) := by decide +kernel
theorem dX12_walkAhead_145 : decode cX12_walkAhead 145 = .ok (.invokevirtual 212, 3) := by decide +kernel
theorem dX12_walkAhead_148 : decode cX12_walkAhead 148 = .ok (.istore 7, 2) := by decide +kernel
theorem dX12_walkAhead_150 : decode cX12_walkAhead 150 = .ok (.iload 4, 2) := by decide +kernel
theorem dX12_walkAhead_152 : decode cX12_walkAhead 152 = .ok (.ifCond .eq 13, 3) := by decide +kernel
theorem dX12_walkAhead_155 : decode cX12_walkAhead 155 = .ok (.iload 7, 2) := by decide +kernel
theorem dX12_walkAhead_157 : decode cX12_walkAhead 157 = .ok (.iload 5, 2) := by decide +kernel
theorem dX12_walkAhead_159 : decode cX12_walkAhead 159 = .ok (.if_icmp .ne 16, 3) := by decide +kernel
theorem dX12_walkAhead_162 : decode cX12_walkAhead 162 = .ok (.goto 10, 3) := by decide +kernel
theorem dX12_walkAhead_165 : decode cX12_walkAhead 165 = .ok (.iload 7, 2) := by decide +kernel
theorem dX12_walkAhead_167 : decode cX12_walkAhead 167 = .ok (.iload 5, 2) := by decide +kernel
theorem dX12_walkAhead_169 : decode cX12_walkAhead 169 = .ok (.if_icmp .gt 6, 3) := by decide +kernel
theorem dX12_walkAhead_172 : decode cX12_walkAhead 172 = .ok (.iload 6, 2) := by decide +kernel
theorem dX12_walkAhead_174 : decode cX12_walkAhead 174 = .ok (.ireturn, 1) := by decide +kernel
theorem dX12_walkAhead_175 : decode cX12_walkAhead 175 = .ok (.iinc 6 1, 3) := by decide +kernel
theorem dX12_walkAhead_178 : decode cX12_walkAhead 178 = .ok (.goto (-110), 3) := by decide +kernel
theorem dX12_walkAhead_181 : decode cX12_walkAhead 181 = .ok (.iconst (-1), 1) := by decide +kernel
theorem dX12_walkAhead_182 : decode cX12_walkAhead 182 = .ok (.ireturn, 1) := by decide +kernel
theorem dX12_isBeaten_0 : decode cX12_isBeaten 0 = .ok (.iconst 0, 1) := by decide +kernel
theorem dX12_isBeaten_1 : decode cX12_isBeaten 1 = .ok (.istore 5, 2) := by decide +kernel
theorem dX12_isBeaten_3 : decode cX12_isBeaten 3 = .ok (.iload 5, 2) := by decide +kernel
theorem dX12_isBeaten_5 : decode cX12_isBeaten 5 = .ok (.iload_n 2, 1) := by decide +kernel
theorem dX12_isBeaten_6 : decode cX12_isBeaten 6 = .ok (.if_icmp .gt 62, 3) := by decide +kernel
theorem dX12_isBeaten_9 : decode cX12_isBeaten 9 = .ok (.iconst 0, 1) := by decide +kernel
theorem dX12_isBeaten_10 : decode cX12_isBeaten 10 = .ok (.istore 6, 2) := by decide +kernel
theorem dX12_isBeaten_12 : decode cX12_isBeaten 12 = .ok (.iload 6, 2) := by decide +kernel
theorem dX12_isBeaten_14 : decode cX12_isBeaten 14 = .ok (.iload_n 3, 1) := by decide +kernel
theorem dX12_isBeaten_15 : decode cX12_isBeaten 15 = .ok (.if_icmp .gt 47, 3) := by decide +kernel
theorem dX12_isBeaten_18 : decode cX12_isBeaten 18 = .ok (.aload_n 0, 1) := by decide +kernel
theorem dX12_isBeaten_19 : decode cX12_isBeaten 19 = .ok (.iload 5, 2) := by decide +kernel
theorem dX12_isBeaten_21 : decode cX12_isBeaten 21 = .ok (.iload 6, 2) := by decide +kernel
theorem dX12_isBeaten_23 : decode cX12_isBeaten 23 = .ok (.iload 4, 2) := by decide +kernel
theorem dX12_isBeaten_25 : decode cX12_isBeaten 25 = .ok (.invokevirtual 230, 3) := by decide +kernel
theorem dX12_isBeaten_28 : decode cX12_isBeaten 28 = .ok (.istore 7, 2) := by decide +kernel
theorem dX12_isBeaten_30 : decode cX12_isBeaten 30 = .ok (.iload 7, 2) := by decide +kernel
theorem dX12_isBeaten_32 : decode cX12_isBeaten 32 = .ok (.iload_n 1, 1) := by decide +kernel
theorem dX12_isBeaten_33 : decode cX12_isBeaten 33 = .ok (.if_icmp .gt 23, 3) := by decide +kernel
theorem dX12_isBeaten_36 : decode cX12_isBeaten 36 = .ok (.iload 7, 2) := by decide +kernel
theorem dX12_isBeaten_38 : decode cX12_isBeaten 38 = .ok (.iload_n 1, 1) := by decide +kernel
theorem dX12_isBeaten_39 : decode cX12_isBeaten 39 = .ok (.if_icmp .lt 15, 3) := by decide +kernel
theorem dX12_isBeaten_42 : decode cX12_isBeaten 42 = .ok (.iload 5, 2) := by decide +kernel
theorem dX12_isBeaten_44 : decode cX12_isBeaten 44 = .ok (.iload_n 2, 1) := by decide +kernel
theorem dX12_isBeaten_45 : decode cX12_isBeaten 45 = .ok (.if_icmp .lt 9, 3) := by decide +kernel
theorem dX12_isBeaten_48 : decode cX12_isBeaten 48 = .ok (.iload 6, 2) := by decide +kernel
theorem dX12_isBeaten_50 : decode cX12_isBeaten 50 = .ok (.iload_n 3, 1) := by decide +kernel
theorem dX12_isBeaten_51 : decode cX12_isBeaten 51 = .ok (.if_icmp .ge 5, 3) := by decide +kernel
theorem dX12_isBeaten_54 : decode cX12_isBeaten 54 = .ok (.iconst 1, 1) := by decide +kernel
theorem dX12_isBeaten_55 : decode cX12_isBeaten 55 = .ok (.ireturn, 1) := by decide +kernel
theorem dX12_isBeaten_56 : decode cX12_isBeaten 56 = .ok (.iinc 6 1, 3) := by decide +kernel
theorem dX12_isBeaten_59 : decode cX12_isBeaten 59 = .ok (.goto (-47), 3) := by decide +kernel
theorem dX12_isBeaten_62 : decode cX12_isBeaten 62 = .ok (.iinc 5 1, 3) := by decide +kernel
theorem dX12_isBeaten_65 : decode cX12_isBeaten 65 = .ok (.goto (-62), 3) := by decide +kernel
theorem dX12_isBeaten_68 : decode cX12_isBeaten 68 = .ok (.iconst 0, 1) := by decide +kernel
theorem dX12_isBeaten_69 : decode cX12_isBeaten 69 = .ok (.ireturn, 1) := by decide +kernel
theorem dX12_add_0 : decode cX12_add 0 = .ok (.aload_n 0, 1) := by decide +kernel
theorem dX12_add_1 : decode cX12_add 1 = .ok (.getfield 261, 3) := by decide +kernel
theorem dX12_add_4 : decode cX12_add 4 = .ok (.istore 4, 2) := by decide +kernel
theorem dX12_add_6 : decode cX12_add 6 = .ok (.aload_n 0, 1) := by decide +kernel
theorem dX12_add_7 : decode cX12_add 7 = .ok (.getfield 107, 3) := by decide +kernel
theorem dX12_add_10 : decode cX12_add 10 = .ok (.iload 4, 2) := by decide +kernel
theorem dX12_add_12 : decode cX12_add 12 = .ok (.iload_n 1, 1) := by decide +kernel
theorem dX12_add_13 : decode cX12_add 13 = .ok (.iastore, 1) := by decide +kernel
theorem dX12_add_14 : decode cX12_add 14 = .ok (.aload_n 0, 1) := by decide +kernel
theorem dX12_add_15 : decode cX12_add 15 = .ok (.getfield 110, 3) := by decide +kernel
theorem dX12_add_18 : decode cX12_add 18 = .ok (.iload 4, 2) := by decide +kernel
theorem dX12_add_20 : decode cX12_add 20 = .ok (.iload_n 2, 1) := by decide +kernel
theorem dX12_add_21 : decode cX12_add 21 = .ok (.iastore, 1) := by decide +kernel
theorem dX12_add_22 : decode cX12_add 22 = .ok (.aload_n 0, 1) := by decide +kernel
theorem dX12_add_23 : decode cX12_add 23 = .ok (.getfield 113, 3) := by decide +kernel
theorem dX12_add_26 : decode cX12_add 26 = .ok (.iload 4, 2) := by decide +kernel
theorem dX12_add_28 : decode cX12_add 28 = .ok (.iload_n 3, 1) := by decide +kernel
theorem dX12_add_29 : decode cX12_add 29 = .ok (.iastore, 1) := by decide +kernel
theorem dX12_add_30 : decode cX12_add 30 = .ok (.aload_n 0, 1) := by decide +kernel
theorem dX12_add_31 : decode cX12_add 31 = .ok (.getfield 116, 3) := by decide +kernel
theorem dX12_add_34 : decode cX12_add 34 = .ok (.iload 4, 2) := by decide +kernel
theorem dX12_add_36 : decode cX12_add 36 = .ok (.aload_n 0, 1) := by decide +kernel
theorem dX12_add_37 : decode cX12_add 37 = .ok (.getfield 233, 3) := by decide +kernel
theorem dX12_add_40 : decode cX12_add 40 = .ok (.iastore, 1) := by decide +kernel
theorem dX12_add_41 : decode cX12_add 41 = .ok (.aload_n 0, 1) := by decide +kernel
theorem dX12_add_42 : decode cX12_add 42 = .ok (.getfield 119, 3) := by decide +kernel
theorem dX12_add_45 : decode cX12_add 45 = .ok (.iload 4, 2) := by decide +kernel
theorem dX12_add_47 : decode cX12_add 47 = .ok (.aload_n 0, 1) := by decide +kernel
theorem dX12_add_48 : decode cX12_add 48 = .ok (.getfield 187, 3) := by decide +kernel
theorem dX12_add_51 : decode cX12_add 51 = .ok (.iastore, 1) := by decide +kernel
theorem dX12_add_52 : decode cX12_add 52 = .ok (.aload_n 0, 1) := by decide +kernel
theorem dX12_add_53 : decode cX12_add 53 = .ok (.getfield 187, 3) := by decide +kernel
theorem dX12_add_56 : decode cX12_add 56 = .ok (.istore 5, 2) := by decide +kernel
theorem dX12_add_58 : decode cX12_add 58 = .ok (.iconst 0, 1) := by decide +kernel
theorem dX12_add_59 : decode cX12_add 59 = .ok (.istore 6, 2) := by decide +kernel
theorem dX12_add_61 : decode cX12_add 61 = .ok (.iload 6, 2) := by decide +kernel
theorem dX12_add_63 : decode cX12_add 63 = .ok (.aload_n 0, 1) := by decide +kernel
theorem dX12_add_64 : decode cX12_add 64 = .ok (.getfield 233, 3) := by decide +kernel
theorem dX12_add_67 : decode cX12_add 67 = .ok (.if_icmp .ge 151, 3) := by decide +kernel
theorem dX12_add_70 : decode cX12_add 70 = .ok (.bipush 63, 2) := by decide +kernel
theorem dX12_add_72 : decode cX12_add 72 = .ok (.iload 4, 2) := by decide +kernel
theorem dX12_add_74 : decode cX12_add 74 = .ok (.imul, 1) := by decide +kernel
theorem dX12_add_75 : decode cX12_add 75 = .ok (.bipush 9, 2) := by decide +kernel
theorem dX12_add_77 : decode cX12_add 77 = .ok (.iload 6, 2) := by decide +kernel
theorem dX12_add_79 : decode cX12_add 79 = .ok (.imul, 1) := by decide +kernel
theorem dX12_add_80 : decode cX12_add 80 = .ok (.iadd, 1) := by decide +kernel
theorem dX12_add_81 : decode cX12_add 81 = .ok (.istore 7, 2) := by decide +kernel
theorem dX12_add_83 : decode cX12_add 83 = .ok (.iconst 0, 1) := by decide +kernel
theorem dX12_add_84 : decode cX12_add 84 = .ok (.istore 8, 2) := by decide +kernel
theorem dX12_add_86 : decode cX12_add 86 = .ok (.iload 8, 2) := by decide +kernel
theorem dX12_add_88 : decode cX12_add 88 = .ok (.bipush 9, 2) := by decide +kernel
theorem dX12_add_90 : decode cX12_add 90 = .ok (.if_icmp .ge 39, 3) := by decide +kernel
theorem dX12_add_93 : decode cX12_add 93 = .ok (.aload_n 0, 1) := by decide +kernel
theorem dX12_add_94 : decode cX12_add 94 = .ok (.getfield 122, 3) := by decide +kernel
theorem dX12_add_97 : decode cX12_add 97 = .ok (.iload 7, 2) := by decide +kernel
theorem dX12_add_99 : decode cX12_add 99 = .ok (.iload 8, 2) := by decide +kernel
theorem dX12_add_101 : decode cX12_add 101 = .ok (.iadd, 1) := by decide +kernel
theorem dX12_add_102 : decode cX12_add 102 = .ok (.aload_n 0, 1) := by decide +kernel
theorem dX12_add_103 : decode cX12_add 103 = .ok (.getfield 125, 3) := by decide +kernel
theorem dX12_add_106 : decode cX12_add 106 = .ok (.bipush 9, 2) := by decide +kernel
theorem dX12_add_108 : decode cX12_add 108 = .ok (.aload_n 0, 1) := by decide +kernel
theorem dX12_add_109 : decode cX12_add 109 = .ok (.getfield 233, 3) := by decide +kernel
theorem dX12_add_112 : decode cX12_add 112 = .ok (.iconst 1, 1) := by decide +kernel
theorem dX12_add_113 : decode cX12_add 113 = .ok (.isub, 1) := by decide +kernel
theorem dX12_add_114 : decode cX12_add 114 = .ok (.iload 6, 2) := by decide +kernel
theorem dX12_add_116 : decode cX12_add 116 = .ok (.isub, 1) := by decide +kernel
theorem dX12_add_117 : decode cX12_add 117 = .ok (.imul, 1) := by decide +kernel
theorem dX12_add_118 : decode cX12_add 118 = .ok (.iload 8, 2) := by decide +kernel
theorem dX12_add_120 : decode cX12_add 120 = .ok (.iadd, 1) := by decide +kernel
theorem dX12_add_121 : decode cX12_add 121 = .ok (.iaload, 1) := by decide +kernel
theorem dX12_add_122 : decode cX12_add 122 = .ok (.iastore, 1) := by decide +kernel
theorem dX12_add_123 : decode cX12_add 123 = .ok (.iinc 8 1, 3) := by decide +kernel
theorem dX12_add_126 : decode cX12_add 126 = .ok (.goto (-40), 3) := by decide +kernel
theorem dX12_add_129 : decode cX12_add 129 = .ok (.aload_n 0, 1) := by decide +kernel
theorem dX12_add_130 : decode cX12_add 130 = .ok (.getfield 122, 3) := by decide +kernel
theorem dX12_add_133 : decode cX12_add 133 = .ok (.iload 7, 2) := by decide +kernel
theorem dX12_add_135 : decode cX12_add 135 = .ok (.iaload, 1) := by decide +kernel
theorem dX12_add_136 : decode cX12_add 136 = .ok (.iconst 2, 1) := by decide +kernel
theorem dX12_add_137 : decode cX12_add 137 = .ok (.if_icmp .le 64, 3) := by decide +kernel
theorem dX12_add_140 : decode cX12_add 140 = .ok (.aload_n 0, 1) := by decide +kernel
theorem dX12_add_141 : decode cX12_add 141 = .ok (.getfield 122, 3) := by decide +kernel
theorem dX12_add_144 : decode cX12_add 144 = .ok (.iload 7, 2) := by decide +kernel
theorem dX12_add_146 : decode cX12_add 146 = .ok (.iconst 4, 1) := by decide +kernel
theorem dX12_add_147 : decode cX12_add 147 = .ok (.iadd, 1) := by decide +kernel
theorem dX12_add_148 : decode cX12_add 148 = .ok (.aload_n 0, 1) := by decide +kernel
theorem dX12_add_149 : decode cX12_add 149 = .ok (.aload_n 0, 1) := by decide +kernel
theorem dX12_add_150 : decode cX12_add 150 = .ok (.getfield 122, 3) := by decide +kernel
theorem dX12_add_153 : decode cX12_add 153 = .ok (.iload 7, 2) := by decide +kernel
theorem dX12_add_155 : decode cX12_add 155 = .ok (.iconst 1, 1) := by decide +kernel
theorem dX12_add_156 : decode cX12_add 156 = .ok (.iadd, 1) := by decide +kernel
theorem dX12_add_157 : decode cX12_add 157 = .ok (.iaload, 1) := by decide +kernel
theorem dX12_add_158 : decode cX12_add 158 = .ok (.iload 5, 2) := by decide +kernel
theorem dX12_add_160 : decode cX12_add 160 = .ok (.aload_n 0, 1) := by decide +kernel
theorem dX12_add_161 : decode cX12_add 161 = .ok (.getfield 187, 3) := by decide +kernel
theorem dX12_add_164 : decode cX12_add 164 = .ok (.invokevirtual 184, 3) := by decide +kernel
theorem dX12_add_167 : decode cX12_add 167 = .ok (.iastore, 1) := by decide +kernel
theorem dX12_add_168 : decode cX12_add 168 = .ok (.aload_n 0, 1) := by decide +kernel
theorem dX12_add_169 : decode cX12_add 169 = .ok (.getfield 122, 3) := by decide +kernel
theorem dX12_add_172 : decode cX12_add 172 = .ok (.iload 7, 2) := by decide +kernel
theorem dX12_add_174 : decode cX12_add 174 = .ok (.iconst 5, 1) := by decide +kernel
theorem dX12_add_175 : decode cX12_add 175 = .ok (.iadd, 1) := by decide +kernel
theorem dX12_add_176 : decode cX12_add 176 = .ok (.aload_n 0, 1) := by decide +kernel
theorem dX12_add_177 : decode cX12_add 177 = .ok (.getfield 122, 3) := by decide +kernel
theorem dX12_add_180 : decode cX12_add 180 = .ok (.iload 7, 2) := by decide +kernel
theorem dX12_add_182 : decode cX12_add 182 = .ok (.iconst 4, 1) := by decide +kernel
theorem dX12_add_183 : decode cX12_add 183 = .ok (.iadd, 1) := by decide +kernel
theorem dX12_add_184 : decode cX12_add 184 = .ok (.iaload, 1) := by decide +kernel
theorem dX12_add_185 : decode cX12_add 185 = .ok (.aload_n 0, 1) := by decide +kernel
theorem dX12_add_186 : decode cX12_add 186 = .ok (.getfield 56, 3) := by decide +kernel
theorem dX12_add_189 : decode cX12_add 189 = .ok (.aload_n 0, 1) := by decide +kernel
theorem dX12_add_190 : decode cX12_add 190 = .ok (.getfield 122, 3) := by decide +kernel
theorem dX12_add_193 : decode cX12_add 193 = .ok (.iload 7, 2) := by decide +kernel
theorem dX12_add_195 : decode cX12_add 195 = .ok (.iconst 1, 1) := by decide +kernel
theorem dX12_add_196 : decode cX12_add 196 = .ok (.iadd, 1) := by decide +kernel
theorem dX12_add_197 : decode cX12_add 197 = .ok (.iaload, 1) := by decide +kernel
theorem dX12_add_198 : decode cX12_add 198 = .ok (.iaload, 1) := by decide +kernel
theorem dX12_add_199 : decode cX12_add 199 = .ok (.iadd, 1) := by decide +kernel
theorem dX12_add_200 : decode cX12_add 200 = .ok (.iastore, 1) := by decide +kernel
theorem dX12_add_201 : decode cX12_add 201 = .ok (.aload_n 0, 1) := by decide +kernel
theorem dX12_add_202 : decode cX12_add 202 = .ok (.getfield 122, 3) := by decide +kernel
theorem dX12_add_205 : decode cX12_add 205 = .ok (.iload 7, 2) := by decide +kernel
theorem dX12_add_207 : decode cX12_add 207 = .ok (.iconst 5, 1) := by decide +kernel
theorem dX12_add_208 : decode cX12_add 208 = .ok (.iadd, 1) := by decide +kernel
theorem dX12_add_209 : decode cX12_add 209 = .ok (.iaload, 1) := by decide +kernel
theorem dX12_add_210 : decode cX12_add 210 = .ok (.istore 5, 2) := by decide +kernel
theorem dX12_add_212 : decode cX12_add 212 = .ok (.iinc 6 1, 3) := by decide +kernel
theorem dX12_add_215 : decode cX12_add 215 = .ok (.goto (-154), 3) := by decide +kernel
theorem dX12_add_218 : decode cX12_add 218 = .ok (.aload_n 0, 1) := by decide +kernel
theorem dX12_add_219 : decode cX12_add 219 = .ok (.dup, 1) := by decide +kernel
theorem dX12_add_220 : decode cX12_add 220 = .ok (.getfield 261, 3) := by decide +kernel
theorem dX12_add_223 : decode cX12_add 223 = .ok (.iconst 1, 1) := by decide +kernel
theorem dX12_add_224 : decode cX12_add 224 = .ok (.iadd, 1) := by decide +kernel
theorem dX12_add_225 : decode cX12_add 225 = .ok (.putfield 261, 3) := by decide +kernel
theorem dX12_add_228 : decode cX12_add 228 = .ok (.return_, 1) := by decide +kernel
theorem dX12_ways_0 : decode cX12_ways 0 = .ok (.aload_n 0, 1) := by decide +kernel
theorem dX12_ways_1 : decode cX12_ways 1 = .ok (.iload_n 1, 1) := by decide +kernel
theorem dX12_ways_2 : decode cX12_ways 2 = .ok (.invokevirtual 167, 3) := by decide +kernel
theorem dX12_ways_5 : decode cX12_ways 5 = .ok (.ifCond .eq 30, 3) := by decide +kernel
theorem dX12_ways_8 : decode cX12_ways 8 = .ok (.aload_n 0, 1) := by decide +kernel
theorem dX12_ways_9 : decode cX12_ways 9 = .ok (.iload_n 2, 1) := by decide +kernel
theorem dX12_ways_10 : decode cX12_ways 10 = .ok (.invokevirtual 167, 3) := by decide +kernel
theorem dX12_ways_13 : decode cX12_ways 13 = .ok (.ifCond .eq 22, 3) := by decide +kernel
theorem dX12_ways_16 : decode cX12_ways 16 = .ok (.iload_n 3, 1) := by decide +kernel
theorem dX12_ways_17 : decode cX12_ways 17 = .ok (.invokestatic 164, 3) := by decide +kernel
theorem dX12_ways_20 : decode cX12_ways 20 = .ok (.ifCond .eq 15, 3) := by decide +kernel
theorem dX12_ways_23 : decode cX12_ways 23 = .ok (.iload 4, 2) := by decide +kernel
theorem dX12_ways_25 : decode cX12_ways 25 = .ok (.iconst 0, 1) := by decide +kernel
theorem dX12_ways_26 : decode cX12_ways 26 = .ok (.sipush 1439, 3) := by decide +kernel
theorem dX12_ways_29 : decode cX12_ways 29 = .ok (.invokestatic 150, 3) := by decide +kernel
theorem dX12_ways_32 : decode cX12_ways 32 = .ok (.ifCond .ne 6, 3) := by decide +kernel
theorem dX12_ways_35 : decode cX12_ways 35 = .ok (.bipush (-2), 2) := by decide +kernel
theorem dX12_ways_37 : decode cX12_ways 37 = .ok (.ireturn, 1) := by decide +kernel
theorem dX12_ways_38 : decode cX12_ways 38 = .ok (.aload_n 0, 1) := by decide +kernel
theorem dX12_ways_39 : decode cX12_ways 39 = .ok (.iload_n 3, 1) := by decide +kernel
theorem dX12_ways_40 : decode cX12_ways 40 = .ok (.iload 4, 2) := by decide +kernel
theorem dX12_ways_42 : decode cX12_ways 42 = .ok (.invokevirtual 264, 3) := by decide +kernel
theorem dX12_ways_45 : decode cX12_ways 45 = .ok (.aload_n 0, 1) := by decide +kernel
theorem dX12_ways_46 : decode cX12_ways 46 = .ok (.iload_n 1, 1) := by decide +kernel
theorem dX12_ways_47 : decode cX12_ways 47 = .ok (.sipush 1440, 3) := by decide +kernel
theorem dX12_ways_50 : decode cX12_ways 50 = .ok (.iload_n 3, 1) := by decide +kernel
theorem dX12_ways_51 : decode cX12_ways 51 = .ok (.imul, 1) := by decide +kernel
theorem dX12_ways_52 : decode cX12_ways 52 = .ok (.iload 4, 2) := by decide +kernel
theorem dX12_ways_54 : decode cX12_ways 54 = .ok (.iadd, 1) := by decide +kernel
theorem dX12_ways_55 : decode cX12_ways 55 = .ok (.invokevirtual 267, 3) := by decide +kernel
theorem dX12_ways_58 : decode cX12_ways 58 = .ok (.aload_n 0, 1) := by decide +kernel
theorem dX12_ways_59 : decode cX12_ways 59 = .ok (.iconst 0, 1) := by decide +kernel
theorem dX12_ways_60 : decode cX12_ways 60 = .ok (.putfield 261, 3) := by decide +kernel
theorem dX12_ways_63 : decode cX12_ways 63 = .ok (.iconst (-1), 1) := by decide +kernel
theorem dX12_ways_64 : decode cX12_ways 64 = .ok (.istore 5, 2) := by decide +kernel
theorem dX12_ways_66 : decode cX12_ways 66 = .ok (.iload 5, 2) := by decide +kernel
theorem dX12_ways_68 : decode cX12_ways 68 = .ok (.ldc 208, 2) := by decide +kernel
theorem dX12_ways_70 : decode cX12_ways 70 = .ok (.if_icmp .ge 164, 3) := by decide +kernel
theorem dX12_ways_73 : decode cX12_ways 73 = .ok (.ldc 208, 2) := by decide +kernel
theorem dX12_ways_75 : decode cX12_ways 75 = .ok (.istore 6, 2) := by decide +kernel
theorem dX12_ways_77 : decode cX12_ways 77 = .ok (.iconst 0, 1) := by decide +kernel
theorem dX12_ways_78 : decode cX12_ways 78 = .ok (.istore 7, 2) := by decide +kernel
theorem dX12_ways_80 : decode cX12_ways 80 = .ok (.iload 7, 2) := by decide +kernel
theorem dX12_ways_82 : decode cX12_ways 82 = .ok (.iconst 4, 1) := by decide +kernel
theorem dX12_ways_83 : decode cX12_ways 83 = .ok (.if_icmp .ge 54, 3) := by decide +kernel
theorem dX12_ways_86 : decode cX12_ways 86 = .ok (.iconst 0, 1) := by decide +kernel
theorem dX12_ways_87 : decode cX12_ways 87 = .ok (.istore 8, 2) := by decide +kernel
theorem dX12_ways_89 : decode cX12_ways 89 = .ok (.iload 8, 2) := by decide +kernel
theorem dX12_ways_91 : decode cX12_ways 91 = .ok (.bipush 28, 2) := by decide +kernel
theorem dX12_ways_93 : decode cX12_ways 93 = .ok (.if_icmp .ge 38, 3) := by decide +kernel
theorem dX12_ways_96 : decode cX12_ways 96 = .ok (.aload_n 0, 1) := by decide +kernel
theorem dX12_ways_97 : decode cX12_ways 97 = .ok (.iload 7, 2) := by decide +kernel
theorem dX12_ways_99 : decode cX12_ways 99 = .ok (.iload 8, 2) := by decide +kernel
theorem dX12_ways_101 : decode cX12_ways 101 = .ok (.iload_n 2, 1) := by decide +kernel
theorem dX12_ways_102 : decode cX12_ways 102 = .ok (.invokevirtual 230, 3) := by decide +kernel
theorem dX12_ways_105 : decode cX12_ways 105 = .ok (.istore 9, 2) := by decide +kernel
theorem dX12_ways_107 : decode cX12_ways 107 = .ok (.iload 9, 2) := by decide +kernel
theorem dX12_ways_109 : decode cX12_ways 109 = .ok (.iload 5, 2) := by decide +kernel
theorem dX12_ways_111 : decode cX12_ways 111 = .ok (.if_icmp .le 14, 3) := by decide +kernel
theorem dX12_ways_114 : decode cX12_ways 114 = .ok (.iload 9, 2) := by decide +kernel
theorem dX12_ways_116 : decode cX12_ways 116 = .ok (.iload 6, 2) := by decide +kernel
theorem dX12_ways_118 : decode cX12_ways 118 = .ok (.if_icmp .ge 7, 3) := by decide +kernel
theorem dX12_ways_121 : decode cX12_ways 121 = .ok (.iload 9, 2) := by decide +kernel
theorem dX12_ways_123 : decode cX12_ways 123 = .ok (.istore 6, 2) := by decide +kernel
theorem dX12_ways_125 : decode cX12_ways 125 = .ok (.iinc 8 1, 3) := by decide +kernel
theorem dX12_ways_128 : decode cX12_ways 128 = .ok (.goto (-39), 3) := by decide +kernel
theorem dX12_ways_131 : decode cX12_ways 131 = .ok (.iinc 7 1, 3) := by decide +kernel
theorem dX12_ways_134 : decode cX12_ways 134 = .ok (.goto (-54), 3) := by decide +kernel
theorem dX12_ways_137 : decode cX12_ways 137 = .ok (.iload 6, 2) := by decide +kernel
theorem dX12_ways_139 : decode cX12_ways 139 = .ok (.istore 5, 2) := by decide +kernel
theorem dX12_ways_141 : decode cX12_ways 141 = .ok (.iconst 0, 1) := by decide +kernel
theorem dX12_ways_142 : decode cX12_ways 142 = .ok (.istore 7, 2) := by decide +kernel
theorem dX12_ways_144 : decode cX12_ways 144 = .ok (.iload 7, 2) := by decide +kernel
theorem dX12_ways_146 : decode cX12_ways 146 = .ok (.iconst 4, 1) := by decide +kernel
theorem dX12_ways_147 : decode cX12_ways 147 = .ok (.if_icmp .ge 84, 3) := by decide +kernel
theorem dX12_ways_150 : decode cX12_ways 150 = .ok (.iload 5, 2) := by decide +kernel
theorem dX12_ways_152 : decode cX12_ways 152 = .ok (.ldc 208, 2) := by decide +kernel
theorem dX12_ways_154 : decode cX12_ways 154 = .ok (.if_icmp .ge 77, 3) := by decide +kernel
theorem dX12_ways_157 : decode cX12_ways 157 = .ok (.iconst 0, 1) := by decide +kernel
theorem dX12_ways_158 : decode cX12_ways 158 = .ok (.istore 8, 2) := by decide +kernel
theorem dX12_ways_160 : decode cX12_ways 160 = .ok (.iload 8, 2) := by decide +kernel
theorem dX12_ways_162 : decode cX12_ways 162 = .ok (.bipush 28, 2) := by decide +kernel
theorem dX12_ways_164 : decode cX12_ways 164 = .ok (.if_icmp .ge 61, 3) := by decide +kernel
theorem dX12_ways_167 : decode cX12_ways 167 = .ok (.aload_n 0, 1) := by decide +kernel
theorem dX12_ways_168 : decode cX12_ways 168 = .ok (.iload 7, 2) := by decide +kernel
theorem dX12_ways_170 : decode cX12_ways 170 = .ok (.iload 8, 2) := by decide +kernel
theorem dX12_ways_172 : decode cX12_ways 172 = .ok (.iload_n 2, 1) := by decide +kernel
theorem dX12_ways_173 : decode cX12_ways 173 = .ok (.invokevirtual 230, 3) := by decide +kernel
theorem dX12_ways_176 : decode cX12_ways 176 = .ok (.iload 5, 2) := by decide +kernel
theorem dX12_ways_178 : decode cX12_ways 178 = .ok (.if_icmp .ne 41, 3) := by decide +kernel
theorem dX12_ways_181 : decode cX12_ways 181 = .ok (.aload_n 0, 1) := by decide +kernel
theorem dX12_ways_182 : decode cX12_ways 182 = .ok (.iload 5, 2) := by decide +kernel
theorem dX12_ways_184 : decode cX12_ways 184 = .ok (.iload 7, 2) := by decide +kernel
theorem dX12_ways_186 : decode cX12_ways 186 = .ok (.iload 8, 2) := by decide +kernel
theorem dX12_ways_188 : decode cX12_ways 188 = .ok (.iload_n 2, 1) := by decide +kernel
theorem dX12_ways_189 : decode cX12_ways 189 = .ok (.invokevirtual 270, 3) := by decide +kernel
theorem dX12_ways_192 : decode cX12_ways 192 = .ok (.ifCond .eq 6, 3) := by decide +kernel
theorem dX12_ways_195 : decode cX12_ways 195 = .ok (.goto 24, 3) := by decide +kernel
theorem dX12_ways_198 : decode cX12_ways 198 = .ok (.aload_n 0, 1) := by decide +kernel
theorem dX12_ways_199 : decode cX12_ways 199 = .ok (.iload 7, 2) := by decide +kernel
theorem dX12_ways_201 : decode cX12_ways 201 = .ok (.iload 8, 2) := by decide +kernel
theorem dX12_ways_203 : decode cX12_ways 203 = .ok (.iload_n 2, 1) := by decide +kernel
theorem dX12_ways_204 : decode cX12_ways 204 = .ok (.iload 5, 2) := by decide +kernel
theorem dX12_ways_206 : decode cX12_ways 206 = .ok (.invokevirtual 273, 3) := by decide +kernel
theorem dX12_ways_209 : decode cX12_ways 209 = .ok (.aload_n 0, 1) := by decide +kernel
theorem dX12_ways_210 : decode cX12_ways 210 = .ok (.iload 5, 2) := by decide +kernel
theorem dX12_ways_212 : decode cX12_ways 212 = .ok (.iload 7, 2) := by decide +kernel
theorem dX12_ways_214 : decode cX12_ways 214 = .ok (.iload 8, 2) := by decide +kernel
theorem dX12_ways_216 : decode cX12_ways 216 = .ok (.invokevirtual 277, 3) := by decide +kernel
theorem dX12_ways_219 : decode cX12_ways 219 = .ok (.iinc 8 1, 3) := by decide +kernel
theorem dX12_ways_222 : decode cX12_ways 222 = .ok (.goto (-62), 3) := by decide +kernel
theorem dX12_ways_225 : decode cX12_ways 225 = .ok (.iinc 7 1, 3) := by decide +kernel
theorem dX12_ways_228 : decode cX12_ways 228 = .ok (.goto (-84), 3) := by decide +kernel
theorem dX12_ways_231 : decode cX12_ways 231 = .ok (.goto (-165), 3) := by decide +kernel
theorem dX12_ways_234 : decode cX12_ways 234 = .ok (.aload_n 0, 1) := by decide +kernel
theorem dX12_ways_235 : decode cX12_ways 235 = .ok (.getfield 261, 3) := by decide +kernel
theorem dX12_ways_238 : decode cX12_ways 238 = .ok (.ireturn, 1) := by decide +kernel
theorem dX12_way_0 : decode cX12_way 0 = .ok (.iload_n 1, 1) := by decide +kernel
theorem dX12_way_1 : decode cX12_way 1 = .ok (.iconst 0, 1) := by decide +kernel
theorem dX12_way_2 : decode cX12_way 2 = .ok (.aload_n 0, 1) := by decide +kernel
theorem dX12_way_3 : decode cX12_way 3 = .ok (.getfield 261, 3) := by decide +kernel
theorem dX12_way_6 : decode cX12_way 6 = .ok (.iconst 1, 1) := by decide +kernel
theorem dX12_way_7 : decode cX12_way 7 = .ok (.isub, 1) := by decide +kernel
theorem dX12_way_8 : decode cX12_way 8 = .ok (.invokestatic 150, 3) := by decide +kernel
theorem dX12_way_11 : decode cX12_way 11 = .ok (.ifCond .ne 6, 3) := by decide +kernel
theorem dX12_way_14 : decode cX12_way 14 = .ok (.bipush (-2), 2) := by decide +kernel
theorem dX12_way_16 : decode cX12_way 16 = .ok (.ireturn, 1) := by decide +kernel
theorem dX12_way_17 : decode cX12_way 17 = .ok (.iload_n 2, 1) := by decide +kernel
theorem dX12_way_18 : decode cX12_way 18 = .ok (.tableswitch 92 0 4 #[34, 64, 71, 78, 85], 34) := by decide +kernel
theorem dX12_way_52 : decode cX12_way 52 = .ok (.aload_n 0, 1) := by decide +kernel
theorem dX12_way_53 : decode cX12_way 53 = .ok (.getfield 116, 3) := by decide +kernel
theorem dX12_way_56 : decode cX12_way 56 = .ok (.iload_n 1, 1) := by decide +kernel
theorem dX12_way_57 : decode cX12_way 57 = .ok (.iaload, 1) := by decide +kernel
theorem dX12_way_58 : decode cX12_way 58 = .ok (.ifCond .ne 12, 3) := by decide +kernel
theorem dX12_way_61 : decode cX12_way 61 = .ok (.aload_n 0, 1) := by decide +kernel
theorem dX12_way_62 : decode cX12_way 62 = .ok (.getfield 119, 3) := by decide +kernel
theorem dX12_way_65 : decode cX12_way 65 = .ok (.iload_n 1, 1) := by decide +kernel
theorem dX12_way_66 : decode cX12_way 66 = .ok (.iaload, 1) := by decide +kernel
theorem dX12_way_67 : decode cX12_way 67 = .ok (.goto 14, 3) := by decide +kernel
theorem dX12_way_70 : decode cX12_way 70 = .ok (.aload_n 0, 1) := by decide +kernel
theorem dX12_way_71 : decode cX12_way 71 = .ok (.getfield 122, 3) := by decide +kernel
theorem dX12_way_74 : decode cX12_way 74 = .ok (.bipush 63, 2) := by decide +kernel
theorem dX12_way_76 : decode cX12_way 76 = .ok (.iload_n 1, 1) := by decide +kernel
theorem dX12_way_77 : decode cX12_way 77 = .ok (.imul, 1) := by decide +kernel
theorem dX12_way_78 : decode cX12_way 78 = .ok (.iconst 4, 1) := by decide +kernel
theorem dX12_way_79 : decode cX12_way 79 = .ok (.iadd, 1) := by decide +kernel
theorem dX12_way_80 : decode cX12_way 80 = .ok (.iaload, 1) := by decide +kernel
theorem dX12_way_81 : decode cX12_way 81 = .ok (.ireturn, 1) := by decide +kernel
theorem dX12_way_82 : decode cX12_way 82 = .ok (.aload_n 0, 1) := by decide +kernel
theorem dX12_way_83 : decode cX12_way 83 = .ok (.getfield 107, 3) := by decide +kernel
theorem dX12_way_86 : decode cX12_way 86 = .ok (.iload_n 1, 1) := by decide +kernel
theorem dX12_way_87 : decode cX12_way 87 = .ok (.iaload, 1) := by decide +kernel
theorem dX12_way_88 : decode cX12_way 88 = .ok (.ireturn, 1) := by decide +kernel
theorem dX12_way_89 : decode cX12_way 89 = .ok (.aload_n 0, 1) := by decide +kernel
theorem dX12_way_90 : decode cX12_way 90 = .ok (.getfield 110, 3) := by decide +kernel
theorem dX12_way_93 : decode cX12_way 93 = .ok (.iload_n 1, 1) := by decide +kernel
theorem dX12_way_94 : decode cX12_way 94 = .ok (.iaload, 1) := by decide +kernel
theorem dX12_way_95 : decode cX12_way 95 = .ok (.ireturn, 1) := by decide +kernel
theorem dX12_way_96 : decode cX12_way 96 = .ok (.aload_n 0, 1) := by decide +kernel
theorem dX12_way_97 : decode cX12_way 97 = .ok (.getfield 113, 3) := by decide +kernel
theorem dX12_way_100 : decode cX12_way 100 = .ok (.iload_n 1, 1) := by decide +kernel
theorem dX12_way_101 : decode cX12_way 101 = .ok (.iaload, 1) := by decide +kernel
theorem dX12_way_102 : decode cX12_way 102 = .ok (.ireturn, 1) := by decide +kernel
theorem dX12_way_103 : decode cX12_way 103 = .ok (.aload_n 0, 1) := by decide +kernel
theorem dX12_way_104 : decode cX12_way 104 = .ok (.getfield 116, 3) := by decide +kernel
theorem dX12_way_107 : decode cX12_way 107 = .ok (.iload_n 1, 1) := by decide +kernel
theorem dX12_way_108 : decode cX12_way 108 = .ok (.iaload, 1) := by decide +kernel
theorem dX12_way_109 : decode cX12_way 109 = .ok (.ireturn, 1) := by decide +kernel
theorem dX12_way_110 : decode cX12_way 110 = .ok (.bipush (-2), 2) := by decide +kernel
theorem dX12_way_112 : decode cX12_way 112 = .ok (.ireturn, 1) := by decide +kernel
theorem dX12_leg_0 : decode cX12_leg 0 = .ok (.iload_n 1, 1) := by decide +kernel
theorem dX12_leg_1 : decode cX12_leg 1 = .ok (.iconst 0, 1) := by decide +kernel
theorem dX12_leg_2 : decode cX12_leg 2 = .ok (.aload_n 0, 1) := by decide +kernel
theorem dX12_leg_3 : decode cX12_leg 3 = .ok (.getfield 261, 3) := by decide +kernel
theorem dX12_leg_6 : decode cX12_leg 6 = .ok (.iconst 1, 1) := by decide +kernel
theorem dX12_leg_7 : decode cX12_leg 7 = .ok (.isub, 1) := by decide +kernel
theorem dX12_leg_8 : decode cX12_leg 8 = .ok (.invokestatic 150, 3) := by decide +kernel
theorem dX12_leg_11 : decode cX12_leg 11 = .ok (.ifCond .eq 48, 3) := by decide +kernel
theorem dX12_leg_14 : decode cX12_leg 14 = .ok (.iload_n 2, 1) := by decide +kernel
theorem dX12_leg_15 : decode cX12_leg 15 = .ok (.iconst 0, 1) := by decide +kernel
theorem dX12_leg_16 : decode cX12_leg 16 = .ok (.aload_n 0, 1) := by decide +kernel
theorem dX12_leg_17 : decode cX12_leg 17 = .ok (.getfield 116, 3) := by decide +kernel
theorem dX12_leg_20 : decode cX12_leg 20 = .ok (.iload_n 1, 1) := by decide +kernel
theorem dX12_leg_21 : decode cX12_leg 21 = .ok (.iaload, 1) := by decide +kernel
theorem dX12_leg_22 : decode cX12_leg 22 = .ok (.iconst 1, 1) := by decide +kernel
theorem dX12_leg_23 : decode cX12_leg 23 = .ok (.isub, 1) := by decide +kernel
theorem dX12_leg_24 : decode cX12_leg 24 = .ok (.invokestatic 150, 3) := by decide +kernel
theorem dX12_leg_27 : decode cX12_leg 27 = .ok (.ifCond .eq 32, 3) := by decide +kernel
theorem dX12_leg_30 : decode cX12_leg 30 = .ok (.iload_n 3, 1) := by decide +kernel
theorem dX12_leg_31 : decode cX12_leg 31 = .ok (.iconst 0, 1) := by decide +kernel
theorem dX12_leg_32 : decode cX12_leg 32 = .ok (.bipush 8, 2) := by decide +kernel
theorem dX12_leg_34 : decode cX12_leg 34 = .ok (.invokestatic 150, 3) := by decide +kernel
theorem dX12_leg_37 : decode cX12_leg 37 = .ok (.ifCond .eq 22, 3) := by decide +kernel
theorem dX12_leg_40 : decode cX12_leg 40 = .ok (.aload_n 0, 1) := by decide +kernel
theorem dX12_leg_41 : decode cX12_leg 41 = .ok (.getfield 122, 3) := by decide +kernel
theorem dX12_leg_44 : decode cX12_leg 44 = .ok (.bipush 63, 2) := by decide +kernel
theorem dX12_leg_46 : decode cX12_leg 46 = .ok (.iload_n 1, 1) := by decide +kernel
theorem dX12_leg_47 : decode cX12_leg 47 = .ok (.imul, 1) := by decide +kernel
theorem dX12_leg_48 : decode cX12_leg 48 = .ok (.bipush 9, 2) := by decide +kernel
theorem dX12_leg_50 : decode cX12_leg 50 = .ok (.iload_n 2, 1) := by decide +kernel
theorem dX12_leg_51 : decode cX12_leg 51 = .ok (.imul, 1) := by decide +kernel
theorem dX12_leg_52 : decode cX12_leg 52 = .ok (.iadd, 1) := by decide +kernel
theorem dX12_leg_53 : decode cX12_leg 53 = .ok (.iload_n 3, 1) := by decide +kernel
theorem dX12_leg_54 : decode cX12_leg 54 = .ok (.iadd, 1) := by decide +kernel
theorem dX12_leg_55 : decode cX12_leg 55 = .ok (.iaload, 1) := by decide +kernel
theorem dX12_leg_56 : decode cX12_leg 56 = .ok (.goto 5, 3) := by decide +kernel
theorem dX12_leg_59 : decode cX12_leg 59 = .ok (.bipush (-2), 2) := by decide +kernel
theorem dX12_leg_61 : decode cX12_leg 61 = .ok (.ireturn, 1) := by decide +kernel
theorem dX12_places_0 : decode cX12_places 0 = .ok (.iconst 0, 1) := by decide +kernel
theorem dX12_places_1 : decode cX12_places 1 = .ok (.istore 5, 2) := by decide +kernel
theorem dX12_places_3 : decode cX12_places 3 = .ok (.iconst 0, 1) := by decide +kernel
theorem dX12_places_4 : decode cX12_places 4 = .ok (.istore 6, 2) := by decide +kernel
theorem dX12_places_6 : decode cX12_places 6 = .ok (.iload 6, 2) := by decide +kernel
theorem dX12_places_8 : decode cX12_places 8 = .ok (.iload_n 3, 1) := by decide +kernel
theorem dX12_places_9 : decode cX12_places 9 = .ok (.if_icmp .ge 134, 3) := by decide +kernel
theorem dX12_places_12 : decode cX12_places 12 = .ok (.iload_n 2, 1) := by decide +kernel
theorem dX12_places_13 : decode cX12_places 13 = .ok (.bipush 9, 2) := by decide +kernel
theorem dX12_places_15 : decode cX12_places 15 = .ok (.iload 6, 2) := by decide +kernel
theorem dX12_places_17 : decode cX12_places 17 = .ok (.imul, 1) := by decide +kernel
theorem dX12_places_18 : decode cX12_places 18 = .ok (.iadd, 1) := by decide +kernel
theorem dX12_places_19 : decode cX12_places 19 = .ok (.istore 7, 2) := by decide +kernel
theorem dX12_places_21 : decode cX12_places 21 = .ok (.aload_n 1, 1) := by decide +kernel
theorem dX12_places_22 : decode cX12_places 22 = .ok (.iload 7, 2) := by decide +kernel
theorem dX12_places_24 : decode cX12_places 24 = .ok (.iaload, 1) := by decide +kernel
theorem dX12_places_25 : decode cX12_places 25 = .ok (.iconst 1, 1) := by decide +kernel
theorem dX12_places_26 : decode cX12_places 26 = .ok (.if_icmp .eq 14, 3) := by decide +kernel
theorem dX12_places_29 : decode cX12_places 29 = .ok (.aload_n 1, 1) := by decide +kernel
theorem dX12_places_30 : decode cX12_places 30 = .ok (.iload 7, 2) := by decide +kernel
theorem dX12_places_32 : decode cX12_places 32 = .ok (.iaload, 1) := by decide +kernel
theorem dX12_places_33 : decode cX12_places 33 = .ok (.iconst 2, 1) := by decide +kernel
theorem dX12_places_34 : decode cX12_places 34 = .ok (.if_icmp .eq 6, 3) := by decide +kernel
theorem dX12_places_37 : decode cX12_places 37 = .ok (.goto 100, 3) := by decide +kernel
theorem dX12_places_40 : decode cX12_places 40 = .ok (.aload_n 1, 1) := by decide +kernel
theorem dX12_places_41 : decode cX12_places 41 = .ok (.iload 7, 2) := by decide +kernel
theorem dX12_places_43 : decode cX12_places 43 = .ok (.iconst 1, 1) := by decide +kernel
theorem dX12_places_44 : decode cX12_places 44 = .ok (.iadd, 1) := by decide +kernel
theorem dX12_places_45 : decode cX12_places 45 = .ok (.iaload, 1) := by decide +kernel
theorem dX12_places_46 : decode cX12_places 46 = .ok (.istore 8, 2) := by decide +kernel
theorem dX12_places_48 : decode cX12_places 48 = .ok (.aload_n 1, 1) := by decide +kernel
theorem dX12_places_49 : decode cX12_places 49 = .ok (.iload 7, 2) := by decide +kernel
theorem dX12_places_51 : decode cX12_places 51 = .ok (.bipush 7, 2) := by decide +kernel
theorem dX12_places_53 : decode cX12_places 53 = .ok (.iadd, 1) := by decide +kernel
theorem dX12_places_54 : decode cX12_places 54 = .ok (.iaload, 1) := by decide +kernel
theorem dX12_places_55 : decode cX12_places 55 = .ok (.istore 9, 2) := by decide +kernel
theorem dX12_places_57 : decode cX12_places 57 = .ok (.iload 9, 2) := by decide +kernel
theorem dX12_places_59 : decode cX12_places 59 = .ok (.aload_n 1, 1) := by decide +kernel
theorem dX12_places_60 : decode cX12_places 60 = .ok (.iload 7, 2) := by decide +kernel
theorem dX12_places_62 : decode cX12_places 62 = .ok (.bipush 8, 2) := by decide +kernel
theorem dX12_places_64 : decode cX12_places 64 = .ok (.iadd, 1) := by decide +kernel
theorem dX12_places_65 : decode cX12_places 65 = .ok (.iaload, 1) := by decide +kernel
theorem dX12_places_66 : decode cX12_places 66 = .ok (.if_icmp .ge 71, 3) := by decide +kernel
theorem dX12_places_69 : decode cX12_places 69 = .ok (.bipush 100, 2) := by decide +kernel
theorem dX12_places_71 : decode cX12_places 71 = .ok (.iload 8, 2) := by decide +kernel
theorem dX12_places_73 : decode cX12_places 73 = .ok (.imul, 1) := by decide +kernel
theorem dX12_places_74 : decode cX12_places 74 = .ok (.aload_n 1, 1) := by decide +kernel
theorem dX12_places_75 : decode cX12_places 75 = .ok (.iload 7, 2) := by decide +kernel
theorem dX12_places_77 : decode cX12_places 77 = .ok (.bipush 6, 2) := by decide +kernel
theorem dX12_places_79 : decode cX12_places 79 = .ok (.iadd, 1) := by decide +kernel
theorem dX12_places_80 : decode cX12_places 80 = .ok (.iaload, 1) := by decide +kernel
theorem dX12_places_81 : decode cX12_places 81 = .ok (.iadd, 1) := by decide +kernel
theorem dX12_places_82 : decode cX12_places 82 = .ok (.bipush 8, 2) := by decide +kernel
theorem dX12_places_84 : decode cX12_places 84 = .ok (.imul, 1) := by decide +kernel
theorem dX12_places_85 : decode cX12_places 85 = .ok (.iload 9, 2) := by decide +kernel
theorem dX12_places_87 : decode cX12_places 87 = .ok (.iadd, 1) := by decide +kernel
theorem dX12_places_88 : decode cX12_places 88 = .ok (.istore 10, 2) := by decide +kernel
theorem dX12_places_90 : decode cX12_places 90 = .ok (.aload_n 0, 1) := by decide +kernel
theorem dX12_places_91 : decode cX12_places 91 = .ok (.getfield 86, 3) := by decide +kernel
theorem dX12_places_94 : decode cX12_places 94 = .ok (.iload 10, 2) := by decide +kernel
theorem dX12_places_96 : decode cX12_places 96 = .ok (.dup2, 1) := by decide +kernel
theorem dX12_places_97 : decode cX12_places 97 = .ok (.iaload, 1) := by decide +kernel
theorem dX12_places_98 : decode cX12_places 98 = .ok (.iload 4, 2) := by decide +kernel
theorem dX12_places_100 : decode cX12_places 100 = .ok (.iadd, 1) := by decide +kernel
theorem dX12_places_101 : decode cX12_places 101 = .ok (.iastore, 1) := by decide +kernel
theorem dX12_places_102 : decode cX12_places 102 = .ok (.iload 5, 2) := by decide +kernel
theorem dX12_places_104 : decode cX12_places 104 = .ok (.ifCond .ne 20, 3) := by decide +kernel
theorem dX12_places_107 : decode cX12_places 107 = .ok (.aload_n 0, 1) := by decide +kernel
theorem dX12_places_108 : decode cX12_places 108 = .ok (.getfield 86, 3) := by decide +kernel
theorem dX12_places_111 : decode cX12_places 111 = .ok (.iload 10, 2) := by decide +kernel
theorem dX12_places_113 : decode cX12_places 113 = .ok (.iaload, 1) := by decide +kernel
theorem dX12_places_114 : decode cX12_places 114 = .ok (.aload_n 0, 1) := by decide +kernel
theorem dX12_places_115 : decode cX12_places 115 = .ok (.getfield 28, 3) := by decide +kernel
theorem dX12_places_118 : decode cX12_places 118 = .ok (.iload 8, 2) := by decide +kernel
theorem dX12_places_120 : decode cX12_places 120 = .ok (.iaload, 1) := by decide +kernel
theorem dX12_places_121 : decode cX12_places 121 = .ok (.if_icmp .le 7, 3) := by decide +kernel
theorem dX12_places_124 : decode cX12_places 124 = .ok (.iconst 1, 1) := by decide +kernel
theorem dX12_places_125 : decode cX12_places 125 = .ok (.goto 4, 3) := by decide +kernel
theorem dX12_places_128 : decode cX12_places 128 = .ok (.iconst 0, 1) := by decide +kernel
theorem dX12_places_129 : decode cX12_places 129 = .ok (.istore 5, 2) := by decide +kernel
theorem dX12_places_131 : decode cX12_places 131 = .ok (.iinc 9 1, 3) := by decide +kernel
theorem dX12_places_134 : decode cX12_places 134 = .ok (.goto (-77), 3) := by decide +kernel
theorem dX12_places_137 : decode cX12_places 137 = .ok (.iinc 6 1, 3) := by decide +kernel
theorem dX12_places_140 : decode cX12_places 140 = .ok (.goto (-134), 3) := by decide +kernel
theorem dX12_places_143 : decode cX12_places 143 = .ok (.iload 5, 2) := by decide +kernel
theorem dX12_places_145 : decode cX12_places 145 = .ok (.ireturn, 1) := by decide +kernel
theorem dX12_take_0 : decode cX12_take 0 = .ok (.iload_n 1, 1) := by decide +kernel
theorem dX12_take_1 : decode cX12_take 1 = .ok (.iconst 0, 1) := by decide +kernel
theorem dX12_take_2 : decode cX12_take 2 = .ok (.aload_n 0, 1) := by decide +kernel
theorem dX12_take_3 : decode cX12_take 3 = .ok (.getfield 261, 3) := by decide +kernel
theorem dX12_take_6 : decode cX12_take 6 = .ok (.iconst 1, 1) := by decide +kernel
theorem dX12_take_7 : decode cX12_take 7 = .ok (.isub, 1) := by decide +kernel
theorem dX12_take_8 : decode cX12_take 8 = .ok (.invokestatic 150, 3) := by decide +kernel
theorem dX12_take_11 : decode cX12_take 11 = .ok (.ifCond .eq 12, 3) := by decide +kernel
theorem dX12_take_14 : decode cX12_take 14 = .ok (.aload_n 0, 1) := by decide +kernel
theorem dX12_take_15 : decode cX12_take 15 = .ok (.getfield 280, 3) := by decide +kernel
theorem dX12_take_18 : decode cX12_take 18 = .ok (.bipush 30, 2) := by decide +kernel
theorem dX12_take_20 : decode cX12_take 20 = .ok (.if_icmp .ne 6, 3) := by decide +kernel
theorem dX12_take_23 : decode cX12_take 23 = .ok (.bipush (-2), 2) := by decide +kernel
theorem dX12_take_25 : decode cX12_take 25 = .ok (.ireturn, 1) := by decide +kernel
theorem dX12_take_26 : decode cX12_take 26 = .ok (.aload_n 0, 1) := by decide +kernel
theorem dX12_take_27 : decode cX12_take 27 = .ok (.aload_n 0, 1) := by decide +kernel
theorem dX12_take_28 : decode cX12_take 28 = .ok (.getfield 122, 3) := by decide +kernel
theorem dX12_take_31 : decode cX12_take 31 = .ok (.bipush 63, 2) := by decide +kernel
theorem dX12_take_33 : decode cX12_take 33 = .ok (.iload_n 1, 1) := by decide +kernel
theorem dX12_take_34 : decode cX12_take 34 = .ok (.imul, 1) := by decide +kernel
theorem dX12_take_35 : decode cX12_take 35 = .ok (.aload_n 0, 1) := by decide +kernel
theorem dX12_take_36 : decode cX12_take 36 = .ok (.getfield 116, 3) := by decide +kernel
theorem dX12_take_39 : decode cX12_take 39 = .ok (.iload_n 1, 1) := by decide +kernel
theorem dX12_take_40 : decode cX12_take 40 = .ok (.iaload, 1) := by decide +kernel
theorem dX12_take_41 : decode cX12_take 41 = .ok (.iconst 1, 1) := by decide +kernel
theorem dX12_take_42 : decode cX12_take 42 = .ok (.invokevirtual 283, 3) := by decide +kernel
theorem dX12_take_45 : decode cX12_take 45 = .ok (.ifCond .eq 26, 3) := by decide +kernel
theorem dX12_take_48 : decode cX12_take 48 = .ok (.aload_n 0, 1) := by decide +kernel
theorem dX12_take_49 : decode cX12_take 49 = .ok (.aload_n 0, 1) := by decide +kernel
theorem dX12_take_50 : decode cX12_take 50 = .ok (.getfield 122, 3) := by decide +kernel
theorem dX12_take_53 : decode cX12_take 53 = .ok (.bipush 63, 2) := by decide +kernel
theorem dX12_take_55 : decode cX12_take 55 = .ok (.iload_n 1, 1) := by decide +kernel
theorem dX12_take_56 : decode cX12_take 56 = .ok (.imul, 1) := by decide +kernel
theorem dX12_take_57 : decode cX12_take 57 = .ok (.aload_n 0, 1) := by decide +kernel
theorem dX12_take_58 : decode cX12_take 58 = .ok (.getfield 116, 3) := by decide +kernel
theorem dX12_take_61 : decode cX12_take 61 = .ok (.iload_n 1, 1) := by decide +kernel
theorem dX12_take_62 : decode cX12_take 62 = .ok (.iaload, 1) := by decide +kernel
theorem dX12_take_63 : decode cX12_take 63 = .ok (.iconst (-1), 1) := by decide +kernel
theorem dX12_take_64 : decode cX12_take 64 = .ok (.invokevirtual 283, 3) := by decide +kernel
theorem dX12_take_67 : decode cX12_take 67 = .ok (.istore_n 2, 1) := by decide +kernel
theorem dX12_take_68 : decode cX12_take 68 = .ok (.bipush (-2), 2) := by decide +kernel
theorem dX12_take_70 : decode cX12_take 70 = .ok (.ireturn, 1) := by decide +kernel
theorem dX12_take_71 : decode cX12_take 71 = .ok (.aload_n 0, 1) := by decide +kernel
end
section
theorem dX12_take_72 : decode cX12_take 72 = .ok (.getfield 128, 3) := by decide +kernel
theorem dX12_take_75 : decode cX12_take 75 = .ok (.aload_n 0, 1) := by decide +kernel
theorem dX12_take_76 : decode cX12_take 76 = .ok (.getfield 280, 3) := by decide +kernel
theorem dX12_take_79 : decode cX12_take 79 = .ok (.aload_n 0, 1) := by decide +kernel
theorem dX12_take_80 : decode cX12_take 80 = .ok (.getfield 116, 3) := by decide +kernel
theorem dX12_take_83 : decode cX12_take 83 = .ok (.iload_n 1, 1) := by decide +kernel
theorem dX12_take_84 : decode cX12_take 84 = .ok (.iaload, 1) := by decide +kernel
theorem dX12_take_85 : decode cX12_take 85 = .ok (.iastore, 1) := by decide +kernel
theorem dX12_take_86 : decode cX12_take 86 = .ok (.aload_n 0, 1) := by decide +kernel
theorem dX12_take_87 : decode cX12_take 87 = .ok (.getfield 131, 3) := by decide +kernel
theorem dX12_take_90 : decode cX12_take 90 = .ok (.aload_n 0, 1) := by decide +kernel
theorem dX12_take_91 : decode cX12_take 91 = .ok (.getfield 280, 3) := by decide +kernel
theorem dX12_take_94 : decode cX12_take 94 = .ok (.aload_n 0, 1) := by decide +kernel
theorem dX12_take_95 : decode cX12_take 95 = .ok (.getfield 119, 3) := by decide +kernel
theorem dX12_take_98 : decode cX12_take 98 = .ok (.iload_n 1, 1) := by decide +kernel
theorem dX12_take_99 : decode cX12_take 99 = .ok (.iaload, 1) := by decide +kernel
theorem dX12_take_100 : decode cX12_take 100 = .ok (.iastore, 1) := by decide +kernel
theorem dX12_take_101 : decode cX12_take 101 = .ok (.iconst 0, 1) := by decide +kernel
theorem dX12_take_102 : decode cX12_take 102 = .ok (.istore_n 2, 1) := by decide +kernel
theorem dX12_take_103 : decode cX12_take 103 = .ok (.iload_n 2, 1) := by decide +kernel
theorem dX12_take_104 : decode cX12_take 104 = .ok (.bipush 63, 2) := by decide +kernel
theorem dX12_take_106 : decode cX12_take 106 = .ok (.if_icmp .ge 34, 3) := by decide +kernel
theorem dX12_take_109 : decode cX12_take 109 = .ok (.aload_n 0, 1) := by decide +kernel
theorem dX12_take_110 : decode cX12_take 110 = .ok (.getfield 134, 3) := by decide +kernel
theorem dX12_take_113 : decode cX12_take 113 = .ok (.bipush 63, 2) := by decide +kernel
theorem dX12_take_115 : decode cX12_take 115 = .ok (.aload_n 0, 1) := by decide +kernel
theorem dX12_take_116 : decode cX12_take 116 = .ok (.getfield 280, 3) := by decide +kernel
theorem dX12_take_119 : decode cX12_take 119 = .ok (.imul, 1) := by decide +kernel
theorem dX12_take_120 : decode cX12_take 120 = .ok (.iload_n 2, 1) := by decide +kernel
theorem dX12_take_121 : decode cX12_take 121 = .ok (.iadd, 1) := by decide +kernel
theorem dX12_take_122 : decode cX12_take 122 = .ok (.aload_n 0, 1) := by decide +kernel
theorem dX12_take_123 : decode cX12_take 123 = .ok (.getfield 122, 3) := by decide +kernel
theorem dX12_take_126 : decode cX12_take 126 = .ok (.bipush 63, 2) := by decide +kernel
theorem dX12_take_128 : decode cX12_take 128 = .ok (.iload_n 1, 1) := by decide +kernel
theorem dX12_take_129 : decode cX12_take 129 = .ok (.imul, 1) := by decide +kernel
theorem dX12_take_130 : decode cX12_take 130 = .ok (.iload_n 2, 1) := by decide +kernel
theorem dX12_take_131 : decode cX12_take 131 = .ok (.iadd, 1) := by decide +kernel
theorem dX12_take_132 : decode cX12_take 132 = .ok (.iaload, 1) := by decide +kernel
theorem dX12_take_133 : decode cX12_take 133 = .ok (.iastore, 1) := by decide +kernel
theorem dX12_take_134 : decode cX12_take 134 = .ok (.iinc 2 1, 3) := by decide +kernel
theorem dX12_take_137 : decode cX12_take 137 = .ok (.goto (-34), 3) := by decide +kernel
theorem dX12_take_140 : decode cX12_take 140 = .ok (.aload_n 0, 1) := by decide +kernel
theorem dX12_take_141 : decode cX12_take 141 = .ok (.getfield 137, 3) := by decide +kernel
theorem dX12_take_144 : decode cX12_take 144 = .ok (.aload_n 0, 1) := by decide +kernel
theorem dX12_take_145 : decode cX12_take 145 = .ok (.getfield 280, 3) := by decide +kernel
theorem dX12_take_148 : decode cX12_take 148 = .ok (.iconst 0, 1) := by decide +kernel
theorem dX12_take_149 : decode cX12_take 149 = .ok (.bastore, 1) := by decide +kernel
theorem dX12_take_150 : decode cX12_take 150 = .ok (.aload_n 0, 1) := by decide +kernel
theorem dX12_take_151 : decode cX12_take 151 = .ok (.dup, 1) := by decide +kernel
theorem dX12_take_152 : decode cX12_take 152 = .ok (.getfield 280, 3) := by decide +kernel
theorem dX12_take_155 : decode cX12_take 155 = .ok (.iconst 1, 1) := by decide +kernel
theorem dX12_take_156 : decode cX12_take 156 = .ok (.iadd, 1) := by decide +kernel
theorem dX12_take_157 : decode cX12_take 157 = .ok (.putfield 280, 3) := by decide +kernel
theorem dX12_take_160 : decode cX12_take 160 = .ok (.aload_n 0, 1) := by decide +kernel
theorem dX12_take_161 : decode cX12_take 161 = .ok (.getfield 280, 3) := by decide +kernel
theorem dX12_take_164 : decode cX12_take 164 = .ok (.iconst 1, 1) := by decide +kernel
theorem dX12_take_165 : decode cX12_take 165 = .ok (.isub, 1) := by decide +kernel
theorem dX12_take_166 : decode cX12_take 166 = .ok (.ireturn, 1) := by decide +kernel
theorem dX12_isTicket_0 : decode cX12_isTicket 0 = .ok (.iload_n 1, 1) := by decide +kernel
theorem dX12_isTicket_1 : decode cX12_isTicket 1 = .ok (.iconst 0, 1) := by decide +kernel
theorem dX12_isTicket_2 : decode cX12_isTicket 2 = .ok (.aload_n 0, 1) := by decide +kernel
theorem dX12_isTicket_3 : decode cX12_isTicket 3 = .ok (.getfield 280, 3) := by decide +kernel
theorem dX12_isTicket_6 : decode cX12_isTicket 6 = .ok (.iconst 1, 1) := by decide +kernel
theorem dX12_isTicket_7 : decode cX12_isTicket 7 = .ok (.isub, 1) := by decide +kernel
theorem dX12_isTicket_8 : decode cX12_isTicket 8 = .ok (.invokestatic 150, 3) := by decide +kernel
theorem dX12_isTicket_11 : decode cX12_isTicket 11 = .ok (.ifCond .eq 16, 3) := by decide +kernel
theorem dX12_isTicket_14 : decode cX12_isTicket 14 = .ok (.aload_n 0, 1) := by decide +kernel
theorem dX12_isTicket_15 : decode cX12_isTicket 15 = .ok (.getfield 137, 3) := by decide +kernel
theorem dX12_isTicket_18 : decode cX12_isTicket 18 = .ok (.iload_n 1, 1) := by decide +kernel
theorem dX12_isTicket_19 : decode cX12_isTicket 19 = .ok (.baload, 1) := by decide +kernel
theorem dX12_isTicket_20 : decode cX12_isTicket 20 = .ok (.ifCond .ne 7, 3) := by decide +kernel
theorem dX12_isTicket_23 : decode cX12_isTicket 23 = .ok (.iconst 1, 1) := by decide +kernel
theorem dX12_isTicket_24 : decode cX12_isTicket 24 = .ok (.goto 4, 3) := by decide +kernel
theorem dX12_isTicket_27 : decode cX12_isTicket 27 = .ok (.iconst 0, 1) := by decide +kernel
theorem dX12_isTicket_28 : decode cX12_isTicket 28 = .ok (.ireturn, 1) := by decide +kernel
theorem dX12_give_0 : decode cX12_give 0 = .ok (.aload_n 0, 1) := by decide +kernel
theorem dX12_give_1 : decode cX12_give 1 = .ok (.iload_n 1, 1) := by decide +kernel
theorem dX12_give_2 : decode cX12_give 2 = .ok (.invokevirtual 286, 3) := by decide +kernel
theorem dX12_give_5 : decode cX12_give 5 = .ok (.ifCond .ne 6, 3) := by decide +kernel
theorem dX12_give_8 : decode cX12_give 8 = .ok (.bipush (-2), 2) := by decide +kernel
theorem dX12_give_10 : decode cX12_give 10 = .ok (.ireturn, 1) := by decide +kernel
theorem dX12_give_11 : decode cX12_give 11 = .ok (.aload_n 0, 1) := by decide +kernel
theorem dX12_give_12 : decode cX12_give 12 = .ok (.aload_n 0, 1) := by decide +kernel
theorem dX12_give_13 : decode cX12_give 13 = .ok (.getfield 134, 3) := by decide +kernel
theorem dX12_give_16 : decode cX12_give 16 = .ok (.bipush 63, 2) := by decide +kernel
theorem dX12_give_18 : decode cX12_give 18 = .ok (.iload_n 1, 1) := by decide +kernel
theorem dX12_give_19 : decode cX12_give 19 = .ok (.imul, 1) := by decide +kernel
theorem dX12_give_20 : decode cX12_give 20 = .ok (.aload_n 0, 1) := by decide +kernel
theorem dX12_give_21 : decode cX12_give 21 = .ok (.getfield 128, 3) := by decide +kernel
theorem dX12_give_24 : decode cX12_give 24 = .ok (.iload_n 1, 1) := by decide +kernel
theorem dX12_give_25 : decode cX12_give 25 = .ok (.iaload, 1) := by decide +kernel
theorem dX12_give_26 : decode cX12_give 26 = .ok (.iconst (-1), 1) := by decide +kernel
theorem dX12_give_27 : decode cX12_give 27 = .ok (.invokevirtual 283, 3) := by decide +kernel
theorem dX12_give_30 : decode cX12_give 30 = .ok (.istore_n 2, 1) := by decide +kernel
theorem dX12_give_31 : decode cX12_give 31 = .ok (.aload_n 0, 1) := by decide +kernel
theorem dX12_give_32 : decode cX12_give 32 = .ok (.getfield 137, 3) := by decide +kernel
theorem dX12_give_35 : decode cX12_give 35 = .ok (.iload_n 1, 1) := by decide +kernel
theorem dX12_give_36 : decode cX12_give 36 = .ok (.iconst 1, 1) := by decide +kernel
theorem dX12_give_37 : decode cX12_give 37 = .ok (.bastore, 1) := by decide +kernel
theorem dX12_give_38 : decode cX12_give 38 = .ok (.iconst 1, 1) := by decide +kernel
theorem dX12_give_39 : decode cX12_give 39 = .ok (.ireturn, 1) := by decide +kernel
theorem dX12_still_0 : decode cX12_still 0 = .ok (.aload_n 0, 1) := by decide +kernel
theorem dX12_still_1 : decode cX12_still 1 = .ok (.iload_n 1, 1) := by decide +kernel
theorem dX12_still_2 : decode cX12_still 2 = .ok (.invokevirtual 286, 3) := by decide +kernel
theorem dX12_still_5 : decode cX12_still 5 = .ok (.ifCond .ne 6, 3) := by decide +kernel
theorem dX12_still_8 : decode cX12_still 8 = .ok (.bipush (-2), 2) := by decide +kernel
theorem dX12_still_10 : decode cX12_still 10 = .ok (.ireturn, 1) := by decide +kernel
theorem dX12_still_11 : decode cX12_still 11 = .ok (.aload_n 0, 1) := by decide +kernel
theorem dX12_still_12 : decode cX12_still 12 = .ok (.getfield 131, 3) := by decide +kernel
theorem dX12_still_15 : decode cX12_still 15 = .ok (.iload_n 1, 1) := by decide +kernel
theorem dX12_still_16 : decode cX12_still 16 = .ok (.iaload, 1) := by decide +kernel
theorem dX12_still_17 : decode cX12_still 17 = .ok (.istore_n 2, 1) := by decide +kernel
theorem dX12_still_18 : decode cX12_still 18 = .ok (.iload_n 2, 1) := by decide +kernel
theorem dX12_still_19 : decode cX12_still 19 = .ok (.istore_n 3, 1) := by decide +kernel
theorem dX12_still_20 : decode cX12_still 20 = .ok (.iconst 0, 1) := by decide +kernel
theorem dX12_still_21 : decode cX12_still 21 = .ok (.istore 4, 2) := by decide +kernel
theorem dX12_still_23 : decode cX12_still 23 = .ok (.iconst 0, 1) := by decide +kernel
theorem dX12_still_24 : decode cX12_still 24 = .ok (.istore 5, 2) := by decide +kernel
theorem dX12_still_26 : decode cX12_still 26 = .ok (.iload 5, 2) := by decide +kernel
theorem dX12_still_28 : decode cX12_still 28 = .ok (.aload_n 0, 1) := by decide +kernel
theorem dX12_still_29 : decode cX12_still 29 = .ok (.getfield 128, 3) := by decide +kernel
theorem dX12_still_32 : decode cX12_still 32 = .ok (.iload_n 1, 1) := by decide +kernel
theorem dX12_still_33 : decode cX12_still 33 = .ok (.iaload, 1) := by decide +kernel
theorem dX12_still_34 : decode cX12_still 34 = .ok (.if_icmp .ge 202, 3) := by decide +kernel
theorem dX12_still_37 : decode cX12_still 37 = .ok (.bipush 63, 2) := by decide +kernel
theorem dX12_still_39 : decode cX12_still 39 = .ok (.iload_n 1, 1) := by decide +kernel
theorem dX12_still_40 : decode cX12_still 40 = .ok (.imul, 1) := by decide +kernel
theorem dX12_still_41 : decode cX12_still 41 = .ok (.bipush 9, 2) := by decide +kernel
theorem dX12_still_43 : decode cX12_still 43 = .ok (.iload 5, 2) := by decide +kernel
theorem dX12_still_45 : decode cX12_still 45 = .ok (.imul, 1) := by decide +kernel
theorem dX12_still_46 : decode cX12_still 46 = .ok (.iadd, 1) := by decide +kernel
theorem dX12_still_47 : decode cX12_still 47 = .ok (.istore 6, 2) := by decide +kernel
theorem dX12_still_49 : decode cX12_still 49 = .ok (.aload_n 0, 1) := by decide +kernel
theorem dX12_still_50 : decode cX12_still 50 = .ok (.getfield 134, 3) := by decide +kernel
theorem dX12_still_53 : decode cX12_still 53 = .ok (.iload 6, 2) := by decide +kernel
theorem dX12_still_55 : decode cX12_still 55 = .ok (.iconst 1, 1) := by decide +kernel
theorem dX12_still_56 : decode cX12_still 56 = .ok (.iadd, 1) := by decide +kernel
theorem dX12_still_57 : decode cX12_still 57 = .ok (.iaload, 1) := by decide +kernel
theorem dX12_still_58 : decode cX12_still 58 = .ok (.istore 7, 2) := by decide +kernel
theorem dX12_still_60 : decode cX12_still 60 = .ok (.aload_n 0, 1) := by decide +kernel
theorem dX12_still_61 : decode cX12_still 61 = .ok (.getfield 134, 3) := by decide +kernel
theorem dX12_still_64 : decode cX12_still 64 = .ok (.iload 6, 2) := by decide +kernel
theorem dX12_still_66 : decode cX12_still 66 = .ok (.iaload, 1) := by decide +kernel
theorem dX12_still_67 : decode cX12_still 67 = .ok (.iconst 2, 1) := by decide +kernel
theorem dX12_still_68 : decode cX12_still 68 = .ok (.if_icmp .le 18, 3) := by decide +kernel
theorem dX12_still_71 : decode cX12_still 71 = .ok (.aload_n 0, 1) := by decide +kernel
theorem dX12_still_72 : decode cX12_still 72 = .ok (.iload 7, 2) := by decide +kernel
theorem dX12_still_74 : decode cX12_still 74 = .ok (.iload_n 3, 1) := by decide +kernel
theorem dX12_still_75 : decode cX12_still 75 = .ok (.iload_n 2, 1) := by decide +kernel
theorem dX12_still_76 : decode cX12_still 76 = .ok (.invokevirtual 212, 3) := by decide +kernel
theorem dX12_still_79 : decode cX12_still 79 = .ok (.istore_n 3, 1) := by decide +kernel
theorem dX12_still_80 : decode cX12_still 80 = .ok (.iconst 0, 1) := by decide +kernel
theorem dX12_still_81 : decode cX12_still 81 = .ok (.istore 4, 2) := by decide +kernel
theorem dX12_still_83 : decode cX12_still 83 = .ok (.goto 147, 3) := by decide +kernel
theorem dX12_still_86 : decode cX12_still 86 = .ok (.aload_n 0, 1) := by decide +kernel
theorem dX12_still_87 : decode cX12_still 87 = .ok (.getfield 134, 3) := by decide +kernel
theorem dX12_still_90 : decode cX12_still 90 = .ok (.iload 6, 2) := by decide +kernel
theorem dX12_still_92 : decode cX12_still 92 = .ok (.bipush 6, 2) := by decide +kernel
theorem dX12_still_94 : decode cX12_still 94 = .ok (.iadd, 1) := by decide +kernel
theorem dX12_still_95 : decode cX12_still 95 = .ok (.iaload, 1) := by decide +kernel
theorem dX12_still_96 : decode cX12_still 96 = .ok (.istore 8, 2) := by decide +kernel
theorem dX12_still_98 : decode cX12_still 98 = .ok (.aload_n 0, 1) := by decide +kernel
theorem dX12_still_99 : decode cX12_still 99 = .ok (.getfield 134, 3) := by decide +kernel
theorem dX12_still_102 : decode cX12_still 102 = .ok (.iload 6, 2) := by decide +kernel
theorem dX12_still_104 : decode cX12_still 104 = .ok (.bipush 7, 2) := by decide +kernel
theorem dX12_still_106 : decode cX12_still 106 = .ok (.iadd, 1) := by decide +kernel
theorem dX12_still_107 : decode cX12_still 107 = .ok (.iaload, 1) := by decide +kernel
theorem dX12_still_108 : decode cX12_still 108 = .ok (.istore 9, 2) := by decide +kernel
theorem dX12_still_110 : decode cX12_still 110 = .ok (.aload_n 0, 1) := by decide +kernel
theorem dX12_still_111 : decode cX12_still 111 = .ok (.getfield 134, 3) := by decide +kernel
theorem dX12_still_114 : decode cX12_still 114 = .ok (.iload 6, 2) := by decide +kernel
theorem dX12_still_116 : decode cX12_still 116 = .ok (.bipush 8, 2) := by decide +kernel
theorem dX12_still_118 : decode cX12_still 118 = .ok (.iadd, 1) := by decide +kernel
theorem dX12_still_119 : decode cX12_still 119 = .ok (.iaload, 1) := by decide +kernel
theorem dX12_still_120 : decode cX12_still 120 = .ok (.istore 10, 2) := by decide +kernel
theorem dX12_still_122 : decode cX12_still 122 = .ok (.iload 4, 2) := by decide +kernel
theorem dX12_still_124 : decode cX12_still 124 = .ok (.ifCond .eq 26, 3) := by decide +kernel
theorem dX12_still_127 : decode cX12_still 127 = .ok (.iload_n 3, 1) := by decide +kernel
theorem dX12_still_128 : decode cX12_still 128 = .ok (.aload_n 0, 1) := by decide +kernel
theorem dX12_still_129 : decode cX12_still 129 = .ok (.getfield 7, 3) := by decide +kernel
theorem dX12_still_132 : decode cX12_still 132 = .ok (.aload_n 0, 1) := by decide +kernel
theorem dX12_still_133 : decode cX12_still 133 = .ok (.getfield 34, 3) := by decide +kernel
theorem dX12_still_136 : decode cX12_still 136 = .ok (.bipush 8, 2) := by decide +kernel
theorem dX12_still_138 : decode cX12_still 138 = .ok (.iload 7, 2) := by decide +kernel
theorem dX12_still_140 : decode cX12_still 140 = .ok (.imul, 1) := by decide +kernel
theorem dX12_still_141 : decode cX12_still 141 = .ok (.iload 9, 2) := by decide +kernel
theorem dX12_still_143 : decode cX12_still 143 = .ok (.iadd, 1) := by decide +kernel
theorem dX12_still_144 : decode cX12_still 144 = .ok (.iaload, 1) := by decide +kernel
theorem dX12_still_145 : decode cX12_still 145 = .ok (.iaload, 1) := by decide +kernel
theorem dX12_still_146 : decode cX12_still 146 = .ok (.iadd, 1) := by decide +kernel
theorem dX12_still_147 : decode cX12_still 147 = .ok (.goto 4, 3) := by decide +kernel
theorem dX12_still_150 : decode cX12_still 150 = .ok (.iload_n 3, 1) := by decide +kernel
theorem dX12_still_151 : decode cX12_still 151 = .ok (.istore 11, 2) := by decide +kernel
theorem dX12_still_153 : decode cX12_still 153 = .ok (.aload_n 0, 1) := by decide +kernel
theorem dX12_still_154 : decode cX12_still 154 = .ok (.iload 7, 2) := by decide +kernel
theorem dX12_still_156 : decode cX12_still 156 = .ok (.iload 8, 2) := by decide +kernel
theorem dX12_still_158 : decode cX12_still 158 = .ok (.invokevirtual 196, 3) := by decide +kernel
theorem dX12_still_161 : decode cX12_still 161 = .ok (.ifCond .eq 50, 3) := by decide +kernel
theorem dX12_still_164 : decode cX12_still 164 = .ok (.aload_n 0, 1) := by decide +kernel
theorem dX12_still_165 : decode cX12_still 165 = .ok (.getfield 43, 3) := by decide +kernel
theorem dX12_still_168 : decode cX12_still 168 = .ok (.bipush 8, 2) := by decide +kernel
theorem dX12_still_170 : decode cX12_still 170 = .ok (.iload 7, 2) := by decide +kernel
theorem dX12_still_172 : decode cX12_still 172 = .ok (.imul, 1) := by decide +kernel
theorem dX12_still_173 : decode cX12_still 173 = .ok (.iload 9, 2) := by decide +kernel
theorem dX12_still_175 : decode cX12_still 175 = .ok (.iadd, 1) := by decide +kernel
theorem dX12_still_176 : decode cX12_still 176 = .ok (.baload, 1) := by decide +kernel
theorem dX12_still_177 : decode cX12_still 177 = .ok (.ifCond .ne 34, 3) := by decide +kernel
theorem dX12_still_180 : decode cX12_still 180 = .ok (.aload_n 0, 1) := by decide +kernel
theorem dX12_still_181 : decode cX12_still 181 = .ok (.getfield 43, 3) := by decide +kernel
theorem dX12_still_184 : decode cX12_still 184 = .ok (.bipush 8, 2) := by decide +kernel
theorem dX12_still_186 : decode cX12_still 186 = .ok (.iload 7, 2) := by decide +kernel
theorem dX12_still_188 : decode cX12_still 188 = .ok (.imul, 1) := by decide +kernel
theorem dX12_still_189 : decode cX12_still 189 = .ok (.iload 10, 2) := by decide +kernel
theorem dX12_still_191 : decode cX12_still 191 = .ok (.iadd, 1) := by decide +kernel
theorem dX12_still_192 : decode cX12_still 192 = .ok (.baload, 1) := by decide +kernel
theorem dX12_still_193 : decode cX12_still 193 = .ok (.ifCond .ne 18, 3) := by decide +kernel
theorem dX12_still_196 : decode cX12_still 196 = .ok (.aload_n 0, 1) := by decide +kernel
theorem dX12_still_197 : decode cX12_still 197 = .ok (.iload 7, 2) := by decide +kernel
theorem dX12_still_199 : decode cX12_still 199 = .ok (.iload 8, 2) := by decide +kernel
theorem dX12_still_201 : decode cX12_still 201 = .ok (.iload 9, 2) := by decide +kernel
theorem dX12_still_203 : decode cX12_still 203 = .ok (.invokevirtual 202, 3) := by decide +kernel
theorem dX12_still_206 : decode cX12_still 206 = .ok (.iload 11, 2) := by decide +kernel
theorem dX12_still_208 : decode cX12_still 208 = .ok (.if_icmp .ge 8, 3) := by decide +kernel
theorem dX12_still_211 : decode cX12_still 211 = .ok (.iconst 1, 1) := by decide +kernel
theorem dX12_still_212 : decode cX12_still 212 = .ok (.iload 5, 2) := by decide +kernel
theorem dX12_still_214 : decode cX12_still 214 = .ok (.iadd, 1) := by decide +kernel
theorem dX12_still_215 : decode cX12_still 215 = .ok (.ireturn, 1) := by decide +kernel
theorem dX12_still_216 : decode cX12_still 216 = .ok (.aload_n 0, 1) := by decide +kernel
theorem dX12_still_217 : decode cX12_still 217 = .ok (.iload 7, 2) := by decide +kernel
theorem dX12_still_219 : decode cX12_still 219 = .ok (.iload 8, 2) := by decide +kernel
theorem dX12_still_221 : decode cX12_still 221 = .ok (.iload 10, 2) := by decide +kernel
theorem dX12_still_223 : decode cX12_still 223 = .ok (.invokevirtual 199, 3) := by decide +kernel
theorem dX12_still_226 : decode cX12_still 226 = .ok (.istore_n 3, 1) := by decide +kernel
theorem dX12_still_227 : decode cX12_still 227 = .ok (.iconst 1, 1) := by decide +kernel
theorem dX12_still_228 : decode cX12_still 228 = .ok (.istore 4, 2) := by decide +kernel
theorem dX12_still_230 : decode cX12_still 230 = .ok (.iinc 5 1, 3) := by decide +kernel
theorem dX12_still_233 : decode cX12_still 233 = .ok (.goto (-207), 3) := by decide +kernel
theorem dX12_still_236 : decode cX12_still 236 = .ok (.aload_n 0, 1) := by decide +kernel
theorem dX12_still_237 : decode cX12_still 237 = .ok (.iload_n 3, 1) := by decide +kernel
theorem dX12_still_238 : decode cX12_still 238 = .ok (.putfield 289, 3) := by decide +kernel
theorem dX12_still_241 : decode cX12_still 241 = .ok (.iconst 0, 1) := by decide +kernel
theorem dX12_still_242 : decode cX12_still 242 = .ok (.ireturn, 1) := by decide +kernel
theorem dX12_comes_0 : decode cX12_comes 0 = .ok (.aload_n 0, 1) := by decide +kernel
theorem dX12_comes_1 : decode cX12_comes 1 = .ok (.iload_n 1, 1) := by decide +kernel
theorem dX12_comes_2 : decode cX12_comes 2 = .ok (.invokevirtual 292, 3) := by decide +kernel
theorem dX12_comes_5 : decode cX12_comes 5 = .ok (.istore_n 2, 1) := by decide +kernel
theorem dX12_comes_6 : decode cX12_comes 6 = .ok (.iload_n 2, 1) := by decide +kernel
theorem dX12_comes_7 : decode cX12_comes 7 = .ok (.bipush (-2), 2) := by decide +kernel
theorem dX12_comes_9 : decode cX12_comes 9 = .ok (.if_icmp .ne 8, 3) := by decide +kernel
theorem dX12_comes_12 : decode cX12_comes 12 = .ok (.bipush (-2), 2) := by decide +kernel
theorem dX12_comes_14 : decode cX12_comes 14 = .ok (.goto 15, 3) := by decide +kernel
theorem dX12_comes_17 : decode cX12_comes 17 = .ok (.iload_n 2, 1) := by decide +kernel
theorem dX12_comes_18 : decode cX12_comes 18 = .ok (.ifCond .le 7, 3) := by decide +kernel
theorem dX12_comes_21 : decode cX12_comes 21 = .ok (.iconst (-1), 1) := by decide +kernel
theorem dX12_comes_22 : decode cX12_comes 22 = .ok (.goto 7, 3) := by decide +kernel
theorem dX12_comes_25 : decode cX12_comes 25 = .ok (.aload_n 0, 1) := by decide +kernel
theorem dX12_comes_26 : decode cX12_comes 26 = .ok (.getfield 289, 3) := by decide +kernel
theorem dX12_comes_29 : decode cX12_comes 29 = .ok (.ireturn, 1) := by decide +kernel
theorem dX12_taken_0 : decode cX12_taken 0 = .ok (.aload_n 0, 1) := by decide +kernel
theorem dX12_taken_1 : decode cX12_taken 1 = .ok (.iload_n 1, 1) := by decide +kernel
theorem dX12_taken_2 : decode cX12_taken 2 = .ok (.iload_n 3, 1) := by decide +kernel
theorem dX12_taken_3 : decode cX12_taken 3 = .ok (.invokevirtual 170, 3) := by decide +kernel
theorem dX12_taken_6 : decode cX12_taken 6 = .ok (.ifCond .eq 29, 3) := by decide +kernel
theorem dX12_taken_9 : decode cX12_taken 9 = .ok (.iload_n 2, 1) := by decide +kernel
theorem dX12_taken_10 : decode cX12_taken 10 = .ok (.invokestatic 164, 3) := by decide +kernel
theorem dX12_taken_13 : decode cX12_taken 13 = .ok (.ifCond .eq 22, 3) := by decide +kernel
theorem dX12_taken_16 : decode cX12_taken 16 = .ok (.aload_n 0, 1) := by decide +kernel
theorem dX12_taken_17 : decode cX12_taken 17 = .ok (.getfield 86, 3) := by decide +kernel
theorem dX12_taken_20 : decode cX12_taken 20 = .ok (.bipush 100, 2) := by decide +kernel
theorem dX12_taken_22 : decode cX12_taken 22 = .ok (.iload_n 1, 1) := by decide +kernel
theorem dX12_taken_23 : decode cX12_taken 23 = .ok (.imul, 1) := by decide +kernel
theorem dX12_taken_24 : decode cX12_taken 24 = .ok (.iload_n 2, 1) := by decide +kernel
theorem dX12_taken_25 : decode cX12_taken 25 = .ok (.iadd, 1) := by decide +kernel
theorem dX12_taken_26 : decode cX12_taken 26 = .ok (.bipush 8, 2) := by decide +kernel
theorem dX12_taken_28 : decode cX12_taken 28 = .ok (.imul, 1) := by decide +kernel
theorem dX12_taken_29 : decode cX12_taken 29 = .ok (.iload_n 3, 1) := by decide +kernel
theorem dX12_taken_30 : decode cX12_taken 30 = .ok (.iadd, 1) := by decide +kernel
theorem dX12_taken_31 : decode cX12_taken 31 = .ok (.iaload, 1) := by decide +kernel
theorem dX12_taken_32 : decode cX12_taken 32 = .ok (.goto 5, 3) := by decide +kernel
theorem dX12_taken_35 : decode cX12_taken 35 = .ok (.bipush (-2), 2) := by decide +kernel
theorem dX12_taken_37 : decode cX12_taken 37 = .ok (.ireturn, 1) := by decide +kernel
theorem dX12_latest_0 : decode cX12_latest 0 = .ok (.aload_n 0, 1) := by decide +kernel
theorem dX12_latest_1 : decode cX12_latest 1 = .ok (.iload_n 1, 1) := by decide +kernel
theorem dX12_latest_2 : decode cX12_latest 2 = .ok (.invokevirtual 167, 3) := by decide +kernel
theorem dX12_latest_5 : decode cX12_latest 5 = .ok (.ifCond .eq 18, 3) := by decide +kernel
theorem dX12_latest_8 : decode cX12_latest 8 = .ok (.aload_n 0, 1) := by decide +kernel
theorem dX12_latest_9 : decode cX12_latest 9 = .ok (.iload_n 2, 1) := by decide +kernel
theorem dX12_latest_10 : decode cX12_latest 10 = .ok (.invokevirtual 167, 3) := by decide +kernel
theorem dX12_latest_13 : decode cX12_latest 13 = .ok (.ifCond .eq 10, 3) := by decide +kernel
theorem dX12_latest_16 : decode cX12_latest 16 = .ok (.iload_n 3, 1) := by decide +kernel
theorem dX12_latest_17 : decode cX12_latest 17 = .ok (.invokestatic 164, 3) := by decide +kernel
theorem dX12_latest_20 : decode cX12_latest 20 = .ok (.ifCond .ne 6, 3) := by decide +kernel
theorem dX12_latest_23 : decode cX12_latest 23 = .ok (.bipush (-2), 2) := by decide +kernel
theorem dX12_latest_25 : decode cX12_latest 25 = .ok (.ireturn, 1) := by decide +kernel
theorem dX12_latest_26 : decode cX12_latest 26 = .ok (.aload_n 0, 1) := by decide +kernel
theorem dX12_latest_27 : decode cX12_latest 27 = .ok (.iload_n 3, 1) := by decide +kernel
theorem dX12_latest_28 : decode cX12_latest 28 = .ok (.iconst 0, 1) := by decide +kernel
theorem dX12_latest_29 : decode cX12_latest 29 = .ok (.invokevirtual 264, 3) := by decide +kernel
theorem dX12_latest_32 : decode cX12_latest 32 = .ok (.aload_n 0, 1) := by decide +kernel
theorem dX12_latest_33 : decode cX12_latest 33 = .ok (.iload_n 1, 1) := by decide +kernel
theorem dX12_latest_34 : decode cX12_latest 34 = .ok (.iload_n 2, 1) := by decide +kernel
theorem dX12_latest_35 : decode cX12_latest 35 = .ok (.sipush 1440, 3) := by decide +kernel
theorem dX12_latest_38 : decode cX12_latest 38 = .ok (.iload_n 3, 1) := by decide +kernel
theorem dX12_latest_39 : decode cX12_latest 39 = .ok (.imul, 1) := by decide +kernel
theorem dX12_latest_40 : decode cX12_latest 40 = .ok (.iload 4, 2) := by decide +kernel
theorem dX12_latest_42 : decode cX12_latest 42 = .ok (.invokevirtual 296, 3) := by decide +kernel
theorem dX12_latest_45 : decode cX12_latest 45 = .ok (.ifCond .ne 5, 3) := by decide +kernel
theorem dX12_latest_48 : decode cX12_latest 48 = .ok (.iconst (-1), 1) := by decide +kernel
theorem dX12_latest_49 : decode cX12_latest 49 = .ok (.ireturn, 1) := by decide +kernel
theorem dX12_latest_50 : decode cX12_latest 50 = .ok (.iconst 0, 1) := by decide +kernel
theorem dX12_latest_51 : decode cX12_latest 51 = .ok (.istore 5, 2) := by decide +kernel
theorem dX12_latest_53 : decode cX12_latest 53 = .ok (.sipush 1440, 3) := by decide +kernel
theorem dX12_latest_56 : decode cX12_latest 56 = .ok (.istore 6, 2) := by decide +kernel
theorem dX12_latest_58 : decode cX12_latest 58 = .ok (.iload 6, 2) := by decide +kernel
theorem dX12_latest_60 : decode cX12_latest 60 = .ok (.iload 5, 2) := by decide +kernel
theorem dX12_latest_62 : decode cX12_latest 62 = .ok (.isub, 1) := by decide +kernel
theorem dX12_latest_63 : decode cX12_latest 63 = .ok (.iconst 1, 1) := by decide +kernel
theorem dX12_latest_64 : decode cX12_latest 64 = .ok (.if_icmp .le 45, 3) := by decide +kernel
theorem dX12_latest_67 : decode cX12_latest 67 = .ok (.iload 5, 2) := by decide +kernel
theorem dX12_latest_69 : decode cX12_latest 69 = .ok (.iload 6, 2) := by decide +kernel
theorem dX12_latest_71 : decode cX12_latest 71 = .ok (.iadd, 1) := by decide +kernel
theorem dX12_latest_72 : decode cX12_latest 72 = .ok (.iconst 2, 1) := by decide +kernel
theorem dX12_latest_73 : decode cX12_latest 73 = .ok (.idiv, 1) := by decide +kernel
theorem dX12_latest_74 : decode cX12_latest 74 = .ok (.istore 7, 2) := by decide +kernel
theorem dX12_latest_76 : decode cX12_latest 76 = .ok (.aload_n 0, 1) := by decide +kernel
theorem dX12_latest_77 : decode cX12_latest 77 = .ok (.iload_n 1, 1) := by decide +kernel
theorem dX12_latest_78 : decode cX12_latest 78 = .ok (.iload_n 2, 1) := by decide +kernel
theorem dX12_latest_79 : decode cX12_latest 79 = .ok (.sipush 1440, 3) := by decide +kernel
theorem dX12_latest_82 : decode cX12_latest 82 = .ok (.iload_n 3, 1) := by decide +kernel
theorem dX12_latest_83 : decode cX12_latest 83 = .ok (.imul, 1) := by decide +kernel
theorem dX12_latest_84 : decode cX12_latest 84 = .ok (.iload 7, 2) := by decide +kernel
theorem dX12_latest_86 : decode cX12_latest 86 = .ok (.iadd, 1) := by decide +kernel
theorem dX12_latest_87 : decode cX12_latest 87 = .ok (.iload 4, 2) := by decide +kernel
theorem dX12_latest_89 : decode cX12_latest 89 = .ok (.invokevirtual 296, 3) := by decide +kernel
theorem dX12_latest_92 : decode cX12_latest 92 = .ok (.ifCond .eq 10, 3) := by decide +kernel
theorem dX12_latest_95 : decode cX12_latest 95 = .ok (.iload 7, 2) := by decide +kernel
theorem dX12_latest_97 : decode cX12_latest 97 = .ok (.istore 5, 2) := by decide +kernel
theorem dX12_latest_99 : decode cX12_latest 99 = .ok (.goto 7, 3) := by decide +kernel
theorem dX12_latest_102 : decode cX12_latest 102 = .ok (.iload 7, 2) := by decide +kernel
theorem dX12_latest_104 : decode cX12_latest 104 = .ok (.istore 6, 2) := by decide +kernel
theorem dX12_latest_106 : decode cX12_latest 106 = .ok (.goto (-48), 3) := by decide +kernel
theorem dX12_latest_109 : decode cX12_latest 109 = .ok (.iload 5, 2) := by decide +kernel
theorem dX12_latest_111 : decode cX12_latest 111 = .ok (.ireturn, 1) := by decide +kernel
theorem dX12_isInTime_0 : decode cX12_isInTime 0 = .ok (.aload_n 0, 1) := by decide +kernel
theorem dX12_isInTime_1 : decode cX12_isInTime 1 = .ok (.iload_n 1, 1) := by decide +kernel
theorem dX12_isInTime_2 : decode cX12_isInTime 2 = .ok (.iload_n 3, 1) := by decide +kernel
theorem dX12_isInTime_3 : decode cX12_isInTime 3 = .ok (.invokevirtual 267, 3) := by decide +kernel
theorem dX12_isInTime_6 : decode cX12_isInTime 6 = .ok (.aload_n 0, 1) := by decide +kernel
theorem dX12_isInTime_7 : decode cX12_isInTime 7 = .ok (.iload_n 2, 1) := by decide +kernel
theorem dX12_isInTime_8 : decode cX12_isInTime 8 = .ok (.invokevirtual 299, 3) := by decide +kernel
theorem dX12_isInTime_11 : decode cX12_isInTime 11 = .ok (.istore 5, 2) := by decide +kernel
theorem dX12_isInTime_13 : decode cX12_isInTime 13 = .ok (.iload 5, 2) := by decide +kernel
theorem dX12_isInTime_15 : decode cX12_isInTime 15 = .ok (.ldc 208, 2) := by decide +kernel
theorem dX12_isInTime_17 : decode cX12_isInTime 17 = .ok (.if_icmp .ge 14, 3) := by decide +kernel
theorem dX12_isInTime_20 : decode cX12_isInTime 20 = .ok (.iload 5, 2) := by decide +kernel
theorem dX12_isInTime_22 : decode cX12_isInTime 22 = .ok (.iload 4, 2) := by decide +kernel
theorem dX12_isInTime_24 : decode cX12_isInTime 24 = .ok (.if_icmp .gt 7, 3) := by decide +kernel
theorem dX12_isInTime_27 : decode cX12_isInTime 27 = .ok (.iconst 1, 1) := by decide +kernel
theorem dX12_isInTime_28 : decode cX12_isInTime 28 = .ok (.goto 4, 3) := by decide +kernel
theorem dX12_isInTime_31 : decode cX12_isInTime 31 = .ok (.iconst 0, 1) := by decide +kernel
theorem dX12_isInTime_32 : decode cX12_isInTime 32 = .ok (.ireturn, 1) := by decide +kernel
theorem dX12_reach_0 : decode cX12_reach 0 = .ok (.aload_n 0, 1) := by decide +kernel
theorem dX12_reach_1 : decode cX12_reach 1 = .ok (.iload_n 1, 1) := by decide +kernel
theorem dX12_reach_2 : decode cX12_reach 2 = .ok (.invokevirtual 167, 3) := by decide +kernel
theorem dX12_reach_5 : decode cX12_reach 5 = .ok (.ifCond .eq 26, 3) := by decide +kernel
theorem dX12_reach_8 : decode cX12_reach 8 = .ok (.iload_n 2, 1) := by decide +kernel
theorem dX12_reach_9 : decode cX12_reach 9 = .ok (.invokestatic 164, 3) := by decide +kernel
theorem dX12_reach_12 : decode cX12_reach 12 = .ok (.ifCond .eq 19, 3) := by decide +kernel
theorem dX12_reach_15 : decode cX12_reach 15 = .ok (.iload_n 3, 1) := by decide +kernel
theorem dX12_reach_16 : decode cX12_reach 16 = .ok (.iconst 0, 1) := by decide +kernel
theorem dX12_reach_17 : decode cX12_reach 17 = .ok (.sipush 1439, 3) := by decide +kernel
theorem dX12_reach_20 : decode cX12_reach 20 = .ok (.invokestatic 150, 3) := by decide +kernel
theorem dX12_reach_23 : decode cX12_reach 23 = .ok (.ifCond .eq 8, 3) := by decide +kernel
theorem dX12_reach_26 : decode cX12_reach 26 = .ok (.iload 4, 2) := by decide +kernel
theorem dX12_reach_28 : decode cX12_reach 28 = .ok (.ifCond .ge 6, 3) := by decide +kernel
theorem dX12_reach_31 : decode cX12_reach 31 = .ok (.bipush (-2), 2) := by decide +kernel
theorem dX12_reach_33 : decode cX12_reach 33 = .ok (.ireturn, 1) := by decide +kernel
theorem dX12_reach_34 : decode cX12_reach 34 = .ok (.aload_n 0, 1) := by decide +kernel
theorem dX12_reach_35 : decode cX12_reach 35 = .ok (.iload_n 2, 1) := by decide +kernel
theorem dX12_reach_36 : decode cX12_reach 36 = .ok (.iload_n 3, 1) := by decide +kernel
theorem dX12_reach_37 : decode cX12_reach 37 = .ok (.invokevirtual 264, 3) := by decide +kernel
theorem dX12_reach_40 : decode cX12_reach 40 = .ok (.aload_n 0, 1) := by decide +kernel
theorem dX12_reach_41 : decode cX12_reach 41 = .ok (.iload_n 1, 1) := by decide +kernel
theorem dX12_reach_42 : decode cX12_reach 42 = .ok (.sipush 1440, 3) := by decide +kernel
theorem dX12_reach_45 : decode cX12_reach 45 = .ok (.iload_n 2, 1) := by decide +kernel
theorem dX12_reach_46 : decode cX12_reach 46 = .ok (.imul, 1) := by decide +kernel
theorem dX12_reach_47 : decode cX12_reach 47 = .ok (.iload_n 3, 1) := by decide +kernel
theorem dX12_reach_48 : decode cX12_reach 48 = .ok (.iadd, 1) := by decide +kernel
theorem dX12_reach_49 : decode cX12_reach 49 = .ok (.invokevirtual 267, 3) := by decide +kernel
theorem dX12_reach_52 : decode cX12_reach 52 = .ok (.iconst 0, 1) := by decide +kernel
theorem dX12_reach_53 : decode cX12_reach 53 = .ok (.istore 5, 2) := by decide +kernel
theorem dX12_reach_55 : decode cX12_reach 55 = .ok (.iconst 0, 1) := by decide +kernel
theorem dX12_reach_56 : decode cX12_reach 56 = .ok (.istore 6, 2) := by decide +kernel
theorem dX12_reach_58 : decode cX12_reach 58 = .ok (.iload 6, 2) := by decide +kernel
theorem dX12_reach_60 : decode cX12_reach 60 = .ok (.aload_n 0, 1) := by decide +kernel
theorem dX12_reach_61 : decode cX12_reach 61 = .ok (.getfield 147, 3) := by decide +kernel
theorem dX12_reach_64 : decode cX12_reach 64 = .ok (.if_icmp .ge 49, 3) := by decide +kernel
theorem dX12_reach_67 : decode cX12_reach 67 = .ok (.aload_n 0, 1) := by decide +kernel
theorem dX12_reach_68 : decode cX12_reach 68 = .ok (.iload 6, 2) := by decide +kernel
theorem dX12_reach_70 : decode cX12_reach 70 = .ok (.invokevirtual 299, 3) := by decide +kernel
theorem dX12_reach_73 : decode cX12_reach 73 = .ok (.istore 7, 2) := by decide +kernel
theorem dX12_reach_75 : decode cX12_reach 75 = .ok (.iload 7, 2) := by decide +kernel
theorem dX12_reach_77 : decode cX12_reach 77 = .ok (.ldc 208, 2) := by decide +kernel
theorem dX12_reach_79 : decode cX12_reach 79 = .ok (.if_icmp .ge 28, 3) := by decide +kernel
theorem dX12_reach_82 : decode cX12_reach 82 = .ok (.iload 7, 2) := by decide +kernel
theorem dX12_reach_84 : decode cX12_reach 84 = .ok (.i2l, 1) := by decide +kernel
theorem dX12_reach_85 : decode cX12_reach 85 = .ok (.aload_n 0, 1) := by decide +kernel
theorem dX12_reach_86 : decode cX12_reach 86 = .ok (.getfield 187, 3) := by decide +kernel
theorem dX12_reach_89 : decode cX12_reach 89 = .ok (.i2l, 1) := by decide +kernel
theorem dX12_reach_90 : decode cX12_reach 90 = .ok (.iload 4, 2) := by decide +kernel
theorem dX12_reach_92 : decode cX12_reach 92 = .ok (.i2l, 1) := by decide +kernel
theorem dX12_reach_93 : decode cX12_reach 93 = .ok (.ladd, 1) := by decide +kernel
theorem dX12_reach_94 : decode cX12_reach 94 = .ok (.lcmp, 1) := by decide +kernel
theorem dX12_reach_95 : decode cX12_reach 95 = .ok (.ifCond .gt 12, 3) := by decide +kernel
theorem dX12_reach_98 : decode cX12_reach 98 = .ok (.iload 5, 2) := by decide +kernel
theorem dX12_reach_100 : decode cX12_reach 100 = .ok (.iconst 1, 1) := by decide +kernel
theorem dX12_reach_101 : decode cX12_reach 101 = .ok (.iload 6, 2) := by decide +kernel
theorem dX12_reach_103 : decode cX12_reach 103 = .ok (.ishl, 1) := by decide +kernel
theorem dX12_reach_104 : decode cX12_reach 104 = .ok (.ior, 1) := by decide +kernel
theorem dX12_reach_105 : decode cX12_reach 105 = .ok (.istore 5, 2) := by decide +kernel
theorem dX12_reach_107 : decode cX12_reach 107 = .ok (.iinc 6 1, 3) := by decide +kernel
theorem dX12_reach_110 : decode cX12_reach 110 = .ok (.goto (-52), 3) := by decide +kernel
theorem dX12_reach_113 : decode cX12_reach 113 = .ok (.iload 5, 2) := by decide +kernel
theorem dX12_reach_115 : decode cX12_reach 115 = .ok (.ireturn, 1) := by decide +kernel
theorem dX12_meet_0 : decode cX12_meet 0 = .ok (.iload_n 1, 1) := by decide +kernel
theorem dX12_meet_1 : decode cX12_meet 1 = .ok (.ifCond .eq 36, 3) := by decide +kernel
theorem dX12_meet_4 : decode cX12_meet 4 = .ok (.iload_n 1, 1) := by decide +kernel
theorem dX12_meet_5 : decode cX12_meet 5 = .ok (.iconst 1, 1) := by decide +kernel
theorem dX12_meet_6 : decode cX12_meet 6 = .ok (.aload_n 0, 1) := by decide +kernel
theorem dX12_meet_7 : decode cX12_meet 7 = .ok (.getfield 147, 3) := by decide +kernel
theorem dX12_meet_10 : decode cX12_meet 10 = .ok (.ishl, 1) := by decide +kernel
theorem dX12_meet_11 : decode cX12_meet 11 = .ok (.iconst 1, 1) := by decide +kernel
theorem dX12_meet_12 : decode cX12_meet 12 = .ok (.isub, 1) := by decide +kernel
theorem dX12_meet_13 : decode cX12_meet 13 = .ok (.iconst (-1), 1) := by decide +kernel
theorem dX12_meet_14 : decode cX12_meet 14 = .ok (.ixor, 1) := by decide +kernel
theorem dX12_meet_15 : decode cX12_meet 15 = .ok (.iand, 1) := by decide +kernel
theorem dX12_meet_16 : decode cX12_meet 16 = .ok (.ifCond .ne 21, 3) := by decide +kernel
theorem dX12_meet_19 : decode cX12_meet 19 = .ok (.iload_n 2, 1) := by decide +kernel
theorem dX12_meet_20 : decode cX12_meet 20 = .ok (.invokestatic 164, 3) := by decide +kernel
theorem dX12_meet_23 : decode cX12_meet 23 = .ok (.ifCond .eq 14, 3) := by decide +kernel
theorem dX12_meet_26 : decode cX12_meet 26 = .ok (.iload_n 3, 1) := by decide +kernel
theorem dX12_meet_27 : decode cX12_meet 27 = .ok (.iconst 0, 1) := by decide +kernel
theorem dX12_meet_28 : decode cX12_meet 28 = .ok (.sipush 1439, 3) := by decide +kernel
theorem dX12_meet_31 : decode cX12_meet 31 = .ok (.invokestatic 150, 3) := by decide +kernel
theorem dX12_meet_34 : decode cX12_meet 34 = .ok (.ifCond .ne 6, 3) := by decide +kernel
theorem dX12_meet_37 : decode cX12_meet 37 = .ok (.bipush (-2), 2) := by decide +kernel
theorem dX12_meet_39 : decode cX12_meet 39 = .ok (.ireturn, 1) := by decide +kernel
theorem dX12_meet_40 : decode cX12_meet 40 = .ok (.aload_n 0, 1) := by decide +kernel
theorem dX12_meet_41 : decode cX12_meet 41 = .ok (.iload_n 2, 1) := by decide +kernel
theorem dX12_meet_42 : decode cX12_meet 42 = .ok (.iload_n 3, 1) := by decide +kernel
theorem dX12_meet_43 : decode cX12_meet 43 = .ok (.invokevirtual 264, 3) := by decide +kernel
theorem dX12_meet_46 : decode cX12_meet 46 = .ok (.iconst 0, 1) := by decide +kernel
theorem dX12_meet_47 : decode cX12_meet 47 = .ok (.istore 4, 2) := by decide +kernel
theorem dX12_meet_49 : decode cX12_meet 49 = .ok (.iload 4, 2) := by decide +kernel
theorem dX12_meet_51 : decode cX12_meet 51 = .ok (.aload_n 0, 1) := by decide +kernel
theorem dX12_meet_52 : decode cX12_meet 52 = .ok (.getfield 147, 3) := by decide +kernel
theorem dX12_meet_55 : decode cX12_meet 55 = .ok (.if_icmp .ge 17, 3) := by decide +kernel
theorem dX12_meet_58 : decode cX12_meet 58 = .ok (.aload_n 0, 1) := by decide +kernel
theorem dX12_meet_59 : decode cX12_meet 59 = .ok (.getfield 144, 3) := by decide +kernel
theorem dX12_meet_62 : decode cX12_meet 62 = .ok (.iload 4, 2) := by decide +kernel
theorem dX12_meet_64 : decode cX12_meet 64 = .ok (.iconst 0, 1) := by decide +kernel
theorem dX12_meet_65 : decode cX12_meet 65 = .ok (.iastore, 1) := by decide +kernel
theorem dX12_meet_66 : decode cX12_meet 66 = .ok (.iinc 4 1, 3) := by decide +kernel
theorem dX12_meet_69 : decode cX12_meet 69 = .ok (.goto (-20), 3) := by decide +kernel
theorem dX12_meet_72 : decode cX12_meet 72 = .ok (.iconst 0, 1) := by decide +kernel
theorem dX12_meet_73 : decode cX12_meet 73 = .ok (.istore 4, 2) := by decide +kernel
theorem dX12_meet_75 : decode cX12_meet 75 = .ok (.iload 4, 2) := by decide +kernel
theorem dX12_meet_77 : decode cX12_meet 77 = .ok (.aload_n 0, 1) := by decide +kernel
theorem dX12_meet_78 : decode cX12_meet 78 = .ok (.getfield 147, 3) := by decide +kernel
theorem dX12_meet_81 : decode cX12_meet 81 = .ok (.if_icmp .ge 91, 3) := by decide +kernel
theorem dX12_meet_84 : decode cX12_meet 84 = .ok (.iload_n 1, 1) := by decide +kernel
theorem dX12_meet_85 : decode cX12_meet 85 = .ok (.iload 4, 2) := by decide +kernel
theorem dX12_meet_87 : decode cX12_meet 87 = .ok (.ishr, 1) := by decide +kernel
theorem dX12_meet_88 : decode cX12_meet 88 = .ok (.iconst 1, 1) := by decide +kernel
theorem dX12_meet_89 : decode cX12_meet 89 = .ok (.iand, 1) := by decide +kernel
theorem dX12_meet_90 : decode cX12_meet 90 = .ok (.ifCond .ne 6, 3) := by decide +kernel
theorem dX12_meet_93 : decode cX12_meet 93 = .ok (.goto 73, 3) := by decide +kernel
theorem dX12_meet_96 : decode cX12_meet 96 = .ok (.aload_n 0, 1) := by decide +kernel
theorem dX12_meet_97 : decode cX12_meet 97 = .ok (.iload 4, 2) := by decide +kernel
theorem dX12_meet_99 : decode cX12_meet 99 = .ok (.sipush 1440, 3) := by decide +kernel
theorem dX12_meet_102 : decode cX12_meet 102 = .ok (.iload_n 2, 1) := by decide +kernel
theorem dX12_meet_103 : decode cX12_meet 103 = .ok (.imul, 1) := by decide +kernel
theorem dX12_meet_104 : decode cX12_meet 104 = .ok (.iload_n 3, 1) := by decide +kernel
theorem dX12_meet_105 : decode cX12_meet 105 = .ok (.iadd, 1) := by decide +kernel
theorem dX12_meet_106 : decode cX12_meet 106 = .ok (.invokevirtual 267, 3) := by decide +kernel
theorem dX12_meet_109 : decode cX12_meet 109 = .ok (.iconst 0, 1) := by decide +kernel
theorem dX12_meet_110 : decode cX12_meet 110 = .ok (.istore 5, 2) := by decide +kernel
theorem dX12_meet_112 : decode cX12_meet 112 = .ok (.iload 5, 2) := by decide +kernel
theorem dX12_meet_114 : decode cX12_meet 114 = .ok (.aload_n 0, 1) := by decide +kernel
theorem dX12_meet_115 : decode cX12_meet 115 = .ok (.getfield 147, 3) := by decide +kernel
theorem dX12_meet_118 : decode cX12_meet 118 = .ok (.if_icmp .ge 48, 3) := by decide +kernel
theorem dX12_meet_121 : decode cX12_meet 121 = .ok (.aload_n 0, 1) := by decide +kernel
theorem dX12_meet_122 : decode cX12_meet 122 = .ok (.iload 5, 2) := by decide +kernel
theorem dX12_meet_124 : decode cX12_meet 124 = .ok (.invokevirtual 299, 3) := by decide +kernel
theorem dX12_meet_127 : decode cX12_meet 127 = .ok (.istore 6, 2) := by decide +kernel
theorem dX12_meet_129 : decode cX12_meet 129 = .ok (.aload_n 0, 1) := by decide +kernel
theorem dX12_meet_130 : decode cX12_meet 130 = .ok (.getfield 144, 3) := by decide +kernel
theorem dX12_meet_133 : decode cX12_meet 133 = .ok (.iload 5, 2) := by decide +kernel
theorem dX12_meet_135 : decode cX12_meet 135 = .ok (.iload 6, 2) := by decide +kernel
theorem dX12_meet_137 : decode cX12_meet 137 = .ok (.aload_n 0, 1) := by decide +kernel
theorem dX12_meet_138 : decode cX12_meet 138 = .ok (.getfield 144, 3) := by decide +kernel
theorem dX12_meet_141 : decode cX12_meet 141 = .ok (.iload 5, 2) := by decide +kernel
theorem dX12_meet_143 : decode cX12_meet 143 = .ok (.iaload, 1) := by decide +kernel
theorem dX12_meet_144 : decode cX12_meet 144 = .ok (.if_icmp .le 8, 3) := by decide +kernel
theorem dX12_meet_147 : decode cX12_meet 147 = .ok (.iload 6, 2) := by decide +kernel
theorem dX12_meet_149 : decode cX12_meet 149 = .ok (.goto 10, 3) := by decide +kernel
theorem dX12_meet_152 : decode cX12_meet 152 = .ok (.aload_n 0, 1) := by decide +kernel
theorem dX12_meet_153 : decode cX12_meet 153 = .ok (.getfield 144, 3) := by decide +kernel
theorem dX12_meet_156 : decode cX12_meet 156 = .ok (.iload 5, 2) := by decide +kernel
theorem dX12_meet_158 : decode cX12_meet 158 = .ok (.iaload, 1) := by decide +kernel
theorem dX12_meet_159 : decode cX12_meet 159 = .ok (.iastore, 1) := by decide +kernel
theorem dX12_meet_160 : decode cX12_meet 160 = .ok (.iinc 5 1, 3) := by decide +kernel
theorem dX12_meet_163 : decode cX12_meet 163 = .ok (.goto (-51), 3) := by decide +kernel
theorem dX12_meet_166 : decode cX12_meet 166 = .ok (.iinc 4 1, 3) := by decide +kernel
theorem dX12_meet_169 : decode cX12_meet 169 = .ok (.goto (-94), 3) := by decide +kernel
theorem dX12_meet_172 : decode cX12_meet 172 = .ok (.iconst (-1), 1) := by decide +kernel
theorem dX12_meet_173 : decode cX12_meet 173 = .ok (.istore 4, 2) := by decide +kernel
theorem dX12_meet_175 : decode cX12_meet 175 = .ok (.iconst 0, 1) := by decide +kernel
theorem dX12_meet_176 : decode cX12_meet 176 = .ok (.istore 5, 2) := by decide +kernel
theorem dX12_meet_178 : decode cX12_meet 178 = .ok (.iload 5, 2) := by decide +kernel
theorem dX12_meet_180 : decode cX12_meet 180 = .ok (.aload_n 0, 1) := by decide +kernel
theorem dX12_meet_181 : decode cX12_meet 181 = .ok (.getfield 147, 3) := by decide +kernel
theorem dX12_meet_184 : decode cX12_meet 184 = .ok (.if_icmp .ge 47, 3) := by decide +kernel
theorem dX12_meet_187 : decode cX12_meet 187 = .ok (.aload_n 0, 1) := by decide +kernel
theorem dX12_meet_188 : decode cX12_meet 188 = .ok (.getfield 144, 3) := by decide +kernel
theorem dX12_meet_191 : decode cX12_meet 191 = .ok (.iload 5, 2) := by decide +kernel
theorem dX12_meet_193 : decode cX12_meet 193 = .ok (.iaload, 1) := by decide +kernel
theorem dX12_meet_194 : decode cX12_meet 194 = .ok (.ldc 208, 2) := by decide +kernel
theorem dX12_meet_196 : decode cX12_meet 196 = .ok (.if_icmp .ge 29, 3) := by decide +kernel
theorem dX12_meet_199 : decode cX12_meet 199 = .ok (.iload 4, 2) := by decide +kernel
theorem dX12_meet_201 : decode cX12_meet 201 = .ok (.ifCond .lt 20, 3) := by decide +kernel
theorem dX12_meet_204 : decode cX12_meet 204 = .ok (.aload_n 0, 1) := by decide +kernel
theorem dX12_meet_205 : decode cX12_meet 205 = .ok (.getfield 144, 3) := by decide +kernel
theorem dX12_meet_208 : decode cX12_meet 208 = .ok (.iload 5, 2) := by decide +kernel
theorem dX12_meet_210 : decode cX12_meet 210 = .ok (.iaload, 1) := by decide +kernel
theorem dX12_meet_211 : decode cX12_meet 211 = .ok (.aload_n 0, 1) := by decide +kernel
theorem dX12_meet_212 : decode cX12_meet 212 = .ok (.getfield 144, 3) := by decide +kernel
theorem dX12_meet_215 : decode cX12_meet 215 = .ok (.iload 4, 2) := by decide +kernel
theorem dX12_meet_217 : decode cX12_meet 217 = .ok (.iaload, 1) := by decide +kernel
theorem dX12_meet_218 : decode cX12_meet 218 = .ok (.if_icmp .ge 7, 3) := by decide +kernel
theorem dX12_meet_221 : decode cX12_meet 221 = .ok (.iload 5, 2) := by decide +kernel
theorem dX12_meet_223 : decode cX12_meet 223 = .ok (.istore 4, 2) := by decide +kernel
theorem dX12_meet_225 : decode cX12_meet 225 = .ok (.iinc 5 1, 3) := by decide +kernel
theorem dX12_meet_228 : decode cX12_meet 228 = .ok (.goto (-50), 3) := by decide +kernel
theorem dX12_meet_231 : decode cX12_meet 231 = .ok (.iload 4, 2) := by decide +kernel
theorem dX12_meet_233 : decode cX12_meet 233 = .ok (.ifCond .lt 14, 3) := by decide +kernel
theorem dX12_meet_236 : decode cX12_meet 236 = .ok (.aload_n 0, 1) := by decide +kernel
theorem dX12_meet_237 : decode cX12_meet 237 = .ok (.aload_n 0, 1) := by decide +kernel
theorem dX12_meet_238 : decode cX12_meet 238 = .ok (.getfield 144, 3) := by decide +kernel
theorem dX12_meet_241 : decode cX12_meet 241 = .ok (.iload 4, 2) := by decide +kernel
theorem dX12_meet_243 : decode cX12_meet 243 = .ok (.iaload, 1) := by decide +kernel
theorem dX12_meet_244 : decode cX12_meet 244 = .ok (.putfield 140, 3) := by decide +kernel
theorem dX12_meet_247 : decode cX12_meet 247 = .ok (.iload 4, 2) := by decide +kernel
theorem dX12_meet_249 : decode cX12_meet 249 = .ok (.ireturn, 1) := by decide +kernel
theorem dX12_met_0 : decode cX12_met 0 = .ok (.aload_n 0, 1) := by decide +kernel
theorem dX12_met_1 : decode cX12_met 1 = .ok (.getfield 140, 3) := by decide +kernel
theorem dX12_met_4 : decode cX12_met 4 = .ok (.ireturn, 1) := by decide +kernel
theorem dX12_isAhead_0 : decode cX12_isAhead 0 = .ok (.aload_n 0, 1) := by decide +kernel
theorem dX12_isAhead_1 : decode cX12_isAhead 1 = .ok (.iload_n 1, 1) := by decide +kernel
theorem dX12_isAhead_2 : decode cX12_isAhead 2 = .ok (.iload 5, 2) := by decide +kernel
theorem dX12_isAhead_4 : decode cX12_isAhead 4 = .ok (.iload_n 2, 1) := by decide +kernel
theorem dX12_isAhead_5 : decode cX12_isAhead 5 = .ok (.invokevirtual 202, 3) := by decide +kernel
theorem dX12_isAhead_8 : decode cX12_isAhead 8 = .ok (.istore 6, 2) := by decide +kernel
theorem dX12_isAhead_10 : decode cX12_isAhead 10 = .ok (.aload_n 0, 1) := by decide +kernel
theorem dX12_isAhead_11 : decode cX12_isAhead 11 = .ok (.iload_n 3, 1) := by decide +kernel
theorem dX12_isAhead_12 : decode cX12_isAhead 12 = .ok (.iload 5, 2) := by decide +kernel
theorem dX12_isAhead_14 : decode cX12_isAhead 14 = .ok (.iload 4, 2) := by decide +kernel
theorem dX12_isAhead_16 : decode cX12_isAhead 16 = .ok (.invokevirtual 202, 3) := by decide +kernel
theorem dX12_isAhead_19 : decode cX12_isAhead 19 = .ok (.istore 7, 2) := by decide +kernel
theorem dX12_isAhead_21 : decode cX12_isAhead 21 = .ok (.iload 6, 2) := by decide +kernel
theorem dX12_isAhead_23 : decode cX12_isAhead 23 = .ok (.iload 7, 2) := by decide +kernel
theorem dX12_isAhead_25 : decode cX12_isAhead 25 = .ok (.if_icmp .eq 18, 3) := by decide +kernel
theorem dX12_isAhead_28 : decode cX12_isAhead 28 = .ok (.iload 6, 2) := by decide +kernel
theorem dX12_isAhead_30 : decode cX12_isAhead 30 = .ok (.iload 7, 2) := by decide +kernel
theorem dX12_isAhead_32 : decode cX12_isAhead 32 = .ok (.if_icmp .ge 7, 3) := by decide +kernel
theorem dX12_isAhead_35 : decode cX12_isAhead 35 = .ok (.iconst 1, 1) := by decide +kernel
theorem dX12_isAhead_36 : decode cX12_isAhead 36 = .ok (.goto 36, 3) := by decide +kernel
theorem dX12_isAhead_39 : decode cX12_isAhead 39 = .ok (.iconst 0, 1) := by decide +kernel
theorem dX12_isAhead_40 : decode cX12_isAhead 40 = .ok (.goto 32, 3) := by decide +kernel
theorem dX12_isAhead_43 : decode cX12_isAhead 43 = .ok (.iload_n 1, 1) := by decide +kernel
theorem dX12_isAhead_44 : decode cX12_isAhead 44 = .ok (.iload_n 3, 1) := by decide +kernel
theorem dX12_isAhead_45 : decode cX12_isAhead 45 = .ok (.if_icmp .eq 16, 3) := by decide +kernel
theorem dX12_isAhead_48 : decode cX12_isAhead 48 = .ok (.iload_n 1, 1) := by decide +kernel
theorem dX12_isAhead_49 : decode cX12_isAhead 49 = .ok (.iload_n 3, 1) := by decide +kernel
theorem dX12_isAhead_50 : decode cX12_isAhead 50 = .ok (.if_icmp .ge 7, 3) := by decide +kernel
theorem dX12_isAhead_53 : decode cX12_isAhead 53 = .ok (.iconst 1, 1) := by decide +kernel
theorem dX12_isAhead_54 : decode cX12_isAhead 54 = .ok (.goto 18, 3) := by decide +kernel
theorem dX12_isAhead_57 : decode cX12_isAhead 57 = .ok (.iconst 0, 1) := by decide +kernel
theorem dX12_isAhead_58 : decode cX12_isAhead 58 = .ok (.goto 14, 3) := by decide +kernel
theorem dX12_isAhead_61 : decode cX12_isAhead 61 = .ok (.iload_n 2, 1) := by decide +kernel
theorem dX12_isAhead_62 : decode cX12_isAhead 62 = .ok (.iload 4, 2) := by decide +kernel
theorem dX12_isAhead_64 : decode cX12_isAhead 64 = .ok (.if_icmp .ge 7, 3) := by decide +kernel
theorem dX12_isAhead_67 : decode cX12_isAhead 67 = .ok (.iconst 1, 1) := by decide +kernel
theorem dX12_isAhead_68 : decode cX12_isAhead 68 = .ok (.goto 4, 3) := by decide +kernel
theorem dX12_isAhead_71 : decode cX12_isAhead 71 = .ok (.iconst 0, 1) := by decide +kernel
theorem dX12_isAhead_72 : decode cX12_isAhead 72 = .ok (.ireturn, 1) := by decide +kernel
theorem dX12_isInTable_0 : decode cX12_isInTable 0 = .ok (.aload_n 0, 1) := by decide +kernel
theorem dX12_isInTable_1 : decode cX12_isInTable 1 = .ok (.iload_n 1, 1) := by decide +kernel
theorem dX12_isInTable_2 : decode cX12_isInTable 2 = .ok (.iload 4, 2) := by decide +kernel
theorem dX12_isInTable_4 : decode cX12_isInTable 4 = .ok (.invokevirtual 196, 3) := by decide +kernel
theorem dX12_isInTable_7 : decode cX12_isInTable 7 = .ok (.ifCond .eq 36, 3) := by decide +kernel
theorem dX12_isInTable_10 : decode cX12_isInTable 10 = .ok (.aload_n 0, 1) := by decide +kernel
theorem dX12_isInTable_11 : decode cX12_isInTable 11 = .ok (.getfield 34, 3) := by decide +kernel
theorem dX12_isInTable_14 : decode cX12_isInTable 14 = .ok (.bipush 8, 2) := by decide +kernel
theorem dX12_isInTable_16 : decode cX12_isInTable 16 = .ok (.iload_n 1, 1) := by decide +kernel
theorem dX12_isInTable_17 : decode cX12_isInTable 17 = .ok (.imul, 1) := by decide +kernel
theorem dX12_isInTable_18 : decode cX12_isInTable 18 = .ok (.iload_n 2, 1) := by decide +kernel
theorem dX12_isInTable_19 : decode cX12_isInTable 19 = .ok (.iadd, 1) := by decide +kernel
theorem dX12_isInTable_20 : decode cX12_isInTable 20 = .ok (.iaload, 1) := by decide +kernel
theorem dX12_isInTable_21 : decode cX12_isInTable 21 = .ok (.iload_n 3, 1) := by decide +kernel
theorem dX12_isInTable_22 : decode cX12_isInTable 22 = .ok (.if_icmp .ne 21, 3) := by decide +kernel
theorem dX12_isInTable_25 : decode cX12_isInTable 25 = .ok (.aload_n 0, 1) := by decide +kernel
theorem dX12_isInTable_26 : decode cX12_isInTable 26 = .ok (.getfield 43, 3) := by decide +kernel
theorem dX12_isInTable_29 : decode cX12_isInTable 29 = .ok (.bipush 8, 2) := by decide +kernel
theorem dX12_isInTable_31 : decode cX12_isInTable 31 = .ok (.iload_n 1, 1) := by decide +kernel
theorem dX12_isInTable_32 : decode cX12_isInTable 32 = .ok (.imul, 1) := by decide +kernel
theorem dX12_isInTable_33 : decode cX12_isInTable 33 = .ok (.iload_n 2, 1) := by decide +kernel
theorem dX12_isInTable_34 : decode cX12_isInTable 34 = .ok (.iadd, 1) := by decide +kernel
theorem dX12_isInTable_35 : decode cX12_isInTable 35 = .ok (.baload, 1) := by decide +kernel
theorem dX12_isInTable_36 : decode cX12_isInTable 36 = .ok (.ifCond .ne 7, 3) := by decide +kernel
theorem dX12_isInTable_39 : decode cX12_isInTable 39 = .ok (.iconst 1, 1) := by decide +kernel
theorem dX12_isInTable_40 : decode cX12_isInTable 40 = .ok (.goto 4, 3) := by decide +kernel
theorem dX12_isInTable_43 : decode cX12_isInTable 43 = .ok (.iconst 0, 1) := by decide +kernel
theorem dX12_isInTable_44 : decode cX12_isInTable 44 = .ok (.ireturn, 1) := by decide +kernel
theorem dX12_table_0 : decode cX12_table 0 = .ok (.aload_n 0, 1) := by decide +kernel
theorem dX12_table_1 : decode cX12_table 1 = .ok (.iload_n 1, 1) := by decide +kernel
theorem dX12_table_2 : decode cX12_table 2 = .ok (.invokevirtual 167, 3) := by decide +kernel
theorem dX12_table_5 : decode cX12_table 5 = .ok (.ifCond .eq 20, 3) := by decide +kernel
theorem dX12_table_8 : decode cX12_table 8 = .ok (.iload_n 2, 1) := by decide +kernel
theorem dX12_table_9 : decode cX12_table 9 = .ok (.invokestatic 164, 3) := by decide +kernel
theorem dX12_table_12 : decode cX12_table 12 = .ok (.ifCond .eq 13, 3) := by decide +kernel
theorem dX12_table_15 : decode cX12_table 15 = .ok (.iload 4, 2) := by decide +kernel
theorem dX12_table_17 : decode cX12_table 17 = .ok (.iconst 0, 1) := by decide +kernel
theorem dX12_table_18 : decode cX12_table 18 = .ok (.iconst 3, 1) := by decide +kernel
theorem dX12_table_19 : decode cX12_table 19 = .ok (.invokestatic 150, 3) := by decide +kernel
theorem dX12_table_22 : decode cX12_table 22 = .ok (.ifCond .ne 6, 3) := by decide +kernel
theorem dX12_table_25 : decode cX12_table 25 = .ok (.bipush (-2), 2) := by decide +kernel
theorem dX12_table_27 : decode cX12_table 27 = .ok (.ireturn, 1) := by decide +kernel
theorem dX12_table_28 : decode cX12_table 28 = .ok (.iconst 0, 1) := by decide +kernel
theorem dX12_table_29 : decode cX12_table 29 = .ok (.istore 5, 2) := by decide +kernel
theorem dX12_table_31 : decode cX12_table 31 = .ok (.iload 5, 2) := by decide +kernel
theorem dX12_table_33 : decode cX12_table 33 = .ok (.aload_n 0, 1) := by decide +kernel
theorem dX12_table_34 : decode cX12_table 34 = .ok (.getfield 154, 3) := by decide +kernel
theorem dX12_table_37 : decode cX12_table 37 = .ok (.if_icmp .ge 184, 3) := by decide +kernel
theorem dX12_table_40 : decode cX12_table 40 = .ok (.iconst 0, 1) := by decide +kernel
theorem dX12_table_41 : decode cX12_table 41 = .ok (.istore 6, 2) := by decide +kernel
theorem dX12_table_43 : decode cX12_table 43 = .ok (.iload 6, 2) := by decide +kernel
theorem dX12_table_45 : decode cX12_table 45 = .ok (.aload_n 0, 1) := by decide +kernel
theorem dX12_table_46 : decode cX12_table 46 = .ok (.getfield 31, 3) := by decide +kernel
theorem dX12_table_49 : decode cX12_table 49 = .ok (.iload 5, 2) := by decide +kernel
theorem dX12_table_51 : decode cX12_table 51 = .ok (.iaload, 1) := by decide +kernel
theorem dX12_table_52 : decode cX12_table 52 = .ok (.if_icmp .ge 163, 3) := by decide +kernel
theorem dX12_table_55 : decode cX12_table 55 = .ok (.aload_n 0, 1) := by decide +kernel
theorem dX12_table_56 : decode cX12_table 56 = .ok (.iload 5, 2) := by decide +kernel
theorem dX12_table_58 : decode cX12_table 58 = .ok (.iload 6, 2) := by decide +kernel
theorem dX12_table_60 : decode cX12_table 60 = .ok (.iload_n 1, 1) := by decide +kernel
theorem dX12_table_61 : decode cX12_table 61 = .ok (.iload_n 2, 1) := by decide +kernel
theorem dX12_table_62 : decode cX12_table 62 = .ok (.invokevirtual 302, 3) := by decide +kernel
theorem dX12_table_65 : decode cX12_table 65 = .ok (.ifCond .ne 6, 3) := by decide +kernel
theorem dX12_table_68 : decode cX12_table 68 = .ok (.goto 141, 3) := by decide +kernel
theorem dX12_table_71 : decode cX12_table 71 = .ok (.iconst 0, 1) := by decide +kernel
theorem dX12_table_72 : decode cX12_table 72 = .ok (.istore 7, 2) := by decide +kernel
theorem dX12_table_74 : decode cX12_table 74 = .ok (.iconst 0, 1) := by decide +kernel
theorem dX12_table_75 : decode cX12_table 75 = .ok (.istore 8, 2) := by decide +kernel
theorem dX12_table_77 : decode cX12_table 77 = .ok (.iload 8, 2) := by decide +kernel
theorem dX12_table_79 : decode cX12_table 79 = .ok (.aload_n 0, 1) := by decide +kernel
theorem dX12_table_80 : decode cX12_table 80 = .ok (.getfield 154, 3) := by decide +kernel
theorem dX12_table_83 : decode cX12_table 83 = .ok (.if_icmp .ge 62, 3) := by decide +kernel
theorem dX12_table_86 : decode cX12_table 86 = .ok (.iconst 0, 1) := by decide +kernel
theorem dX12_table_87 : decode cX12_table 87 = .ok (.istore 9, 2) := by decide +kernel
theorem dX12_table_89 : decode cX12_table 89 = .ok (.iload 9, 2) := by decide +kernel
theorem dX12_table_91 : decode cX12_table 91 = .ok (.aload_n 0, 1) := by decide +kernel
theorem dX12_table_92 : decode cX12_table 92 = .ok (.getfield 31, 3) := by decide +kernel
theorem dX12_table_95 : decode cX12_table 95 = .ok (.iload 8, 2) := by decide +kernel
theorem dX12_table_97 : decode cX12_table 97 = .ok (.iaload, 1) := by decide +kernel
theorem dX12_table_98 : decode cX12_table 98 = .ok (.if_icmp .ge 41, 3) := by decide +kernel
theorem dX12_table_101 : decode cX12_table 101 = .ok (.aload_n 0, 1) := by decide +kernel
theorem dX12_table_102 : decode cX12_table 102 = .ok (.iload 8, 2) := by decide +kernel
theorem dX12_table_104 : decode cX12_table 104 = .ok (.iload 9, 2) := by decide +kernel
theorem dX12_table_106 : decode cX12_table 106 = .ok (.iload_n 1, 1) := by decide +kernel
theorem dX12_table_107 : decode cX12_table 107 = .ok (.iload_n 2, 1) := by decide +kernel
theorem dX12_table_108 : decode cX12_table 108 = .ok (.invokevirtual 302, 3) := by decide +kernel
theorem dX12_table_111 : decode cX12_table 111 = .ok (.ifCond .eq 22, 3) := by decide +kernel
theorem dX12_table_114 : decode cX12_table 114 = .ok (.aload_n 0, 1) := by decide +kernel
theorem dX12_table_115 : decode cX12_table 115 = .ok (.iload 8, 2) := by decide +kernel
theorem dX12_table_117 : decode cX12_table 117 = .ok (.iload 9, 2) := by decide +kernel
theorem dX12_table_119 : decode cX12_table 119 = .ok (.iload 5, 2) := by decide +kernel
theorem dX12_table_121 : decode cX12_table 121 = .ok (.iload 6, 2) := by decide +kernel
theorem dX12_table_123 : decode cX12_table 123 = .ok (.iload_n 2, 1) := by decide +kernel
theorem dX12_table_124 : decode cX12_table 124 = .ok (.invokevirtual 305, 3) := by decide +kernel
theorem dX12_table_127 : decode cX12_table 127 = .ok (.ifCond .eq 6, 3) := by decide +kernel
theorem dX12_table_130 : decode cX12_table 130 = .ok (.iinc 7 1, 3) := by decide +kernel
theorem dX12_table_133 : decode cX12_table 133 = .ok (.iinc 9 1, 3) := by decide +kernel
theorem dX12_table_136 : decode cX12_table 136 = .ok (.goto (-47), 3) := by decide +kernel
theorem dX12_table_139 : decode cX12_table 139 = .ok (.iinc 8 1, 3) := by decide +kernel
theorem dX12_table_142 : decode cX12_table 142 = .ok (.goto (-65), 3) := by decide +kernel
theorem dX12_table_145 : decode cX12_table 145 = .ok (.iload 7, 2) := by decide +kernel
theorem dX12_table_147 : decode cX12_table 147 = .ok (.iload_n 3, 1) := by decide +kernel
theorem dX12_table_148 : decode cX12_table 148 = .ok (.if_icmp .eq 6, 3) := by decide +kernel
theorem dX12_table_151 : decode cX12_table 151 = .ok (.goto 58, 3) := by decide +kernel
theorem dX12_table_154 : decode cX12_table 154 = .ok (.iload 4, 2) := by decide +kernel
theorem dX12_table_156 : decode cX12_table 156 = .ok (.ifCond .ne 8, 3) := by decide +kernel
theorem dX12_table_159 : decode cX12_table 159 = .ok (.iload 5, 2) := by decide +kernel
theorem dX12_table_161 : decode cX12_table 161 = .ok (.goto 47, 3) := by decide +kernel
theorem dX12_table_164 : decode cX12_table 164 = .ok (.iload 4, 2) := by decide +kernel
theorem dX12_table_166 : decode cX12_table 166 = .ok (.iconst 1, 1) := by decide +kernel
theorem dX12_table_167 : decode cX12_table 167 = .ok (.if_icmp .ne 8, 3) := by decide +kernel
theorem dX12_table_170 : decode cX12_table 170 = .ok (.iload 6, 2) := by decide +kernel
theorem dX12_table_172 : decode cX12_table 172 = .ok (.goto 36, 3) := by decide +kernel
theorem dX12_table_175 : decode cX12_table 175 = .ok (.iload 4, 2) := by decide +kernel
theorem dX12_table_177 : decode cX12_table 177 = .ok (.iconst 2, 1) := by decide +kernel
theorem dX12_table_178 : decode cX12_table 178 = .ok (.if_icmp .ne 15, 3) := by decide +kernel
theorem dX12_table_181 : decode cX12_table 181 = .ok (.aload_n 0, 1) := by decide +kernel
theorem dX12_table_182 : decode cX12_table 182 = .ok (.iload 5, 2) := by decide +kernel
theorem dX12_table_184 : decode cX12_table 184 = .ok (.iload_n 2, 1) := by decide +kernel
theorem dX12_table_185 : decode cX12_table 185 = .ok (.iload 6, 2) := by decide +kernel
theorem dX12_table_187 : decode cX12_table 187 = .ok (.invokevirtual 199, 3) := by decide +kernel
theorem dX12_table_190 : decode cX12_table 190 = .ok (.goto 12, 3) := by decide +kernel
theorem dX12_table_193 : decode cX12_table 193 = .ok (.aload_n 0, 1) := by decide +kernel
theorem dX12_table_194 : decode cX12_table 194 = .ok (.iload 5, 2) := by decide +kernel
theorem dX12_table_196 : decode cX12_table 196 = .ok (.iload_n 2, 1) := by decide +kernel
theorem dX12_table_197 : decode cX12_table 197 = .ok (.iload 6, 2) := by decide +kernel
theorem dX12_table_199 : decode cX12_table 199 = .ok (.invokevirtual 202, 3) := by decide +kernel
theorem dX12_table_202 : decode cX12_table 202 = .ok (.sipush 1440, 3) := by decide +kernel
theorem dX12_table_205 : decode cX12_table 205 = .ok (.iload_n 2, 1) := by decide +kernel
theorem dX12_table_206 : decode cX12_table 206 = .ok (.imul, 1) := by decide +kernel
theorem dX12_table_207 : decode cX12_table 207 = .ok (.isub, 1) := by decide +kernel
theorem dX12_table_208 : decode cX12_table 208 = .ok (.ireturn, 1) := by decide +kernel
theorem dX12_table_209 : decode cX12_table 209 = .ok (.iinc 6 1, 3) := by decide +kernel
theorem dX12_table_212 : decode cX12_table 212 = .ok (.goto (-169), 3) := by decide +kernel
theorem dX12_table_215 : decode cX12_table 215 = .ok (.iinc 5 1, 3) := by decide +kernel
theorem dX12_table_218 : decode cX12_table 218 = .ok (.goto (-187), 3) := by decide +kernel
theorem dX12_table_221 : decode cX12_table 221 = .ok (.iconst (-1), 1) := by decide +kernel
theorem dX12_table_222 : decode cX12_table 222 = .ok (.ireturn, 1) := by decide +kernel
theorem dX12_count_0 : decode cX12_count 0 = .ok (.iload_n 1, 1) := by decide +kernel
theorem dX12_count_1 : decode cX12_count 1 = .ok (.tableswitch 110 0 6 #[43, 48, 53, 58, 63, 68, 105], 43) := by decide +kernel
theorem dX12_count_44 : decode cX12_count 44 = .ok (.aload_n 0, 1) := by decide +kernel
theorem dX12_count_45 : decode cX12_count 45 = .ok (.getfield 147, 3) := by decide +kernel
theorem dX12_count_48 : decode cX12_count 48 = .ok (.ireturn, 1) := by decide +kernel
theorem dX12_count_49 : decode cX12_count 49 = .ok (.aload_n 0, 1) := by decide +kernel
theorem dX12_count_50 : decode cX12_count 50 = .ok (.getfield 154, 3) := by decide +kernel
theorem dX12_count_53 : decode cX12_count 53 = .ok (.ireturn, 1) := by decide +kernel
theorem dX12_count_54 : decode cX12_count 54 = .ok (.aload_n 0, 1) := by decide +kernel
theorem dX12_count_55 : decode cX12_count 55 = .ok (.getfield 161, 3) := by decide +kernel
theorem dX12_count_58 : decode cX12_count 58 = .ok (.ireturn, 1) := by decide +kernel
theorem dX12_count_59 : decode cX12_count 59 = .ok (.aload_n 0, 1) := by decide +kernel
theorem dX12_count_60 : decode cX12_count 60 = .ok (.getfield 261, 3) := by decide +kernel
theorem dX12_count_63 : decode cX12_count 63 = .ok (.ireturn, 1) := by decide +kernel
theorem dX12_count_64 : decode cX12_count 64 = .ok (.aload_n 0, 1) := by decide +kernel
theorem dX12_count_65 : decode cX12_count 65 = .ok (.getfield 280, 3) := by decide +kernel
theorem dX12_count_68 : decode cX12_count 68 = .ok (.ireturn, 1) := by decide +kernel
theorem dX12_count_69 : decode cX12_count 69 = .ok (.iconst 0, 1) := by decide +kernel
theorem dX12_count_70 : decode cX12_count 70 = .ok (.istore_n 2, 1) := by decide +kernel
theorem dX12_count_71 : decode cX12_count 71 = .ok (.iconst 0, 1) := by decide +kernel
theorem dX12_count_72 : decode cX12_count 72 = .ok (.istore_n 3, 1) := by decide +kernel
theorem dX12_count_73 : decode cX12_count 73 = .ok (.iload_n 3, 1) := by decide +kernel
theorem dX12_count_74 : decode cX12_count 74 = .ok (.aload_n 0, 1) := by decide +kernel
theorem dX12_count_75 : decode cX12_count 75 = .ok (.getfield 280, 3) := by decide +kernel
theorem dX12_count_78 : decode cX12_count 78 = .ok (.if_icmp .ge 26, 3) := by decide +kernel
theorem dX12_count_81 : decode cX12_count 81 = .ok (.iload_n 2, 1) := by decide +kernel
theorem dX12_count_82 : decode cX12_count 82 = .ok (.aload_n 0, 1) := by decide +kernel
theorem dX12_count_83 : decode cX12_count 83 = .ok (.getfield 137, 3) := by decide +kernel
theorem dX12_count_86 : decode cX12_count 86 = .ok (.iload_n 3, 1) := by decide +kernel
theorem dX12_count_87 : decode cX12_count 87 = .ok (.baload, 1) := by decide +kernel
theorem dX12_count_88 : decode cX12_count 88 = .ok (.ifCond .eq 7, 3) := by decide +kernel
theorem dX12_count_91 : decode cX12_count 91 = .ok (.iconst 0, 1) := by decide +kernel
theorem dX12_count_92 : decode cX12_count 92 = .ok (.goto 4, 3) := by decide +kernel
theorem dX12_count_95 : decode cX12_count 95 = .ok (.iconst 1, 1) := by decide +kernel
theorem dX12_count_96 : decode cX12_count 96 = .ok (.iadd, 1) := by decide +kernel
theorem dX12_count_97 : decode cX12_count 97 = .ok (.istore_n 2, 1) := by decide +kernel
theorem dX12_count_98 : decode cX12_count 98 = .ok (.iinc 3 1, 3) := by decide +kernel
theorem dX12_count_101 : decode cX12_count 101 = .ok (.goto (-28), 3) := by decide +kernel
theorem dX12_count_104 : decode cX12_count 104 = .ok (.iload_n 2, 1) := by decide +kernel
theorem dX12_count_105 : decode cX12_count 105 = .ok (.ireturn, 1) := by decide +kernel
theorem dX12_count_106 : decode cX12_count 106 = .ok (.aload_n 0, 1) := by decide +kernel
theorem dX12_count_107 : decode cX12_count 107 = .ok (.getfield 177, 3) := by decide +kernel
theorem dX12_count_110 : decode cX12_count 110 = .ok (.ireturn, 1) := by decide +kernel
theorem dX12_count_111 : decode cX12_count 111 = .ok (.bipush (-2), 2) := by decide +kernel
theorem dX12_count_113 : decode cX12_count 113 = .ok (.ireturn, 1) := by decide +kernel
theorem dJ9_floorDiv_7cf53_0 : decode cJ9_floorDiv_7cf53 0 = .ok (.iload_n 0, 1) := by decide +kernel
theorem dJ9_floorDiv_7cf53_1 : decode cJ9_floorDiv_7cf53 1 = .ok (.iload_n 1, 1) := by decide +kernel
theorem dJ9_floorDiv_7cf53_2 : decode cJ9_floorDiv_7cf53 2 = .ok (.idiv, 1) := by decide +kernel
theorem dJ9_floorDiv_7cf53_3 : decode cJ9_floorDiv_7cf53 3 = .ok (.istore_n 2, 1) := by decide +kernel
theorem dJ9_floorDiv_7cf53_4 : decode cJ9_floorDiv_7cf53 4 = .ok (.iload_n 0, 1) := by decide +kernel
theorem dJ9_floorDiv_7cf53_5 : decode cJ9_floorDiv_7cf53 5 = .ok (.iload_n 1, 1) := by decide +kernel
theorem dJ9_floorDiv_7cf53_6 : decode cJ9_floorDiv_7cf53 6 = .ok (.ixor, 1) := by decide +kernel
theorem dJ9_floorDiv_7cf53_7 : decode cJ9_floorDiv_7cf53 7 = .ok (.ifCond .ge 14, 3) := by decide +kernel
theorem dJ9_floorDiv_7cf53_10 : decode cJ9_floorDiv_7cf53 10 = .ok (.iload_n 2, 1) := by decide +kernel
theorem dJ9_floorDiv_7cf53_11 : decode cJ9_floorDiv_7cf53 11 = .ok (.iload_n 1, 1) := by decide +kernel
theorem dJ9_floorDiv_7cf53_12 : decode cJ9_floorDiv_7cf53 12 = .ok (.imul, 1) := by decide +kernel
theorem dJ9_floorDiv_7cf53_13 : decode cJ9_floorDiv_7cf53 13 = .ok (.iload_n 0, 1) := by decide +kernel
theorem dJ9_floorDiv_7cf53_14 : decode cJ9_floorDiv_7cf53 14 = .ok (.if_icmp .eq 7, 3) := by decide +kernel
theorem dJ9_floorDiv_7cf53_17 : decode cJ9_floorDiv_7cf53 17 = .ok (.iload_n 2, 1) := by decide +kernel
theorem dJ9_floorDiv_7cf53_18 : decode cJ9_floorDiv_7cf53 18 = .ok (.iconst 1, 1) := by decide +kernel
theorem dJ9_floorDiv_7cf53_19 : decode cJ9_floorDiv_7cf53 19 = .ok (.isub, 1) := by decide +kernel
theorem dJ9_floorDiv_7cf53_20 : decode cJ9_floorDiv_7cf53 20 = .ok (.ireturn, 1) := by decide +kernel
theorem dJ9_floorDiv_7cf53_21 : decode cJ9_floorDiv_7cf53 21 = .ok (.iload_n 2, 1) := by decide +kernel
theorem dJ9_floorDiv_7cf53_22 : decode cJ9_floorDiv_7cf53 22 = .ok (.ireturn, 1) := by decide +kernel
theorem dJ9_max_7cf53_0 : decode cJ9_max_7cf53 0 = .ok (.iload_n 0, 1) := by decide +kernel
theorem dJ9_max_7cf53_1 : decode cJ9_max_7cf53 1 = .ok (.iload_n 1, 1) := by decide +kernel
theorem dJ9_max_7cf53_2 : decode cJ9_max_7cf53 2 = .ok (.if_icmp .lt 7, 3) := by decide +kernel
theorem dJ9_max_7cf53_5 : decode cJ9_max_7cf53 5 = .ok (.iload_n 0, 1) := by decide +kernel
theorem dJ9_max_7cf53_6 : decode cJ9_max_7cf53 6 = .ok (.goto 4, 3) := by decide +kernel
theorem dJ9_max_7cf53_9 : decode cJ9_max_7cf53 9 = .ok (.iload_n 1, 1) := by decide +kernel
theorem dJ9_max_7cf53_10 : decode cJ9_max_7cf53 10 = .ok (.ireturn, 1) := by decide +kernel
theorem dJ9_min_7cf53_0 : decode cJ9_min_7cf53 0 = .ok (.iload_n 0, 1) := by decide +kernel
theorem dJ9_min_7cf53_1 : decode cJ9_min_7cf53 1 = .ok (.iload_n 1, 1) := by decide +kernel
theorem dJ9_min_7cf53_2 : decode cJ9_min_7cf53 2 = .ok (.if_icmp .gt 7, 3) := by decide +kernel
theorem dJ9_min_7cf53_5 : decode cJ9_min_7cf53 5 = .ok (.iload_n 0, 1) := by decide +kernel
theorem dJ9_min_7cf53_6 : decode cJ9_min_7cf53 6 = .ok (.goto 4, 3) := by decide +kernel
theorem dJ9_min_7cf53_9 : decode cJ9_min_7cf53 9 = .ok (.iload_n 1, 1) := by decide +kernel
theorem dJ9_min_7cf53_10 : decode cJ9_min_7cf53 10 = .ok (.ireturn, 1) := by decide +kernel
theorem dJ7_rangeCheck_23922_0 : decode cJ7_rangeCheck_23922 0 = .ok (.iload_n 1, 1) := by decide +kernel
theorem dJ7_rangeCheck_23922_1 : decode cJ7_rangeCheck_23922 1 = .ok (.iload_n 2, 1) := by decide +kernel
theorem dJ7_rangeCheck_23922_2 : decode cJ7_rangeCheck_23922 2 = .ok (.if_icmp .le 44, 3) := by decide +kernel
theorem dJ7_rangeCheck_23922_5 : decode cJ7_rangeCheck_23922 5 = .ok (.new 43, 3) := by decide +kernel
theorem dJ7_rangeCheck_23922_8 : decode cJ7_rangeCheck_23922 8 = .ok (.dup, 1) := by decide +kernel
theorem dJ7_rangeCheck_23922_9 : decode cJ7_rangeCheck_23922 9 = .ok (.new 45, 3) := by decide +kernel
theorem dJ7_rangeCheck_23922_12 : decode cJ7_rangeCheck_23922 12 = .ok (.dup, 1) := by decide +kernel
theorem dJ7_rangeCheck_23922_13 : decode cJ7_rangeCheck_23922 13 = .ok (.invokespecial 47, 3) := by decide +kernel
theorem dJ7_rangeCheck_23922_16 : decode cJ7_rangeCheck_23922 16 = .ok (.ldc 48, 2) := by decide +kernel
theorem dJ7_rangeCheck_23922_18 : decode cJ7_rangeCheck_23922 18 = .ok (.invokevirtual 50, 3) := by decide +kernel
theorem dJ7_rangeCheck_23922_21 : decode cJ7_rangeCheck_23922 21 = .ok (.iload_n 1, 1) := by decide +kernel
theorem dJ7_rangeCheck_23922_22 : decode cJ7_rangeCheck_23922 22 = .ok (.invokevirtual 54, 3) := by decide +kernel
theorem dJ7_rangeCheck_23922_25 : decode cJ7_rangeCheck_23922 25 = .ok (.ldc 57, 2) := by decide +kernel
theorem dJ7_rangeCheck_23922_27 : decode cJ7_rangeCheck_23922 27 = .ok (.invokevirtual 50, 3) := by decide +kernel
theorem dJ7_rangeCheck_23922_30 : decode cJ7_rangeCheck_23922 30 = .ok (.iload_n 2, 1) := by decide +kernel
theorem dJ7_rangeCheck_23922_31 : decode cJ7_rangeCheck_23922 31 = .ok (.invokevirtual 54, 3) := by decide +kernel
theorem dJ7_rangeCheck_23922_34 : decode cJ7_rangeCheck_23922 34 = .ok (.ldc 59, 2) := by decide +kernel
theorem dJ7_rangeCheck_23922_36 : decode cJ7_rangeCheck_23922 36 = .ok (.invokevirtual 50, 3) := by decide +kernel
theorem dJ7_rangeCheck_23922_39 : decode cJ7_rangeCheck_23922 39 = .ok (.invokevirtual 61, 3) := by decide +kernel
theorem dJ7_rangeCheck_23922_42 : decode cJ7_rangeCheck_23922 42 = .ok (.invokespecial 65, 3) := by decide +kernel
theorem dJ7_rangeCheck_23922_45 : decode cJ7_rangeCheck_23922 45 = .ok (.athrow, 1) := by decide +kernel
theorem dJ7_rangeCheck_23922_46 : decode cJ7_rangeCheck_23922 46 = .ok (.iload_n 1, 1) := by decide +kernel
theorem dJ7_rangeCheck_23922_47 : decode cJ7_rangeCheck_23922 47 = .ok (.ifCond .ge 12, 3) := by decide +kernel
theorem dJ7_rangeCheck_23922_50 : decode cJ7_rangeCheck_23922 50 = .ok (.new 68, 3) := by decide +kernel
theorem dJ7_rangeCheck_23922_53 : decode cJ7_rangeCheck_23922 53 = .ok (.dup, 1) := by decide +kernel
theorem dJ7_rangeCheck_23922_54 : decode cJ7_rangeCheck_23922 54 = .ok (.iload_n 1, 1) := by decide +kernel
theorem dJ7_rangeCheck_23922_55 : decode cJ7_rangeCheck_23922 55 = .ok (.invokespecial 70, 3) := by decide +kernel
theorem dJ7_rangeCheck_23922_58 : decode cJ7_rangeCheck_23922 58 = .ok (.athrow, 1) := by decide +kernel
theorem dJ7_rangeCheck_23922_59 : decode cJ7_rangeCheck_23922 59 = .ok (.iload_n 2, 1) := by decide +kernel
theorem dJ7_rangeCheck_23922_60 : decode cJ7_rangeCheck_23922 60 = .ok (.iload_n 0, 1) := by decide +kernel
theorem dJ7_rangeCheck_23922_61 : decode cJ7_rangeCheck_23922 61 = .ok (.if_icmp .le 12, 3) := by decide +kernel
theorem dJ7_rangeCheck_23922_64 : decode cJ7_rangeCheck_23922 64 = .ok (.new 68, 3) := by decide +kernel
theorem dJ7_rangeCheck_23922_67 : decode cJ7_rangeCheck_23922 67 = .ok (.dup, 1) := by decide +kernel
theorem dJ7_rangeCheck_23922_68 : decode cJ7_rangeCheck_23922 68 = .ok (.iload_n 2, 1) := by decide +kernel
theorem dJ7_rangeCheck_23922_69 : decode cJ7_rangeCheck_23922 69 = .ok (.invokespecial 70, 3) := by decide +kernel
theorem dJ7_rangeCheck_23922_72 : decode cJ7_rangeCheck_23922 72 = .ok (.athrow, 1) := by decide +kernel
theorem dJ7_rangeCheck_23922_73 : decode cJ7_rangeCheck_23922 73 = .ok (.return_, 1) := by decide +kernel
theorem dJ7_fill_53178_0 : decode cJ7_fill_53178 0 = .ok (.iconst 0, 1) := by decide +kernel
theorem dJ7_fill_53178_1 : decode cJ7_fill_53178 1 = .ok (.istore_n 2, 1) := by decide +kernel
theorem dJ7_fill_53178_2 : decode cJ7_fill_53178 2 = .ok (.aload_n 0, 1) := by decide +kernel
theorem dJ7_fill_53178_3 : decode cJ7_fill_53178 3 = .ok (.arraylength, 1) := by decide +kernel
theorem dJ7_fill_53178_4 : decode cJ7_fill_53178 4 = .ok (.istore_n 3, 1) := by decide +kernel
theorem dJ7_fill_53178_5 : decode cJ7_fill_53178 5 = .ok (.iload_n 2, 1) := by decide +kernel
theorem dJ7_fill_53178_6 : decode cJ7_fill_53178 6 = .ok (.iload_n 3, 1) := by decide +kernel
theorem dJ7_fill_53178_7 : decode cJ7_fill_53178 7 = .ok (.if_icmp .ge 13, 3) := by decide +kernel
theorem dJ7_fill_53178_10 : decode cJ7_fill_53178 10 = .ok (.aload_n 0, 1) := by decide +kernel
theorem dJ7_fill_53178_11 : decode cJ7_fill_53178 11 = .ok (.iload_n 2, 1) := by decide +kernel
theorem dJ7_fill_53178_12 : decode cJ7_fill_53178 12 = .ok (.iload_n 1, 1) := by decide +kernel
theorem dJ7_fill_53178_13 : decode cJ7_fill_53178 13 = .ok (.iastore, 1) := by decide +kernel
theorem dJ7_fill_53178_14 : decode cJ7_fill_53178 14 = .ok (.iinc 2 1, 3) := by decide +kernel
theorem dJ7_fill_53178_17 : decode cJ7_fill_53178 17 = .ok (.goto (-12), 3) := by decide +kernel
theorem dJ7_fill_53178_20 : decode cJ7_fill_53178 20 = .ok (.return_, 1) := by decide +kernel
theorem dJ7_fill_fda19_0 : decode cJ7_fill_fda19 0 = .ok (.aload_n 0, 1) := by decide +kernel
theorem dJ7_fill_fda19_1 : decode cJ7_fill_fda19 1 = .ok (.arraylength, 1) := by decide +kernel
theorem dJ7_fill_fda19_2 : decode cJ7_fill_fda19 2 = .ok (.iload_n 1, 1) := by decide +kernel
theorem dJ7_fill_fda19_3 : decode cJ7_fill_fda19 3 = .ok (.iload_n 2, 1) := by decide +kernel
theorem dJ7_fill_fda19_4 : decode cJ7_fill_fda19 4 = .ok (.invokestatic 13, 3) := by decide +kernel
theorem dJ7_fill_fda19_7 : decode cJ7_fill_fda19 7 = .ok (.iload_n 1, 1) := by decide +kernel
theorem dJ7_fill_fda19_8 : decode cJ7_fill_fda19 8 = .ok (.istore 4, 2) := by decide +kernel
theorem dJ7_fill_fda19_10 : decode cJ7_fill_fda19 10 = .ok (.iload 4, 2) := by decide +kernel
theorem dJ7_fill_fda19_12 : decode cJ7_fill_fda19 12 = .ok (.iload_n 2, 1) := by decide +kernel
theorem dJ7_fill_fda19_13 : decode cJ7_fill_fda19 13 = .ok (.if_icmp .ge 14, 3) := by decide +kernel
theorem dJ7_fill_fda19_16 : decode cJ7_fill_fda19 16 = .ok (.aload_n 0, 1) := by decide +kernel
theorem dJ7_fill_fda19_17 : decode cJ7_fill_fda19 17 = .ok (.iload 4, 2) := by decide +kernel
theorem dJ7_fill_fda19_19 : decode cJ7_fill_fda19 19 = .ok (.iload_n 3, 1) := by decide +kernel
theorem dJ7_fill_fda19_20 : decode cJ7_fill_fda19 20 = .ok (.iastore, 1) := by decide +kernel
theorem dJ7_fill_fda19_21 : decode cJ7_fill_fda19 21 = .ok (.iinc 4 1, 3) := by decide +kernel
theorem dJ7_fill_fda19_24 : decode cJ7_fill_fda19 24 = .ok (.goto (-14), 3) := by decide +kernel
theorem dJ7_fill_fda19_27 : decode cJ7_fill_fda19 27 = .ok (.return_, 1) := by decide +kernel
theorem dL_law_0 : decode cL_law 0 = .ok (.new 7, 3) := by decide +kernel
theorem dL_law_3 : decode cL_law 3 = .ok (.dup, 1) := by decide +kernel
theorem dL_law_4 : decode cL_law 4 = .ok (.invokespecial 9, 3) := by decide +kernel
theorem dL_law_7 : decode cL_law 7 = .ok (.astore_n 1, 1) := by decide +kernel
theorem dL_law_8 : decode cL_law 8 = .ok (.new 10, 3) := by decide +kernel
theorem dL_law_11 : decode cL_law 11 = .ok (.dup, 1) := by decide +kernel
theorem dL_law_12 : decode cL_law 12 = .ok (.invokespecial 12, 3) := by decide +kernel
theorem dL_law_15 : decode cL_law 15 = .ok (.astore_n 2, 1) := by decide +kernel
theorem dL_law_16 : decode cL_law 16 = .ok (.iconst 0, 1) := by decide +kernel
theorem dL_law_17 : decode cL_law 17 = .ok (.istore_n 3, 1) := by decide +kernel
theorem dL_law_18 : decode cL_law 18 = .ok (.iload_n 3, 1) := by decide +kernel
theorem dL_law_19 : decode cL_law 19 = .ok (.aload_n 0, 1) := by decide +kernel
theorem dL_law_20 : decode cL_law 20 = .ok (.arraylength, 1) := by decide +kernel
theorem dL_law_21 : decode cL_law 21 = .ok (.iconst 5, 1) := by decide +kernel
theorem dL_law_22 : decode cL_law 22 = .ok (.isub, 1) := by decide +kernel
theorem dL_law_23 : decode cL_law 23 = .ok (.if_icmp .gt 1138, 3) := by decide +kernel
theorem dL_law_26 : decode cL_law 26 = .ok (.aload_n 0, 1) := by decide +kernel
theorem dL_law_27 : decode cL_law 27 = .ok (.iload_n 3, 1) := by decide +kernel
theorem dL_law_28 : decode cL_law 28 = .ok (.iaload, 1) := by decide +kernel
theorem dL_law_29 : decode cL_law 29 = .ok (.bipush 31, 2) := by decide +kernel
theorem dL_law_31 : decode cL_law 31 = .ok (.iand, 1) := by decide +kernel
theorem dL_law_32 : decode cL_law 32 = .ok (.tableswitch 1123 0 24 #[116, 149, 192, 225, 268, 321, 380, 423, 476, 509, 562, 621, 674, 707, 750, 773, 796, 819, 842, 885, 938, 991, 1034, 1047, 1100], 116) := by decide +kernel
theorem dL_law_148 : decode cL_law 148 = .ok (.aload_n 1, 1) := by decide +kernel
theorem dL_law_149 : decode cL_law 149 = .ok (.aload_n 0, 1) := by decide +kernel
theorem dL_law_150 : decode cL_law 150 = .ok (.iload_n 3, 1) := by decide +kernel
theorem dL_law_151 : decode cL_law 151 = .ok (.iconst 1, 1) := by decide +kernel
theorem dL_law_152 : decode cL_law 152 = .ok (.iadd, 1) := by decide +kernel
theorem dL_law_153 : decode cL_law 153 = .ok (.iaload, 1) := by decide +kernel
theorem dL_law_154 : decode cL_law 154 = .ok (.aload_n 0, 1) := by decide +kernel
theorem dL_law_155 : decode cL_law 155 = .ok (.iload_n 3, 1) := by decide +kernel
theorem dL_law_156 : decode cL_law 156 = .ok (.iconst 2, 1) := by decide +kernel
theorem dL_law_157 : decode cL_law 157 = .ok (.iadd, 1) := by decide +kernel
theorem dL_law_158 : decode cL_law 158 = .ok (.iaload, 1) := by decide +kernel
theorem dL_law_159 : decode cL_law 159 = .ok (.invokevirtual 13, 3) := by decide +kernel
theorem dL_law_162 : decode cL_law 162 = .ok (.aload_n 2, 1) := by decide +kernel
theorem dL_law_163 : decode cL_law 163 = .ok (.aload_n 0, 1) := by decide +kernel
theorem dL_law_164 : decode cL_law 164 = .ok (.iload_n 3, 1) := by decide +kernel
theorem dL_law_165 : decode cL_law 165 = .ok (.iconst 1, 1) := by decide +kernel
theorem dL_law_166 : decode cL_law 166 = .ok (.iadd, 1) := by decide +kernel
theorem dL_law_167 : decode cL_law 167 = .ok (.iaload, 1) := by decide +kernel
theorem dL_law_168 : decode cL_law 168 = .ok (.aload_n 0, 1) := by decide +kernel
theorem dL_law_169 : decode cL_law 169 = .ok (.iload_n 3, 1) := by decide +kernel
theorem dL_law_170 : decode cL_law 170 = .ok (.iconst 2, 1) := by decide +kernel
theorem dL_law_171 : decode cL_law 171 = .ok (.iadd, 1) := by decide +kernel
theorem dL_law_172 : decode cL_law 172 = .ok (.iaload, 1) := by decide +kernel
theorem dL_law_173 : decode cL_law 173 = .ok (.invokevirtual 17, 3) := by decide +kernel
theorem dL_law_176 : decode cL_law 176 = .ok (.if_icmp .eq 979, 3) := by decide +kernel
theorem dL_law_179 : decode cL_law 179 = .ok (.iconst 0, 1) := by decide +kernel
theorem dL_law_180 : decode cL_law 180 = .ok (.ireturn, 1) := by decide +kernel
theorem dL_law_181 : decode cL_law 181 = .ok (.aload_n 1, 1) := by decide +kernel
theorem dL_law_182 : decode cL_law 182 = .ok (.aload_n 0, 1) := by decide +kernel
theorem dL_law_183 : decode cL_law 183 = .ok (.iload_n 3, 1) := by decide +kernel
theorem dL_law_184 : decode cL_law 184 = .ok (.iconst 1, 1) := by decide +kernel
theorem dL_law_185 : decode cL_law 185 = .ok (.iadd, 1) := by decide +kernel
theorem dL_law_186 : decode cL_law 186 = .ok (.iaload, 1) := by decide +kernel
theorem dL_law_187 : decode cL_law 187 = .ok (.aload_n 0, 1) := by decide +kernel
theorem dL_law_188 : decode cL_law 188 = .ok (.iload_n 3, 1) := by decide +kernel
theorem dL_law_189 : decode cL_law 189 = .ok (.iconst 2, 1) := by decide +kernel
theorem dL_law_190 : decode cL_law 190 = .ok (.iadd, 1) := by decide +kernel
theorem dL_law_191 : decode cL_law 191 = .ok (.iaload, 1) := by decide +kernel
theorem dL_law_192 : decode cL_law 192 = .ok (.aload_n 0, 1) := by decide +kernel
theorem dL_law_193 : decode cL_law 193 = .ok (.iload_n 3, 1) := by decide +kernel
theorem dL_law_194 : decode cL_law 194 = .ok (.iconst 3, 1) := by decide +kernel
theorem dL_law_195 : decode cL_law 195 = .ok (.iadd, 1) := by decide +kernel
theorem dL_law_196 : decode cL_law 196 = .ok (.iaload, 1) := by decide +kernel
theorem dL_law_197 : decode cL_law 197 = .ok (.invokevirtual 18, 3) := by decide +kernel
theorem dL_law_200 : decode cL_law 200 = .ok (.aload_n 2, 1) := by decide +kernel
theorem dL_law_201 : decode cL_law 201 = .ok (.aload_n 0, 1) := by decide +kernel
theorem dL_law_202 : decode cL_law 202 = .ok (.iload_n 3, 1) := by decide +kernel
theorem dL_law_203 : decode cL_law 203 = .ok (.iconst 1, 1) := by decide +kernel
theorem dL_law_204 : decode cL_law 204 = .ok (.iadd, 1) := by decide +kernel
theorem dL_law_205 : decode cL_law 205 = .ok (.iaload, 1) := by decide +kernel
theorem dL_law_206 : decode cL_law 206 = .ok (.aload_n 0, 1) := by decide +kernel
theorem dL_law_207 : decode cL_law 207 = .ok (.iload_n 3, 1) := by decide +kernel
theorem dL_law_208 : decode cL_law 208 = .ok (.iconst 2, 1) := by decide +kernel
theorem dL_law_209 : decode cL_law 209 = .ok (.iadd, 1) := by decide +kernel
theorem dL_law_210 : decode cL_law 210 = .ok (.iaload, 1) := by decide +kernel
theorem dL_law_211 : decode cL_law 211 = .ok (.aload_n 0, 1) := by decide +kernel
theorem dL_law_212 : decode cL_law 212 = .ok (.iload_n 3, 1) := by decide +kernel
theorem dL_law_213 : decode cL_law 213 = .ok (.iconst 3, 1) := by decide +kernel
theorem dL_law_214 : decode cL_law 214 = .ok (.iadd, 1) := by decide +kernel
theorem dL_law_215 : decode cL_law 215 = .ok (.iaload, 1) := by decide +kernel
theorem dL_law_216 : decode cL_law 216 = .ok (.invokevirtual 22, 3) := by decide +kernel
theorem dL_law_219 : decode cL_law 219 = .ok (.if_icmp .eq 936, 3) := by decide +kernel
theorem dL_law_222 : decode cL_law 222 = .ok (.iconst 0, 1) := by decide +kernel
theorem dL_law_223 : decode cL_law 223 = .ok (.ireturn, 1) := by decide +kernel
theorem dL_law_224 : decode cL_law 224 = .ok (.aload_n 1, 1) := by decide +kernel
theorem dL_law_225 : decode cL_law 225 = .ok (.aload_n 0, 1) := by decide +kernel
theorem dL_law_226 : decode cL_law 226 = .ok (.iload_n 3, 1) := by decide +kernel
theorem dL_law_227 : decode cL_law 227 = .ok (.iconst 1, 1) := by decide +kernel
theorem dL_law_228 : decode cL_law 228 = .ok (.iadd, 1) := by decide +kernel
theorem dL_law_229 : decode cL_law 229 = .ok (.iaload, 1) := by decide +kernel
theorem dL_law_230 : decode cL_law 230 = .ok (.aload_n 0, 1) := by decide +kernel
theorem dL_law_231 : decode cL_law 231 = .ok (.iload_n 3, 1) := by decide +kernel
theorem dL_law_232 : decode cL_law 232 = .ok (.iconst 2, 1) := by decide +kernel
theorem dL_law_233 : decode cL_law 233 = .ok (.iadd, 1) := by decide +kernel
theorem dL_law_234 : decode cL_law 234 = .ok (.iaload, 1) := by decide +kernel
theorem dL_law_235 : decode cL_law 235 = .ok (.invokevirtual 23, 3) := by decide +kernel
theorem dL_law_238 : decode cL_law 238 = .ok (.aload_n 2, 1) := by decide +kernel
theorem dL_law_239 : decode cL_law 239 = .ok (.aload_n 0, 1) := by decide +kernel
theorem dL_law_240 : decode cL_law 240 = .ok (.iload_n 3, 1) := by decide +kernel
theorem dL_law_241 : decode cL_law 241 = .ok (.iconst 1, 1) := by decide +kernel
theorem dL_law_242 : decode cL_law 242 = .ok (.iadd, 1) := by decide +kernel
theorem dL_law_243 : decode cL_law 243 = .ok (.iaload, 1) := by decide +kernel
theorem dL_law_244 : decode cL_law 244 = .ok (.aload_n 0, 1) := by decide +kernel
theorem dL_law_245 : decode cL_law 245 = .ok (.iload_n 3, 1) := by decide +kernel
theorem dL_law_246 : decode cL_law 246 = .ok (.iconst 2, 1) := by decide +kernel
theorem dL_law_247 : decode cL_law 247 = .ok (.iadd, 1) := by decide +kernel
theorem dL_law_248 : decode cL_law 248 = .ok (.iaload, 1) := by decide +kernel
theorem dL_law_249 : decode cL_law 249 = .ok (.invokevirtual 26, 3) := by decide +kernel
theorem dL_law_252 : decode cL_law 252 = .ok (.if_icmp .eq 903, 3) := by decide +kernel
theorem dL_law_255 : decode cL_law 255 = .ok (.iconst 0, 1) := by decide +kernel
theorem dL_law_256 : decode cL_law 256 = .ok (.ireturn, 1) := by decide +kernel
theorem dL_law_257 : decode cL_law 257 = .ok (.aload_n 1, 1) := by decide +kernel
theorem dL_law_258 : decode cL_law 258 = .ok (.aload_n 0, 1) := by decide +kernel
theorem dL_law_259 : decode cL_law 259 = .ok (.iload_n 3, 1) := by decide +kernel
theorem dL_law_260 : decode cL_law 260 = .ok (.iconst 1, 1) := by decide +kernel
theorem dL_law_261 : decode cL_law 261 = .ok (.iadd, 1) := by decide +kernel
theorem dL_law_262 : decode cL_law 262 = .ok (.iaload, 1) := by decide +kernel
theorem dL_law_263 : decode cL_law 263 = .ok (.aload_n 0, 1) := by decide +kernel
theorem dL_law_264 : decode cL_law 264 = .ok (.iload_n 3, 1) := by decide +kernel
theorem dL_law_265 : decode cL_law 265 = .ok (.iconst 2, 1) := by decide +kernel
theorem dL_law_266 : decode cL_law 266 = .ok (.iadd, 1) := by decide +kernel
theorem dL_law_267 : decode cL_law 267 = .ok (.iaload, 1) := by decide +kernel
theorem dL_law_268 : decode cL_law 268 = .ok (.aload_n 0, 1) := by decide +kernel
theorem dL_law_269 : decode cL_law 269 = .ok (.iload_n 3, 1) := by decide +kernel
theorem dL_law_270 : decode cL_law 270 = .ok (.iconst 3, 1) := by decide +kernel
theorem dL_law_271 : decode cL_law 271 = .ok (.iadd, 1) := by decide +kernel
theorem dL_law_272 : decode cL_law 272 = .ok (.iaload, 1) := by decide +kernel
theorem dL_law_273 : decode cL_law 273 = .ok (.invokevirtual 27, 3) := by decide +kernel
theorem dL_law_276 : decode cL_law 276 = .ok (.aload_n 2, 1) := by decide +kernel
theorem dL_law_277 : decode cL_law 277 = .ok (.aload_n 0, 1) := by decide +kernel
theorem dL_law_278 : decode cL_law 278 = .ok (.iload_n 3, 1) := by decide +kernel
theorem dL_law_279 : decode cL_law 279 = .ok (.iconst 1, 1) := by decide +kernel
theorem dL_law_280 : decode cL_law 280 = .ok (.iadd, 1) := by decide +kernel
theorem dL_law_281 : decode cL_law 281 = .ok (.iaload, 1) := by decide +kernel
theorem dL_law_282 : decode cL_law 282 = .ok (.aload_n 0, 1) := by decide +kernel
theorem dL_law_283 : decode cL_law 283 = .ok (.iload_n 3, 1) := by decide +kernel
theorem dL_law_284 : decode cL_law 284 = .ok (.iconst 2, 1) := by decide +kernel
theorem dL_law_285 : decode cL_law 285 = .ok (.iadd, 1) := by decide +kernel
theorem dL_law_286 : decode cL_law 286 = .ok (.iaload, 1) := by decide +kernel
theorem dL_law_287 : decode cL_law 287 = .ok (.aload_n 0, 1) := by decide +kernel
theorem dL_law_288 : decode cL_law 288 = .ok (.iload_n 3, 1) := by decide +kernel
theorem dL_law_289 : decode cL_law 289 = .ok (.iconst 3, 1) := by decide +kernel
theorem dL_law_290 : decode cL_law 290 = .ok (.iadd, 1) := by decide +kernel
theorem dL_law_291 : decode cL_law 291 = .ok (.iaload, 1) := by decide +kernel
theorem dL_law_292 : decode cL_law 292 = .ok (.invokevirtual 30, 3) := by decide +kernel
theorem dL_law_295 : decode cL_law 295 = .ok (.if_icmp .eq 860, 3) := by decide +kernel
theorem dL_law_298 : decode cL_law 298 = .ok (.iconst 0, 1) := by decide +kernel
theorem dL_law_299 : decode cL_law 299 = .ok (.ireturn, 1) := by decide +kernel
theorem dL_law_300 : decode cL_law 300 = .ok (.aload_n 1, 1) := by decide +kernel
theorem dL_law_301 : decode cL_law 301 = .ok (.aload_n 0, 1) := by decide +kernel
theorem dL_law_302 : decode cL_law 302 = .ok (.iload_n 3, 1) := by decide +kernel
theorem dL_law_303 : decode cL_law 303 = .ok (.iconst 1, 1) := by decide +kernel
theorem dL_law_304 : decode cL_law 304 = .ok (.iadd, 1) := by decide +kernel
theorem dL_law_305 : decode cL_law 305 = .ok (.iaload, 1) := by decide +kernel
theorem dL_law_306 : decode cL_law 306 = .ok (.aload_n 0, 1) := by decide +kernel
theorem dL_law_307 : decode cL_law 307 = .ok (.iload_n 3, 1) := by decide +kernel
theorem dL_law_308 : decode cL_law 308 = .ok (.iconst 2, 1) := by decide +kernel
theorem dL_law_309 : decode cL_law 309 = .ok (.iadd, 1) := by decide +kernel
theorem dL_law_310 : decode cL_law 310 = .ok (.iaload, 1) := by decide +kernel
theorem dL_law_311 : decode cL_law 311 = .ok (.aload_n 0, 1) := by decide +kernel
theorem dL_law_312 : decode cL_law 312 = .ok (.iload_n 3, 1) := by decide +kernel
theorem dL_law_313 : decode cL_law 313 = .ok (.iconst 3, 1) := by decide +kernel
theorem dL_law_314 : decode cL_law 314 = .ok (.iadd, 1) := by decide +kernel
theorem dL_law_315 : decode cL_law 315 = .ok (.iaload, 1) := by decide +kernel
theorem dL_law_316 : decode cL_law 316 = .ok (.aload_n 0, 1) := by decide +kernel
theorem dL_law_317 : decode cL_law 317 = .ok (.iload_n 3, 1) := by decide +kernel
theorem dL_law_318 : decode cL_law 318 = .ok (.iconst 4, 1) := by decide +kernel
theorem dL_law_319 : decode cL_law 319 = .ok (.iadd, 1) := by decide +kernel
theorem dL_law_320 : decode cL_law 320 = .ok (.iaload, 1) := by decide +kernel
theorem dL_law_321 : decode cL_law 321 = .ok (.invokevirtual 31, 3) := by decide +kernel
theorem dL_law_324 : decode cL_law 324 = .ok (.aload_n 2, 1) := by decide +kernel
theorem dL_law_325 : decode cL_law 325 = .ok (.aload_n 0, 1) := by decide +kernel
theorem dL_law_326 : decode cL_law 326 = .ok (.iload_n 3, 1) := by decide +kernel
theorem dL_law_327 : decode cL_law 327 = .ok (.iconst 1, 1) := by decide +kernel
theorem dL_law_328 : decode cL_law 328 = .ok (.iadd, 1) := by decide +kernel
theorem dL_law_329 : decode cL_law 329 = .ok (.iaload, 1) := by decide +kernel
theorem dL_law_330 : decode cL_law 330 = .ok (.aload_n 0, 1) := by decide +kernel
theorem dL_law_331 : decode cL_law 331 = .ok (.iload_n 3, 1) := by decide +kernel
theorem dL_law_332 : decode cL_law 332 = .ok (.iconst 2, 1) := by decide +kernel
theorem dL_law_333 : decode cL_law 333 = .ok (.iadd, 1) := by decide +kernel
theorem dL_law_334 : decode cL_law 334 = .ok (.iaload, 1) := by decide +kernel
theorem dL_law_335 : decode cL_law 335 = .ok (.aload_n 0, 1) := by decide +kernel
theorem dL_law_336 : decode cL_law 336 = .ok (.iload_n 3, 1) := by decide +kernel
theorem dL_law_337 : decode cL_law 337 = .ok (.iconst 3, 1) := by decide +kernel
theorem dL_law_338 : decode cL_law 338 = .ok (.iadd, 1) := by decide +kernel
theorem dL_law_339 : decode cL_law 339 = .ok (.iaload, 1) := by decide +kernel
theorem dL_law_340 : decode cL_law 340 = .ok (.aload_n 0, 1) := by decide +kernel
theorem dL_law_341 : decode cL_law 341 = .ok (.iload_n 3, 1) := by decide +kernel
theorem dL_law_342 : decode cL_law 342 = .ok (.iconst 4, 1) := by decide +kernel
theorem dL_law_343 : decode cL_law 343 = .ok (.iadd, 1) := by decide +kernel
theorem dL_law_344 : decode cL_law 344 = .ok (.iaload, 1) := by decide +kernel
theorem dL_law_345 : decode cL_law 345 = .ok (.invokevirtual 35, 3) := by decide +kernel
theorem dL_law_348 : decode cL_law 348 = .ok (.if_icmp .eq 807, 3) := by decide +kernel
theorem dL_law_351 : decode cL_law 351 = .ok (.iconst 0, 1) := by decide +kernel
theorem dL_law_352 : decode cL_law 352 = .ok (.ireturn, 1) := by decide +kernel
theorem dL_law_353 : decode cL_law 353 = .ok (.aload_n 1, 1) := by decide +kernel
theorem dL_law_354 : decode cL_law 354 = .ok (.aload_n 0, 1) := by decide +kernel
theorem dL_law_355 : decode cL_law 355 = .ok (.iload_n 3, 1) := by decide +kernel
theorem dL_law_356 : decode cL_law 356 = .ok (.iconst 1, 1) := by decide +kernel
theorem dL_law_357 : decode cL_law 357 = .ok (.iadd, 1) := by decide +kernel
theorem dL_law_358 : decode cL_law 358 = .ok (.iaload, 1) := by decide +kernel
theorem dL_law_359 : decode cL_law 359 = .ok (.aload_n 0, 1) := by decide +kernel
theorem dL_law_360 : decode cL_law 360 = .ok (.iload_n 3, 1) := by decide +kernel
theorem dL_law_361 : decode cL_law 361 = .ok (.iconst 2, 1) := by decide +kernel
theorem dL_law_362 : decode cL_law 362 = .ok (.iadd, 1) := by decide +kernel
theorem dL_law_363 : decode cL_law 363 = .ok (.iaload, 1) := by decide +kernel
theorem dL_law_364 : decode cL_law 364 = .ok (.aload_n 0, 1) := by decide +kernel
theorem dL_law_365 : decode cL_law 365 = .ok (.iload_n 3, 1) := by decide +kernel
theorem dL_law_366 : decode cL_law 366 = .ok (.iconst 3, 1) := by decide +kernel
theorem dL_law_367 : decode cL_law 367 = .ok (.iadd, 1) := by decide +kernel
theorem dL_law_368 : decode cL_law 368 = .ok (.iaload, 1) := by decide +kernel
theorem dL_law_369 : decode cL_law 369 = .ok (.ifCond .eq 7, 3) := by decide +kernel
theorem dL_law_372 : decode cL_law 372 = .ok (.iconst 1, 1) := by decide +kernel
theorem dL_law_373 : decode cL_law 373 = .ok (.goto 4, 3) := by decide +kernel
theorem dL_law_376 : decode cL_law 376 = .ok (.iconst 0, 1) := by decide +kernel
theorem dL_law_377 : decode cL_law 377 = .ok (.invokevirtual 36, 3) := by decide +kernel
theorem dL_law_380 : decode cL_law 380 = .ok (.aload_n 2, 1) := by decide +kernel
theorem dL_law_381 : decode cL_law 381 = .ok (.aload_n 0, 1) := by decide +kernel
theorem dL_law_382 : decode cL_law 382 = .ok (.iload_n 3, 1) := by decide +kernel
theorem dL_law_383 : decode cL_law 383 = .ok (.iconst 1, 1) := by decide +kernel
theorem dL_law_384 : decode cL_law 384 = .ok (.iadd, 1) := by decide +kernel
theorem dL_law_385 : decode cL_law 385 = .ok (.iaload, 1) := by decide +kernel
theorem dL_law_386 : decode cL_law 386 = .ok (.aload_n 0, 1) := by decide +kernel
theorem dL_law_387 : decode cL_law 387 = .ok (.iload_n 3, 1) := by decide +kernel
theorem dL_law_388 : decode cL_law 388 = .ok (.iconst 2, 1) := by decide +kernel
theorem dL_law_389 : decode cL_law 389 = .ok (.iadd, 1) := by decide +kernel
theorem dL_law_390 : decode cL_law 390 = .ok (.iaload, 1) := by decide +kernel
theorem dL_law_391 : decode cL_law 391 = .ok (.aload_n 0, 1) := by decide +kernel
theorem dL_law_392 : decode cL_law 392 = .ok (.iload_n 3, 1) := by decide +kernel
theorem dL_law_393 : decode cL_law 393 = .ok (.iconst 3, 1) := by decide +kernel
theorem dL_law_394 : decode cL_law 394 = .ok (.iadd, 1) := by decide +kernel
theorem dL_law_395 : decode cL_law 395 = .ok (.iaload, 1) := by decide +kernel
theorem dL_law_396 : decode cL_law 396 = .ok (.ifCond .eq 7, 3) := by decide +kernel
theorem dL_law_399 : decode cL_law 399 = .ok (.iconst 1, 1) := by decide +kernel
theorem dL_law_400 : decode cL_law 400 = .ok (.goto 4, 3) := by decide +kernel
theorem dL_law_403 : decode cL_law 403 = .ok (.iconst 0, 1) := by decide +kernel
theorem dL_law_404 : decode cL_law 404 = .ok (.invokevirtual 40, 3) := by decide +kernel
theorem dL_law_407 : decode cL_law 407 = .ok (.if_icmp .eq 748, 3) := by decide +kernel
theorem dL_law_410 : decode cL_law 410 = .ok (.iconst 0, 1) := by decide +kernel
theorem dL_law_411 : decode cL_law 411 = .ok (.ireturn, 1) := by decide +kernel
theorem dL_law_412 : decode cL_law 412 = .ok (.aload_n 1, 1) := by decide +kernel
theorem dL_law_413 : decode cL_law 413 = .ok (.aload_n 0, 1) := by decide +kernel
theorem dL_law_414 : decode cL_law 414 = .ok (.iload_n 3, 1) := by decide +kernel
theorem dL_law_415 : decode cL_law 415 = .ok (.iconst 1, 1) := by decide +kernel
theorem dL_law_416 : decode cL_law 416 = .ok (.iadd, 1) := by decide +kernel
theorem dL_law_417 : decode cL_law 417 = .ok (.iaload, 1) := by decide +kernel
theorem dL_law_418 : decode cL_law 418 = .ok (.aload_n 0, 1) := by decide +kernel
theorem dL_law_419 : decode cL_law 419 = .ok (.iload_n 3, 1) := by decide +kernel
theorem dL_law_420 : decode cL_law 420 = .ok (.iconst 2, 1) := by decide +kernel
theorem dL_law_421 : decode cL_law 421 = .ok (.iadd, 1) := by decide +kernel
theorem dL_law_422 : decode cL_law 422 = .ok (.iaload, 1) := by decide +kernel
theorem dL_law_423 : decode cL_law 423 = .ok (.aload_n 0, 1) := by decide +kernel
theorem dL_law_424 : decode cL_law 424 = .ok (.iload_n 3, 1) := by decide +kernel
theorem dL_law_425 : decode cL_law 425 = .ok (.iconst 3, 1) := by decide +kernel
theorem dL_law_426 : decode cL_law 426 = .ok (.iadd, 1) := by decide +kernel
theorem dL_law_427 : decode cL_law 427 = .ok (.iaload, 1) := by decide +kernel
theorem dL_law_428 : decode cL_law 428 = .ok (.invokevirtual 41, 3) := by decide +kernel
theorem dL_law_431 : decode cL_law 431 = .ok (.aload_n 2, 1) := by decide +kernel
theorem dL_law_432 : decode cL_law 432 = .ok (.aload_n 0, 1) := by decide +kernel
theorem dL_law_433 : decode cL_law 433 = .ok (.iload_n 3, 1) := by decide +kernel
theorem dL_law_434 : decode cL_law 434 = .ok (.iconst 1, 1) := by decide +kernel
theorem dL_law_435 : decode cL_law 435 = .ok (.iadd, 1) := by decide +kernel
theorem dL_law_436 : decode cL_law 436 = .ok (.iaload, 1) := by decide +kernel
theorem dL_law_437 : decode cL_law 437 = .ok (.aload_n 0, 1) := by decide +kernel
theorem dL_law_438 : decode cL_law 438 = .ok (.iload_n 3, 1) := by decide +kernel
theorem dL_law_439 : decode cL_law 439 = .ok (.iconst 2, 1) := by decide +kernel
theorem dL_law_440 : decode cL_law 440 = .ok (.iadd, 1) := by decide +kernel
theorem dL_law_441 : decode cL_law 441 = .ok (.iaload, 1) := by decide +kernel
theorem dL_law_442 : decode cL_law 442 = .ok (.aload_n 0, 1) := by decide +kernel
theorem dL_law_443 : decode cL_law 443 = .ok (.iload_n 3, 1) := by decide +kernel
theorem dL_law_444 : decode cL_law 444 = .ok (.iconst 3, 1) := by decide +kernel
theorem dL_law_445 : decode cL_law 445 = .ok (.iadd, 1) := by decide +kernel
theorem dL_law_446 : decode cL_law 446 = .ok (.iaload, 1) := by decide +kernel
theorem dL_law_447 : decode cL_law 447 = .ok (.invokevirtual 44, 3) := by decide +kernel
theorem dL_law_450 : decode cL_law 450 = .ok (.if_icmp .eq 705, 3) := by decide +kernel
theorem dL_law_453 : decode cL_law 453 = .ok (.iconst 0, 1) := by decide +kernel
theorem dL_law_454 : decode cL_law 454 = .ok (.ireturn, 1) := by decide +kernel
theorem dL_law_455 : decode cL_law 455 = .ok (.aload_n 1, 1) := by decide +kernel
theorem dL_law_456 : decode cL_law 456 = .ok (.aload_n 0, 1) := by decide +kernel
theorem dL_law_457 : decode cL_law 457 = .ok (.iload_n 3, 1) := by decide +kernel
theorem dL_law_458 : decode cL_law 458 = .ok (.iconst 1, 1) := by decide +kernel
theorem dL_law_459 : decode cL_law 459 = .ok (.iadd, 1) := by decide +kernel
theorem dL_law_460 : decode cL_law 460 = .ok (.iaload, 1) := by decide +kernel
theorem dL_law_461 : decode cL_law 461 = .ok (.aload_n 0, 1) := by decide +kernel
theorem dL_law_462 : decode cL_law 462 = .ok (.iload_n 3, 1) := by decide +kernel
theorem dL_law_463 : decode cL_law 463 = .ok (.iconst 2, 1) := by decide +kernel
theorem dL_law_464 : decode cL_law 464 = .ok (.iadd, 1) := by decide +kernel
theorem dL_law_465 : decode cL_law 465 = .ok (.iaload, 1) := by decide +kernel
theorem dL_law_466 : decode cL_law 466 = .ok (.aload_n 0, 1) := by decide +kernel
theorem dL_law_467 : decode cL_law 467 = .ok (.iload_n 3, 1) := by decide +kernel
theorem dL_law_468 : decode cL_law 468 = .ok (.iconst 3, 1) := by decide +kernel
theorem dL_law_469 : decode cL_law 469 = .ok (.iadd, 1) := by decide +kernel
theorem dL_law_470 : decode cL_law 470 = .ok (.iaload, 1) := by decide +kernel
theorem dL_law_471 : decode cL_law 471 = .ok (.aload_n 0, 1) := by decide +kernel
theorem dL_law_472 : decode cL_law 472 = .ok (.iload_n 3, 1) := by decide +kernel
theorem dL_law_473 : decode cL_law 473 = .ok (.iconst 4, 1) := by decide +kernel
theorem dL_law_474 : decode cL_law 474 = .ok (.iadd, 1) := by decide +kernel
theorem dL_law_475 : decode cL_law 475 = .ok (.iaload, 1) := by decide +kernel
theorem dL_law_476 : decode cL_law 476 = .ok (.invokevirtual 45, 3) := by decide +kernel
theorem dL_law_479 : decode cL_law 479 = .ok (.aload_n 2, 1) := by decide +kernel
theorem dL_law_480 : decode cL_law 480 = .ok (.aload_n 0, 1) := by decide +kernel
theorem dL_law_481 : decode cL_law 481 = .ok (.iload_n 3, 1) := by decide +kernel
theorem dL_law_482 : decode cL_law 482 = .ok (.iconst 1, 1) := by decide +kernel
theorem dL_law_483 : decode cL_law 483 = .ok (.iadd, 1) := by decide +kernel
theorem dL_law_484 : decode cL_law 484 = .ok (.iaload, 1) := by decide +kernel
theorem dL_law_485 : decode cL_law 485 = .ok (.aload_n 0, 1) := by decide +kernel
theorem dL_law_486 : decode cL_law 486 = .ok (.iload_n 3, 1) := by decide +kernel
theorem dL_law_487 : decode cL_law 487 = .ok (.iconst 2, 1) := by decide +kernel
theorem dL_law_488 : decode cL_law 488 = .ok (.iadd, 1) := by decide +kernel
theorem dL_law_489 : decode cL_law 489 = .ok (.iaload, 1) := by decide +kernel
theorem dL_law_490 : decode cL_law 490 = .ok (.aload_n 0, 1) := by decide +kernel
theorem dL_law_491 : decode cL_law 491 = .ok (.iload_n 3, 1) := by decide +kernel
theorem dL_law_492 : decode cL_law 492 = .ok (.iconst 3, 1) := by decide +kernel
theorem dL_law_493 : decode cL_law 493 = .ok (.iadd, 1) := by decide +kernel
theorem dL_law_494 : decode cL_law 494 = .ok (.iaload, 1) := by decide +kernel
theorem dL_law_495 : decode cL_law 495 = .ok (.aload_n 0, 1) := by decide +kernel
theorem dL_law_496 : decode cL_law 496 = .ok (.iload_n 3, 1) := by decide +kernel
theorem dL_law_497 : decode cL_law 497 = .ok (.iconst 4, 1) := by decide +kernel
theorem dL_law_498 : decode cL_law 498 = .ok (.iadd, 1) := by decide +kernel
theorem dL_law_499 : decode cL_law 499 = .ok (.iaload, 1) := by decide +kernel
theorem dL_law_500 : decode cL_law 500 = .ok (.invokevirtual 48, 3) := by decide +kernel
theorem dL_law_503 : decode cL_law 503 = .ok (.if_icmp .eq 652, 3) := by decide +kernel
theorem dL_law_506 : decode cL_law 506 = .ok (.iconst 0, 1) := by decide +kernel
theorem dL_law_507 : decode cL_law 507 = .ok (.ireturn, 1) := by decide +kernel
theorem dL_law_508 : decode cL_law 508 = .ok (.aload_n 1, 1) := by decide +kernel
theorem dL_law_509 : decode cL_law 509 = .ok (.aload_n 0, 1) := by decide +kernel
theorem dL_law_510 : decode cL_law 510 = .ok (.iload_n 3, 1) := by decide +kernel
theorem dL_law_511 : decode cL_law 511 = .ok (.iconst 1, 1) := by decide +kernel
theorem dL_law_512 : decode cL_law 512 = .ok (.iadd, 1) := by decide +kernel
theorem dL_law_513 : decode cL_law 513 = .ok (.iaload, 1) := by decide +kernel
theorem dL_law_514 : decode cL_law 514 = .ok (.aload_n 0, 1) := by decide +kernel
theorem dL_law_515 : decode cL_law 515 = .ok (.iload_n 3, 1) := by decide +kernel
theorem dL_law_516 : decode cL_law 516 = .ok (.iconst 2, 1) := by decide +kernel
theorem dL_law_517 : decode cL_law 517 = .ok (.iadd, 1) := by decide +kernel
theorem dL_law_518 : decode cL_law 518 = .ok (.iaload, 1) := by decide +kernel
theorem dL_law_519 : decode cL_law 519 = .ok (.invokevirtual 49, 3) := by decide +kernel
theorem dL_law_522 : decode cL_law 522 = .ok (.aload_n 2, 1) := by decide +kernel
theorem dL_law_523 : decode cL_law 523 = .ok (.aload_n 0, 1) := by decide +kernel
theorem dL_law_524 : decode cL_law 524 = .ok (.iload_n 3, 1) := by decide +kernel
theorem dL_law_525 : decode cL_law 525 = .ok (.iconst 1, 1) := by decide +kernel
theorem dL_law_526 : decode cL_law 526 = .ok (.iadd, 1) := by decide +kernel
theorem dL_law_527 : decode cL_law 527 = .ok (.iaload, 1) := by decide +kernel
theorem dL_law_528 : decode cL_law 528 = .ok (.aload_n 0, 1) := by decide +kernel
theorem dL_law_529 : decode cL_law 529 = .ok (.iload_n 3, 1) := by decide +kernel
theorem dL_law_530 : decode cL_law 530 = .ok (.iconst 2, 1) := by decide +kernel
theorem dL_law_531 : decode cL_law 531 = .ok (.iadd, 1) := by decide +kernel
theorem dL_law_532 : decode cL_law 532 = .ok (.iaload, 1) := by decide +kernel
theorem dL_law_533 : decode cL_law 533 = .ok (.invokevirtual 52, 3) := by decide +kernel
theorem dL_law_536 : decode cL_law 536 = .ok (.if_icmp .eq 619, 3) := by decide +kernel
theorem dL_law_539 : decode cL_law 539 = .ok (.iconst 0, 1) := by decide +kernel
theorem dL_law_540 : decode cL_law 540 = .ok (.ireturn, 1) := by decide +kernel
theorem dL_law_541 : decode cL_law 541 = .ok (.aload_n 1, 1) := by decide +kernel
theorem dL_law_542 : decode cL_law 542 = .ok (.aload_n 0, 1) := by decide +kernel
theorem dL_law_543 : decode cL_law 543 = .ok (.iload_n 3, 1) := by decide +kernel
theorem dL_law_544 : decode cL_law 544 = .ok (.iconst 1, 1) := by decide +kernel
theorem dL_law_545 : decode cL_law 545 = .ok (.iadd, 1) := by decide +kernel
theorem dL_law_546 : decode cL_law 546 = .ok (.iaload, 1) := by decide +kernel
theorem dL_law_547 : decode cL_law 547 = .ok (.aload_n 0, 1) := by decide +kernel
theorem dL_law_548 : decode cL_law 548 = .ok (.iload_n 3, 1) := by decide +kernel
theorem dL_law_549 : decode cL_law 549 = .ok (.iconst 2, 1) := by decide +kernel
theorem dL_law_550 : decode cL_law 550 = .ok (.iadd, 1) := by decide +kernel
theorem dL_law_551 : decode cL_law 551 = .ok (.iaload, 1) := by decide +kernel
theorem dL_law_552 : decode cL_law 552 = .ok (.aload_n 0, 1) := by decide +kernel
theorem dL_law_553 : decode cL_law 553 = .ok (.iload_n 3, 1) := by decide +kernel
theorem dL_law_554 : decode cL_law 554 = .ok (.iconst 3, 1) := by decide +kernel
theorem dL_law_555 : decode cL_law 555 = .ok (.iadd, 1) := by decide +kernel
theorem dL_law_556 : decode cL_law 556 = .ok (.iaload, 1) := by decide +kernel
theorem dL_law_557 : decode cL_law 557 = .ok (.aload_n 0, 1) := by decide +kernel
theorem dL_law_558 : decode cL_law 558 = .ok (.iload_n 3, 1) := by decide +kernel
theorem dL_law_559 : decode cL_law 559 = .ok (.iconst 4, 1) := by decide +kernel
theorem dL_law_560 : decode cL_law 560 = .ok (.iadd, 1) := by decide +kernel
theorem dL_law_561 : decode cL_law 561 = .ok (.iaload, 1) := by decide +kernel
theorem dL_law_562 : decode cL_law 562 = .ok (.invokevirtual 53, 3) := by decide +kernel
theorem dL_law_565 : decode cL_law 565 = .ok (.aload_n 2, 1) := by decide +kernel
theorem dL_law_566 : decode cL_law 566 = .ok (.aload_n 0, 1) := by decide +kernel
theorem dL_law_567 : decode cL_law 567 = .ok (.iload_n 3, 1) := by decide +kernel
theorem dL_law_568 : decode cL_law 568 = .ok (.iconst 1, 1) := by decide +kernel
theorem dL_law_569 : decode cL_law 569 = .ok (.iadd, 1) := by decide +kernel
theorem dL_law_570 : decode cL_law 570 = .ok (.iaload, 1) := by decide +kernel
theorem dL_law_571 : decode cL_law 571 = .ok (.aload_n 0, 1) := by decide +kernel
theorem dL_law_572 : decode cL_law 572 = .ok (.iload_n 3, 1) := by decide +kernel
theorem dL_law_573 : decode cL_law 573 = .ok (.iconst 2, 1) := by decide +kernel
theorem dL_law_574 : decode cL_law 574 = .ok (.iadd, 1) := by decide +kernel
theorem dL_law_575 : decode cL_law 575 = .ok (.iaload, 1) := by decide +kernel
theorem dL_law_576 : decode cL_law 576 = .ok (.aload_n 0, 1) := by decide +kernel
theorem dL_law_577 : decode cL_law 577 = .ok (.iload_n 3, 1) := by decide +kernel
theorem dL_law_578 : decode cL_law 578 = .ok (.iconst 3, 1) := by decide +kernel
theorem dL_law_579 : decode cL_law 579 = .ok (.iadd, 1) := by decide +kernel
theorem dL_law_580 : decode cL_law 580 = .ok (.iaload, 1) := by decide +kernel
theorem dL_law_581 : decode cL_law 581 = .ok (.aload_n 0, 1) := by decide +kernel
theorem dL_law_582 : decode cL_law 582 = .ok (.iload_n 3, 1) := by decide +kernel
theorem dL_law_583 : decode cL_law 583 = .ok (.iconst 4, 1) := by decide +kernel
theorem dL_law_584 : decode cL_law 584 = .ok (.iadd, 1) := by decide +kernel
theorem dL_law_585 : decode cL_law 585 = .ok (.iaload, 1) := by decide +kernel
theorem dL_law_586 : decode cL_law 586 = .ok (.invokevirtual 56, 3) := by decide +kernel
theorem dL_law_589 : decode cL_law 589 = .ok (.if_icmp .eq 566, 3) := by decide +kernel
theorem dL_law_592 : decode cL_law 592 = .ok (.iconst 0, 1) := by decide +kernel
theorem dL_law_593 : decode cL_law 593 = .ok (.ireturn, 1) := by decide +kernel
theorem dL_law_594 : decode cL_law 594 = .ok (.aload_n 1, 1) := by decide +kernel
theorem dL_law_595 : decode cL_law 595 = .ok (.aload_n 0, 1) := by decide +kernel
theorem dL_law_596 : decode cL_law 596 = .ok (.iload_n 3, 1) := by decide +kernel
theorem dL_law_597 : decode cL_law 597 = .ok (.iconst 1, 1) := by decide +kernel
theorem dL_law_598 : decode cL_law 598 = .ok (.iadd, 1) := by decide +kernel
theorem dL_law_599 : decode cL_law 599 = .ok (.iaload, 1) := by decide +kernel
theorem dL_law_600 : decode cL_law 600 = .ok (.aload_n 0, 1) := by decide +kernel
theorem dL_law_601 : decode cL_law 601 = .ok (.iload_n 3, 1) := by decide +kernel
theorem dL_law_602 : decode cL_law 602 = .ok (.iconst 2, 1) := by decide +kernel
theorem dL_law_603 : decode cL_law 603 = .ok (.iadd, 1) := by decide +kernel
theorem dL_law_604 : decode cL_law 604 = .ok (.iaload, 1) := by decide +kernel
theorem dL_law_605 : decode cL_law 605 = .ok (.aload_n 0, 1) := by decide +kernel
theorem dL_law_606 : decode cL_law 606 = .ok (.iload_n 3, 1) := by decide +kernel
theorem dL_law_607 : decode cL_law 607 = .ok (.iconst 3, 1) := by decide +kernel
theorem dL_law_608 : decode cL_law 608 = .ok (.iadd, 1) := by decide +kernel
theorem dL_law_609 : decode cL_law 609 = .ok (.iaload, 1) := by decide +kernel
theorem dL_law_610 : decode cL_law 610 = .ok (.ifCond .eq 7, 3) := by decide +kernel
theorem dL_law_613 : decode cL_law 613 = .ok (.iconst 1, 1) := by decide +kernel
theorem dL_law_614 : decode cL_law 614 = .ok (.goto 4, 3) := by decide +kernel
theorem dL_law_617 : decode cL_law 617 = .ok (.iconst 0, 1) := by decide +kernel
theorem dL_law_618 : decode cL_law 618 = .ok (.invokevirtual 57, 3) := by decide +kernel
theorem dL_law_621 : decode cL_law 621 = .ok (.aload_n 2, 1) := by decide +kernel
theorem dL_law_622 : decode cL_law 622 = .ok (.aload_n 0, 1) := by decide +kernel
theorem dL_law_623 : decode cL_law 623 = .ok (.iload_n 3, 1) := by decide +kernel
theorem dL_law_624 : decode cL_law 624 = .ok (.iconst 1, 1) := by decide +kernel
theorem dL_law_625 : decode cL_law 625 = .ok (.iadd, 1) := by decide +kernel
theorem dL_law_626 : decode cL_law 626 = .ok (.iaload, 1) := by decide +kernel
theorem dL_law_627 : decode cL_law 627 = .ok (.aload_n 0, 1) := by decide +kernel
theorem dL_law_628 : decode cL_law 628 = .ok (.iload_n 3, 1) := by decide +kernel
theorem dL_law_629 : decode cL_law 629 = .ok (.iconst 2, 1) := by decide +kernel
theorem dL_law_630 : decode cL_law 630 = .ok (.iadd, 1) := by decide +kernel
theorem dL_law_631 : decode cL_law 631 = .ok (.iaload, 1) := by decide +kernel
theorem dL_law_632 : decode cL_law 632 = .ok (.aload_n 0, 1) := by decide +kernel
theorem dL_law_633 : decode cL_law 633 = .ok (.iload_n 3, 1) := by decide +kernel
theorem dL_law_634 : decode cL_law 634 = .ok (.iconst 3, 1) := by decide +kernel
theorem dL_law_635 : decode cL_law 635 = .ok (.iadd, 1) := by decide +kernel
theorem dL_law_636 : decode cL_law 636 = .ok (.iaload, 1) := by decide +kernel
theorem dL_law_637 : decode cL_law 637 = .ok (.ifCond .eq 7, 3) := by decide +kernel
theorem dL_law_640 : decode cL_law 640 = .ok (.iconst 1, 1) := by decide +kernel
theorem dL_law_641 : decode cL_law 641 = .ok (.goto 4, 3) := by decide +kernel
theorem dL_law_644 : decode cL_law 644 = .ok (.iconst 0, 1) := by decide +kernel
theorem dL_law_645 : decode cL_law 645 = .ok (.invokevirtual 60, 3) := by decide +kernel
theorem dL_law_648 : decode cL_law 648 = .ok (.if_icmp .eq 507, 3) := by decide +kernel
theorem dL_law_651 : decode cL_law 651 = .ok (.iconst 0, 1) := by decide +kernel
theorem dL_law_652 : decode cL_law 652 = .ok (.ireturn, 1) := by decide +kernel
theorem dL_law_653 : decode cL_law 653 = .ok (.aload_n 1, 1) := by decide +kernel
theorem dL_law_654 : decode cL_law 654 = .ok (.aload_n 0, 1) := by decide +kernel
theorem dL_law_655 : decode cL_law 655 = .ok (.iload_n 3, 1) := by decide +kernel
theorem dL_law_656 : decode cL_law 656 = .ok (.iconst 1, 1) := by decide +kernel
theorem dL_law_657 : decode cL_law 657 = .ok (.iadd, 1) := by decide +kernel
theorem dL_law_658 : decode cL_law 658 = .ok (.iaload, 1) := by decide +kernel
theorem dL_law_659 : decode cL_law 659 = .ok (.aload_n 0, 1) := by decide +kernel
theorem dL_law_660 : decode cL_law 660 = .ok (.iload_n 3, 1) := by decide +kernel
theorem dL_law_661 : decode cL_law 661 = .ok (.iconst 2, 1) := by decide +kernel
theorem dL_law_662 : decode cL_law 662 = .ok (.iadd, 1) := by decide +kernel
theorem dL_law_663 : decode cL_law 663 = .ok (.iaload, 1) := by decide +kernel
theorem dL_law_664 : decode cL_law 664 = .ok (.aload_n 0, 1) := by decide +kernel
theorem dL_law_665 : decode cL_law 665 = .ok (.iload_n 3, 1) := by decide +kernel
theorem dL_law_666 : decode cL_law 666 = .ok (.iconst 3, 1) := by decide +kernel
theorem dL_law_667 : decode cL_law 667 = .ok (.iadd, 1) := by decide +kernel
theorem dL_law_668 : decode cL_law 668 = .ok (.iaload, 1) := by decide +kernel
theorem dL_law_669 : decode cL_law 669 = .ok (.aload_n 0, 1) := by decide +kernel
theorem dL_law_670 : decode cL_law 670 = .ok (.iload_n 3, 1) := by decide +kernel
theorem dL_law_671 : decode cL_law 671 = .ok (.iconst 4, 1) := by decide +kernel
theorem dL_law_672 : decode cL_law 672 = .ok (.iadd, 1) := by decide +kernel
theorem dL_law_673 : decode cL_law 673 = .ok (.iaload, 1) := by decide +kernel
theorem dL_law_674 : decode cL_law 674 = .ok (.invokevirtual 61, 3) := by decide +kernel
theorem dL_law_677 : decode cL_law 677 = .ok (.aload_n 2, 1) := by decide +kernel
theorem dL_law_678 : decode cL_law 678 = .ok (.aload_n 0, 1) := by decide +kernel
theorem dL_law_679 : decode cL_law 679 = .ok (.iload_n 3, 1) := by decide +kernel
theorem dL_law_680 : decode cL_law 680 = .ok (.iconst 1, 1) := by decide +kernel
theorem dL_law_681 : decode cL_law 681 = .ok (.iadd, 1) := by decide +kernel
theorem dL_law_682 : decode cL_law 682 = .ok (.iaload, 1) := by decide +kernel
theorem dL_law_683 : decode cL_law 683 = .ok (.aload_n 0, 1) := by decide +kernel
theorem dL_law_684 : decode cL_law 684 = .ok (.iload_n 3, 1) := by decide +kernel
theorem dL_law_685 : decode cL_law 685 = .ok (.iconst 2, 1) := by decide +kernel
theorem dL_law_686 : decode cL_law 686 = .ok (.iadd, 1) := by decide +kernel
theorem dL_law_687 : decode cL_law 687 = .ok (.iaload, 1) := by decide +kernel
theorem dL_law_688 : decode cL_law 688 = .ok (.aload_n 0, 1) := by decide +kernel
theorem dL_law_689 : decode cL_law 689 = .ok (.iload_n 3, 1) := by decide +kernel
theorem dL_law_690 : decode cL_law 690 = .ok (.iconst 3, 1) := by decide +kernel
theorem dL_law_691 : decode cL_law 691 = .ok (.iadd, 1) := by decide +kernel
theorem dL_law_692 : decode cL_law 692 = .ok (.iaload, 1) := by decide +kernel
theorem dL_law_693 : decode cL_law 693 = .ok (.aload_n 0, 1) := by decide +kernel
theorem dL_law_694 : decode cL_law 694 = .ok (.iload_n 3, 1) := by decide +kernel
theorem dL_law_695 : decode cL_law 695 = .ok (.iconst 4, 1) := by decide +kernel
theorem dL_law_696 : decode cL_law 696 = .ok (.iadd, 1) := by decide +kernel
theorem dL_law_697 : decode cL_law 697 = .ok (.iaload, 1) := by decide +kernel
theorem dL_law_698 : decode cL_law 698 = .ok (.invokevirtual 64, 3) := by decide +kernel
theorem dL_law_701 : decode cL_law 701 = .ok (.if_icmp .eq 454, 3) := by decide +kernel
theorem dL_law_704 : decode cL_law 704 = .ok (.iconst 0, 1) := by decide +kernel
theorem dL_law_705 : decode cL_law 705 = .ok (.ireturn, 1) := by decide +kernel
theorem dL_law_706 : decode cL_law 706 = .ok (.aload_n 1, 1) := by decide +kernel
theorem dL_law_707 : decode cL_law 707 = .ok (.aload_n 0, 1) := by decide +kernel
theorem dL_law_708 : decode cL_law 708 = .ok (.iload_n 3, 1) := by decide +kernel
theorem dL_law_709 : decode cL_law 709 = .ok (.iconst 1, 1) := by decide +kernel
theorem dL_law_710 : decode cL_law 710 = .ok (.iadd, 1) := by decide +kernel
theorem dL_law_711 : decode cL_law 711 = .ok (.iaload, 1) := by decide +kernel
theorem dL_law_712 : decode cL_law 712 = .ok (.aload_n 0, 1) := by decide +kernel
theorem dL_law_713 : decode cL_law 713 = .ok (.iload_n 3, 1) := by decide +kernel
theorem dL_law_714 : decode cL_law 714 = .ok (.iconst 2, 1) := by decide +kernel
theorem dL_law_715 : decode cL_law 715 = .ok (.iadd, 1) := by decide +kernel
theorem dL_law_716 : decode cL_law 716 = .ok (.iaload, 1) := by decide +kernel
theorem dL_law_717 : decode cL_law 717 = .ok (.invokevirtual 65, 3) := by decide +kernel
theorem dL_law_720 : decode cL_law 720 = .ok (.aload_n 2, 1) := by decide +kernel
theorem dL_law_721 : decode cL_law 721 = .ok (.aload_n 0, 1) := by decide +kernel
theorem dL_law_722 : decode cL_law 722 = .ok (.iload_n 3, 1) := by decide +kernel
theorem dL_law_723 : decode cL_law 723 = .ok (.iconst 1, 1) := by decide +kernel
theorem dL_law_724 : decode cL_law 724 = .ok (.iadd, 1) := by decide +kernel
theorem dL_law_725 : decode cL_law 725 = .ok (.iaload, 1) := by decide +kernel
theorem dL_law_726 : decode cL_law 726 = .ok (.aload_n 0, 1) := by decide +kernel
theorem dL_law_727 : decode cL_law 727 = .ok (.iload_n 3, 1) := by decide +kernel
theorem dL_law_728 : decode cL_law 728 = .ok (.iconst 2, 1) := by decide +kernel
theorem dL_law_729 : decode cL_law 729 = .ok (.iadd, 1) := by decide +kernel
theorem dL_law_730 : decode cL_law 730 = .ok (.iaload, 1) := by decide +kernel
theorem dL_law_731 : decode cL_law 731 = .ok (.invokevirtual 68, 3) := by decide +kernel
theorem dL_law_734 : decode cL_law 734 = .ok (.if_icmp .eq 421, 3) := by decide +kernel
theorem dL_law_737 : decode cL_law 737 = .ok (.iconst 0, 1) := by decide +kernel
theorem dL_law_738 : decode cL_law 738 = .ok (.ireturn, 1) := by decide +kernel
theorem dL_law_739 : decode cL_law 739 = .ok (.aload_n 1, 1) := by decide +kernel
theorem dL_law_740 : decode cL_law 740 = .ok (.aload_n 0, 1) := by decide +kernel
theorem dL_law_741 : decode cL_law 741 = .ok (.iload_n 3, 1) := by decide +kernel
theorem dL_law_742 : decode cL_law 742 = .ok (.iconst 1, 1) := by decide +kernel
theorem dL_law_743 : decode cL_law 743 = .ok (.iadd, 1) := by decide +kernel
theorem dL_law_744 : decode cL_law 744 = .ok (.iaload, 1) := by decide +kernel
theorem dL_law_745 : decode cL_law 745 = .ok (.aload_n 0, 1) := by decide +kernel
theorem dL_law_746 : decode cL_law 746 = .ok (.iload_n 3, 1) := by decide +kernel
theorem dL_law_747 : decode cL_law 747 = .ok (.iconst 2, 1) := by decide +kernel
theorem dL_law_748 : decode cL_law 748 = .ok (.iadd, 1) := by decide +kernel
theorem dL_law_749 : decode cL_law 749 = .ok (.iaload, 1) := by decide +kernel
theorem dL_law_750 : decode cL_law 750 = .ok (.aload_n 0, 1) := by decide +kernel
theorem dL_law_751 : decode cL_law 751 = .ok (.iload_n 3, 1) := by decide +kernel
theorem dL_law_752 : decode cL_law 752 = .ok (.iconst 3, 1) := by decide +kernel
theorem dL_law_753 : decode cL_law 753 = .ok (.iadd, 1) := by decide +kernel
theorem dL_law_754 : decode cL_law 754 = .ok (.iaload, 1) := by decide +kernel
theorem dL_law_755 : decode cL_law 755 = .ok (.invokevirtual 69, 3) := by decide +kernel
theorem dL_law_758 : decode cL_law 758 = .ok (.aload_n 2, 1) := by decide +kernel
theorem dL_law_759 : decode cL_law 759 = .ok (.aload_n 0, 1) := by decide +kernel
theorem dL_law_760 : decode cL_law 760 = .ok (.iload_n 3, 1) := by decide +kernel
theorem dL_law_761 : decode cL_law 761 = .ok (.iconst 1, 1) := by decide +kernel
theorem dL_law_762 : decode cL_law 762 = .ok (.iadd, 1) := by decide +kernel
theorem dL_law_763 : decode cL_law 763 = .ok (.iaload, 1) := by decide +kernel
theorem dL_law_764 : decode cL_law 764 = .ok (.aload_n 0, 1) := by decide +kernel
theorem dL_law_765 : decode cL_law 765 = .ok (.iload_n 3, 1) := by decide +kernel
theorem dL_law_766 : decode cL_law 766 = .ok (.iconst 2, 1) := by decide +kernel
theorem dL_law_767 : decode cL_law 767 = .ok (.iadd, 1) := by decide +kernel
theorem dL_law_768 : decode cL_law 768 = .ok (.iaload, 1) := by decide +kernel
theorem dL_law_769 : decode cL_law 769 = .ok (.aload_n 0, 1) := by decide +kernel
theorem dL_law_770 : decode cL_law 770 = .ok (.iload_n 3, 1) := by decide +kernel
theorem dL_law_771 : decode cL_law 771 = .ok (.iconst 3, 1) := by decide +kernel
theorem dL_law_772 : decode cL_law 772 = .ok (.iadd, 1) := by decide +kernel
theorem dL_law_773 : decode cL_law 773 = .ok (.iaload, 1) := by decide +kernel
theorem dL_law_774 : decode cL_law 774 = .ok (.invokevirtual 72, 3) := by decide +kernel
theorem dL_law_777 : decode cL_law 777 = .ok (.if_icmp .eq 378, 3) := by decide +kernel
theorem dL_law_780 : decode cL_law 780 = .ok (.iconst 0, 1) := by decide +kernel
theorem dL_law_781 : decode cL_law 781 = .ok (.ireturn, 1) := by decide +kernel
theorem dL_law_782 : decode cL_law 782 = .ok (.aload_n 1, 1) := by decide +kernel
theorem dL_law_783 : decode cL_law 783 = .ok (.aload_n 0, 1) := by decide +kernel
theorem dL_law_784 : decode cL_law 784 = .ok (.iload_n 3, 1) := by decide +kernel
theorem dL_law_785 : decode cL_law 785 = .ok (.iconst 1, 1) := by decide +kernel
theorem dL_law_786 : decode cL_law 786 = .ok (.iadd, 1) := by decide +kernel
theorem dL_law_787 : decode cL_law 787 = .ok (.iaload, 1) := by decide +kernel
theorem dL_law_788 : decode cL_law 788 = .ok (.invokevirtual 73, 3) := by decide +kernel
theorem dL_law_791 : decode cL_law 791 = .ok (.aload_n 2, 1) := by decide +kernel
theorem dL_law_792 : decode cL_law 792 = .ok (.aload_n 0, 1) := by decide +kernel
theorem dL_law_793 : decode cL_law 793 = .ok (.iload_n 3, 1) := by decide +kernel
theorem dL_law_794 : decode cL_law 794 = .ok (.iconst 1, 1) := by decide +kernel
theorem dL_law_795 : decode cL_law 795 = .ok (.iadd, 1) := by decide +kernel
theorem dL_law_796 : decode cL_law 796 = .ok (.iaload, 1) := by decide +kernel
theorem dL_law_797 : decode cL_law 797 = .ok (.invokevirtual 77, 3) := by decide +kernel
theorem dL_law_800 : decode cL_law 800 = .ok (.if_icmp .eq 355, 3) := by decide +kernel
theorem dL_law_803 : decode cL_law 803 = .ok (.iconst 0, 1) := by decide +kernel
theorem dL_law_804 : decode cL_law 804 = .ok (.ireturn, 1) := by decide +kernel
theorem dL_law_805 : decode cL_law 805 = .ok (.aload_n 1, 1) := by decide +kernel
theorem dL_law_806 : decode cL_law 806 = .ok (.aload_n 0, 1) := by decide +kernel
theorem dL_law_807 : decode cL_law 807 = .ok (.iload_n 3, 1) := by decide +kernel
theorem dL_law_808 : decode cL_law 808 = .ok (.iconst 1, 1) := by decide +kernel
theorem dL_law_809 : decode cL_law 809 = .ok (.iadd, 1) := by decide +kernel
theorem dL_law_810 : decode cL_law 810 = .ok (.iaload, 1) := by decide +kernel
theorem dL_law_811 : decode cL_law 811 = .ok (.invokevirtual 78, 3) := by decide +kernel
theorem dL_law_814 : decode cL_law 814 = .ok (.aload_n 2, 1) := by decide +kernel
theorem dL_law_815 : decode cL_law 815 = .ok (.aload_n 0, 1) := by decide +kernel
theorem dL_law_816 : decode cL_law 816 = .ok (.iload_n 3, 1) := by decide +kernel
theorem dL_law_817 : decode cL_law 817 = .ok (.iconst 1, 1) := by decide +kernel
theorem dL_law_818 : decode cL_law 818 = .ok (.iadd, 1) := by decide +kernel
theorem dL_law_819 : decode cL_law 819 = .ok (.iaload, 1) := by decide +kernel
theorem dL_law_820 : decode cL_law 820 = .ok (.invokevirtual 81, 3) := by decide +kernel
theorem dL_law_823 : decode cL_law 823 = .ok (.if_icmp .eq 332, 3) := by decide +kernel
theorem dL_law_826 : decode cL_law 826 = .ok (.iconst 0, 1) := by decide +kernel
theorem dL_law_827 : decode cL_law 827 = .ok (.ireturn, 1) := by decide +kernel
theorem dL_law_828 : decode cL_law 828 = .ok (.aload_n 1, 1) := by decide +kernel
theorem dL_law_829 : decode cL_law 829 = .ok (.aload_n 0, 1) := by decide +kernel
theorem dL_law_830 : decode cL_law 830 = .ok (.iload_n 3, 1) := by decide +kernel
theorem dL_law_831 : decode cL_law 831 = .ok (.iconst 1, 1) := by decide +kernel
theorem dL_law_832 : decode cL_law 832 = .ok (.iadd, 1) := by decide +kernel
theorem dL_law_833 : decode cL_law 833 = .ok (.iaload, 1) := by decide +kernel
theorem dL_law_834 : decode cL_law 834 = .ok (.invokevirtual 82, 3) := by decide +kernel
theorem dL_law_837 : decode cL_law 837 = .ok (.aload_n 2, 1) := by decide +kernel
theorem dL_law_838 : decode cL_law 838 = .ok (.aload_n 0, 1) := by decide +kernel
theorem dL_law_839 : decode cL_law 839 = .ok (.iload_n 3, 1) := by decide +kernel
theorem dL_law_840 : decode cL_law 840 = .ok (.iconst 1, 1) := by decide +kernel
theorem dL_law_841 : decode cL_law 841 = .ok (.iadd, 1) := by decide +kernel
theorem dL_law_842 : decode cL_law 842 = .ok (.iaload, 1) := by decide +kernel
theorem dL_law_843 : decode cL_law 843 = .ok (.invokevirtual 85, 3) := by decide +kernel
theorem dL_law_846 : decode cL_law 846 = .ok (.if_icmp .eq 309, 3) := by decide +kernel
theorem dL_law_849 : decode cL_law 849 = .ok (.iconst 0, 1) := by decide +kernel
theorem dL_law_850 : decode cL_law 850 = .ok (.ireturn, 1) := by decide +kernel
theorem dL_law_851 : decode cL_law 851 = .ok (.aload_n 1, 1) := by decide +kernel
theorem dL_law_852 : decode cL_law 852 = .ok (.aload_n 0, 1) := by decide +kernel
theorem dL_law_853 : decode cL_law 853 = .ok (.iload_n 3, 1) := by decide +kernel
theorem dL_law_854 : decode cL_law 854 = .ok (.iconst 1, 1) := by decide +kernel
theorem dL_law_855 : decode cL_law 855 = .ok (.iadd, 1) := by decide +kernel
theorem dL_law_856 : decode cL_law 856 = .ok (.iaload, 1) := by decide +kernel
theorem dL_law_857 : decode cL_law 857 = .ok (.invokevirtual 86, 3) := by decide +kernel
theorem dL_law_860 : decode cL_law 860 = .ok (.aload_n 2, 1) := by decide +kernel
theorem dL_law_861 : decode cL_law 861 = .ok (.aload_n 0, 1) := by decide +kernel
theorem dL_law_862 : decode cL_law 862 = .ok (.iload_n 3, 1) := by decide +kernel
theorem dL_law_863 : decode cL_law 863 = .ok (.iconst 1, 1) := by decide +kernel
theorem dL_law_864 : decode cL_law 864 = .ok (.iadd, 1) := by decide +kernel
theorem dL_law_865 : decode cL_law 865 = .ok (.iaload, 1) := by decide +kernel
theorem dL_law_866 : decode cL_law 866 = .ok (.invokevirtual 89, 3) := by decide +kernel
theorem dL_law_869 : decode cL_law 869 = .ok (.if_icmp .eq 286, 3) := by decide +kernel
theorem dL_law_872 : decode cL_law 872 = .ok (.iconst 0, 1) := by decide +kernel
theorem dL_law_873 : decode cL_law 873 = .ok (.ireturn, 1) := by decide +kernel
theorem dL_law_874 : decode cL_law 874 = .ok (.aload_n 1, 1) := by decide +kernel
theorem dL_law_875 : decode cL_law 875 = .ok (.aload_n 0, 1) := by decide +kernel
theorem dL_law_876 : decode cL_law 876 = .ok (.iload_n 3, 1) := by decide +kernel
theorem dL_law_877 : decode cL_law 877 = .ok (.iconst 1, 1) := by decide +kernel
theorem dL_law_878 : decode cL_law 878 = .ok (.iadd, 1) := by decide +kernel
theorem dL_law_879 : decode cL_law 879 = .ok (.iaload, 1) := by decide +kernel
theorem dL_law_880 : decode cL_law 880 = .ok (.aload_n 0, 1) := by decide +kernel
theorem dL_law_881 : decode cL_law 881 = .ok (.iload_n 3, 1) := by decide +kernel
theorem dL_law_882 : decode cL_law 882 = .ok (.iconst 2, 1) := by decide +kernel
theorem dL_law_883 : decode cL_law 883 = .ok (.iadd, 1) := by decide +kernel
theorem dL_law_884 : decode cL_law 884 = .ok (.iaload, 1) := by decide +kernel
theorem dL_law_885 : decode cL_law 885 = .ok (.aload_n 0, 1) := by decide +kernel
theorem dL_law_886 : decode cL_law 886 = .ok (.iload_n 3, 1) := by decide +kernel
theorem dL_law_887 : decode cL_law 887 = .ok (.iconst 3, 1) := by decide +kernel
theorem dL_law_888 : decode cL_law 888 = .ok (.iadd, 1) := by decide +kernel
theorem dL_law_889 : decode cL_law 889 = .ok (.iaload, 1) := by decide +kernel
theorem dL_law_890 : decode cL_law 890 = .ok (.invokevirtual 90, 3) := by decide +kernel
theorem dL_law_893 : decode cL_law 893 = .ok (.aload_n 2, 1) := by decide +kernel
theorem dL_law_894 : decode cL_law 894 = .ok (.aload_n 0, 1) := by decide +kernel
theorem dL_law_895 : decode cL_law 895 = .ok (.iload_n 3, 1) := by decide +kernel
theorem dL_law_896 : decode cL_law 896 = .ok (.iconst 1, 1) := by decide +kernel
theorem dL_law_897 : decode cL_law 897 = .ok (.iadd, 1) := by decide +kernel
theorem dL_law_898 : decode cL_law 898 = .ok (.iaload, 1) := by decide +kernel
theorem dL_law_899 : decode cL_law 899 = .ok (.aload_n 0, 1) := by decide +kernel
theorem dL_law_900 : decode cL_law 900 = .ok (.iload_n 3, 1) := by decide +kernel
theorem dL_law_901 : decode cL_law 901 = .ok (.iconst 2, 1) := by decide +kernel
theorem dL_law_902 : decode cL_law 902 = .ok (.iadd, 1) := by decide +kernel
theorem dL_law_903 : decode cL_law 903 = .ok (.iaload, 1) := by decide +kernel
theorem dL_law_904 : decode cL_law 904 = .ok (.aload_n 0, 1) := by decide +kernel
theorem dL_law_905 : decode cL_law 905 = .ok (.iload_n 3, 1) := by decide +kernel
theorem dL_law_906 : decode cL_law 906 = .ok (.iconst 3, 1) := by decide +kernel
theorem dL_law_907 : decode cL_law 907 = .ok (.iadd, 1) := by decide +kernel
theorem dL_law_908 : decode cL_law 908 = .ok (.iaload, 1) := by decide +kernel
theorem dL_law_909 : decode cL_law 909 = .ok (.invokevirtual 93, 3) := by decide +kernel
theorem dL_law_912 : decode cL_law 912 = .ok (.if_icmp .eq 243, 3) := by decide +kernel
theorem dL_law_915 : decode cL_law 915 = .ok (.iconst 0, 1) := by decide +kernel
theorem dL_law_916 : decode cL_law 916 = .ok (.ireturn, 1) := by decide +kernel
theorem dL_law_917 : decode cL_law 917 = .ok (.aload_n 1, 1) := by decide +kernel
theorem dL_law_918 : decode cL_law 918 = .ok (.aload_n 0, 1) := by decide +kernel
theorem dL_law_919 : decode cL_law 919 = .ok (.iload_n 3, 1) := by decide +kernel
theorem dL_law_920 : decode cL_law 920 = .ok (.iconst 1, 1) := by decide +kernel
theorem dL_law_921 : decode cL_law 921 = .ok (.iadd, 1) := by decide +kernel
theorem dL_law_922 : decode cL_law 922 = .ok (.iaload, 1) := by decide +kernel
theorem dL_law_923 : decode cL_law 923 = .ok (.aload_n 0, 1) := by decide +kernel
theorem dL_law_924 : decode cL_law 924 = .ok (.iload_n 3, 1) := by decide +kernel
theorem dL_law_925 : decode cL_law 925 = .ok (.iconst 2, 1) := by decide +kernel
theorem dL_law_926 : decode cL_law 926 = .ok (.iadd, 1) := by decide +kernel
theorem dL_law_927 : decode cL_law 927 = .ok (.iaload, 1) := by decide +kernel
theorem dL_law_928 : decode cL_law 928 = .ok (.aload_n 0, 1) := by decide +kernel
theorem dL_law_929 : decode cL_law 929 = .ok (.iload_n 3, 1) := by decide +kernel
theorem dL_law_930 : decode cL_law 930 = .ok (.iconst 3, 1) := by decide +kernel
theorem dL_law_931 : decode cL_law 931 = .ok (.iadd, 1) := by decide +kernel
theorem dL_law_932 : decode cL_law 932 = .ok (.iaload, 1) := by decide +kernel
theorem dL_law_933 : decode cL_law 933 = .ok (.aload_n 0, 1) := by decide +kernel
theorem dL_law_934 : decode cL_law 934 = .ok (.iload_n 3, 1) := by decide +kernel
theorem dL_law_935 : decode cL_law 935 = .ok (.iconst 4, 1) := by decide +kernel
theorem dL_law_936 : decode cL_law 936 = .ok (.iadd, 1) := by decide +kernel
theorem dL_law_937 : decode cL_law 937 = .ok (.iaload, 1) := by decide +kernel
theorem dL_law_938 : decode cL_law 938 = .ok (.invokevirtual 94, 3) := by decide +kernel
theorem dL_law_941 : decode cL_law 941 = .ok (.aload_n 2, 1) := by decide +kernel
theorem dL_law_942 : decode cL_law 942 = .ok (.aload_n 0, 1) := by decide +kernel
theorem dL_law_943 : decode cL_law 943 = .ok (.iload_n 3, 1) := by decide +kernel
theorem dL_law_944 : decode cL_law 944 = .ok (.iconst 1, 1) := by decide +kernel
theorem dL_law_945 : decode cL_law 945 = .ok (.iadd, 1) := by decide +kernel
theorem dL_law_946 : decode cL_law 946 = .ok (.iaload, 1) := by decide +kernel
theorem dL_law_947 : decode cL_law 947 = .ok (.aload_n 0, 1) := by decide +kernel
theorem dL_law_948 : decode cL_law 948 = .ok (.iload_n 3, 1) := by decide +kernel
theorem dL_law_949 : decode cL_law 949 = .ok (.iconst 2, 1) := by decide +kernel
theorem dL_law_950 : decode cL_law 950 = .ok (.iadd, 1) := by decide +kernel
theorem dL_law_951 : decode cL_law 951 = .ok (.iaload, 1) := by decide +kernel
theorem dL_law_952 : decode cL_law 952 = .ok (.aload_n 0, 1) := by decide +kernel
theorem dL_law_953 : decode cL_law 953 = .ok (.iload_n 3, 1) := by decide +kernel
theorem dL_law_954 : decode cL_law 954 = .ok (.iconst 3, 1) := by decide +kernel
theorem dL_law_955 : decode cL_law 955 = .ok (.iadd, 1) := by decide +kernel
theorem dL_law_956 : decode cL_law 956 = .ok (.iaload, 1) := by decide +kernel
theorem dL_law_957 : decode cL_law 957 = .ok (.aload_n 0, 1) := by decide +kernel
theorem dL_law_958 : decode cL_law 958 = .ok (.iload_n 3, 1) := by decide +kernel
theorem dL_law_959 : decode cL_law 959 = .ok (.iconst 4, 1) := by decide +kernel
theorem dL_law_960 : decode cL_law 960 = .ok (.iadd, 1) := by decide +kernel
theorem dL_law_961 : decode cL_law 961 = .ok (.iaload, 1) := by decide +kernel
theorem dL_law_962 : decode cL_law 962 = .ok (.invokevirtual 97, 3) := by decide +kernel
theorem dL_law_965 : decode cL_law 965 = .ok (.if_icmp .eq 190, 3) := by decide +kernel
theorem dL_law_968 : decode cL_law 968 = .ok (.iconst 0, 1) := by decide +kernel
theorem dL_law_969 : decode cL_law 969 = .ok (.ireturn, 1) := by decide +kernel
theorem dL_law_970 : decode cL_law 970 = .ok (.aload_n 1, 1) := by decide +kernel
theorem dL_law_971 : decode cL_law 971 = .ok (.aload_n 0, 1) := by decide +kernel
theorem dL_law_972 : decode cL_law 972 = .ok (.iload_n 3, 1) := by decide +kernel
theorem dL_law_973 : decode cL_law 973 = .ok (.iconst 1, 1) := by decide +kernel
theorem dL_law_974 : decode cL_law 974 = .ok (.iadd, 1) := by decide +kernel
theorem dL_law_975 : decode cL_law 975 = .ok (.iaload, 1) := by decide +kernel
theorem dL_law_976 : decode cL_law 976 = .ok (.aload_n 0, 1) := by decide +kernel
theorem dL_law_977 : decode cL_law 977 = .ok (.iload_n 3, 1) := by decide +kernel
theorem dL_law_978 : decode cL_law 978 = .ok (.iconst 2, 1) := by decide +kernel
theorem dL_law_979 : decode cL_law 979 = .ok (.iadd, 1) := by decide +kernel
theorem dL_law_980 : decode cL_law 980 = .ok (.iaload, 1) := by decide +kernel
theorem dL_law_981 : decode cL_law 981 = .ok (.aload_n 0, 1) := by decide +kernel
theorem dL_law_982 : decode cL_law 982 = .ok (.iload_n 3, 1) := by decide +kernel
theorem dL_law_983 : decode cL_law 983 = .ok (.iconst 3, 1) := by decide +kernel
theorem dL_law_984 : decode cL_law 984 = .ok (.iadd, 1) := by decide +kernel
theorem dL_law_985 : decode cL_law 985 = .ok (.iaload, 1) := by decide +kernel
theorem dL_law_986 : decode cL_law 986 = .ok (.aload_n 0, 1) := by decide +kernel
theorem dL_law_987 : decode cL_law 987 = .ok (.iload_n 3, 1) := by decide +kernel
theorem dL_law_988 : decode cL_law 988 = .ok (.iconst 4, 1) := by decide +kernel
theorem dL_law_989 : decode cL_law 989 = .ok (.iadd, 1) := by decide +kernel
theorem dL_law_990 : decode cL_law 990 = .ok (.iaload, 1) := by decide +kernel
theorem dL_law_991 : decode cL_law 991 = .ok (.invokevirtual 98, 3) := by decide +kernel
theorem dL_law_994 : decode cL_law 994 = .ok (.aload_n 2, 1) := by decide +kernel
theorem dL_law_995 : decode cL_law 995 = .ok (.aload_n 0, 1) := by decide +kernel
theorem dL_law_996 : decode cL_law 996 = .ok (.iload_n 3, 1) := by decide +kernel
theorem dL_law_997 : decode cL_law 997 = .ok (.iconst 1, 1) := by decide +kernel
theorem dL_law_998 : decode cL_law 998 = .ok (.iadd, 1) := by decide +kernel
theorem dL_law_999 : decode cL_law 999 = .ok (.iaload, 1) := by decide +kernel
theorem dL_law_1000 : decode cL_law 1000 = .ok (.aload_n 0, 1) := by decide +kernel
theorem dL_law_1001 : decode cL_law 1001 = .ok (.iload_n 3, 1) := by decide +kernel
theorem dL_law_1002 : decode cL_law 1002 = .ok (.iconst 2, 1) := by decide +kernel
theorem dL_law_1003 : decode cL_law 1003 = .ok (.iadd, 1) := by decide +kernel
theorem dL_law_1004 : decode cL_law 1004 = .ok (.iaload, 1) := by decide +kernel
theorem dL_law_1005 : decode cL_law 1005 = .ok (.aload_n 0, 1) := by decide +kernel
theorem dL_law_1006 : decode cL_law 1006 = .ok (.iload_n 3, 1) := by decide +kernel
theorem dL_law_1007 : decode cL_law 1007 = .ok (.iconst 3, 1) := by decide +kernel
theorem dL_law_1008 : decode cL_law 1008 = .ok (.iadd, 1) := by decide +kernel
theorem dL_law_1009 : decode cL_law 1009 = .ok (.iaload, 1) := by decide +kernel
theorem dL_law_1010 : decode cL_law 1010 = .ok (.aload_n 0, 1) := by decide +kernel
theorem dL_law_1011 : decode cL_law 1011 = .ok (.iload_n 3, 1) := by decide +kernel
theorem dL_law_1012 : decode cL_law 1012 = .ok (.iconst 4, 1) := by decide +kernel
theorem dL_law_1013 : decode cL_law 1013 = .ok (.iadd, 1) := by decide +kernel
theorem dL_law_1014 : decode cL_law 1014 = .ok (.iaload, 1) := by decide +kernel
theorem dL_law_1015 : decode cL_law 1015 = .ok (.invokevirtual 101, 3) := by decide +kernel
theorem dL_law_1018 : decode cL_law 1018 = .ok (.if_icmp .eq 137, 3) := by decide +kernel
theorem dL_law_1021 : decode cL_law 1021 = .ok (.iconst 0, 1) := by decide +kernel
theorem dL_law_1022 : decode cL_law 1022 = .ok (.ireturn, 1) := by decide +kernel
theorem dL_law_1023 : decode cL_law 1023 = .ok (.aload_n 1, 1) := by decide +kernel
theorem dL_law_1024 : decode cL_law 1024 = .ok (.aload_n 0, 1) := by decide +kernel
theorem dL_law_1025 : decode cL_law 1025 = .ok (.iload_n 3, 1) := by decide +kernel
theorem dL_law_1026 : decode cL_law 1026 = .ok (.iconst 1, 1) := by decide +kernel
theorem dL_law_1027 : decode cL_law 1027 = .ok (.iadd, 1) := by decide +kernel
theorem dL_law_1028 : decode cL_law 1028 = .ok (.iaload, 1) := by decide +kernel
theorem dL_law_1029 : decode cL_law 1029 = .ok (.aload_n 0, 1) := by decide +kernel
theorem dL_law_1030 : decode cL_law 1030 = .ok (.iload_n 3, 1) := by decide +kernel
theorem dL_law_1031 : decode cL_law 1031 = .ok (.iconst 2, 1) := by decide +kernel
theorem dL_law_1032 : decode cL_law 1032 = .ok (.iadd, 1) := by decide +kernel
theorem dL_law_1033 : decode cL_law 1033 = .ok (.iaload, 1) := by decide +kernel
theorem dL_law_1034 : decode cL_law 1034 = .ok (.aload_n 0, 1) := by decide +kernel
theorem dL_law_1035 : decode cL_law 1035 = .ok (.iload_n 3, 1) := by decide +kernel
theorem dL_law_1036 : decode cL_law 1036 = .ok (.iconst 3, 1) := by decide +kernel
theorem dL_law_1037 : decode cL_law 1037 = .ok (.iadd, 1) := by decide +kernel
theorem dL_law_1038 : decode cL_law 1038 = .ok (.iaload, 1) := by decide +kernel
theorem dL_law_1039 : decode cL_law 1039 = .ok (.invokevirtual 102, 3) := by decide +kernel
theorem dL_law_1042 : decode cL_law 1042 = .ok (.aload_n 2, 1) := by decide +kernel
theorem dL_law_1043 : decode cL_law 1043 = .ok (.aload_n 0, 1) := by decide +kernel
theorem dL_law_1044 : decode cL_law 1044 = .ok (.iload_n 3, 1) := by decide +kernel
theorem dL_law_1045 : decode cL_law 1045 = .ok (.iconst 1, 1) := by decide +kernel
theorem dL_law_1046 : decode cL_law 1046 = .ok (.iadd, 1) := by decide +kernel
theorem dL_law_1047 : decode cL_law 1047 = .ok (.iaload, 1) := by decide +kernel
theorem dL_law_1048 : decode cL_law 1048 = .ok (.aload_n 0, 1) := by decide +kernel
theorem dL_law_1049 : decode cL_law 1049 = .ok (.iload_n 3, 1) := by decide +kernel
theorem dL_law_1050 : decode cL_law 1050 = .ok (.iconst 2, 1) := by decide +kernel
theorem dL_law_1051 : decode cL_law 1051 = .ok (.iadd, 1) := by decide +kernel
theorem dL_law_1052 : decode cL_law 1052 = .ok (.iaload, 1) := by decide +kernel
theorem dL_law_1053 : decode cL_law 1053 = .ok (.aload_n 0, 1) := by decide +kernel
theorem dL_law_1054 : decode cL_law 1054 = .ok (.iload_n 3, 1) := by decide +kernel
theorem dL_law_1055 : decode cL_law 1055 = .ok (.iconst 3, 1) := by decide +kernel
theorem dL_law_1056 : decode cL_law 1056 = .ok (.iadd, 1) := by decide +kernel
theorem dL_law_1057 : decode cL_law 1057 = .ok (.iaload, 1) := by decide +kernel
theorem dL_law_1058 : decode cL_law 1058 = .ok (.invokevirtual 105, 3) := by decide +kernel
theorem dL_law_1061 : decode cL_law 1061 = .ok (.if_icmp .eq 94, 3) := by decide +kernel
theorem dL_law_1064 : decode cL_law 1064 = .ok (.iconst 0, 1) := by decide +kernel
theorem dL_law_1065 : decode cL_law 1065 = .ok (.ireturn, 1) := by decide +kernel
theorem dL_law_1066 : decode cL_law 1066 = .ok (.aload_n 1, 1) := by decide +kernel
theorem dL_law_1067 : decode cL_law 1067 = .ok (.invokevirtual 106, 3) := by decide +kernel
theorem dL_law_1070 : decode cL_law 1070 = .ok (.aload_n 2, 1) := by decide +kernel
theorem dL_law_1071 : decode cL_law 1071 = .ok (.invokevirtual 110, 3) := by decide +kernel
theorem dL_law_1074 : decode cL_law 1074 = .ok (.if_icmp .eq 81, 3) := by decide +kernel
theorem dL_law_1077 : decode cL_law 1077 = .ok (.iconst 0, 1) := by decide +kernel
theorem dL_law_1078 : decode cL_law 1078 = .ok (.ireturn, 1) := by decide +kernel
theorem dL_law_1079 : decode cL_law 1079 = .ok (.aload_n 1, 1) := by decide +kernel
theorem dL_law_1080 : decode cL_law 1080 = .ok (.aload_n 0, 1) := by decide +kernel
theorem dL_law_1081 : decode cL_law 1081 = .ok (.iload_n 3, 1) := by decide +kernel
theorem dL_law_1082 : decode cL_law 1082 = .ok (.iconst 1, 1) := by decide +kernel
theorem dL_law_1083 : decode cL_law 1083 = .ok (.iadd, 1) := by decide +kernel
theorem dL_law_1084 : decode cL_law 1084 = .ok (.iaload, 1) := by decide +kernel
theorem dL_law_1085 : decode cL_law 1085 = .ok (.aload_n 0, 1) := by decide +kernel
theorem dL_law_1086 : decode cL_law 1086 = .ok (.iload_n 3, 1) := by decide +kernel
theorem dL_law_1087 : decode cL_law 1087 = .ok (.iconst 2, 1) := by decide +kernel
theorem dL_law_1088 : decode cL_law 1088 = .ok (.iadd, 1) := by decide +kernel
theorem dL_law_1089 : decode cL_law 1089 = .ok (.iaload, 1) := by decide +kernel
theorem dL_law_1090 : decode cL_law 1090 = .ok (.aload_n 0, 1) := by decide +kernel
theorem dL_law_1091 : decode cL_law 1091 = .ok (.iload_n 3, 1) := by decide +kernel
theorem dL_law_1092 : decode cL_law 1092 = .ok (.iconst 3, 1) := by decide +kernel
theorem dL_law_1093 : decode cL_law 1093 = .ok (.iadd, 1) := by decide +kernel
theorem dL_law_1094 : decode cL_law 1094 = .ok (.iaload, 1) := by decide +kernel
theorem dL_law_1095 : decode cL_law 1095 = .ok (.aload_n 0, 1) := by decide +kernel
theorem dL_law_1096 : decode cL_law 1096 = .ok (.iload_n 3, 1) := by decide +kernel
theorem dL_law_1097 : decode cL_law 1097 = .ok (.iconst 4, 1) := by decide +kernel
theorem dL_law_1098 : decode cL_law 1098 = .ok (.iadd, 1) := by decide +kernel
theorem dL_law_1099 : decode cL_law 1099 = .ok (.iaload, 1) := by decide +kernel
theorem dL_law_1100 : decode cL_law 1100 = .ok (.invokevirtual 111, 3) := by decide +kernel
theorem dL_law_1103 : decode cL_law 1103 = .ok (.aload_n 2, 1) := by decide +kernel
theorem dL_law_1104 : decode cL_law 1104 = .ok (.aload_n 0, 1) := by decide +kernel
theorem dL_law_1105 : decode cL_law 1105 = .ok (.iload_n 3, 1) := by decide +kernel
theorem dL_law_1106 : decode cL_law 1106 = .ok (.iconst 1, 1) := by decide +kernel
theorem dL_law_1107 : decode cL_law 1107 = .ok (.iadd, 1) := by decide +kernel
theorem dL_law_1108 : decode cL_law 1108 = .ok (.iaload, 1) := by decide +kernel
theorem dL_law_1109 : decode cL_law 1109 = .ok (.aload_n 0, 1) := by decide +kernel
theorem dL_law_1110 : decode cL_law 1110 = .ok (.iload_n 3, 1) := by decide +kernel
theorem dL_law_1111 : decode cL_law 1111 = .ok (.iconst 2, 1) := by decide +kernel
theorem dL_law_1112 : decode cL_law 1112 = .ok (.iadd, 1) := by decide +kernel
theorem dL_law_1113 : decode cL_law 1113 = .ok (.iaload, 1) := by decide +kernel
theorem dL_law_1114 : decode cL_law 1114 = .ok (.aload_n 0, 1) := by decide +kernel
theorem dL_law_1115 : decode cL_law 1115 = .ok (.iload_n 3, 1) := by decide +kernel
theorem dL_law_1116 : decode cL_law 1116 = .ok (.iconst 3, 1) := by decide +kernel
theorem dL_law_1117 : decode cL_law 1117 = .ok (.iadd, 1) := by decide +kernel
theorem dL_law_1118 : decode cL_law 1118 = .ok (.iaload, 1) := by decide +kernel
theorem dL_law_1119 : decode cL_law 1119 = .ok (.aload_n 0, 1) := by decide +kernel
theorem dL_law_1120 : decode cL_law 1120 = .ok (.iload_n 3, 1) := by decide +kernel
theorem dL_law_1121 : decode cL_law 1121 = .ok (.iconst 4, 1) := by decide +kernel
theorem dL_law_1122 : decode cL_law 1122 = .ok (.iadd, 1) := by decide +kernel
theorem dL_law_1123 : decode cL_law 1123 = .ok (.iaload, 1) := by decide +kernel
theorem dL_law_1124 : decode cL_law 1124 = .ok (.invokevirtual 114, 3) := by decide +kernel
theorem dL_law_1127 : decode cL_law 1127 = .ok (.if_icmp .eq 28, 3) := by decide +kernel
theorem dL_law_1130 : decode cL_law 1130 = .ok (.iconst 0, 1) := by decide +kernel
theorem dL_law_1131 : decode cL_law 1131 = .ok (.ireturn, 1) := by decide +kernel
theorem dL_law_1132 : decode cL_law 1132 = .ok (.aload_n 1, 1) := by decide +kernel
theorem dL_law_1133 : decode cL_law 1133 = .ok (.aload_n 0, 1) := by decide +kernel
theorem dL_law_1134 : decode cL_law 1134 = .ok (.iload_n 3, 1) := by decide +kernel
theorem dL_law_1135 : decode cL_law 1135 = .ok (.iconst 1, 1) := by decide +kernel
theorem dL_law_1136 : decode cL_law 1136 = .ok (.iadd, 1) := by decide +kernel
theorem dL_law_1137 : decode cL_law 1137 = .ok (.iaload, 1) := by decide +kernel
theorem dL_law_1138 : decode cL_law 1138 = .ok (.invokevirtual 115, 3) := by decide +kernel
theorem dL_law_1141 : decode cL_law 1141 = .ok (.aload_n 2, 1) := by decide +kernel
theorem dL_law_1142 : decode cL_law 1142 = .ok (.aload_n 0, 1) := by decide +kernel
theorem dL_law_1143 : decode cL_law 1143 = .ok (.iload_n 3, 1) := by decide +kernel
theorem dL_law_1144 : decode cL_law 1144 = .ok (.iconst 1, 1) := by decide +kernel
theorem dL_law_1145 : decode cL_law 1145 = .ok (.iadd, 1) := by decide +kernel
theorem dL_law_1146 : decode cL_law 1146 = .ok (.iaload, 1) := by decide +kernel
theorem dL_law_1147 : decode cL_law 1147 = .ok (.invokevirtual 118, 3) := by decide +kernel
theorem dL_law_1150 : decode cL_law 1150 = .ok (.if_icmp .eq 5, 3) := by decide +kernel
theorem dL_law_1153 : decode cL_law 1153 = .ok (.iconst 0, 1) := by decide +kernel
theorem dL_law_1154 : decode cL_law 1154 = .ok (.ireturn, 1) := by decide +kernel
theorem dL_law_1155 : decode cL_law 1155 = .ok (.iinc 3 5, 3) := by decide +kernel
theorem dL_law_1158 : decode cL_law 1158 = .ok (.goto (-1140), 3) := by decide +kernel
theorem dL_law_1161 : decode cL_law 1161 = .ok (.iconst 1, 1) := by decide +kernel
theorem dL_law_1162 : decode cL_law 1162 = .ok (.ireturn, 1) := by decide +kernel
end
section
-- the world: its cells by number; what is in them: an int for each slot of a cell
abbrev HP : Type := Nat → Nat → Int32
abbrev Sh : Type := (Nat × Bool) ⊕ (Nat × List (Option Nat))
abbrev GA : Type := (Nat → Nat) × (ClassId × ClassId) × va_G
abbrev tn (x : Int32) : Nat := x.toNatClampNeg
def hset (h : HP) (k : Nat) (f : Nat → Int32) : HP := fun q => if q = k then f else h q
def up (h : HP) (k j : Nat) (x : Int32) : HP := hset h k (upd (h k) j x)
def b2i (b : Bool) : Int32 := cond b 1 0
def ceV (G : GA) (x : Int32) (o : Option Nat) : Value := match o with
  | some r => .ref (G.1 r)
  | none => .int x
def ceF (G : GA) (f : Nat → Int32) : Nat → List (Option Nat) → List Value
  | _, [] => []
  | j, o :: r => ceV G (f j) o :: ceF G f (j + 1) r
def ce (G : GA) (f : Nat → Int32) (s : Sh) : va_E := match s with
  | .inl a => .inl (cond a.2 G.2.1.2 G.2.1.1, a.1, .inl f)
  | .inr o => .inr (o.1, ceF G f 0 o.2)
def wdF (G : GA) (h : HP) : Nat → List Sh → va_W
  | _, [] => []
  | k, s :: r => (G.1 k, ce G (h k) s) :: wdF G h (k + 1) r
theorem wdF_get (G : GA) (h : HP) : ∀ (sh : List Sh) (k0 k : Nat) (s : Sh), sh[k]? = some s → (wdF G h k0 sh)[k]? = some (G.1 (k0 + k), ce G (h (k0 + k)) s)
  | [], k0, k, s, e => by simp at e
  | s0 :: r, k0, 0, s, e => by
    rw [List.getElem?_cons_zero] at e
    cases e
    rfl
  | s0 :: r, k0, k + 1, s, e => by
    rw [List.getElem?_cons_succ] at e
    have := wdF_get G h r (k0 + 1) k s e
    rw [show k0 + (k + 1) = k0 + 1 + k by omega]
    exact this
theorem wdF_inv (G : GA) (h : HP) : ∀ (sh : List Sh) (k0 k : Nat) (q : Nat × va_E), (wdF G h k0 sh)[k]? = some q → q.1 = G.1 (k0 + k) ∧ k < sh.length
  | [], k0, k, q, e => by simp [wdF] at e
  | s0 :: r, k0, 0, q, e => by
    simp only [wdF, List.getElem?_cons_zero] at e
    cases e
    exact ⟨rfl, by simp⟩
  | s0 :: r, k0, k + 1, q, e => by
    simp only [wdF, List.getElem?_cons_succ] at e
    have := wdF_inv G h r (k0 + 1) k q e
    rw [show k0 + (k + 1) = k0 + 1 + k by omega]
    exact ⟨this.1, by simp; exact this.2⟩
theorem wdF_eq (G : GA) {h h' : HP} : ∀ (sh : List Sh) (k0 : Nat), (∀ q, k0 ≤ q → h q = h' q) → wdF G h k0 sh = wdF G h' k0 sh
  | [], k0, e => rfl
  | s0 :: r, k0, e => by
    simp only [wdF]
    rw [e k0 (Nat.le_refl _), wdF_eq G r (k0 + 1) (fun q hq => e q (by omega))]
theorem wdF_set (G : GA) (h : HP) (f : Nat → Int32) : ∀ (sh : List Sh) (k0 k : Nat) (s : Sh), sh[k]? = some s → (wdF G h k0 sh).set k (G.1 (k0 + k), ce G f s) = wdF G (hset h (k0 + k) f) k0 sh
  | [], k0, k, s, e => by simp at e
  | s0 :: r, k0, 0, s, e => by
    rw [List.getElem?_cons_zero] at e
    cases e
    simp only [wdF, List.set_cons_zero, Nat.add_zero]
    have e1 : hset h k0 f k0 = f := by simp [hset]
    rw [e1, wdF_eq G r (k0 + 1) (h := h) (h' := hset h k0 f) (fun q hq => by unfold hset; rw [if_neg (by omega)])]
  | s0 :: r, k0, k + 1, s, e => by
    rw [List.getElem?_cons_succ] at e
    have := wdF_set G h f r (k0 + 1) k s e
    simp only [wdF, List.set_cons_succ]
    rw [show k0 + (k + 1) = k0 + 1 + k by omega, this]
    congr 2
    unfold hset
    rw [if_neg (by omega)]
theorem ceF_get (G : GA) (f : Nat → Int32) : ∀ (fl : List (Option Nat)) (j0 j : Nat) (o : Option Nat), fl[j]? = some o → (ceF G f j0 fl)[j]? = some (ceV G (f (j0 + j)) o)
  | [], j0, j, o, e => by simp at e
  | o0 :: r, j0, 0, o, e => by
    rw [List.getElem?_cons_zero] at e
    cases e
    rfl
  | o0 :: r, j0, j + 1, o, e => by
    rw [List.getElem?_cons_succ] at e
    have := ceF_get G f r (j0 + 1) j o e
    rw [show j0 + (j + 1) = j0 + 1 + j by omega]
    exact this
theorem ceF_len (G : GA) (f : Nat → Int32) : ∀ (fl : List (Option Nat)) (j0 : Nat), (ceF G f j0 fl).length = fl.length
  | [], j0 => rfl
  | o0 :: r, j0 => by simp [ceF, ceF_len G f r]
theorem ceF_eq (G : GA) {f f' : Nat → Int32} : ∀ (fl : List (Option Nat)) (j0 : Nat), (∀ q, j0 ≤ q → f q = f' q) → ceF G f j0 fl = ceF G f' j0 fl
  | [], j0, e => rfl
  | o0 :: r, j0, e => by
    simp only [ceF]
    rw [e j0 (Nat.le_refl _), ceF_eq G r (j0 + 1) (fun q hq => e q (by omega))]
theorem ceF_set (G : GA) (f : Nat → Int32) (x : Int32) : ∀ (fl : List (Option Nat)) (j0 j : Nat), fl[j]? = some none → (ceF G f j0 fl).set j (.int x) = ceF G (upd f (j0 + j) x) j0 fl
  | [], j0, j, e => by simp at e
  | o0 :: r, j0, 0, e => by
    rw [List.getElem?_cons_zero] at e
    cases e
    simp only [ceF, List.set_cons_zero, Nat.add_zero]
    have e1 : upd f j0 x j0 = x := by simp [upd]
    rw [e1, ceF_eq G r (j0 + 1) (f := f) (f' := upd f j0 x) (fun q hq => by unfold upd; rw [if_neg (by omega)])]
    rfl
  | o0 :: r, j0, j + 1, e => by
    rw [List.getElem?_cons_succ] at e
    have := ceF_set G f x r (j0 + 1) j e
    simp only [ceF, List.set_cons_succ]
    rw [show j0 + (j + 1) = j0 + 1 + j by omega, this]
    congr 2
    unfold upd
    rw [if_neg (by omega)]
-- the shape of this world
def shape : List Sh := [.inr (11, [some 2, some 11, some 22, some 31, some 34, some 42, some 48, some 54, some 64, some 1, none]), .inl (12, false), .inr (7, [some 3, some 4, some 5, none]), .inl (12, false), .inl (12, false), .inl (16, false), .inr (1, [some 7, some 8, some 9, some 10, none, none]), .inl (60, false), .inl (60, false), .inl (60, false), .inl (60, false), .inr (9, [some 12, some 13, some 14, some 15, some 16, some 17, some 18, some 19, some 20, some 21, some 6, none]), .inl (24, false), .inl (24, false), .inl (24, false), .inl (24, false), .inl (24, false), .inl (192, false), .inl (192, false), .inl (192, false), .inl (100, false), .inl (100, false), .inr (10, [some 23, some 24, some 25, some 26, some 27, some 28, some 29, some 30, none]), .inl (20, false), .inl (20, false), .inl (20, false), .inl (20, false), .inl (20, false), .inl (20, false), .inl (20, false), .inl (20, false), .inr (3, [some 32, some 33, none]), .inl (90, false), .inl (720, false), .inr (8, [some 2, some 11, some 22, some 31, some 35, some 36, some 37, some 38, some 39, some 40, some 41, none, none]), .inl (30, false), .inl (30, false), .inl (30, true), .inl (210, false), .inl (210, false), .inl (210, false), .inl (210, false), .inr (4, [some 43, some 44, some 45, some 46, some 47, none, none, some 11, some 31]), .inl (132, false), .inl (132, false), .inl (132, false), .inl (1056, false), .inl (1056, false), .inr (5, [some 2, some 11, some 22, some 42, some 49, some 50, some 51, some 52, some 53, none, none]), .inl (696, false), .inl (360, false), .inl (12, false), .inl (12, false), .inl (4, false), .inr (2, [some 48, some 55, some 56, some 62, some 57, some 58, some 59, some 60, some 61, none, none]), .inl (290, false), .inl (3654, false), .inl (28, false), .inl (4, false), .inl (4, false), .inl (4, false), .inl (4, false), .inr (6, [some 63, none]), .inl (58, false), .inr (0, [some 11, some 65]), .inr (6, [some 66, none]), .inl (192, false), .inr (12, [none, none, none, none, none, some 68, some 69, some 70, some 71, some 72, some 73, some 74, some 75, some 76, some 77, some 78, some 79, some 80, some 81, some 82, some 83, some 84, some 85, some 86, some 87, some 88, some 89, some 90, some 91, some 92, some 93, none, none, none, some 94, some 95, some 96, some 97, some 98, some 99, none, none, some 100, some 101, some 102, some 103, some 104, some 105, some 106, none, none, none, none, some 107, some 108, some 109, some 110, none, none, some 111]), .inl (12, false), .inl (12, false), .inl (16, false), .inl (100, false), .inl (24, false), .inl (24, false), .inl (24, false), .inl (24, false), .inl (192, false), .inl (192, false), .inl (192, false), .inl (192, true), .inl (2400, true), .inl (20, false), .inl (20, false), .inl (20, false), .inl (20, false), .inl (20, false), .inl (20, false), .inl (20, false), .inl (20, false), .inl (60, false), .inl (60, false), .inl (60, false), .inl (60, false), .inl (19200, false), .inl (2400, false), .inl (2400, false), .inl (19200, false), .inl (19200, false), .inl (1344, false), .inl (1344, false), .inl (112, false), .inl (112, false), .inl (112, false), .inl (112, false), .inl (112, false), .inl (7056, false), .inl (63, false), .inl (30, false), .inl (30, false), .inl (1890, false), .inl (30, true), .inl (12, false)]
def wd (G : GA) (h : HP) : va_W := wdF G h 0 shape
def Inj (G : GA) : Prop := ∀ i j : Nat, i < shape.length → j < shape.length → G.1 i = G.1 j → i = j
def AG (G : GA) : Nat → Prop := fun q => ∃ k, k < shape.length ∧ q = G.1 k
theorem wd_get (G : GA) (h : HP) {k : Nat} {s : Sh} (e : shape[k]? = some s) : (wd G h)[k]? = some (G.1 k, ce G (h k) s) := by
  have := wdF_get G h shape 0 k s e
  rw [Nat.zero_add] at this
  exact this
theorem wd_set (G : GA) (h : HP) (f : Nat → Int32) {k : Nat} {s : Sh} (e : shape[k]? = some s) : (wd G h).set k (G.1 k, ce G f s) = wd G (hset h k f) := by
  have := wdF_set G h f shape 0 k s e
  rw [Nat.zero_add] at this
  exact this
theorem wd_D (G : GA) (h : HP) (hI : Inj G) : va_D (AG G) (wd G h) := by
  refine ⟨fun i j p q hi hj e => ?_, fun k q hk => ?_⟩
  · have h1 := wdF_inv G h shape 0 i p hi
    have h2 := wdF_inv G h shape 0 j q hj
    rw [Nat.zero_add] at h1 h2
    exact hI i j h1.2 h2.2 (by rw [← h1.1, ← h2.1]; exact e)
  · have h1 := wdF_inv G h shape 0 k q hk
    rw [Nat.zero_add] at h1
    exact ⟨k, h1.2, h1.1⟩
-- the words
def lwg : List Cond := lw_tbl.filter goodWord
theorem lwg_in {w : Cond} (h : w ∈ lw_tbl) (g : goodWord w = true) : w ∈ lwg := List.mem_filter.mpr ⟨h, g⟩
theorem lwg_at {w : Cond} (i : Nat) (h : lw_tbl[i]? = some w) (g : goodWord w = true) : w ∈ lwg := lwg_in (List.mem_of_getElem? h) g
theorem lwg_good {w : Cond} (h : w ∈ lwg) : (w.onTables && w.keeps) = true ∨ ∃ ty, w = .arrayClass ty := good_of_word (List.mem_filter.mp h).2
abbrev nestw : Cond := .methodLinkNest RX5 109 yX11_between "ConnectionDesk"
def KK (G : GA) (U : State) : Prop := va_K G.2.2 vwCl [(G.2.1.1, .int), (G.2.1.2, .boolean)] U ∧ va_Nw nestw U
theorem KK.warm {G : GA} {s U : State} (hW : s.WarmedH U.vm) (h : KK G s) : KK G U := ⟨va_K.moved hW.alike h.1, va_Nw.warmM hW h.2⟩
theorem KK.calling {G : GA} {U : State} {g : JFrame} {mk : MethodId} {a : Array Value} (h : KK G U) : KK G (U.calling g mk a) := ⟨va_K.moved (u := U) (U := U.calling g mk a) (Vm.Alike.refl U.vm) h.1, va_Nw.same (u := U) (U := U.calling g mk a) rfl rfl h.2⟩
-- a method: its name, its code, its locals, its answer, the frames and the words of locals that its callees want
abbrev MI : Type := MethodName × ByteArray × Nat × Option FieldType × Nat × Nat
def rmO (i : MI) : Room := { frames := i.2.2.2.2.1, cells := 0, slots := 0, locals := i.2.2.2.2.2 }
def cwO (i : MI) : Cond := .code i.1 i.2.1 i.2.2.1 i.2.2.2.1
def wsO (i : MI) : List Cond := cwO i :: lwg
theorem wsO_good {i j : MI} (h : cwO j ∈ lwg) : GoodIn (wsO i) (wsO j) := by
  intro w hw
  have h1 : w ∈ lwg := by
    rcases List.mem_cons.mp hw with e | e
    · rw [e]; exact h
    · exact e
  exact ⟨List.mem_cons_of_mem _ h1, lwg_good h1⟩
def PCO (G : GA) (As : List Value) (h : HP) : Array Value → State → Prop := fun v U => v = As.toArray ∧ KK G U ∧ va_P G.2.2 vwCl (wd G h) U.heap
def QCO (G : GA) (Q : Option Value → HP → Prop) : Array Value → State → Outcome → State → Prop := fun _ st o t => (∃ (v : Option Value) (h' : HP), o = .returned v ∧ Q v h' ∧ va_P G.2.2 vwCl (wd G h') t.heap) ∧ va_F (AG G) st t
def Sp (G : GA) (i : MI) (As : List Value) (h : HP) (Q : Option Value → HP → Prop) : Prop := Inj G → ∀ l : Launch, Met l i.1 (wsO i) (rmO i) (PCO G As h) (QCO G Q) 0 0 (AG G)
def Cx (G : GA) (i : MI) (p : Program) (s : State) (m : MethodId) (args : Array Value) (meth : Method) (c : Code) : Prop :=
  p.tables.exec = Jvm.exec ∧ c.code = i.2.1 ∧ c.maxLocals = i.2.2.1 ∧ meth.sig.returnType = i.2.2.2.1 ∧ meth.locks = false ∧ s.vm.findClass i.1.cls = some m.cls ∧ (∀ w ∈ wsO i, w.before args s = true) ∧ Inj G ∧ KK G s
def V (G : GA) (i : MI) (pc : Nat) (L : List (Nat × Value)) (st : List Value) (h : HP) (Q : Option Value → HP → Prop) : Prop :=
  ∀ (p : Program) (l : Launch) (e : Env) (s : State) (m : MethodId) (args : Array Value) (below : List Frame) (meth : Method) (c : Code) (H : Heap) (locs : List Loc) (ls : Array Slot),
    Cx G i p s m args meth c → va_P G.2.2 vwCl (wd G h) H → va_S (AG G) s.heap H locs → lv_has ls i.2.2.1 L →
    W p l e (rmO i) s m args below meth c H locs 0 0 (MQ below (QCO G Q) args s 0 0 (AG G)) (F0 m pc ls st)
theorem Sp_of_V {G : GA} {i : MI} {As : List Value} {h : HP} {Q : Option Value → HP → Prop} {L : List (Nat × Value)} (hp : plainName i.1.cls = true) (hn : (lg_sl As).length ≤ i.2.2.1) (hL : lv_args 0 As = L) (hV : V G i 0 L [] h Q) : Sp G i As h Q := by
  intro hI l
  refine Met.ofW (cc := i.2.1) (maxL := i.2.2.1) (ret := i.2.2.2.1) hp rfl ?_
  intro p e s m args below meth c s₁ B hml hv
  obtain ⟨rfl, hK, hP⟩ := hv
  rw [lg_entry_eq]
  have hl := lv_entry As hn
  rw [hL] at hl
  exact hV p l e s m As.toArray below meth c s.heap [] _ ⟨B.exec, B.bytes, hml, B.returns, B.notSynchronized, findClass_of_methodNamed B.named, atoms_spec B.pre, hI, hK⟩ hP va_S.rf hl
theorem Sp.mono {G : GA} {i : MI} {As : List Value} {h : HP} {Q Q' : Option Value → HP → Prop} (hs : Sp G i As h Q) (hq : ∀ v h', Q v h' → Q' v h') : Sp G i As h Q' := by
  intro hI l
  have hM := hs hI l
  intro p e ha hc hk s m args below hf hpre hP hK
  obtain ⟨n, o, h1, h2, h3, h4⟩ := hM p e ha hc hk s m args below hf hpre hP hK
  obtain ⟨⟨⟨v, h', e1, e2, e3⟩, hF⟩, hL⟩ := h4
  exact ⟨n, o, h1, h2, h3, ⟨⟨v, h', e1, hq v h' e2, e3⟩, hF⟩, hL⟩
end
section
theorem V_iconst {G : GA} {i : MI} {pc : Nat} {L : List (Nat × Value)} {st : List Value} {h : HP} {Q : Option Value → HP → Prop} {n : Int} {v : Int32} (hd : decode i.2.1 pc = .ok (.iconst n, 1)) (hv : Int32.ofInt n = v) (k : V G i (pc + 1) L (.int v :: st) h Q) : V G i pc L (st) h Q := by
  intro p l e s m args below meth c H locs ls C hP hS hl
  exact lv_iconst C.1 C.2.1 hd hv (k p l e s m args below meth c H locs ls C hP hS hl)
theorem V_bipush {G : GA} {i : MI} {pc : Nat} {L : List (Nat × Value)} {st : List Value} {h : HP} {Q : Option Value → HP → Prop} {n : Int} {v : Int32} (hd : decode i.2.1 pc = .ok (.bipush n, 2)) (hv : (Int8.ofInt n).toInt32 = v) (k : V G i (pc + 2) L (.int v :: st) h Q) : V G i pc L (st) h Q := by
  intro p l e s m args below meth c H locs ls C hP hS hl
  exact lv_bipush C.1 C.2.1 hd hv (k p l e s m args below meth c H locs ls C hP hS hl)
theorem V_sipush {G : GA} {i : MI} {pc : Nat} {L : List (Nat × Value)} {st : List Value} {h : HP} {Q : Option Value → HP → Prop} {n : Int} {v : Int32} (hd : decode i.2.1 pc = .ok (.sipush n, 3)) (hv : (Int16.ofInt n).toInt32 = v) (k : V G i (pc + 3) L (.int v :: st) h Q) : V G i pc L (st) h Q := by
  intro p l e s m args below meth c H locs ls C hP hS hl
  exact lv_sipush C.1 C.2.1 hd hv (k p l e s m args below meth c H locs ls C hP hS hl)
theorem V_ldc {G : GA} {i : MI} {pc : Nat} {L : List (Nat × Value)} {st : List Value} {h : HP} {Q : Option Value → HP → Prop} {idx : Nat} {v : Int32} (hd : decode i.2.1 pc = .ok (.ldc idx, 2)) (hw : Cond.constant i.1.cls idx v ∈ lwg) (k : V G i (pc + 2) L (.int v :: st) h Q) : V G i pc L (st) h Q := by
  intro p l e s m args below meth c H locs ls C hP hS hl
  exact lv_ldc C.1 C.2.1 C.2.2.2.2.2.1 (C.2.2.2.2.2.2.1 _ (List.mem_cons_of_mem _ hw)) hd (k p l e s m args below meth c H locs ls C hP hS hl)
theorem V_iload_n {G : GA} {i : MI} {pc : Nat} {L : List (Nat × Value)} {st : List Value} {h : HP} {Q : Option Value → HP → Prop} {n : Fin 4} {j q : Nat} {x : Int32} (hd : decode i.2.1 pc = .ok (.iload_n n, 1)) (hn : (n : Nat) = j) (hL : L[q]? = some (j, .int x)) (k : V G i (pc + 1) L (.int x :: st) h Q) : V G i pc L (st) h Q := by
  intro p l e s m args below meth c H locs ls C hP hS hl
  exact lv_iload_n C.1 C.2.1 hd hn (lv_at hl q hL) (k p l e s m args below meth c H locs ls C hP hS hl)
theorem V_iload {G : GA} {i : MI} {pc : Nat} {L : List (Nat × Value)} {st : List Value} {h : HP} {Q : Option Value → HP → Prop} {j q : Nat} {x : Int32} (hd : decode i.2.1 pc = .ok (.iload j, 2)) (hL : L[q]? = some (j, .int x)) (k : V G i (pc + 2) L (.int x :: st) h Q) : V G i pc L (st) h Q := by
  intro p l e s m args below meth c H locs ls C hP hS hl
  exact lv_iload C.1 C.2.1 hd (lv_at hl q hL) (k p l e s m args below meth c H locs ls C hP hS hl)
theorem V_aload_n {G : GA} {i : MI} {pc : Nat} {L : List (Nat × Value)} {st : List Value} {h : HP} {Q : Option Value → HP → Prop} {n : Fin 4} {j q : Nat} {x : Nat} (hd : decode i.2.1 pc = .ok (.aload_n n, 1)) (hn : (n : Nat) = j) (hL : L[q]? = some (j, .ref x)) (k : V G i (pc + 1) L (.ref x :: st) h Q) : V G i pc L (st) h Q := by
  intro p l e s m args below meth c H locs ls C hP hS hl
  exact lv_aload_n C.1 C.2.1 hd hn (lv_at hl q hL) (k p l e s m args below meth c H locs ls C hP hS hl)
theorem V_aload {G : GA} {i : MI} {pc : Nat} {L : List (Nat × Value)} {st : List Value} {h : HP} {Q : Option Value → HP → Prop} {j q : Nat} {x : Nat} (hd : decode i.2.1 pc = .ok (.aload j, 2)) (hL : L[q]? = some (j, .ref x)) (k : V G i (pc + 2) L (.ref x :: st) h Q) : V G i pc L (st) h Q := by
  intro p l e s m args below meth c H locs ls C hP hS hl
  exact lv_aload C.1 C.2.1 hd (lv_at hl q hL) (k p l e s m args below meth c H locs ls C hP hS hl)
def lset (j : Nat) (v : Value) (L : List (Nat × Value)) : List (Nat × Value) := cond (L.any (fun q => Nat.beq q.1 j)) (L.map (fun q => cond (Nat.beq q.1 j) (j, v) q)) (L ++ [(j, v)])
def cat1 (L : List (Nat × Value)) : Bool := L.all (fun q => q.2.category == 1)
theorem lset_mem {j : Nat} {v : Value} {L : List (Nat × Value)} {q : Nat × Value} (h : q ∈ lset j v L) : q = (j, v) ∨ (q ∈ L ∧ q.1 ≠ j) := by
  unfold lset at h
  cases ha : L.any (fun q => Nat.beq q.1 j) with
  | true =>
    rw [ha] at h
    simp only [cond_true] at h
    obtain ⟨r, hr, e⟩ := List.mem_map.mp h
    cases hb : Nat.beq r.1 j with
    | true => rw [hb] at e; exact Or.inl e.symm
    | false =>
      rw [hb] at e
      simp only [cond_false] at e
      rw [← e]
      exact Or.inr ⟨hr, Nat.ne_of_beq_eq_false hb⟩
  | false =>
    rw [ha] at h
    simp only [cond_false] at h
    rcases List.mem_append.mp h with h1 | h1
    · refine Or.inr ⟨h1, ?_⟩
      have := List.any_eq_false.mp ha q h1
      simpa using this
    · exact Or.inl (List.mem_singleton.mp h1)
theorem lset_has {ls' : Array Slot} {nL j : Nat} {v : Value} {L : List (Nat × Value)} (hc : cat1 L = true) (h : lv_has ls' nL ((j, v) :: L.filter (fun q => !(q.1 == j) && !(q.1 + 1 == j && q.2.category == 2)))) : lv_has ls' nL (lset j v L) := by
  refine ⟨h.1, h.2.1, fun q hq => ?_⟩
  rcases lset_mem hq with e | ⟨e1, e2⟩
  · rw [e]; exact h.2.2 _ List.mem_cons_self
  · refine h.2.2 _ (List.mem_cons_of_mem _ (List.mem_filter.mpr ⟨e1, ?_⟩))
    have h1 := List.all_eq_true.mp hc q e1
    have h2 : q.2.category = 1 := by simpa using h1
    simp [e2, h2]
theorem V_istore_n {G : GA} {i : MI} {pc : Nat} {L : List (Nat × Value)} {st : List Value} {h : HP} {Q : Option Value → HP → Prop} {n : Fin 4} {j : Nat} {x : Int32} {L' : List (Nat × Value)} (hd : decode i.2.1 pc = .ok (.istore_n n, 1)) (hn : (n : Nat) = j) (hj : j < i.2.2.1) (hc : cat1 L = true) (hL : lset j (.int x) L = L') (k : V G i (pc + 1) L' st h Q) : V G i pc L (.int x :: st) h Q := by
  intro p l e s m args below meth c H locs ls C hP hS hl
  exact lv_istore_n C.1 C.2.1 hd hn hl hj rfl (fun ls' hl' => k p l e s m args below meth c H locs ls' C hP hS (hL ▸ lset_has hc hl'))
theorem V_istore {G : GA} {i : MI} {pc : Nat} {L : List (Nat × Value)} {st : List Value} {h : HP} {Q : Option Value → HP → Prop} {j : Nat} {x : Int32} {L' : List (Nat × Value)} (hd : decode i.2.1 pc = .ok (.istore j, 2)) (hj : j < i.2.2.1) (hc : cat1 L = true) (hL : lset j (.int x) L = L') (k : V G i (pc + 2) L' st h Q) : V G i pc L (.int x :: st) h Q := by
  intro p l e s m args below meth c H locs ls C hP hS hl
  exact lv_istore C.1 C.2.1 hd hl hj rfl (fun ls' hl' => k p l e s m args below meth c H locs ls' C hP hS (hL ▸ lset_has hc hl'))
theorem V_astore_n {G : GA} {i : MI} {pc : Nat} {L : List (Nat × Value)} {st : List Value} {h : HP} {Q : Option Value → HP → Prop} {n : Fin 4} {j : Nat} {x : Nat} {L' : List (Nat × Value)} (hd : decode i.2.1 pc = .ok (.astore_n n, 1)) (hn : (n : Nat) = j) (hj : j < i.2.2.1) (hc : cat1 L = true) (hL : lset j (.ref x) L = L') (k : V G i (pc + 1) L' st h Q) : V G i pc L (.ref x :: st) h Q := by
  intro p l e s m args below meth c H locs ls C hP hS hl
  exact lv_astore_n C.1 C.2.1 hd hn hl hj rfl (fun ls' hl' => k p l e s m args below meth c H locs ls' C hP hS (hL ▸ lset_has hc hl'))
theorem V_astore {G : GA} {i : MI} {pc : Nat} {L : List (Nat × Value)} {st : List Value} {h : HP} {Q : Option Value → HP → Prop} {j : Nat} {x : Nat} {L' : List (Nat × Value)} (hd : decode i.2.1 pc = .ok (.astore j, 2)) (hj : j < i.2.2.1) (hc : cat1 L = true) (hL : lset j (.ref x) L = L') (k : V G i (pc + 2) L' st h Q) : V G i pc L (.ref x :: st) h Q := by
  intro p l e s m args below meth c H locs ls C hP hS hl
  exact lv_astore C.1 C.2.1 hd hl hj rfl (fun ls' hl' => k p l e s m args below meth c H locs ls' C hP hS (hL ▸ lset_has hc hl'))
theorem V_iinc {G : GA} {i : MI} {pc : Nat} {L : List (Nat × Value)} {st : List Value} {h : HP} {Q : Option Value → HP → Prop} {j q : Nat} {n : Int} {x a : Int32} {L' : List (Nat × Value)} (hd : decode i.2.1 pc = .ok (.iinc j n, 3)) (hq : L[q]? = some (j, .int x)) (ha : Int32.ofInt n = a) (hj : j < i.2.2.1) (hc : cat1 L = true) (hL : lset j (.int (x + a)) L = L') (k : V G i (pc + 3) L' st h Q) : V G i pc L st h Q := by
  intro p l e s m args below meth c H locs ls C hP hS hl
  exact lv_iinc C.1 C.2.1 hd hl hq (by rw [ha]) hj rfl (fun ls' hl' => k p l e s m args below meth c H locs ls' C hP hS (hL ▸ lset_has hc hl'))
theorem V_pick {G : GA} {i : MI} {pc : Nat} {L : List (Nat × Value)} {st : List Value} {h : HP} {Q : Option Value → HP → Prop} {L' : List (Nat × Value)} (ks : List Nat) (hk : lv_pick L ks = L') (k : V G i pc L' st h Q) : V G i pc L st h Q := by
  intro p l e s m args below meth c H locs ls C hP hS hl
  exact k p l e s m args below meth c H locs ls C hP hS (lv_sub hl ks hk)
theorem V_iadd {G : GA} {i : MI} {pc : Nat} {L : List (Nat × Value)} {st : List Value} {h : HP} {Q : Option Value → HP → Prop} {x y : Int32} (hd : decode i.2.1 pc = .ok (.iadd, 1)) (k : V G i (pc + 1) L (.int (x + y) :: st) h Q) : V G i pc L (.int y :: .int x :: st) h Q := by
  intro p l e s m args below meth c H locs ls C hP hS hl
  exact lv_iadd C.1 C.2.1 hd (k p l e s m args below meth c H locs ls C hP hS hl)
theorem V_isub {G : GA} {i : MI} {pc : Nat} {L : List (Nat × Value)} {st : List Value} {h : HP} {Q : Option Value → HP → Prop} {x y : Int32} (hd : decode i.2.1 pc = .ok (.isub, 1)) (k : V G i (pc + 1) L (.int (x - y) :: st) h Q) : V G i pc L (.int y :: .int x :: st) h Q := by
  intro p l e s m args below meth c H locs ls C hP hS hl
  exact lv_isub C.1 C.2.1 hd (k p l e s m args below meth c H locs ls C hP hS hl)
theorem V_imul {G : GA} {i : MI} {pc : Nat} {L : List (Nat × Value)} {st : List Value} {h : HP} {Q : Option Value → HP → Prop} {x y : Int32} (hd : decode i.2.1 pc = .ok (.imul, 1)) (k : V G i (pc + 1) L (.int (x * y) :: st) h Q) : V G i pc L (.int y :: .int x :: st) h Q := by
  intro p l e s m args below meth c H locs ls C hP hS hl
  exact lv_imul C.1 C.2.1 hd (k p l e s m args below meth c H locs ls C hP hS hl)
theorem V_iand {G : GA} {i : MI} {pc : Nat} {L : List (Nat × Value)} {st : List Value} {h : HP} {Q : Option Value → HP → Prop} {x y : Int32} (hd : decode i.2.1 pc = .ok (.iand, 1)) (k : V G i (pc + 1) L (.int (x &&& y) :: st) h Q) : V G i pc L (.int y :: .int x :: st) h Q := by
  intro p l e s m args below meth c H locs ls C hP hS hl
  exact lv_iand C.1 C.2.1 hd (k p l e s m args below meth c H locs ls C hP hS hl)
theorem V_ior {G : GA} {i : MI} {pc : Nat} {L : List (Nat × Value)} {st : List Value} {h : HP} {Q : Option Value → HP → Prop} {x y : Int32} (hd : decode i.2.1 pc = .ok (.ior, 1)) (k : V G i (pc + 1) L (.int (x ||| y) :: st) h Q) : V G i pc L (.int y :: .int x :: st) h Q := by
  intro p l e s m args below meth c H locs ls C hP hS hl
  exact lv_ior C.1 C.2.1 hd (k p l e s m args below meth c H locs ls C hP hS hl)
theorem V_ixor {G : GA} {i : MI} {pc : Nat} {L : List (Nat × Value)} {st : List Value} {h : HP} {Q : Option Value → HP → Prop} {x y : Int32} (hd : decode i.2.1 pc = .ok (.ixor, 1)) (k : V G i (pc + 1) L (.int (x ^^^ y) :: st) h Q) : V G i pc L (.int y :: .int x :: st) h Q := by
  intro p l e s m args below meth c H locs ls C hP hS hl
  exact lv_ixor C.1 C.2.1 hd (k p l e s m args below meth c H locs ls C hP hS hl)
theorem V_ishl {G : GA} {i : MI} {pc : Nat} {L : List (Nat × Value)} {st : List Value} {h : HP} {Q : Option Value → HP → Prop} {x y : Int32} (hd : decode i.2.1 pc = .ok (.ishl, 1)) (k : V G i (pc + 1) L (.int (x <<< (y &&& 31)) :: st) h Q) : V G i pc L (.int y :: .int x :: st) h Q := by
  intro p l e s m args below meth c H locs ls C hP hS hl
  exact lv_ishl C.1 C.2.1 hd (k p l e s m args below meth c H locs ls C hP hS hl)
theorem V_ishr {G : GA} {i : MI} {pc : Nat} {L : List (Nat × Value)} {st : List Value} {h : HP} {Q : Option Value → HP → Prop} {x y : Int32} (hd : decode i.2.1 pc = .ok (.ishr, 1)) (k : V G i (pc + 1) L (.int (x >>> (y &&& 31)) :: st) h Q) : V G i pc L (.int y :: .int x :: st) h Q := by
  intro p l e s m args below meth c H locs ls C hP hS hl
  exact lv_ishr C.1 C.2.1 hd (k p l e s m args below meth c H locs ls C hP hS hl)
theorem V_iushr {G : GA} {i : MI} {pc : Nat} {L : List (Nat × Value)} {st : List Value} {h : HP} {Q : Option Value → HP → Prop} {x y : Int32} (hd : decode i.2.1 pc = .ok (.iushr, 1)) (k : V G i (pc + 1) L (.int ((x.toUInt32 >>> (y.toUInt32 &&& Int32.toUInt32 31)).toInt32) :: st) h Q) : V G i pc L (.int y :: .int x :: st) h Q := by
  intro p l e s m args below meth c H locs ls C hP hS hl
  exact lv_iushr C.1 C.2.1 hd rfl (k p l e s m args below meth c H locs ls C hP hS hl)
theorem V_ineg {G : GA} {i : MI} {pc : Nat} {L : List (Nat × Value)} {st : List Value} {h : HP} {Q : Option Value → HP → Prop} {x : Int32} (hd : decode i.2.1 pc = .ok (.ineg, 1)) (k : V G i (pc + 1) L (.int (-x) :: st) h Q) : V G i pc L (.int x :: st) h Q := by
  intro p l e s m args below meth c H locs ls C hP hS hl
  exact lv_ineg C.1 C.2.1 hd (k p l e s m args below meth c H locs ls C hP hS hl)
theorem V_idiv {G : GA} {i : MI} {pc : Nat} {L : List (Nat × Value)} {st : List Value} {h : HP} {Q : Option Value → HP → Prop} {x y : Int32} (hd : decode i.2.1 pc = .ok (.idiv, 1)) (hne : ¬ y = 0) (k : V G i (pc + 1) L (.int (x / y) :: st) h Q) : V G i pc L (.int y :: .int x :: st) h Q := by
  intro p l e s m args below meth c H locs ls C hP hS hl
  exact lv_idiv C.1 C.2.1 hd hne (k p l e s m args below meth c H locs ls C hP hS hl)
theorem V_irem {G : GA} {i : MI} {pc : Nat} {L : List (Nat × Value)} {st : List Value} {h : HP} {Q : Option Value → HP → Prop} {x y : Int32} (hd : decode i.2.1 pc = .ok (.irem, 1)) (hne : ¬ y = 0) (k : V G i (pc + 1) L (.int (x - x / y * y) :: st) h Q) : V G i pc L (.int y :: .int x :: st) h Q := by
  intro p l e s m args below meth c H locs ls C hP hS hl
  exact lv_irem C.1 C.2.1 hd hne (k p l e s m args below meth c H locs ls C hP hS hl)
theorem V_i2l {G : GA} {i : MI} {pc : Nat} {L : List (Nat × Value)} {st : List Value} {h : HP} {Q : Option Value → HP → Prop} {x : Int32} (hd : decode i.2.1 pc = .ok (.i2l, 1)) (k : V G i (pc + 1) L (.long x.toInt64 :: st) h Q) : V G i pc L (.int x :: st) h Q := by
  intro p l e s m args below meth c H locs ls C hP hS hl
  exact lv_i2l C.1 C.2.1 hd rfl (k p l e s m args below meth c H locs ls C hP hS hl)
theorem V_ladd {G : GA} {i : MI} {pc : Nat} {L : List (Nat × Value)} {st : List Value} {h : HP} {Q : Option Value → HP → Prop} {x y : Int64} (hd : decode i.2.1 pc = .ok (.ladd, 1)) (k : V G i (pc + 1) L (.long (x + y) :: st) h Q) : V G i pc L (.long y :: .long x :: st) h Q := by
  intro p l e s m args below meth c H locs ls C hP hS hl
  exact lv_ladd C.1 C.2.1 hd (k p l e s m args below meth c H locs ls C hP hS hl)
theorem V_lcmp {G : GA} {i : MI} {pc : Nat} {L : List (Nat × Value)} {st : List Value} {h : HP} {Q : Option Value → HP → Prop} {x y : Int64} (hd : decode i.2.1 pc = .ok (.lcmp, 1)) (k : V G i (pc + 1) L (.int (lg_cmp x y) :: st) h Q) : V G i pc L (.long y :: .long x :: st) h Q := by
  intro p l e s m args below meth c H locs ls C hP hS hl
  exact W.lcmp C.1 C.2.1 hd (k p l e s m args below meth c H locs ls C hP hS hl)
theorem V_dup {G : GA} {i : MI} {pc : Nat} {L : List (Nat × Value)} {st : List Value} {h : HP} {Q : Option Value → HP → Prop} {a : Value} (hd : decode i.2.1 pc = .ok (.dup, 1)) (ha : a.category = 1) (k : V G i (pc + 1) L (a :: a :: st) h Q) : V G i pc L (a :: st) h Q := by
  intro p l e s m args below meth c H locs ls C hP hS hl
  exact lv_dup C.1 C.2.1 hd ha (k p l e s m args below meth c H locs ls C hP hS hl)
theorem V_dup_x1 {G : GA} {i : MI} {pc : Nat} {L : List (Nat × Value)} {st : List Value} {h : HP} {Q : Option Value → HP → Prop} {a b : Value} (hd : decode i.2.1 pc = .ok (.dup_x1, 1)) (ha : a.category = 1) (hb : b.category = 1) (k : V G i (pc + 1) L (a :: b :: a :: st) h Q) : V G i pc L (a :: b :: st) h Q := by
  intro p l e s m args below meth c H locs ls C hP hS hl
  exact lv_dup_x1 C.1 C.2.1 hd ha hb (k p l e s m args below meth c H locs ls C hP hS hl)
theorem V_dup2 {G : GA} {i : MI} {pc : Nat} {L : List (Nat × Value)} {st : List Value} {h : HP} {Q : Option Value → HP → Prop} {a b : Value} (hd : decode i.2.1 pc = .ok (.dup2, 1)) (ha : a.category = 1) (hb : b.category = 1) (k : V G i (pc + 1) L (a :: b :: a :: b :: st) h Q) : V G i pc L (a :: b :: st) h Q := by
  intro p l e s m args below meth c H locs ls C hP hS hl
  exact lv_dup2_11 C.1 C.2.1 hd ha hb (k p l e s m args below meth c H locs ls C hP hS hl)
theorem V_goto {G : GA} {i : MI} {pc : Nat} {L : List (Nat × Value)} {st : List Value} {h : HP} {Q : Option Value → HP → Prop} {off : Int} {tgt : Nat} (hd : decode i.2.1 pc = .ok (.goto off, 3)) (ht : (pc : Int) + off = (tgt : Int)) (k : V G i tgt L st h Q) : V G i pc L (st) h Q := by
  intro p l e s m args below meth c H locs ls C hP hS hl
  exact lv_goto C.1 C.2.1 hd ht (k p l e s m args below meth c H locs ls C hP hS hl)
theorem V_if_eq {G : GA} {i : MI} {pc : Nat} {L : List (Nat × Value)} {st : List Value} {h : HP} {Q : Option Value → HP → Prop} {x : Int32} {off : Int} {tgt : Nat} (hd : decode i.2.1 pc = .ok (.ifCond .eq off, 3)) (ht : (pc : Int) + off = (tgt : Int)) (kt : (x = 0) → V G i tgt L st h Q) (kf : ¬ x = 0 → V G i (pc + 3) L st h Q) : V G i pc L (.int x :: st) h Q := by
  intro p l e s m args below meth c H locs ls C hP hS hl
  exact lv_if_eq C.1 C.2.1 hd ht (fun q => kt q p l e s m args below meth c H locs ls C hP hS hl) (fun q => kf q p l e s m args below meth c H locs ls C hP hS hl)
theorem V_icmp_eq {G : GA} {i : MI} {pc : Nat} {L : List (Nat × Value)} {st : List Value} {h : HP} {Q : Option Value → HP → Prop} {x y : Int32} {off : Int} {tgt : Nat} (hd : decode i.2.1 pc = .ok (.if_icmp .eq off, 3)) (ht : (pc : Int) + off = (tgt : Int)) (kt : (x = y) → V G i tgt L st h Q) (kf : ¬ x = y → V G i (pc + 3) L st h Q) : V G i pc L (.int y :: .int x :: st) h Q := by
  intro p l e s m args below meth c H locs ls C hP hS hl
  exact lv_icmp_eq C.1 C.2.1 hd ht (fun q => kt q p l e s m args below meth c H locs ls C hP hS hl) (fun q => kf q p l e s m args below meth c H locs ls C hP hS hl)
theorem V_if_ne {G : GA} {i : MI} {pc : Nat} {L : List (Nat × Value)} {st : List Value} {h : HP} {Q : Option Value → HP → Prop} {x : Int32} {off : Int} {tgt : Nat} (hd : decode i.2.1 pc = .ok (.ifCond .ne off, 3)) (ht : (pc : Int) + off = (tgt : Int)) (kt : (¬ x = 0) → V G i tgt L st h Q) (kf : x = 0 → V G i (pc + 3) L st h Q) : V G i pc L (.int x :: st) h Q := by
  intro p l e s m args below meth c H locs ls C hP hS hl
  exact lv_if_ne C.1 C.2.1 hd ht (fun q => kt q p l e s m args below meth c H locs ls C hP hS hl) (fun q => kf q p l e s m args below meth c H locs ls C hP hS hl)
theorem V_icmp_ne {G : GA} {i : MI} {pc : Nat} {L : List (Nat × Value)} {st : List Value} {h : HP} {Q : Option Value → HP → Prop} {x y : Int32} {off : Int} {tgt : Nat} (hd : decode i.2.1 pc = .ok (.if_icmp .ne off, 3)) (ht : (pc : Int) + off = (tgt : Int)) (kt : (¬ x = y) → V G i tgt L st h Q) (kf : x = y → V G i (pc + 3) L st h Q) : V G i pc L (.int y :: .int x :: st) h Q := by
  intro p l e s m args below meth c H locs ls C hP hS hl
  exact lv_icmp_ne C.1 C.2.1 hd ht (fun q => kt q p l e s m args below meth c H locs ls C hP hS hl) (fun q => kf q p l e s m args below meth c H locs ls C hP hS hl)
theorem V_if_lt {G : GA} {i : MI} {pc : Nat} {L : List (Nat × Value)} {st : List Value} {h : HP} {Q : Option Value → HP → Prop} {x : Int32} {off : Int} {tgt : Nat} (hd : decode i.2.1 pc = .ok (.ifCond .lt off, 3)) (ht : (pc : Int) + off = (tgt : Int)) (kt : (x < 0) → V G i tgt L st h Q) (kf : ¬ x < 0 → V G i (pc + 3) L st h Q) : V G i pc L (.int x :: st) h Q := by
  intro p l e s m args below meth c H locs ls C hP hS hl
  exact lv_if_lt C.1 C.2.1 hd ht (fun q => kt q p l e s m args below meth c H locs ls C hP hS hl) (fun q => kf q p l e s m args below meth c H locs ls C hP hS hl)
theorem V_icmp_lt {G : GA} {i : MI} {pc : Nat} {L : List (Nat × Value)} {st : List Value} {h : HP} {Q : Option Value → HP → Prop} {x y : Int32} {off : Int} {tgt : Nat} (hd : decode i.2.1 pc = .ok (.if_icmp .lt off, 3)) (ht : (pc : Int) + off = (tgt : Int)) (kt : (x < y) → V G i tgt L st h Q) (kf : ¬ x < y → V G i (pc + 3) L st h Q) : V G i pc L (.int y :: .int x :: st) h Q := by
  intro p l e s m args below meth c H locs ls C hP hS hl
  exact lv_icmp_lt C.1 C.2.1 hd ht (fun q => kt q p l e s m args below meth c H locs ls C hP hS hl) (fun q => kf q p l e s m args below meth c H locs ls C hP hS hl)
theorem V_if_ge {G : GA} {i : MI} {pc : Nat} {L : List (Nat × Value)} {st : List Value} {h : HP} {Q : Option Value → HP → Prop} {x : Int32} {off : Int} {tgt : Nat} (hd : decode i.2.1 pc = .ok (.ifCond .ge off, 3)) (ht : (pc : Int) + off = (tgt : Int)) (kt : (0 ≤ x) → V G i tgt L st h Q) (kf : ¬ 0 ≤ x → V G i (pc + 3) L st h Q) : V G i pc L (.int x :: st) h Q := by
  intro p l e s m args below meth c H locs ls C hP hS hl
  exact lv_if_ge C.1 C.2.1 hd ht (fun q => kt q p l e s m args below meth c H locs ls C hP hS hl) (fun q => kf q p l e s m args below meth c H locs ls C hP hS hl)
theorem V_icmp_ge {G : GA} {i : MI} {pc : Nat} {L : List (Nat × Value)} {st : List Value} {h : HP} {Q : Option Value → HP → Prop} {x y : Int32} {off : Int} {tgt : Nat} (hd : decode i.2.1 pc = .ok (.if_icmp .ge off, 3)) (ht : (pc : Int) + off = (tgt : Int)) (kt : (y ≤ x) → V G i tgt L st h Q) (kf : ¬ y ≤ x → V G i (pc + 3) L st h Q) : V G i pc L (.int y :: .int x :: st) h Q := by
  intro p l e s m args below meth c H locs ls C hP hS hl
  exact lv_icmp_ge C.1 C.2.1 hd ht (fun q => kt q p l e s m args below meth c H locs ls C hP hS hl) (fun q => kf q p l e s m args below meth c H locs ls C hP hS hl)
theorem V_if_gt {G : GA} {i : MI} {pc : Nat} {L : List (Nat × Value)} {st : List Value} {h : HP} {Q : Option Value → HP → Prop} {x : Int32} {off : Int} {tgt : Nat} (hd : decode i.2.1 pc = .ok (.ifCond .gt off, 3)) (ht : (pc : Int) + off = (tgt : Int)) (kt : (0 < x) → V G i tgt L st h Q) (kf : ¬ 0 < x → V G i (pc + 3) L st h Q) : V G i pc L (.int x :: st) h Q := by
  intro p l e s m args below meth c H locs ls C hP hS hl
  exact lv_if_gt C.1 C.2.1 hd ht (fun q => kt q p l e s m args below meth c H locs ls C hP hS hl) (fun q => kf q p l e s m args below meth c H locs ls C hP hS hl)
theorem V_icmp_gt {G : GA} {i : MI} {pc : Nat} {L : List (Nat × Value)} {st : List Value} {h : HP} {Q : Option Value → HP → Prop} {x y : Int32} {off : Int} {tgt : Nat} (hd : decode i.2.1 pc = .ok (.if_icmp .gt off, 3)) (ht : (pc : Int) + off = (tgt : Int)) (kt : (y < x) → V G i tgt L st h Q) (kf : ¬ y < x → V G i (pc + 3) L st h Q) : V G i pc L (.int y :: .int x :: st) h Q := by
  intro p l e s m args below meth c H locs ls C hP hS hl
  exact lv_icmp_gt C.1 C.2.1 hd ht (fun q => kt q p l e s m args below meth c H locs ls C hP hS hl) (fun q => kf q p l e s m args below meth c H locs ls C hP hS hl)
theorem V_if_le {G : GA} {i : MI} {pc : Nat} {L : List (Nat × Value)} {st : List Value} {h : HP} {Q : Option Value → HP → Prop} {x : Int32} {off : Int} {tgt : Nat} (hd : decode i.2.1 pc = .ok (.ifCond .le off, 3)) (ht : (pc : Int) + off = (tgt : Int)) (kt : (x ≤ 0) → V G i tgt L st h Q) (kf : ¬ x ≤ 0 → V G i (pc + 3) L st h Q) : V G i pc L (.int x :: st) h Q := by
  intro p l e s m args below meth c H locs ls C hP hS hl
  exact lv_if_le C.1 C.2.1 hd ht (fun q => kt q p l e s m args below meth c H locs ls C hP hS hl) (fun q => kf q p l e s m args below meth c H locs ls C hP hS hl)
theorem V_icmp_le {G : GA} {i : MI} {pc : Nat} {L : List (Nat × Value)} {st : List Value} {h : HP} {Q : Option Value → HP → Prop} {x y : Int32} {off : Int} {tgt : Nat} (hd : decode i.2.1 pc = .ok (.if_icmp .le off, 3)) (ht : (pc : Int) + off = (tgt : Int)) (kt : (x ≤ y) → V G i tgt L st h Q) (kf : ¬ x ≤ y → V G i (pc + 3) L st h Q) : V G i pc L (.int y :: .int x :: st) h Q := by
  intro p l e s m args below meth c H locs ls C hP hS hl
  exact lv_icmp_le C.1 C.2.1 hd ht (fun q => kt q p l e s m args below meth c H locs ls C hP hS hl) (fun q => kf q p l e s m args below meth c H locs ls C hP hS hl)
theorem b2i_0 {b : Bool} : b2i b = 0 ↔ b = false := by cases b <;> decide
theorem V_ifb_eq {G : GA} {i : MI} {pc : Nat} {L : List (Nat × Value)} {st : List Value} {h : HP} {Q : Option Value → HP → Prop} {b : Bool} {off : Int} {tgt : Nat} (hd : decode i.2.1 pc = .ok (.ifCond .eq off, 3)) (ht : (pc : Int) + off = (tgt : Int)) (kt : b = false → V G i tgt L st h Q) (kf : ¬ b = false → V G i (pc + 3) L st h Q) : V G i pc L (.int (b2i b) :: st) h Q :=
  V_if_eq hd ht (fun q => kt (by cases b <;> simp_all [b2i])) (fun q => kf (by cases b <;> simp_all [b2i]))
theorem V_ifb_ne {G : GA} {i : MI} {pc : Nat} {L : List (Nat × Value)} {st : List Value} {h : HP} {Q : Option Value → HP → Prop} {b : Bool} {off : Int} {tgt : Nat} (hd : decode i.2.1 pc = .ok (.ifCond .ne off, 3)) (ht : (pc : Int) + off = (tgt : Int)) (kt : b = true → V G i tgt L st h Q) (kf : ¬ b = true → V G i (pc + 3) L st h Q) : V G i pc L (.int (b2i b) :: st) h Q :=
  V_if_ne hd ht (fun q => kt (by cases b <;> simp_all [b2i])) (fun q => kf (by cases b <;> simp_all [b2i]))
def FOK (own : String) (idx ci j : Nat) (Cn : String) (T : u_T) (N : Nat) : Prop := vwCl[ci]? = some (Cn, T, N) ∧ j < N ∧ (∀ w ∈ u_ws Cn T N, w ∈ lwg) ∧ Cond.fieldLink own idx (T j).1 (T j).2.1 (T j).2.2.1 ∈ lwg
def POK (T : u_T) (N j : Nat) : Prop := ∃ ty0 : Nat → FieldType, (∀ k, k < N → parseFieldDescriptor (T k).2.2.1 = some (ty0 k)) ∧ (∀ a, a < N → ∀ b, b < N → a ≠ b → (T a).2.1 ≠ (T b).2.1) ∧ (T j).2.2.2 = false ∧ parseFieldDescriptor (T j).2.2.1 = some .int
theorem V_getr {G : GA} {i : MI} {pc : Nat} {L : List (Nat × Value)} {st : List Value} {h : HP} {Q : Option Value → HP → Prop} {idx ci j k0 r : Nat} {Cn : String} {T : u_T} {N : Nat} {fl : List (Option Nat)} (hf : FOK i.1.cls idx ci j Cn T N) (hd : decode i.2.1 pc = .ok (.getfield idx, 3)) (hs : shape[k0]? = some (.inr (ci, fl))) (ho : fl[j]? = some (some r)) (k : V G i (pc + 3) L (.ref (G.1 r) :: st) h Q) : V G i pc L (.ref (G.1 k0) :: st) h Q := by
  intro p l e s m args below meth c H locs ls C hP hS hl
  exact va_get C.1 C.2.1 C.2.2.2.2.2.2.1 (fun w hw => List.mem_cons_of_mem _ (hf.2.2.1 w hw)) C.2.2.2.2.2.1 C.2.2.2.2.2.2.2.2.1 hP k0 (wd_get G h hs) hf.1 j hf.2.1 (C.2.2.2.2.2.2.1 _ (List.mem_cons_of_mem _ hf.2.2.2)) (fun _ h9 => h9) (ceF_get G (h k0) fl 0 j (some r) ho) hd (k p l e s m args below meth c H locs ls C hP hS hl)
theorem V_geti {G : GA} {i : MI} {pc : Nat} {L : List (Nat × Value)} {st : List Value} {h : HP} {Q : Option Value → HP → Prop} {idx ci j k0 : Nat} {Cn : String} {T : u_T} {N : Nat} {fl : List (Option Nat)} (hf : FOK i.1.cls idx ci j Cn T N) (hd : decode i.2.1 pc = .ok (.getfield idx, 3)) (hs : shape[k0]? = some (.inr (ci, fl))) (ho : fl[j]? = some none) (k : V G i (pc + 3) L (.int (h k0 j) :: st) h Q) : V G i pc L (.ref (G.1 k0) :: st) h Q := by
  intro p l e s m args below meth c H locs ls C hP hS hl
  exact va_get C.1 C.2.1 C.2.2.2.2.2.2.1 (fun w hw => List.mem_cons_of_mem _ (hf.2.2.1 w hw)) C.2.2.2.2.2.1 C.2.2.2.2.2.2.2.2.1 hP k0 (wd_get G h hs) hf.1 j hf.2.1 (C.2.2.2.2.2.2.1 _ (List.mem_cons_of_mem _ hf.2.2.2)) (fun _ h9 => h9) (by have := ceF_get G (h k0) fl 0 j none ho; rw [Nat.zero_add] at this; exact this) hd (k p l e s m args below meth c H locs ls C hP hS hl)
theorem V_put {G : GA} {i : MI} {pc : Nat} {L : List (Nat × Value)} {st : List Value} {h : HP} {Q : Option Value → HP → Prop} {idx ci j k0 : Nat} {Cn : String} {T : u_T} {N : Nat} {fl : List (Option Nat)} {x : Int32} (hf : FOK i.1.cls idx ci j Cn T N) (hp : POK T N j) (hd : decode i.2.1 pc = .ok (.putfield idx, 3)) (hs : shape[k0]? = some (.inr (ci, fl))) (ho : fl[j]? = some none) (k : V G i (pc + 3) L st (up h k0 j x) Q) : V G i pc L (.int x :: .ref (G.1 k0) :: st) h Q := by
  intro p l e s m args below meth c H locs ls C hP hS hl
  obtain ⟨ty0, hty, hnm, hfin, hpd⟩ := hp
  have hjl : j < (ceF G (h k0) 0 fl).length := by rw [ceF_len]; exact (List.getElem?_eq_some_iff.mp ho).1
  refine va_put C.1 C.2.1 C.2.2.2.2.2.2.1 (fun w hw => List.mem_cons_of_mem _ (hf.2.2.1 w hw)) ty0 hty hnm C.2.2.2.2.2.1 C.2.2.2.2.2.2.2.2.1 hP (wd_D G h C.2.2.2.2.2.2.2.1) hS k0 (wd_get G h hs) hf.1 j hf.2.1 (C.2.2.2.2.2.2.1 _ (List.mem_cons_of_mem _ hf.2.2.2)) (fun _ h9 => h9) hfin hpd rfl rfl hjl hd (fun H1 locs1 hP1 hD1 hS1 => ?_)
  refine k p l e s m args below meth c H1 locs1 ls C ?_ hS1 hl
  have e1 := ceF_set G (h k0) x fl 0 j ho
  have e2 := wd_set G h (upd (h k0) j x) hs
  rw [Nat.zero_add] at e1
  rw [e1] at hP1
  unfold up
  rw [← e2]
  exact hP1
theorem V_iald {G : GA} {i : MI} {pc : Nat} {L : List (Nat × Value)} {st : List Value} {h : HP} {Q : Option Value → HP → Prop} {k0 n : Nat} {x : Int32} (hd : decode i.2.1 pc = .ok (.iaload, 1)) (hs : shape[k0]? = some (.inl (n, false))) (hin : vp_in x n) (k : V G i (pc + 1) L (.int (h k0 (tn x)) :: st) h Q) : V G i pc L (.int x :: .ref (G.1 k0) :: st) h Q := by
  intro p l e s m args below meth c H locs ls C hP hS hl
  exact va_iald C.1 C.2.1 C.2.2.2.2.2.2.2.2.1 hP k0 0 (wd_get G h hs) rfl hin hd (k p l e s m args below meth c H locs ls C hP hS hl)
theorem V_zald {G : GA} {i : MI} {pc : Nat} {L : List (Nat × Value)} {st : List Value} {h : HP} {Q : Option Value → HP → Prop} {k0 n : Nat} {x : Int32} (hd : decode i.2.1 pc = .ok (.baload, 1)) (hs : shape[k0]? = some (.inl (n, true))) (hin : vp_in x n) (k : V G i (pc + 1) L (.int (h k0 (tn x)) :: st) h Q) : V G i pc L (.int x :: .ref (G.1 k0) :: st) h Q := by
  intro p l e s m args below meth c H locs ls C hP hS hl
  exact va_zald C.1 C.2.1 C.2.2.2.2.2.2.2.2.1 hP k0 1 (wd_get G h hs) rfl hin hd (k p l e s m args below meth c H locs ls C hP hS hl)
theorem V_iast {G : GA} {i : MI} {pc : Nat} {L : List (Nat × Value)} {st : List Value} {h : HP} {Q : Option Value → HP → Prop} {k0 n : Nat} {x y : Int32} (hd : decode i.2.1 pc = .ok (.iastore, 1)) (hs : shape[k0]? = some (.inl (n, false))) (hin : vp_in x n) (k : V G i (pc + 1) L st (up h k0 (tn x) y) Q) : V G i pc L (.int y :: .int x :: .ref (G.1 k0) :: st) h Q := by
  intro p l e s m args below meth c H locs ls C hP hS hl
  refine va_iast C.1 C.2.1 C.2.2.2.2.2.2.2.2.1 hP (wd_D G h C.2.2.2.2.2.2.2.1) hS k0 0 (wd_get G h hs) rfl hin hd (fun H1 locs1 hP1 hD1 hS1 => ?_)
  refine k p l e s m args below meth c H1 locs1 ls C ?_ hS1 hl
  have e2 := wd_set G h (upd (h k0) (tn x) y) hs
  unfold up
  rw [← e2]
  exact hP1
theorem nar_b2i (b : Bool) : vp_nar .boolean (b2i b) = b2i b := by cases b <;> rfl
theorem V_zast {G : GA} {i : MI} {pc : Nat} {L : List (Nat × Value)} {st : List Value} {h : HP} {Q : Option Value → HP → Prop} {k0 n : Nat} {x : Int32} {b : Bool} (hd : decode i.2.1 pc = .ok (.bastore, 1)) (hs : shape[k0]? = some (.inl (n, true))) (hin : vp_in x n) (k : V G i (pc + 1) L st (up h k0 (tn x) (b2i b)) Q) : V G i pc L (.int (b2i b) :: .int x :: .ref (G.1 k0) :: st) h Q := by
  intro p l e s m args below meth c H locs ls C hP hS hl
  refine va_zast C.1 C.2.1 C.2.2.2.2.2.2.2.2.1 hP (wd_D G h C.2.2.2.2.2.2.2.1) hS k0 1 (wd_get G h hs) rfl hin hd (fun H1 locs1 hP1 hD1 hS1 => ?_)
  refine k p l e s m args below meth c H1 locs1 ls C ?_ hS1 hl
  have e2 := wd_set G h (upd (h k0) (tn x) (b2i b)) hs
  rw [nar_b2i] at hP1
  unfold up
  rw [← e2]
  exact hP1
theorem V_alen {G : GA} {i : MI} {pc : Nat} {L : List (Nat × Value)} {st : List Value} {h : HP} {Q : Option Value → HP → Prop} {k0 n : Nat} {v : Int32} (hd : decode i.2.1 pc = .ok (.arraylength, 1)) (hs : shape[k0]? = some (.inl (n, false))) (hv : Int32.ofNat n = v) (k : V G i (pc + 1) L (.int v :: st) h Q) : V G i pc L (.ref (G.1 k0) :: st) h Q := by
  intro p l e s m args below meth c H locs ls C hP hS hl
  exact va_alen (ty := .int) C.1 C.2.1 C.2.2.2.2.2.2.2.2.1 hP k0 0 (wd_get G h hs) rfl hv hd (k p l e s m args below meth c H locs ls C hP hS hl)
-- answers
def qI (K : Int32 → HP → Prop) : Option Value → HP → Prop := fun v h => ∃ r : Int32, v = some (.int r) ∧ K r h
def qB (K : Bool → HP → Prop) : Option Value → HP → Prop := fun v h => ∃ r : Bool, v = some (.int (b2i r)) ∧ K r h
def qV (K : HP → Prop) : Option Value → HP → Prop := fun v h => v = none ∧ K h
theorem V_iret {G : GA} {i : MI} {pc : Nat} {L : List (Nat × Value)} {h : HP} {x : Int32} {K : Int32 → HP → Prop} (hr : i.2.2.2.1 = some .int) (hd : decode i.2.1 pc = .ok (.ireturn, 1)) (hk : K x h) : V G i pc L [.int x] h (qI K) := by
  intro p l e s m args below meth c H locs ls C hP hS hl
  exact W.iret (v := x) C.1 C.2.1 (C.2.2.2.1.trans hr) (fun t ht hW => ⟨⟨some (.int x), h, rfl, ⟨x, rfl, hk⟩, by rw [ht]; exact hP⟩, hS.F ht⟩) hS.2.2 hd (hlocks := C.2.2.2.2.1)
theorem V_zret {G : GA} {i : MI} {pc : Nat} {L : List (Nat × Value)} {h : HP} {b : Bool} {K : Bool → HP → Prop} (hr : i.2.2.2.1 = some .boolean) (hd : decode i.2.1 pc = .ok (.ireturn, 1)) (hk : K b h) : V G i pc L [.int (b2i b)] h (qB K) := by
  intro p l e s m args below meth c H locs ls C hP hS hl
  exact W.zret (v := b2i b) (ty := .boolean) C.1 C.2.1 (C.2.2.2.1.trans hr) (by cases b <;> rfl) (fun t ht hW => ⟨⟨some (.int (b2i b)), h, rfl, ⟨b, rfl, hk⟩, by rw [ht]; exact hP⟩, hS.F ht⟩) hS.2.2 hd (hlocks := C.2.2.2.2.1)
theorem V_vret {G : GA} {i : MI} {pc : Nat} {L : List (Nat × Value)} {h : HP} {K : HP → Prop} (hr : i.2.2.2.1 = none) (hd : decode i.2.1 pc = .ok (.return_, 1)) (hk : K h) : V G i pc L [] h (qV K) := by
  intro p l e s m args below meth c H locs ls C hP hS hl
  exact W.vret C.1 C.2.1 (C.2.2.2.1.trans hr) (fun t ht hW => ⟨⟨none, h, rfl, ⟨rfl, hk⟩, by rw [ht]; exact hP⟩, hS.F ht⟩) hS.2.2 hd (hlocks := C.2.2.2.2.1)
-- calls
def COK (i j : MI) (idx n : Nat) : Prop := cwO j ∈ lwg ∧ Cond.methodLink i.1.cls idx j.1 ∈ lwg ∧ Cond.initialized j.1.cls ∈ lwg ∧ (j.1.cls ≠ "java/lang/invoke/MethodHandle" ∧ j.1.cls ≠ "java/lang/invoke/VarHandle" ∧ (parseMethodDescriptor j.1.desc).map (fun d => d.parameters.length) = some n) ∧ ((rmO j).frames + 1 ≤ (rmO i).frames ∧ 8 + (j.2.2.1 + 11) + (rmO j).locals ≤ (rmO i).locals)
theorem PCO.blind (G : GA) (As : List Value) (h : HP) : FrameBlind (PCO G As h) := fun a U g mk q => ⟨q.1, q.2.1.calling, q.2.2⟩
theorem V_run {G : GA} {i : MI} {pc : Nat} {L : List (Nat × Value)} {st : List Value} {Q : Option Value → HP → Prop} {Q' : Option Value → HP → Prop} {rest : List Value} {p : Program} {l : Launch} {e : Env} {s : State} {m : MethodId} {args : Array Value} {below : List Frame} {meth : Method} {c : Code} {H : Heap} {locs : List Loc} {ls : Array Slot} {a : Array Value} (C : Cx G i p s m args meth c) (hS : va_S (AG G) s.heap H locs) (hl : lv_has ls i.2.2.1 L)
    (hr : va_Run p l e (rmO i) s m args below meth c H locs 0 0 0 0 (F0 m pc ls st) rest (QCO G Q' a) (AG G)) (kk : ∀ v h', Q' v h' → V G i (pc + 3) L (v.toList ++ rest) h' Q) :
    W p l e (rmO i) s m args below meth c H locs 0 0 (MQ below (QCO G Q) args s 0 0 (AG G)) (F0 m pc ls st) := by
  intro T hT X
  obtain ⟨v, st₀, t, T', Ls, h0, X', hL, e1, e2, ⟨⟨v', h', hv, hq, hP'⟩, hz, hk⟩, stp⟩ := hr T hT X
  cases hv
  rw [h0] at hz hk
  have hS' : va_S (AG G) s.heap T'.heap (locs ++ Ls) := ⟨Nat.le_trans hS.1 (by rw [e1]; exact hz), fun q h1 h2 => by rw [e1, hk q (Nat.lt_of_lt_of_le h1 hS.1) h2]; exact hS.2.1 q h1 h2, fun q hq => by
      rcases List.mem_append.mp hq with h | h
      · exact hS.2.2 q h
      · exact hL q h⟩
  obtain ⟨t2, a1, b1⟩ := kk v h' hq p l e s m args below meth c T'.heap (locs ++ Ls) ls C (by rw [e1]; exact hP') hS' hl T' rfl X'
  exact ⟨t2, stp t2 a1, b1⟩
theorem V_callV {G : GA} {i : MI} {pc : Nat} {L : List (Nat × Value)} {st : List Value} {h : HP} {Q : Option Value → HP → Prop} {Q' : Option Value → HP → Prop} {j : MI} {idx n k0 ci : Nat} {fl : List (Option Nat)} {r : vw_C} (As rest : List Value) (hc : COK i j idx n) (hin : Cond.instanceMethod j.1 ∈ lwg) (hse : Cond.selects j.1.cls j.1 j.1 ∈ lwg) (hd : decode i.2.1 pc = .ok (.invokevirtual idx, 3)) (hs : shape[k0]? = some (.inr (ci, fl))) (hcl : vwCl[ci]? = some r) (hrc : r.1 = j.1.cls) (hn : As.length = n) (hst : st = As.reverse ++ .ref (G.1 k0) :: rest) (hr : (rest.map fun v => v.category).sum ≤ 8)
    (t : Sp G j (.ref (G.1 k0) :: As) h Q') (kk : ∀ v h', Q' v h' → V G i (pc + 3) L (v.toList ++ rest) h' Q) : V G i pc L st h Q := by
  intro p l e s m args below meth c H locs ls C hP hS hl
  have hts := C.2.2.2.2.2.2.1
  have ok : ∀ {w : Cond}, w ∈ lwg → w.before args s = true := fun hw => hts _ (List.mem_cons_of_mem _ hw)
  have hK := C.2.2.2.2.2.2.2.2
  refine V_run (a := (Value.ref (G.1 k0) :: As).toArray) C hS hl (va_runV (As := As) (rest := rest) (b := G.1 k0) (C := j.1.cls) ⟨C.1, C.2.1, C.2.2.1, C.2.2.2.2.2.1, hts⟩ (t C.2.2.2.2.2.2.2.1 l) ⟨callB_of (bytes := j.2.1) (maxL := j.2.2.1) (ret := j.2.2.2.1) n hts (wsO_good hc.1) rfl rfl rfl (ok hc.2.2.1) (ok hc.2.1) hc.2.2.2.1 hc.2.2.2.2, ok hin, ok hse⟩ ⟨PCO.blind G _ h, hrc ▸ va_recv hK.1 hP hcl (wd_get G h hs), fun U hU hW => ⟨rfl, hK.warm hW, by rw [hU]; exact hP⟩⟩ rfl hn hl.1 hst (lv_room hr) hd ⟨Nat.le_refl _, Nat.le_refl _⟩) kk
theorem V_callS {G : GA} {i : MI} {pc : Nat} {L : List (Nat × Value)} {st : List Value} {h : HP} {Q : Option Value → HP → Prop} {Q' : Option Value → HP → Prop} {j : MI} {idx n : Nat} (As rest : List Value) (hc : COK i j idx n) (hstc : Cond.static j.1 ∈ lwg) (hd : decode i.2.1 pc = .ok (.invokestatic idx, 3)) (hn : As.length = n) (hst : st = As.reverse ++ rest) (hr : (rest.map fun v => v.category).sum ≤ 8)
    (t : Sp G j As h Q') (kk : ∀ v h', Q' v h' → V G i (pc + 3) L (v.toList ++ rest) h' Q) : V G i pc L st h Q := by
  intro p l e s m args below meth c H locs ls C hP hS hl
  have hts := C.2.2.2.2.2.2.1
  have ok : ∀ {w : Cond}, w ∈ lwg → w.before args s = true := fun hw => hts _ (List.mem_cons_of_mem _ hw)
  have hK := C.2.2.2.2.2.2.2.2
  refine V_run (a := As.toArray) C hS hl (va_runS (As := As) (rest := rest) ⟨C.1, C.2.1, C.2.2.1, C.2.2.2.2.2.1, hts⟩ (t C.2.2.2.2.2.2.2.1 l) ⟨callB_of (bytes := j.2.1) (maxL := j.2.2.1) (ret := j.2.2.2.1) n hts (wsO_good hc.1) rfl rfl rfl (ok hc.2.2.1) (ok hc.2.1) hc.2.2.2.1 hc.2.2.2.2, ok hstc⟩ ⟨PCO.blind G _ h, fun U hU hW => ⟨rfl, hK.warm hW, by rw [hU]; exact hP⟩⟩ rfl hn hl.1 hst (lv_room hr) hd ⟨Nat.le_refl _, Nat.le_refl _⟩) kk
def CNK (i j : MI) (idx n : Nat) : Prop := cwO j ∈ lwg ∧ Cond.methodLinkNest i.1.cls idx j.1 "ConnectionDesk" = nestw ∧ Cond.initialized j.1.cls ∈ lwg ∧ (j.1.cls ≠ "java/lang/invoke/MethodHandle" ∧ j.1.cls ≠ "java/lang/invoke/VarHandle" ∧ (parseMethodDescriptor j.1.desc).map (fun d => d.parameters.length) = some n) ∧ ((rmO j).frames + 1 ≤ (rmO i).frames ∧ 8 + (j.2.2.1 + 11) + (rmO j).locals ≤ (rmO i).locals)
theorem V_callSN {G : GA} {i : MI} {pc : Nat} {L : List (Nat × Value)} {st : List Value} {h : HP} {Q : Option Value → HP → Prop} {Q' : Option Value → HP → Prop} {j : MI} {idx n : Nat} (As rest : List Value) (hc : CNK i j idx n) (hstc : Cond.static j.1 ∈ lwg) (hd : decode i.2.1 pc = .ok (.invokestatic idx, 3)) (hn : As.length = n) (hst : st = As.reverse ++ rest) (hr : (rest.map fun v => v.category).sum ≤ 8)
    (t : Sp G j As h Q') (kk : ∀ v h', Q' v h' → V G i (pc + 3) L (v.toList ++ rest) h' Q) : V G i pc L st h Q := by
  intro p l e s m args below meth c H locs ls C hP hS hl
  have hts := C.2.2.2.2.2.2.1
  have ok : ∀ {w : Cond}, w ∈ lwg → w.before args s = true := fun hw => hts _ (List.mem_cons_of_mem _ hw)
  have hK := C.2.2.2.2.2.2.2.2
  refine V_run (a := As.toArray) C hS hl (va_runSN (As := As) (rest := rest) ⟨C.1, C.2.1, C.2.2.1, C.2.2.2.2.2.1, hts⟩ (t C.2.2.2.2.2.2.2.1 l) ⟨va_cnB (bytes := j.2.1) (maxL := j.2.2.1) (ret := j.2.2.2.1) n hts (wsO_good hc.1) rfl rfl rfl (by rw [hc.2.1]; exact hK.2) (ok hc.2.2.1) hc.2.2.2.1 hc.2.2.2.2, ok hstc, trivial⟩ ⟨PCO.blind G _ h, fun U hU hW => ⟨rfl, hK.warm hW, by rw [hU]; exact hP⟩⟩ rfl hn hl.1 hst (lv_room hr) hd ⟨Nat.le_refl _, Nat.le_refl _⟩) kk

theorem V_mmax {G : GA} {i : MI} {pc : Nat} {L : List (Nat × Value)} {st : List Value} {h : HP} {Q : Option Value → HP → Prop} {idx : Nat} {x y : Int32} (hl : Cond.methodLink i.1.cls idx Lib.Math.max.name ∈ lwg) (h1 : Cond.static Lib.Math.max.name ∈ lwg) (h2 : Cond.initialized "java/lang/Math" ∈ lwg) (h3 : Cond.code Lib.Math.max.name Lib.Math.max.code 2 (some .int) ∈ lwg) (hf : 1 ≤ i.2.2.2.2.1) (hlo : (st.map fun v => v.category).sum + 13 ≤ i.2.2.2.2.2) (hd : decode i.2.1 pc = .ok (.invokestatic idx, 3)) (k : V G i (pc + 3) L (.int (if x < y then y else x) :: st) h Q) : V G i pc L (.int y :: .int x :: st) h Q := by
  intro p l e s m args below meth c H locs ls C hP hS hls
  have ok : ∀ {w : Cond}, w ∈ lwg → w.before args s = true := fun hw => C.2.2.2.2.2.2.1 _ (List.mem_cons_of_mem _ hw)
  exact va_mmax C.1 C.2.1 (by rw [C.2.2.1]; exact hls.1.symm) C.2.2.2.2.2.1 (ok hl) (ok h1) (ok h2) (ok h3) hf hlo (Nat.le_refl _) (Nat.le_refl _) hd (k p l e s m args below meth c H locs ls C hP hS hls)
theorem V_mmin {G : GA} {i : MI} {pc : Nat} {L : List (Nat × Value)} {st : List Value} {h : HP} {Q : Option Value → HP → Prop} {idx : Nat} {x y : Int32} (hl : Cond.methodLink i.1.cls idx Lib.Math.min.name ∈ lwg) (h1 : Cond.static Lib.Math.min.name ∈ lwg) (h2 : Cond.initialized "java/lang/Math" ∈ lwg) (h3 : Cond.code Lib.Math.min.name Lib.Math.min.code 2 (some .int) ∈ lwg) (hf : 1 ≤ i.2.2.2.2.1) (hlo : (st.map fun v => v.category).sum + 13 ≤ i.2.2.2.2.2) (hd : decode i.2.1 pc = .ok (.invokestatic idx, 3)) (k : V G i (pc + 3) L (.int (if y < x then y else x) :: st) h Q) : V G i pc L (.int y :: .int x :: st) h Q := by
  intro p l e s m args below meth c H locs ls C hP hS hls
  have ok : ∀ {w : Cond}, w ∈ lwg → w.before args s = true := fun hw => C.2.2.2.2.2.2.1 _ (List.mem_cons_of_mem _ hw)
  exact va_mmin C.1 C.2.1 (by rw [C.2.2.1]; exact hls.1.symm) C.2.2.2.2.2.1 (ok hl) (ok h1) (ok h2) (ok h3) hf hlo (Nat.le_refl _) (Nat.le_refl _) hd (k p l e s m args below meth c H locs ls C hP hS hls)
theorem V_tabOut {G : GA} {i : MI} {pc : Nat} {L : List (Nat × Value)} {st : List Value} {h : HP} {Q : Option Value → HP → Prop} {dflt lo hi : Int} {offs : Array Int} {len tgt : Nat} {x : Int32} (hd : decode i.2.1 pc = .ok (.tableswitch dflt lo hi offs, len)) (hx : x.toInt < lo ∨ hi < x.toInt) (ht : (pc : Int) + dflt = (tgt : Int)) (k : V G i tgt L st h Q) : V G i pc L (.int x :: st) h Q := by
  intro p l e s m args below meth c H locs ls C hP hS hl
  exact lv_tableOut C.1 C.2.1 hd hx ht (k p l e s m args below meth c H locs ls C hP hS hl)
theorem V_tabIn {G : GA} {i : MI} {pc : Nat} {L : List (Nat × Value)} {st : List Value} {h : HP} {Q : Option Value → HP → Prop} {dflt lo hi : Int} {offs : Array Int} {len tgt : Nat} {x : Int32} {off : Int} (hd : decode i.2.1 pc = .ok (.tableswitch dflt lo hi offs, len)) (h1 : ¬ x.toInt < lo) (h2 : ¬ hi < x.toInt) (ho : offs[(x.toInt - lo).toNat]? = some off) (ht : (pc : Int) + off = (tgt : Int)) (k : V G i tgt L st h Q) : V G i pc L (.int x :: st) h Q := by
  intro p l e s m args below meth c H locs ls C hP hS hl
  exact lv_tableIn C.1 C.2.1 hd h1 h2 ho ht (k p l e s m args below meth c H locs ls C hP hS hl)
theorem it_t {c A B : Prop} [Decidable c] (hc : c) (t : if c then A else B) : A := by rw [if_pos hc] at t; exact t
theorem it_f {c A B : Prop} [Decidable c] (hc : ¬ c) (t : if c then A else B) : B := by rw [if_neg hc] at t; exact t
end
