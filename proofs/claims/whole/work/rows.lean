section
-- ===== PART A: goes FIRST, ahead of the names: the tables' words, and 'selects' of the private methods out of them =====
/-- a private method of a class that the tables say can be made, by its rows of tables_1 -/
def lw_okq (q : MethodName × Nat) : Prop := (q.1.cls ≠ "java/lang/invoke/MethodHandle" ∧ q.1.cls ≠ "java/lang/invoke/VarHandle") ∧ Cond.instantiable q.1.cls q.2 ∈ tables_1 ∧ Cond.privateMethod q.1 ∈ tables_1 ∧ Cond.instanceMethod q.1 ∈ tables_1
theorem lw_p0 : lw_okq (⟨"CalendarReplicas", "mergeAll", "()V"⟩, 9) := ⟨⟨by decide +kernel, by decide +kernel⟩, List.mem_of_getElem? (i := 24) (by decide +kernel), List.mem_of_getElem? (i := 409) (by decide +kernel), List.mem_of_getElem? (i := 410) (by decide +kernel)⟩
theorem lw_p1 : lw_okq (⟨"CalendarReplicas$Merge", "mayBeBette\x72", "(LCalendarReplicas$World;II)Z"⟩, 5) := ⟨⟨by decide +kernel, by decide +kernel⟩, List.mem_of_getElem? (i := 237) (by decide +kernel), List.mem_of_getElem? (i := 427) (by decide +kernel), List.mem_of_getElem? (i := 428) (by decide +kernel)⟩
theorem lw_p2 : lw_okq (⟨"CalendarReplicas$Merge", "fits", "(LCalendarReplicas$World;II)Z"⟩, 5) := ⟨⟨by decide +kernel, by decide +kernel⟩, List.mem_of_getElem? (i := 237) (by decide +kernel), List.mem_of_getElem? (i := 435) (by decide +kernel), List.mem_of_getElem? (i := 436) (by decide +kernel)⟩
theorem lw_p3 : lw_okq (⟨"CalendarReplicas$Timetable", "take", "(III)V"⟩, 2) := ⟨⟨by decide +kernel, by decide +kernel⟩, List.mem_of_getElem? (i := 245) (by decide +kernel), List.mem_of_getElem? (i := 475) (by decide +kernel), List.mem_of_getElem? (i := 476) (by decide +kernel)⟩
theorem lw_p4 : lw_okq (⟨"CalendarReplicas", "make", "(IIIII)I"⟩, 9) := ⟨⟨by decide +kernel, by decide +kernel⟩, List.mem_of_getElem? (i := 24) (by decide +kernel), List.mem_of_getElem? (i := 552) (by decide +kernel), List.mem_of_getElem? (i := 553) (by decide +kernel)⟩
theorem lw_p5 : lw_okq (⟨"CalendarReplicas$Edit", "changesSame", "(LCalendarReplicas$Edit;)Z"⟩, 9) := ⟨⟨by decide +kernel, by decide +kernel⟩, List.mem_of_getElem? (i := 158) (by decide +kernel), List.mem_of_getElem? (i := 573) (by decide +kernel), List.mem_of_getElem? (i := 574) (by decide +kernel)⟩
theorem lw_p6 : lw_okq (⟨"CalendarReplicas$Description", "readTime", "()Z"⟩, 5) := ⟨⟨by decide +kernel, by decide +kernel⟩, List.mem_of_getElem? (i := 282) (by decide +kernel), List.mem_of_getElem? (i := 596) (by decide +kernel), List.mem_of_getElem? (i := 597) (by decide +kernel)⟩
theorem lw_p7 : lw_okq (⟨"CalendarReplicas$Description", "readNumbe\x72", "()I"⟩, 5) := ⟨⟨by decide +kernel, by decide +kernel⟩, List.mem_of_getElem? (i := 282) (by decide +kernel), List.mem_of_getElem? (i := 600) (by decide +kernel), List.mem_of_getElem? (i := 601) (by decide +kernel)⟩
theorem lw_p8 : lw_okq (⟨"CalendarReplicas$Description", "readDigit", "(II)I"⟩, 5) := ⟨⟨by decide +kernel, by decide +kernel⟩, List.mem_of_getElem? (i := 282) (by decide +kernel), List.mem_of_getElem? (i := 604) (by decide +kernel), List.mem_of_getElem? (i := 605) (by decide +kernel)⟩
theorem lw_p9 : lw_okq (⟨"CalendarReplicas$Description", "peek", "()C"⟩, 5) := ⟨⟨by decide +kernel, by decide +kernel⟩, List.mem_of_getElem? (i := 282) (by decide +kernel), List.mem_of_getElem? (i := 608) (by decide +kernel), List.mem_of_getElem? (i := 609) (by decide +kernel)⟩
theorem lw_p10 : lw_okq (⟨"CalendarReplicas$Description", "skip", "(C)Z"⟩, 5) := ⟨⟨by decide +kernel, by decide +kernel⟩, List.mem_of_getElem? (i := 282) (by decide +kernel), List.mem_of_getElem? (i := 648) (by decide +kernel), List.mem_of_getElem? (i := 649) (by decide +kernel)⟩
theorem lw_p11 : lw_okq (⟨"CalendarReplicas$Description", "readOptions", "()Z"⟩, 5) := ⟨⟨by decide +kernel, by decide +kernel⟩, List.mem_of_getElem? (i := 282) (by decide +kernel), List.mem_of_getElem? (i := 652) (by decide +kernel), List.mem_of_getElem? (i := 653) (by decide +kernel)⟩
theorem lw_p12 : lw_okq (⟨"CalendarReplicas$Description", "isAtEnd", "()Z"⟩, 5) := ⟨⟨by decide +kernel, by decide +kernel⟩, List.mem_of_getElem? (i := 282) (by decide +kernel), List.mem_of_getElem? (i := 656) (by decide +kernel), List.mem_of_getElem? (i := 657) (by decide +kernel)⟩
theorem lw_p13 : lw_okq (⟨"CalendarReplicas$Description", "readOption", "()Z"⟩, 5) := ⟨⟨by decide +kernel, by decide +kernel⟩, List.mem_of_getElem? (i := 282) (by decide +kernel), List.mem_of_getElem? (i := 660) (by decide +kernel), List.mem_of_getElem? (i := 661) (by decide +kernel)⟩
theorem lw_p14 : lw_okq (⟨"CalendarReplicas$Description", "readPersons", "()I"⟩, 5) := ⟨⟨by decide +kernel, by decide +kernel⟩, List.mem_of_getElem? (i := 282) (by decide +kernel), List.mem_of_getElem? (i := 725) (by decide +kernel), List.mem_of_getElem? (i := 726) (by decide +kernel)⟩
theorem lw_p15 : lw_okq (⟨"CalendarReplicas$Description", "readPeriod", "()Z"⟩, 5) := ⟨⟨by decide +kernel, by decide +kernel⟩, List.mem_of_getElem? (i := 282) (by decide +kernel), List.mem_of_getElem? (i := 729) (by decide +kernel), List.mem_of_getElem? (i := 730) (by decide +kernel)⟩
def lw_privs_1 : List (MethodName × Nat) := [(⟨"CalendarReplicas", "mergeAll", "()V"⟩, 9), (⟨"CalendarReplicas$Merge", "mayBeBette\x72", "(LCalendarReplicas$World;II)Z"⟩, 5), (⟨"CalendarReplicas$Merge", "fits", "(LCalendarReplicas$World;II)Z"⟩, 5), (⟨"CalendarReplicas$Timetable", "take", "(III)V"⟩, 2), (⟨"CalendarReplicas", "make", "(IIIII)I"⟩, 9), (⟨"CalendarReplicas$Edit", "changesSame", "(LCalendarReplicas$Edit;)Z"⟩, 9), (⟨"CalendarReplicas$Description", "readTime", "()Z"⟩, 5), (⟨"CalendarReplicas$Description", "readNumbe\x72", "()I"⟩, 5), (⟨"CalendarReplicas$Description", "readDigit", "(II)I"⟩, 5), (⟨"CalendarReplicas$Description", "peek", "()C"⟩, 5), (⟨"CalendarReplicas$Description", "skip", "(C)Z"⟩, 5), (⟨"CalendarReplicas$Description", "readOptions", "()Z"⟩, 5), (⟨"CalendarReplicas$Description", "isAtEnd", "()Z"⟩, 5), (⟨"CalendarReplicas$Description", "readOption", "()Z"⟩, 5), (⟨"CalendarReplicas$Description", "readPersons", "()I"⟩, 5), (⟨"CalendarReplicas$Description", "readPeriod", "()Z"⟩, 5)]
theorem lw_r1 : ∀ q ∈ lw_privs_1, lw_okq q := List.forall_mem_cons.mpr ⟨lw_p0, List.forall_mem_cons.mpr ⟨lw_p1, List.forall_mem_cons.mpr ⟨lw_p2, List.forall_mem_cons.mpr ⟨lw_p3, List.forall_mem_cons.mpr ⟨lw_p4, List.forall_mem_cons.mpr ⟨lw_p5, List.forall_mem_cons.mpr ⟨lw_p6, List.forall_mem_cons.mpr ⟨lw_p7, List.forall_mem_cons.mpr ⟨lw_p8, List.forall_mem_cons.mpr ⟨lw_p9, List.forall_mem_cons.mpr ⟨lw_p10, List.forall_mem_cons.mpr ⟨lw_p11, List.forall_mem_cons.mpr ⟨lw_p12, List.forall_mem_cons.mpr ⟨lw_p13, List.forall_mem_cons.mpr ⟨lw_p14, List.forall_mem_cons.mpr ⟨lw_p15, fun _ h => absurd h List.not_mem_nil⟩⟩⟩⟩⟩⟩⟩⟩⟩⟩⟩⟩⟩⟩⟩⟩
theorem lw_p16 : lw_okq (⟨"CalendarReplicas", "isChangeable", "(III)Z"⟩, 9) := ⟨⟨by decide +kernel, by decide +kernel⟩, List.mem_of_getElem? (i := 24) (by decide +kernel), List.mem_of_getElem? (i := 740) (by decide +kernel), List.mem_of_getElem? (i := 741) (by decide +kernel)⟩
theorem lw_p17 : lw_okq (⟨"CalendarReplicas", "find", "(II)LCalendarReplicas$Meeting;"⟩, 9) := ⟨⟨by decide +kernel, by decide +kernel⟩, List.mem_of_getElem? (i := 24) (by decide +kernel), List.mem_of_getElem? (i := 744) (by decide +kernel), List.mem_of_getElem? (i := 745) (by decide +kernel)⟩
theorem lw_p18 : lw_okq (⟨"CalendarReplicas", "show", "(I)V"⟩, 9) := ⟨⟨by decide +kernel, by decide +kernel⟩, List.mem_of_getElem? (i := 24) (by decide +kernel), List.mem_of_getElem? (i := 748) (by decide +kernel), List.mem_of_getElem? (i := 749) (by decide +kernel)⟩
theorem lw_p19 : lw_okq (⟨"CalendarReplicas", "learn", "(II)I"⟩, 9) := ⟨⟨by decide +kernel, by decide +kernel⟩, List.mem_of_getElem? (i := 24) (by decide +kernel), List.mem_of_getElem? (i := 781) (by decide +kernel), List.mem_of_getElem? (i := 782) (by decide +kernel)⟩
theorem lw_p20 : lw_okq (⟨"CalendarReplicas", "standing", "(II)I"⟩, 9) := ⟨⟨by decide +kernel, by decide +kernel⟩, List.mem_of_getElem? (i := 24) (by decide +kernel), List.mem_of_getElem? (i := 869) (by decide +kernel), List.mem_of_getElem? (i := 870) (by decide +kernel)⟩
theorem lw_p21 : lw_okq (⟨"CalendarReplicas", "nearestStart", "(LCalendarReplicas$Edit;II)I"⟩, 9) := ⟨⟨by decide +kernel, by decide +kernel⟩, List.mem_of_getElem? (i := 24) (by decide +kernel), List.mem_of_getElem? (i := 912) (by decide +kernel), List.mem_of_getElem? (i := 913) (by decide +kernel)⟩
theorem lw_p22 : lw_okq (⟨"CalendarReplicas", "admitsStart", "(LCalendarReplicas$Edit;II)Z"⟩, 9) := ⟨⟨by decide +kernel, by decide +kernel⟩, List.mem_of_getElem? (i := 24) (by decide +kernel), List.mem_of_getElem? (i := 916) (by decide +kernel), List.mem_of_getElem? (i := 917) (by decide +kernel)⟩
theorem lw_p23 : lw_okq (⟨"CalendarReplicas", "fillTimetable", "(I)V"⟩, 9) := ⟨⟨by decide +kernel, by decide +kernel⟩, List.mem_of_getElem? (i := 24) (by decide +kernel), List.mem_of_getElem? (i := 928) (by decide +kernel), List.mem_of_getElem? (i := 929) (by decide +kernel)⟩
theorem lw_p24 : lw_okq (⟨"CalendarReplicas", "mixEdit", "(JI)J"⟩, 9) := ⟨⟨by decide +kernel, by decide +kernel⟩, List.mem_of_getElem? (i := 24) (by decide +kernel), List.mem_of_getElem? (i := 1154) (by decide +kernel), List.mem_of_getElem? (i := 1155) (by decide +kernel)⟩
theorem lw_p25 : lw_okq (⟨"CalendarReplicas", "mixReplica", "(JI)J"⟩, 9) := ⟨⟨by decide +kernel, by decide +kernel⟩, List.mem_of_getElem? (i := 24) (by decide +kernel), List.mem_of_getElem? (i := 1158) (by decide +kernel), List.mem_of_getElem? (i := 1159) (by decide +kernel)⟩
theorem lw_p26 : lw_okq (⟨"CalendarReplicasModel", "isBegun", "()Z"⟩, 21) := ⟨⟨by decide +kernel, by decide +kernel⟩, List.mem_of_getElem? (i := 1167) (by decide +kernel), List.mem_of_getElem? (i := 1244) (by decide +kernel), List.mem_of_getElem? (i := 1245) (by decide +kernel)⟩
theorem lw_p27 : lw_okq (⟨"CalendarReplicasModel", "isAdmissible", "(I)Z"⟩, 21) := ⟨⟨by decide +kernel, by decide +kernel⟩, List.mem_of_getElem? (i := 1167) (by decide +kernel), List.mem_of_getElem? (i := 1256) (by decide +kernel), List.mem_of_getElem? (i := 1257) (by decide +kernel)⟩
theorem lw_p28 : lw_okq (⟨"CalendarReplicasModel", "isFounded", "(II)Z"⟩, 21) := ⟨⟨by decide +kernel, by decide +kernel⟩, List.mem_of_getElem? (i := 1167) (by decide +kernel), List.mem_of_getElem? (i := 1260) (by decide +kernel), List.mem_of_getElem? (i := 1261) (by decide +kernel)⟩
theorem lw_p29 : lw_okq (⟨"CalendarReplicasModel", "isOfBase", "(I)Z"⟩, 21) := ⟨⟨by decide +kernel, by decide +kernel⟩, List.mem_of_getElem? (i := 1167) (by decide +kernel), List.mem_of_getElem? (i := 1267) (by decide +kernel), List.mem_of_getElem? (i := 1268) (by decide +kernel)⟩
theorem lw_p30 : lw_okq (⟨"CalendarReplicasModel", "clashes", "(II)Z"⟩, 21) := ⟨⟨by decide +kernel, by decide +kernel⟩, List.mem_of_getElem? (i := 1167) (by decide +kernel), List.mem_of_getElem? (i := 1271) (by decide +kernel), List.mem_of_getElem? (i := 1272) (by decide +kernel)⟩
theorem lw_p31 : lw_okq (⟨"CalendarReplicasModel", "isOfPerson", "(I)Z"⟩, 21) := ⟨⟨by decide +kernel, by decide +kernel⟩, List.mem_of_getElem? (i := 1167) (by decide +kernel), List.mem_of_getElem? (i := 1275) (by decide +kernel), List.mem_of_getElem? (i := 1276) (by decide +kernel)⟩
def lw_privs_2 : List (MethodName × Nat) := [(⟨"CalendarReplicas", "isChangeable", "(III)Z"⟩, 9), (⟨"CalendarReplicas", "find", "(II)LCalendarReplicas$Meeting;"⟩, 9), (⟨"CalendarReplicas", "show", "(I)V"⟩, 9), (⟨"CalendarReplicas", "learn", "(II)I"⟩, 9), (⟨"CalendarReplicas", "standing", "(II)I"⟩, 9), (⟨"CalendarReplicas", "nearestStart", "(LCalendarReplicas$Edit;II)I"⟩, 9), (⟨"CalendarReplicas", "admitsStart", "(LCalendarReplicas$Edit;II)Z"⟩, 9), (⟨"CalendarReplicas", "fillTimetable", "(I)V"⟩, 9), (⟨"CalendarReplicas", "mixEdit", "(JI)J"⟩, 9), (⟨"CalendarReplicas", "mixReplica", "(JI)J"⟩, 9), (⟨"CalendarReplicasModel", "isBegun", "()Z"⟩, 21), (⟨"CalendarReplicasModel", "isAdmissible", "(I)Z"⟩, 21), (⟨"CalendarReplicasModel", "isFounded", "(II)Z"⟩, 21), (⟨"CalendarReplicasModel", "isOfBase", "(I)Z"⟩, 21), (⟨"CalendarReplicasModel", "clashes", "(II)Z"⟩, 21), (⟨"CalendarReplicasModel", "isOfPerson", "(I)Z"⟩, 21)]
theorem lw_r2 : ∀ q ∈ lw_privs_2, lw_okq q := List.forall_mem_cons.mpr ⟨lw_p16, List.forall_mem_cons.mpr ⟨lw_p17, List.forall_mem_cons.mpr ⟨lw_p18, List.forall_mem_cons.mpr ⟨lw_p19, List.forall_mem_cons.mpr ⟨lw_p20, List.forall_mem_cons.mpr ⟨lw_p21, List.forall_mem_cons.mpr ⟨lw_p22, List.forall_mem_cons.mpr ⟨lw_p23, List.forall_mem_cons.mpr ⟨lw_p24, List.forall_mem_cons.mpr ⟨lw_p25, List.forall_mem_cons.mpr ⟨lw_p26, List.forall_mem_cons.mpr ⟨lw_p27, List.forall_mem_cons.mpr ⟨lw_p28, List.forall_mem_cons.mpr ⟨lw_p29, List.forall_mem_cons.mpr ⟨lw_p30, List.forall_mem_cons.mpr ⟨lw_p31, fun _ h => absurd h List.not_mem_nil⟩⟩⟩⟩⟩⟩⟩⟩⟩⟩⟩⟩⟩⟩⟩⟩
theorem lw_p32 : lw_okq (⟨"CalendarReplicasModel", "forms", "(I)V"⟩, 21) := ⟨⟨by decide +kernel, by decide +kernel⟩, List.mem_of_getElem? (i := 1167) (by decide +kernel), List.mem_of_getElem? (i := 1279) (by decide +kernel), List.mem_of_getElem? (i := 1280) (by decide +kernel)⟩
theorem lw_p33 : lw_okq (⟨"CalendarReplicasModel", "carriesOut", "(I)V"⟩, 21) := ⟨⟨by decide +kernel, by decide +kernel⟩, List.mem_of_getElem? (i := 1167) (by decide +kernel), List.mem_of_getElem? (i := 1283) (by decide +kernel), List.mem_of_getElem? (i := 1284) (by decide +kernel)⟩
theorem lw_p34 : lw_okq (⟨"CalendarReplicasModel", "find", "(I)I"⟩, 21) := ⟨⟨by decide +kernel, by decide +kernel⟩, List.mem_of_getElem? (i := 1167) (by decide +kernel), List.mem_of_getElem? (i := 1290) (by decide +kernel), List.mem_of_getElem? (i := 1291) (by decide +kernel)⟩
theorem lw_p35 : lw_okq (⟨"CalendarReplicasModel", "isValid", "()Z"⟩, 21) := ⟨⟨by decide +kernel, by decide +kernel⟩, List.mem_of_getElem? (i := 1167) (by decide +kernel), List.mem_of_getElem? (i := 1294) (by decide +kernel), List.mem_of_getElem? (i := 1295) (by decide +kernel)⟩
theorem lw_p36 : lw_okq (⟨"CalendarReplicasModel", "isWell", "(I)Z"⟩, 21) := ⟨⟨by decide +kernel, by decide +kernel⟩, List.mem_of_getElem? (i := 1167) (by decide +kernel), List.mem_of_getElem? (i := 1298) (by decide +kernel), List.mem_of_getElem? (i := 1299) (by decide +kernel)⟩
theorem lw_p37 : lw_okq (⟨"CalendarReplicasModel", "lastSlot", "(I)I"⟩, 21) := ⟨⟨by decide +kernel, by decide +kernel⟩, List.mem_of_getElem? (i := 1167) (by decide +kernel), List.mem_of_getElem? (i := 1302) (by decide +kernel), List.mem_of_getElem? (i := 1303) (by decide +kernel)⟩
theorem lw_p38 : lw_okq (⟨"CalendarReplicasModel", "findSlots", "(I)V"⟩, 21) := ⟨⟨by decide +kernel, by decide +kernel⟩, List.mem_of_getElem? (i := 1167) (by decide +kernel), List.mem_of_getElem? (i := 1309) (by decide +kernel), List.mem_of_getElem? (i := 1310) (by decide +kernel)⟩
theorem lw_p39 : lw_okq (⟨"CalendarReplicasModel", "meets", "(III)Z"⟩, 21) := ⟨⟨by decide +kernel, by decide +kernel⟩, List.mem_of_getElem? (i := 1167) (by decide +kernel), List.mem_of_getElem? (i := 1316) (by decide +kernel), List.mem_of_getElem? (i := 1317) (by decide +kernel)⟩
theorem lw_p40 : lw_okq (⟨"CalendarReplicasModel", "creates", "(IIIIII)I"⟩, 21) := ⟨⟨by decide +kernel, by decide +kernel⟩, List.mem_of_getElem? (i := 1167) (by decide +kernel), List.mem_of_getElem? (i := 1331) (by decide +kernel), List.mem_of_getElem? (i := 1332) (by decide +kernel)⟩
theorem lw_p41 : lw_okq (⟨"CalendarReplicasModel", "makes", "(IIIII)I"⟩, 21) := ⟨⟨by decide +kernel, by decide +kernel⟩, List.mem_of_getElem? (i := 1167) (by decide +kernel), List.mem_of_getElem? (i := 1335) (by decide +kernel), List.mem_of_getElem? (i := 1336) (by decide +kernel)⟩
theorem lw_p42 : lw_okq (⟨"CalendarReplicasModel", "accepted", "(I)I"⟩, 21) := ⟨⟨by decide +kernel, by decide +kernel⟩, List.mem_of_getElem? (i := 1167) (by decide +kernel), List.mem_of_getElem? (i := 1339) (by decide +kernel), List.mem_of_getElem? (i := 1340) (by decide +kernel)⟩
theorem lw_p43 : lw_okq (⟨"CalendarReplicasModel", "bestWith", "(II)I"⟩, 21) := ⟨⟨by decide +kernel, by decide +kernel⟩, List.mem_of_getElem? (i := 1167) (by decide +kernel), List.mem_of_getElem? (i := 1343) (by decide +kernel), List.mem_of_getElem? (i := 1344) (by decide +kernel)⟩
theorem lw_p44 : lw_okq (⟨"CalendarReplicasModel", "usable", "(I)I"⟩, 21) := ⟨⟨by decide +kernel, by decide +kernel⟩, List.mem_of_getElem? (i := 1167) (by decide +kernel), List.mem_of_getElem? (i := 1347) (by decide +kernel), List.mem_of_getElem? (i := 1348) (by decide +kernel)⟩
theorem lw_p45 : lw_okq (⟨"CalendarReplicasModel", "weight", "(I)I"⟩, 21) := ⟨⟨by decide +kernel, by decide +kernel⟩, List.mem_of_getElem? (i := 1167) (by decide +kernel), List.mem_of_getElem? (i := 1351) (by decide +kernel), List.mem_of_getElem? (i := 1352) (by decide +kernel)⟩
theorem lw_p46 : lw_okq (⟨"CalendarReplicasModel", "isText", "()Z"⟩, 21) := ⟨⟨by decide +kernel, by decide +kernel⟩, List.mem_of_getElem? (i := 1167) (by decide +kernel), List.mem_of_getElem? (i := 1359) (by decide +kernel), List.mem_of_getElem? (i := 1360) (by decide +kernel)⟩
theorem lw_p47 : lw_okq (⟨"CalendarReplicasModel", "numbe\x72", "()I"⟩, 21) := ⟨⟨by decide +kernel, by decide +kernel⟩, List.mem_of_getElem? (i := 1167) (by decide +kernel), List.mem_of_getElem? (i := 1363) (by decide +kernel), List.mem_of_getElem? (i := 1364) (by decide +kernel)⟩
def lw_privs_3 : List (MethodName × Nat) := [(⟨"CalendarReplicasModel", "forms", "(I)V"⟩, 21), (⟨"CalendarReplicasModel", "carriesOut", "(I)V"⟩, 21), (⟨"CalendarReplicasModel", "find", "(I)I"⟩, 21), (⟨"CalendarReplicasModel", "isValid", "()Z"⟩, 21), (⟨"CalendarReplicasModel", "isWell", "(I)Z"⟩, 21), (⟨"CalendarReplicasModel", "lastSlot", "(I)I"⟩, 21), (⟨"CalendarReplicasModel", "findSlots", "(I)V"⟩, 21), (⟨"CalendarReplicasModel", "meets", "(III)Z"⟩, 21), (⟨"CalendarReplicasModel", "creates", "(IIIIII)I"⟩, 21), (⟨"CalendarReplicasModel", "makes", "(IIIII)I"⟩, 21), (⟨"CalendarReplicasModel", "accepted", "(I)I"⟩, 21), (⟨"CalendarReplicasModel", "bestWith", "(II)I"⟩, 21), (⟨"CalendarReplicasModel", "usable", "(I)I"⟩, 21), (⟨"CalendarReplicasModel", "weight", "(I)I"⟩, 21), (⟨"CalendarReplicasModel", "isText", "()Z"⟩, 21), (⟨"CalendarReplicasModel", "numbe\x72", "()I"⟩, 21)]
theorem lw_r3 : ∀ q ∈ lw_privs_3, lw_okq q := List.forall_mem_cons.mpr ⟨lw_p32, List.forall_mem_cons.mpr ⟨lw_p33, List.forall_mem_cons.mpr ⟨lw_p34, List.forall_mem_cons.mpr ⟨lw_p35, List.forall_mem_cons.mpr ⟨lw_p36, List.forall_mem_cons.mpr ⟨lw_p37, List.forall_mem_cons.mpr ⟨lw_p38, List.forall_mem_cons.mpr ⟨lw_p39, List.forall_mem_cons.mpr ⟨lw_p40, List.forall_mem_cons.mpr ⟨lw_p41, List.forall_mem_cons.mpr ⟨lw_p42, List.forall_mem_cons.mpr ⟨lw_p43, List.forall_mem_cons.mpr ⟨lw_p44, List.forall_mem_cons.mpr ⟨lw_p45, List.forall_mem_cons.mpr ⟨lw_p46, List.forall_mem_cons.mpr ⟨lw_p47, fun _ h => absurd h List.not_mem_nil⟩⟩⟩⟩⟩⟩⟩⟩⟩⟩⟩⟩⟩⟩⟩⟩
theorem lw_p48 : lw_okq (⟨"CalendarReplicasModel", "here", "()I"⟩, 21) := ⟨⟨by decide +kernel, by decide +kernel⟩, List.mem_of_getElem? (i := 1167) (by decide +kernel), List.mem_of_getElem? (i := 1367) (by decide +kernel), List.mem_of_getElem? (i := 1368) (by decide +kernel)⟩
theorem lw_p49 : lw_okq (⟨"CalendarReplicasModel", "takes", "(I)Z"⟩, 21) := ⟨⟨by decide +kernel, by decide +kernel⟩, List.mem_of_getElem? (i := 1167) (by decide +kernel), List.mem_of_getElem? (i := 1374) (by decide +kernel), List.mem_of_getElem? (i := 1375) (by decide +kernel)⟩
theorem lw_p50 : lw_okq (⟨"CalendarReplicasModel", "areOptions", "()Z"⟩, 21) := ⟨⟨by decide +kernel, by decide +kernel⟩, List.mem_of_getElem? (i := 1167) (by decide +kernel), List.mem_of_getElem? (i := 1378) (by decide +kernel), List.mem_of_getElem? (i := 1379) (by decide +kernel)⟩
theorem lw_p51 : lw_okq (⟨"CalendarReplicasModel", "isOption", "(I)Z"⟩, 21) := ⟨⟨by decide +kernel, by decide +kernel⟩, List.mem_of_getElem? (i := 1167) (by decide +kernel), List.mem_of_getElem? (i := 1382) (by decide +kernel), List.mem_of_getElem? (i := 1383) (by decide +kernel)⟩
theorem lw_p52 : lw_okq (⟨"CalendarReplicasModel", "areToldPersons", "()Z"⟩, 21) := ⟨⟨by decide +kernel, by decide +kernel⟩, List.mem_of_getElem? (i := 1167) (by decide +kernel), List.mem_of_getElem? (i := 1386) (by decide +kernel), List.mem_of_getElem? (i := 1387) (by decide +kernel)⟩
theorem lw_p53 : lw_okq (⟨"CalendarReplicasModel", "changes", "(IIIIII)I"⟩, 21) := ⟨⟨by decide +kernel, by decide +kernel⟩, List.mem_of_getElem? (i := 1167) (by decide +kernel), List.mem_of_getElem? (i := 1394) (by decide +kernel), List.mem_of_getElem? (i := 1395) (by decide +kernel)⟩
theorem lw_p54 : lw_okq (⟨"CalendarReplicasModel", "isThere", "(II)Z"⟩, 21) := ⟨⟨by decide +kernel, by decide +kernel⟩, List.mem_of_getElem? (i := 1167) (by decide +kernel), List.mem_of_getElem? (i := 1398) (by decide +kernel), List.mem_of_getElem? (i := 1399) (by decide +kernel)⟩
theorem lw_p55 : lw_okq (⟨"CalendarReplicasModel", "shows", "(I)V"⟩, 21) := ⟨⟨by decide +kernel, by decide +kernel⟩, List.mem_of_getElem? (i := 1167) (by decide +kernel), List.mem_of_getElem? (i := 1402) (by decide +kernel), List.mem_of_getElem? (i := 1403) (by decide +kernel)⟩
theorem lw_p56 : lw_okq (⟨"CalendarReplicasModel", "findEdit", "(I)I"⟩, 21) := ⟨⟨by decide +kernel, by decide +kernel⟩, List.mem_of_getElem? (i := 1167) (by decide +kernel), List.mem_of_getElem? (i := 1434) (by decide +kernel), List.mem_of_getElem? (i := 1435) (by decide +kernel)⟩
theorem lw_p57 : lw_okq (⟨"CalendarReplicasModel", "indexOf", "(I)I"⟩, 21) := ⟨⟨by decide +kernel, by decide +kernel⟩, List.mem_of_getElem? (i := 1167) (by decide +kernel), List.mem_of_getElem? (i := 1450) (by decide +kernel), List.mem_of_getElem? (i := 1451) (by decide +kernel)⟩
theorem lw_p58 : lw_okq (⟨"CalendarReplicasModel", "of", "(III)I"⟩, 21) := ⟨⟨by decide +kernel, by decide +kernel⟩, List.mem_of_getElem? (i := 1167) (by decide +kernel), List.mem_of_getElem? (i := 1458) (by decide +kernel), List.mem_of_getElem? (i := 1459) (by decide +kernel)⟩
theorem lw_p59 : lw_okq (⟨"CalendarReplicasModel", "ofEdit", "(II)I"⟩, 21) := ⟨⟨by decide +kernel, by decide +kernel⟩, List.mem_of_getElem? (i := 1167) (by decide +kernel), List.mem_of_getElem? (i := 1494) (by decide +kernel), List.mem_of_getElem? (i := 1495) (by decide +kernel)⟩
theorem lw_p60 : lw_okq (⟨"CalendarReplicasModel", "stateOf", "(II)I"⟩, 21) := ⟨⟨by decide +kernel, by decide +kernel⟩, List.mem_of_getElem? (i := 1167) (by decide +kernel), List.mem_of_getElem? (i := 1518) (by decide +kernel), List.mem_of_getElem? (i := 1519) (by decide +kernel)⟩
theorem lw_p61 : lw_okq (⟨"CalendarReplicasModel", "stateBy", "(IIII)I"⟩, 21) := ⟨⟨by decide +kernel, by decide +kernel⟩, List.mem_of_getElem? (i := 1167) (by decide +kernel), List.mem_of_getElem? (i := 1522) (by decide +kernel), List.mem_of_getElem? (i := 1523) (by decide +kernel)⟩
theorem lw_p62 : lw_okq (⟨"CalendarReplicasModel", "decimal", "(I)V"⟩, 21) := ⟨⟨by decide +kernel, by decide +kernel⟩, List.mem_of_getElem? (i := 1167) (by decide +kernel), List.mem_of_getElem? (i := 1578) (by decide +kernel), List.mem_of_getElem? (i := 1579) (by decide +kernel)⟩
theorem lw_p63 : lw_okq (⟨"CalendarReplicasModel", "sign", "(I)V"⟩, 21) := ⟨⟨by decide +kernel, by decide +kernel⟩, List.mem_of_getElem? (i := 1167) (by decide +kernel), List.mem_of_getElem? (i := 1582) (by decide +kernel), List.mem_of_getElem? (i := 1583) (by decide +kernel)⟩
def lw_privs_4 : List (MethodName × Nat) := [(⟨"CalendarReplicasModel", "here", "()I"⟩, 21), (⟨"CalendarReplicasModel", "takes", "(I)Z"⟩, 21), (⟨"CalendarReplicasModel", "areOptions", "()Z"⟩, 21), (⟨"CalendarReplicasModel", "isOption", "(I)Z"⟩, 21), (⟨"CalendarReplicasModel", "areToldPersons", "()Z"⟩, 21), (⟨"CalendarReplicasModel", "changes", "(IIIIII)I"⟩, 21), (⟨"CalendarReplicasModel", "isThere", "(II)Z"⟩, 21), (⟨"CalendarReplicasModel", "shows", "(I)V"⟩, 21), (⟨"CalendarReplicasModel", "findEdit", "(I)I"⟩, 21), (⟨"CalendarReplicasModel", "indexOf", "(I)I"⟩, 21), (⟨"CalendarReplicasModel", "of", "(III)I"⟩, 21), (⟨"CalendarReplicasModel", "ofEdit", "(II)I"⟩, 21), (⟨"CalendarReplicasModel", "stateOf", "(II)I"⟩, 21), (⟨"CalendarReplicasModel", "stateBy", "(IIII)I"⟩, 21), (⟨"CalendarReplicasModel", "decimal", "(I)V"⟩, 21), (⟨"CalendarReplicasModel", "sign", "(I)V"⟩, 21)]
theorem lw_r4 : ∀ q ∈ lw_privs_4, lw_okq q := List.forall_mem_cons.mpr ⟨lw_p48, List.forall_mem_cons.mpr ⟨lw_p49, List.forall_mem_cons.mpr ⟨lw_p50, List.forall_mem_cons.mpr ⟨lw_p51, List.forall_mem_cons.mpr ⟨lw_p52, List.forall_mem_cons.mpr ⟨lw_p53, List.forall_mem_cons.mpr ⟨lw_p54, List.forall_mem_cons.mpr ⟨lw_p55, List.forall_mem_cons.mpr ⟨lw_p56, List.forall_mem_cons.mpr ⟨lw_p57, List.forall_mem_cons.mpr ⟨lw_p58, List.forall_mem_cons.mpr ⟨lw_p59, List.forall_mem_cons.mpr ⟨lw_p60, List.forall_mem_cons.mpr ⟨lw_p61, List.forall_mem_cons.mpr ⟨lw_p62, List.forall_mem_cons.mpr ⟨lw_p63, fun _ h => absurd h List.not_mem_nil⟩⟩⟩⟩⟩⟩⟩⟩⟩⟩⟩⟩⟩⟩⟩⟩
theorem lw_p64 : lw_okq (⟨"CalendarReplicasModel", "option", "(I)V"⟩, 21) := ⟨⟨by decide +kernel, by decide +kernel⟩, List.mem_of_getElem? (i := 1167) (by decide +kernel), List.mem_of_getElem? (i := 1586) (by decide +kernel), List.mem_of_getElem? (i := 1587) (by decide +kernel)⟩
theorem lw_p65 : lw_okq (⟨"CalendarReplicasModel", "moreOfEdit", "(JI)J"⟩, 21) := ⟨⟨by decide +kernel, by decide +kernel⟩, List.mem_of_getElem? (i := 1167) (by decide +kernel), List.mem_of_getElem? (i := 1611) (by decide +kernel), List.mem_of_getElem? (i := 1612) (by decide +kernel)⟩
theorem lw_p66 : lw_okq (⟨"CalendarReplicasModel", "moreOf", "(JI)J"⟩, 21) := ⟨⟨by decide +kernel, by decide +kernel⟩, List.mem_of_getElem? (i := 1167) (by decide +kernel), List.mem_of_getElem? (i := 1615) (by decide +kernel), List.mem_of_getElem? (i := 1616) (by decide +kernel)⟩
def lw_privs_5 : List (MethodName × Nat) := [(⟨"CalendarReplicasModel", "option", "(I)V"⟩, 21), (⟨"CalendarReplicasModel", "moreOfEdit", "(JI)J"⟩, 21), (⟨"CalendarReplicasModel", "moreOf", "(JI)J"⟩, 21)]
theorem lw_r5 : ∀ q ∈ lw_privs_5, lw_okq q := List.forall_mem_cons.mpr ⟨lw_p64, List.forall_mem_cons.mpr ⟨lw_p65, List.forall_mem_cons.mpr ⟨lw_p66, fun _ h => absurd h List.not_mem_nil⟩⟩⟩
def lw_privs : List (MethodName × Nat) := lw_privs_1 ++ (lw_privs_2 ++ (lw_privs_3 ++ (lw_privs_4 ++ (lw_privs_5))))
def lw_tbl : List Cond := k2_sels lw_privs ++ tables_1
theorem lw_privs_ok : ∀ q ∈ lw_privs, lw_okq q := by
  show ∀ q ∈ lw_privs_1 ++ (lw_privs_2 ++ (lw_privs_3 ++ (lw_privs_4 ++ (lw_privs_5)))), lw_okq q
  exact List.forall_mem_append.mpr ⟨lw_r1, List.forall_mem_append.mpr ⟨lw_r2, List.forall_mem_append.mpr ⟨lw_r3, List.forall_mem_append.mpr ⟨lw_r4, lw_r5⟩⟩⟩⟩

-- classes and their fields (as NAMES.whole prints them)
def RX0 : String := "CalendarReplicas$Calenda\x72"
def TX0 : u_T := fun k => match k with
  | 0 => ("CalendarReplicas$Calenda\x72", "rows", "[LCalendarReplicas$Meeting;", true)
  | _ => ("CalendarReplicas$Calenda\x72", "size", "I", false)
def tyX0 : Nat → FieldType := fun k => match k with
  | 0 => .array (.object "CalendarReplicas$Meeting")
  | _ => .int
theorem nmX0 : ∀ a, a < 2 → ∀ b, b < 2 → a ≠ b → (TX0 a).2.1 ≠ (TX0 b).2.1 := by decide +kernel
theorem tyX0_ok : ∀ k, k < 2 → parseFieldDescriptor (TX0 k).2.2.1 = some (tyX0 k) := by decide +kernel
def RX1 : String := "CalendarReplicas$Description"
def TX1 : u_T := fun k => match k with
  | 0 => ("CalendarReplicas$Description", "text", "Ljava/lang/StringBuilder;", true)
  | 1 => ("CalendarReplicas$Description", "meeting", "LCalendarReplicas$Meeting;", true)
  | 2 => ("CalendarReplicas$Description", "weight", "I", false)
  | 3 => ("CalendarReplicas$Description", "position", "I", false)
  | _ => ("CalendarReplicas$Description", "optionsLeft", "I", false)
def tyX1 : Nat → FieldType := fun k => match k with
  | 0 => .object "java/lang/StringBuilde\x72"
  | 1 => .object "CalendarReplicas$Meeting"
  | 2 => .int
  | 3 => .int
  | _ => .int
theorem nmX1 : ∀ a, a < 5 → ∀ b, b < 5 → a ≠ b → (TX1 a).2.1 ≠ (TX1 b).2.1 := by decide +kernel
theorem tyX1_ok : ∀ k, k < 5 → parseFieldDescriptor (TX1 k).2.2.1 = some (tyX1 k) := by decide +kernel
def RX2 : String := "CalendarReplicas$Edit"
def TX2 : u_T := fun k => match k with
  | 0 => ("CalendarReplicas$Edit", "numbe\x72", "I", false)
  | 1 => ("CalendarReplicas$Edit", "autho\x72", "I", false)
  | 2 => ("CalendarReplicas$Edit", "weight", "I", false)
  | 3 => ("CalendarReplicas$Edit", "kind", "I", false)
  | 4 => ("CalendarReplicas$Edit", "meeting", "I", false)
  | 5 => ("CalendarReplicas$Edit", "value", "I", false)
  | 6 => ("CalendarReplicas$Edit", "clashes", "I", false)
  | 7 => ("CalendarReplicas$Edit", "needs", "I", false)
  | _ => ("CalendarReplicas$Edit", "created", "LCalendarReplicas$Meeting;", true)
def tyX2 : Nat → FieldType := fun k => match k with
  | 0 => .int
  | 1 => .int
  | 2 => .int
  | 3 => .int
  | 4 => .int
  | 5 => .int
  | 6 => .int
  | 7 => .int
  | _ => .object "CalendarReplicas$Meeting"
theorem nmX2 : ∀ a, a < 9 → ∀ b, b < 9 → a ≠ b → (TX2 a).2.1 ≠ (TX2 b).2.1 := by decide +kernel
theorem tyX2_ok : ∀ k, k < 9 → parseFieldDescriptor (TX2 k).2.2.1 = some (tyX2 k) := by decide +kernel
def RX3 : String := "CalendarReplicas$Meeting"
def TX3 : u_T := fun k => match k with
  | 0 => ("CalendarReplicas$Meeting", "numbe\x72", "I", false)
  | 1 => ("CalendarReplicas$Meeting", "start", "I", false)
  | 2 => ("CalendarReplicas$Meeting", "duration", "I", false)
  | 3 => ("CalendarReplicas$Meeting", "room", "I", false)
  | 4 => ("CalendarReplicas$Meeting", "persons", "I", false)
  | 5 => ("CalendarReplicas$Meeting", "period", "I", false)
  | _ => ("CalendarReplicas$Meeting", "count", "I", false)
def tyX3 : Nat → FieldType := fun k => match k with
  | 0 => .int
  | 1 => .int
  | 2 => .int
  | 3 => .int
  | 4 => .int
  | 5 => .int
  | _ => .int
theorem nmX3 : ∀ a, a < 7 → ∀ b, b < 7 → a ≠ b → (TX3 a).2.1 ≠ (TX3 b).2.1 := by decide +kernel
theorem tyX3_ok : ∀ k, k < 7 → parseFieldDescriptor (TX3 k).2.2.1 = some (tyX3 k) := by decide +kernel
def RX4 : String := "CalendarReplicas$Merge"
def TX4 : u_T := fun k => match k with
  | 0 => ("CalendarReplicas$Merge", "calenda\x72", "LCalendarReplicas$Calendar;", true)
  | 1 => ("CalendarReplicas$Merge", "timetable", "LCalendarReplicas$Timetable;", true)
  | 2 => ("CalendarReplicas$Merge", "required", "I", false)
  | 3 => ("CalendarReplicas$Merge", "best", "I", false)
  | _ => ("CalendarReplicas$Merge", "bestWeight", "I", false)
def tyX4 : Nat → FieldType := fun k => match k with
  | 0 => .object "CalendarReplicas$Calenda\x72"
  | 1 => .object "CalendarReplicas$Timetable"
  | 2 => .int
  | 3 => .int
  | _ => .int
theorem nmX4 : ∀ a, a < 5 → ∀ b, b < 5 → a ≠ b → (TX4 a).2.1 ≠ (TX4 b).2.1 := by decide +kernel
theorem tyX4_ok : ∀ k, k < 5 → parseFieldDescriptor (TX4 k).2.2.1 = some (tyX4 k) := by decide +kernel
def RX5 : String := "CalendarReplicas$Rules"
def TX5 : u_T := fun k => match k with
  | 0 => ("CalendarReplicas$Rules", "capacity", "[I", true)
  | 1 => ("CalendarReplicas$Rules", "closedFrom", "[I", true)
  | 2 => ("CalendarReplicas$Rules", "closedTo", "[I", true)
  | 3 => ("CalendarReplicas$Rules", "absentFrom", "[I", true)
  | 4 => ("CalendarReplicas$Rules", "absentTo", "[I", true)
  | 5 => ("CalendarReplicas$Rules", "orderFirst", "[I", true)
  | 6 => ("CalendarReplicas$Rules", "orderSecond", "[I", true)
  | _ => ("CalendarReplicas$Rules", "orders", "I", false)
def tyX5 : Nat → FieldType := fun k => match k with
  | 0 => .array .int
  | 1 => .array .int
  | 2 => .array .int
  | 3 => .array .int
  | 4 => .array .int
  | 5 => .array .int
  | 6 => .array .int
  | _ => .int
theorem nmX5 : ∀ a, a < 8 → ∀ b, b < 8 → a ≠ b → (TX5 a).2.1 ≠ (TX5 b).2.1 := by decide +kernel
theorem tyX5_ok : ∀ k, k < 8 → parseFieldDescriptor (TX5 k).2.2.1 = some (tyX5 k) := by decide +kernel
def RX6 : String := "CalendarReplicas$Timetable"
def TX6 : u_T := fun k => match k with
  | 0 => ("CalendarReplicas$Timetable", "early", "[J", true)
  | _ => ("CalendarReplicas$Timetable", "late", "[J", true)
def tyX6 : Nat → FieldType := fun k => match k with
  | 0 => .array .long
  | _ => .array .long
theorem nmX6 : ∀ a, a < 2 → ∀ b, b < 2 → a ≠ b → (TX6 a).2.1 ≠ (TX6 b).2.1 := by decide +kernel
theorem tyX6_ok : ∀ k, k < 2 → parseFieldDescriptor (TX6 k).2.2.1 = some (tyX6 k) := by decide +kernel
def RX7 : String := "CalendarReplicas$World"
def TX7 : u_T := fun k => match k with
  | 0 => ("CalendarReplicas$World", "rules", "LCalendarReplicas$Rules;", true)
  | 1 => ("CalendarReplicas$World", "base", "LCalendarReplicas$Calendar;", true)
  | 2 => ("CalendarReplicas$World", "edits", "[LCalendarReplicas$Edit;", true)
  | 3 => ("CalendarReplicas$World", "size", "I", false)
  | 4 => ("CalendarReplicas$World", "next", "I", false)
  | 5 => ("CalendarReplicas$World", "known", "[I", true)
  | _ => ("CalendarReplicas$World", "accepted", "[I", true)
def tyX7 : Nat → FieldType := fun k => match k with
  | 0 => .object "CalendarReplicas$Rules"
  | 1 => .object "CalendarReplicas$Calenda\x72"
  | 2 => .array (.object "CalendarReplicas$Edit")
  | 3 => .int
  | 4 => .int
  | 5 => .array .int
  | _ => .array .int
theorem nmX7 : ∀ a, a < 7 → ∀ b, b < 7 → a ≠ b → (TX7 a).2.1 ≠ (TX7 b).2.1 := by decide +kernel
theorem tyX7_ok : ∀ k, k < 7 → parseFieldDescriptor (TX7 k).2.2.1 = some (tyX7 k) := by decide +kernel
def RX8 : String := "CalendarReplicas"
def TX8 : u_T := fun k => match k with
  | 0 => ("CalendarReplicas", "world", "LCalendarReplicas$World;", true)
  | 1 => ("CalendarReplicas", "kept", "[LCalendarReplicas$World;", true)
  | 2 => ("CalendarReplicas", "filled", "[Z", true)
  | 3 => ("CalendarReplicas", "merge", "LCalendarReplicas$Merge;", true)
  | 4 => ("CalendarReplicas", "shown", "LCalendarReplicas$Calendar;", true)
  | 5 => ("CalendarReplicas", "timetable", "LCalendarReplicas$Timetable;", true)
  | 6 => ("CalendarReplicas", "plan", "LCalendarReplicas$Meeting;", true)
  | 7 => ("CalendarReplicas", "description", "LCalendarReplicas$Description;", true)
  | _ => ("CalendarReplicas", "page", "Ljava/lang/StringBuilder;", true)
def tyX8 : Nat → FieldType := fun k => match k with
  | 0 => .object "CalendarReplicas$World"
  | 1 => .array (.object "CalendarReplicas$World")
  | 2 => .array .boolean
  | 3 => .object "CalendarReplicas$Merge"
  | 4 => .object "CalendarReplicas$Calenda\x72"
  | 5 => .object "CalendarReplicas$Timetable"
  | 6 => .object "CalendarReplicas$Meeting"
  | 7 => .object "CalendarReplicas$Description"
  | _ => .object "java/lang/StringBuilde\x72"
theorem nmX8 : ∀ a, a < 9 → ∀ b, b < 9 → a ≠ b → (TX8 a).2.1 ≠ (TX8 b).2.1 := by decide +kernel
theorem tyX8_ok : ∀ k, k < 9 → parseFieldDescriptor (TX8 k).2.2.1 = some (tyX8 k) := by decide +kernel
def RX9 : String := "CalendarReplicasModel"
def TX9 : u_T := fun k => match k with
  | 0 => ("CalendarReplicasModel", "v", "[I", true)
  | 1 => ("CalendarReplicasModel", "kept", "[I", true)
  | 2 => ("CalendarReplicasModel", "isKept", "[Z", true)
  | 3 => ("CalendarReplicasModel", "text", "[I", true)
  | 4 => ("CalendarReplicasModel", "length", "I", false)
  | 5 => ("CalendarReplicasModel", "pape\x72", "[I", true)
  | 6 => ("CalendarReplicasModel", "printed", "I", false)
  | 7 => ("CalendarReplicasModel", "many", "I", false)
  | 8 => ("CalendarReplicasModel", "m", "[I", true)
  | 9 => ("CalendarReplicasModel", "low", "[J", true)
  | 10 => ("CalendarReplicasModel", "high", "[J", true)
  | 11 => ("CalendarReplicasModel", "toldStart", "I", false)
  | 12 => ("CalendarReplicasModel", "toldDuration", "I", false)
  | 13 => ("CalendarReplicasModel", "toldRoom", "I", false)
  | 14 => ("CalendarReplicasModel", "toldPersons", "I", false)
  | 15 => ("CalendarReplicasModel", "toldWeight", "I", false)
  | 16 => ("CalendarReplicasModel", "toldPeriod", "I", false)
  | 17 => ("CalendarReplicasModel", "toldCount", "I", false)
  | 18 => ("CalendarReplicasModel", "place", "I", false)
  | 19 => ("CalendarReplicasModel", "taken", "[I", true)
  | _ => ("CalendarReplicasModel", "used", "[I", true)
def tyX9 : Nat → FieldType := fun k => match k with
  | 0 => .array .int
  | 1 => .array .int
  | 2 => .array .boolean
  | 3 => .array .int
  | 4 => .int
  | 5 => .array .int
  | 6 => .int
  | 7 => .int
  | 8 => .array .int
  | 9 => .array .long
  | 10 => .array .long
  | 11 => .int
  | 12 => .int
  | 13 => .int
  | 14 => .int
  | 15 => .int
  | 16 => .int
  | 17 => .int
  | 18 => .int
  | 19 => .array .int
  | _ => .array .int
theorem nmX9 : ∀ a, a < 21 → ∀ b, b < 21 → a ≠ b → (TX9 a).2.1 ≠ (TX9 b).2.1 := by decide +kernel
theorem tyX9_ok : ∀ k, k < 21 → parseFieldDescriptor (TX9 k).2.2.1 = some (tyX9 k) := by decide +kernel
def RJ5 : String := "java/lang/AbstractStringBuilde\x72"
def TJ5 : u_T := fun k => match k with
  | _ => ("", "", "", false)
def tyJ5 : Nat → FieldType := fun k => match k with
  | _ => .int
theorem nmJ5 : ∀ a, a < 0 → ∀ b, b < 0 → a ≠ b → (TJ5 a).2.1 ≠ (TJ5 b).2.1 := by decide +kernel
theorem tyJ5_ok : ∀ k, k < 0 → parseFieldDescriptor (TJ5 k).2.2.1 = some (tyJ5 k) := by decide +kernel
def RJ11 : String := "java/lang/Characte\x72"
def TJ11 : u_T := fun k => match k with
  | _ => ("", "", "", false)
def tyJ11 : Nat → FieldType := fun k => match k with
  | _ => .int
theorem nmJ11 : ∀ a, a < 0 → ∀ b, b < 0 → a ≠ b → (TJ11 a).2.1 ≠ (TJ11 b).2.1 := by decide +kernel
theorem tyJ11_ok : ∀ k, k < 0 → parseFieldDescriptor (TJ11 k).2.2.1 = some (tyJ11 k) := by decide +kernel
def RJ6 : String := "java/lang/Intege\x72"
def TJ6 : u_T := fun k => match k with
  | _ => ("", "", "", false)
def tyJ6 : Nat → FieldType := fun k => match k with
  | _ => .int
theorem nmJ6 : ∀ a, a < 0 → ∀ b, b < 0 → a ≠ b → (TJ6 a).2.1 ≠ (TJ6 b).2.1 := by decide +kernel
theorem tyJ6_ok : ∀ k, k < 0 → parseFieldDescriptor (TJ6 k).2.2.1 = some (tyJ6 k) := by decide +kernel
def RJ9 : String := "java/lang/Math"
def TJ9 : u_T := fun k => match k with
  | _ => ("", "", "", false)
def tyJ9 : Nat → FieldType := fun k => match k with
  | _ => .int
theorem nmJ9 : ∀ a, a < 0 → ∀ b, b < 0 → a ≠ b → (TJ9 a).2.1 ≠ (TJ9 b).2.1 := by decide +kernel
theorem tyJ9_ok : ∀ k, k < 0 → parseFieldDescriptor (TJ9 k).2.2.1 = some (tyJ9 k) := by decide +kernel
def RJ0 : String := "java/lang/String"
def TJ0 : u_T := fun k => match k with
  | _ => ("", "", "", false)
def tyJ0 : Nat → FieldType := fun k => match k with
  | _ => .int
theorem nmJ0 : ∀ a, a < 0 → ∀ b, b < 0 → a ≠ b → (TJ0 a).2.1 ≠ (TJ0 b).2.1 := by decide +kernel
theorem tyJ0_ok : ∀ k, k < 0 → parseFieldDescriptor (TJ0 k).2.2.1 = some (tyJ0 k) := by decide +kernel
def RJ4 : String := "java/lang/StringBuilde\x72"
def TJ4 : u_T := fun k => match k with
  | 0 => ("java/lang/AbstractStringBuilde\x72", "value", "[B", false)
  | 1 => ("java/lang/AbstractStringBuilde\x72", "code\x72", "B", false)
  | 2 => ("java/lang/AbstractStringBuilde\x72", "maybeLatin1", "Z", false)
  | _ => ("java/lang/AbstractStringBuilde\x72", "count", "I", false)
def tyJ4 : Nat → FieldType := fun k => match k with
  | 0 => .array .byte
  | 1 => .byte
  | 2 => .boolean
  | _ => .int
theorem nmJ4 : ∀ a, a < 4 → ∀ b, b < 4 → a ≠ b → (TJ4 a).2.1 ≠ (TJ4 b).2.1 := by decide +kernel
theorem tyJ4_ok : ∀ k, k < 4 → parseFieldDescriptor (TJ4 k).2.2.1 = some (tyJ4 k) := by decide +kernel
def RJ1 : String := "java/lang/StringLatin1"
def TJ1 : u_T := fun k => match k with
  | _ => ("", "", "", false)
def tyJ1 : Nat → FieldType := fun k => match k with
  | _ => .int
theorem nmJ1 : ∀ a, a < 0 → ∀ b, b < 0 → a ≠ b → (TJ1 a).2.1 ≠ (TJ1 b).2.1 := by decide +kernel
theorem tyJ1_ok : ∀ k, k < 0 → parseFieldDescriptor (TJ1 k).2.2.1 = some (tyJ1 k) := by decide +kernel
def RJ2 : String := "java/lang/StringUTF16"
def TJ2 : u_T := fun k => match k with
  | _ => ("", "", "", false)
def tyJ2 : Nat → FieldType := fun k => match k with
  | _ => .int
theorem nmJ2 : ∀ a, a < 0 → ∀ b, b < 0 → a ≠ b → (TJ2 a).2.1 ≠ (TJ2 b).2.1 := by decide +kernel
theorem tyJ2_ok : ∀ k, k < 0 → parseFieldDescriptor (TJ2 k).2.2.1 = some (tyJ2 k) := by decide +kernel
def RJ10 : String := "java/lang/System"
def TJ10 : u_T := fun k => match k with
  | _ => ("", "", "", false)
def tyJ10 : Nat → FieldType := fun k => match k with
  | _ => .int
theorem nmJ10 : ∀ a, a < 0 → ∀ b, b < 0 → a ≠ b → (TJ10 a).2.1 ≠ (TJ10 b).2.1 := by decide +kernel
theorem tyJ10_ok : ∀ k, k < 0 → parseFieldDescriptor (TJ10 k).2.2.1 = some (tyJ10 k) := by decide +kernel
def RJ7 : String := "java/util/Arrays"
def TJ7 : u_T := fun k => match k with
  | _ => ("", "", "", false)
def tyJ7 : Nat → FieldType := fun k => match k with
  | _ => .int
theorem nmJ7 : ∀ a, a < 0 → ∀ b, b < 0 → a ≠ b → (TJ7 a).2.1 ≠ (TJ7 b).2.1 := by decide +kernel
theorem tyJ7_ok : ∀ k, k < 0 → parseFieldDescriptor (TJ7 k).2.2.1 = some (tyJ7 k) := by decide +kernel
def RJ8 : String := "jdk/internal/util/ArraysSupport"
def TJ8 : u_T := fun k => match k with
  | _ => ("", "", "", false)
def tyJ8 : Nat → FieldType := fun k => match k with
  | _ => .int
theorem nmJ8 : ∀ a, a < 0 → ∀ b, b < 0 → a ≠ b → (TJ8 a).2.1 ≠ (TJ8 b).2.1 := by decide +kernel
theorem tyJ8_ok : ∀ k, k < 0 → parseFieldDescriptor (TJ8 k).2.2.1 = some (tyJ8 k) := by decide +kernel
def RJ3 : String := "jdk/internal/util/Preconditions"
def TJ3 : u_T := fun k => match k with
  | _ => ("", "", "", false)
def tyJ3 : Nat → FieldType := fun k => match k with
  | _ => .int
theorem nmJ3 : ∀ a, a < 0 → ∀ b, b < 0 → a ≠ b → (TJ3 a).2.1 ≠ (TJ3 b).2.1 := by decide +kernel
theorem tyJ3_ok : ∀ k, k < 0 → parseFieldDescriptor (TJ3 k).2.2.1 = some (tyJ3 k) := by decide +kernel
-- the words that any method may use: those that hold on
def q_gw : List Cond := lw_tbl.filter goodWord
theorem q_gw_of {w : Cond} (h : w ∈ tables_1) (hg : goodWord w = true) : w ∈ q_gw := List.mem_filter.mpr ⟨List.mem_append_right _ h, hg⟩
theorem q_gw_sel {w : Cond} (h : w ∈ k2_sels lw_privs) (hg : goodWord w = true) : w ∈ q_gw := List.mem_filter.mpr ⟨List.mem_append_left _ h, hg⟩
theorem q_gw_good : ∀ w ∈ q_gw, (w.onTables && w.keeps) = true ∨ ∃ ty, w = .arrayClass ty := fun _ h => good_of_word (List.mem_filter.mp h).2
theorem q_t1 {w : Cond} (h : w ∈ tables_1_1) : w ∈ tables_1 := List.mem_append_left _ h
theorem q_t2 {w : Cond} (h : w ∈ tables_1_2) : w ∈ tables_1 := List.mem_append_right _ (List.mem_append_left _ h)
theorem q_t3 {w : Cond} (h : w ∈ tables_1_3) : w ∈ tables_1 := List.mem_append_right _ (List.mem_append_right _ (List.mem_append_left _ h))
theorem q_t4 {w : Cond} (h : w ∈ tables_1_4) : w ∈ tables_1 := List.mem_append_right _ (List.mem_append_right _ (List.mem_append_right _ (List.mem_append_left _ h)))
theorem q_t5 {w : Cond} (h : w ∈ tables_1_5) : w ∈ tables_1 := List.mem_append_right _ (List.mem_append_right _ (List.mem_append_right _ (List.mem_append_right _ (List.mem_append_left _ h))))
theorem q_t6 {w : Cond} (h : w ∈ tables_1_6) : w ∈ tables_1 := List.mem_append_right _ (List.mem_append_right _ (List.mem_append_right _ (List.mem_append_right _ (List.mem_append_right _ (List.mem_append_left _ h)))))
theorem q_t7 {w : Cond} (h : w ∈ tables_1_7) : w ∈ tables_1 := List.mem_append_right _ (List.mem_append_right _ (List.mem_append_right _ (List.mem_append_right _ (List.mem_append_right _ (List.mem_append_right _ h)))))
end
section
theorem sw_0 : Cond.selects "CalendarReplicas" ⟨"CalendarReplicas", "mergeAll", "()V"⟩ ⟨"CalendarReplicas", "mergeAll", "()V"⟩ ∈ q_gw := q_gw_sel (List.mem_of_getElem? (i := 0) rfl) rfl
theorem sw_1 : Cond.selects "CalendarReplicas$Merge" ⟨"CalendarReplicas$Merge", "mayBeBette\x72", "(LCalendarReplicas$World;II)Z"⟩ ⟨"CalendarReplicas$Merge", "mayBeBette\x72", "(LCalendarReplicas$World;II)Z"⟩ ∈ q_gw := q_gw_sel (List.mem_of_getElem? (i := 1) rfl) rfl
theorem sw_10 : Cond.selects "CalendarReplicas$Description" ⟨"CalendarReplicas$Description", "skip", "(C)Z"⟩ ⟨"CalendarReplicas$Description", "skip", "(C)Z"⟩ ∈ q_gw := q_gw_sel (List.mem_of_getElem? (i := 10) rfl) rfl
theorem sw_11 : Cond.selects "CalendarReplicas$Description" ⟨"CalendarReplicas$Description", "readOptions", "()Z"⟩ ⟨"CalendarReplicas$Description", "readOptions", "()Z"⟩ ∈ q_gw := q_gw_sel (List.mem_of_getElem? (i := 11) rfl) rfl
theorem sw_12 : Cond.selects "CalendarReplicas$Description" ⟨"CalendarReplicas$Description", "isAtEnd", "()Z"⟩ ⟨"CalendarReplicas$Description", "isAtEnd", "()Z"⟩ ∈ q_gw := q_gw_sel (List.mem_of_getElem? (i := 12) rfl) rfl
theorem sw_13 : Cond.selects "CalendarReplicas$Description" ⟨"CalendarReplicas$Description", "readOption", "()Z"⟩ ⟨"CalendarReplicas$Description", "readOption", "()Z"⟩ ∈ q_gw := q_gw_sel (List.mem_of_getElem? (i := 13) rfl) rfl
theorem sw_14 : Cond.selects "CalendarReplicas$Description" ⟨"CalendarReplicas$Description", "readPersons", "()I"⟩ ⟨"CalendarReplicas$Description", "readPersons", "()I"⟩ ∈ q_gw := q_gw_sel (List.mem_of_getElem? (i := 14) rfl) rfl
theorem sw_15 : Cond.selects "CalendarReplicas$Description" ⟨"CalendarReplicas$Description", "readPeriod", "()Z"⟩ ⟨"CalendarReplicas$Description", "readPeriod", "()Z"⟩ ∈ q_gw := q_gw_sel (List.mem_of_getElem? (i := 15) rfl) rfl
theorem sw_16 : Cond.selects "CalendarReplicas" ⟨"CalendarReplicas", "isChangeable", "(III)Z"⟩ ⟨"CalendarReplicas", "isChangeable", "(III)Z"⟩ ∈ q_gw := q_gw_sel (List.mem_of_getElem? (i := 16) rfl) rfl
theorem sw_17 : Cond.selects "CalendarReplicas" ⟨"CalendarReplicas", "find", "(II)LCalendarReplicas$Meeting;"⟩ ⟨"CalendarReplicas", "find", "(II)LCalendarReplicas$Meeting;"⟩ ∈ q_gw := q_gw_sel (List.mem_of_getElem? (i := 17) rfl) rfl
theorem sw_18 : Cond.selects "CalendarReplicas" ⟨"CalendarReplicas", "show", "(I)V"⟩ ⟨"CalendarReplicas", "show", "(I)V"⟩ ∈ q_gw := q_gw_sel (List.mem_of_getElem? (i := 18) rfl) rfl
theorem sw_19 : Cond.selects "CalendarReplicas" ⟨"CalendarReplicas", "learn", "(II)I"⟩ ⟨"CalendarReplicas", "learn", "(II)I"⟩ ∈ q_gw := q_gw_sel (List.mem_of_getElem? (i := 19) rfl) rfl
theorem sw_2 : Cond.selects "CalendarReplicas$Merge" ⟨"CalendarReplicas$Merge", "fits", "(LCalendarReplicas$World;II)Z"⟩ ⟨"CalendarReplicas$Merge", "fits", "(LCalendarReplicas$World;II)Z"⟩ ∈ q_gw := q_gw_sel (List.mem_of_getElem? (i := 2) rfl) rfl
theorem sw_20 : Cond.selects "CalendarReplicas" ⟨"CalendarReplicas", "standing", "(II)I"⟩ ⟨"CalendarReplicas", "standing", "(II)I"⟩ ∈ q_gw := q_gw_sel (List.mem_of_getElem? (i := 20) rfl) rfl
theorem sw_21 : Cond.selects "CalendarReplicas" ⟨"CalendarReplicas", "nearestStart", "(LCalendarReplicas$Edit;II)I"⟩ ⟨"CalendarReplicas", "nearestStart", "(LCalendarReplicas$Edit;II)I"⟩ ∈ q_gw := q_gw_sel (List.mem_of_getElem? (i := 21) rfl) rfl
theorem sw_22 : Cond.selects "CalendarReplicas" ⟨"CalendarReplicas", "admitsStart", "(LCalendarReplicas$Edit;II)Z"⟩ ⟨"CalendarReplicas", "admitsStart", "(LCalendarReplicas$Edit;II)Z"⟩ ∈ q_gw := q_gw_sel (List.mem_of_getElem? (i := 22) rfl) rfl
theorem sw_23 : Cond.selects "CalendarReplicas" ⟨"CalendarReplicas", "fillTimetable", "(I)V"⟩ ⟨"CalendarReplicas", "fillTimetable", "(I)V"⟩ ∈ q_gw := q_gw_sel (List.mem_of_getElem? (i := 23) rfl) rfl
theorem sw_24 : Cond.selects "CalendarReplicas" ⟨"CalendarReplicas", "mixEdit", "(JI)J"⟩ ⟨"CalendarReplicas", "mixEdit", "(JI)J"⟩ ∈ q_gw := q_gw_sel (List.mem_of_getElem? (i := 24) rfl) rfl
theorem sw_25 : Cond.selects "CalendarReplicas" ⟨"CalendarReplicas", "mixReplica", "(JI)J"⟩ ⟨"CalendarReplicas", "mixReplica", "(JI)J"⟩ ∈ q_gw := q_gw_sel (List.mem_of_getElem? (i := 25) rfl) rfl
theorem sw_26 : Cond.selects "CalendarReplicasModel" ⟨"CalendarReplicasModel", "isBegun", "()Z"⟩ ⟨"CalendarReplicasModel", "isBegun", "()Z"⟩ ∈ q_gw := q_gw_sel (List.mem_of_getElem? (i := 26) rfl) rfl
theorem sw_27 : Cond.selects "CalendarReplicasModel" ⟨"CalendarReplicasModel", "isAdmissible", "(I)Z"⟩ ⟨"CalendarReplicasModel", "isAdmissible", "(I)Z"⟩ ∈ q_gw := q_gw_sel (List.mem_of_getElem? (i := 27) rfl) rfl
theorem sw_28 : Cond.selects "CalendarReplicasModel" ⟨"CalendarReplicasModel", "isFounded", "(II)Z"⟩ ⟨"CalendarReplicasModel", "isFounded", "(II)Z"⟩ ∈ q_gw := q_gw_sel (List.mem_of_getElem? (i := 28) rfl) rfl
theorem sw_29 : Cond.selects "CalendarReplicasModel" ⟨"CalendarReplicasModel", "isOfBase", "(I)Z"⟩ ⟨"CalendarReplicasModel", "isOfBase", "(I)Z"⟩ ∈ q_gw := q_gw_sel (List.mem_of_getElem? (i := 29) rfl) rfl
theorem sw_3 : Cond.selects "CalendarReplicas$Timetable" ⟨"CalendarReplicas$Timetable", "take", "(III)V"⟩ ⟨"CalendarReplicas$Timetable", "take", "(III)V"⟩ ∈ q_gw := q_gw_sel (List.mem_of_getElem? (i := 3) rfl) rfl
theorem sw_30 : Cond.selects "CalendarReplicasModel" ⟨"CalendarReplicasModel", "clashes", "(II)Z"⟩ ⟨"CalendarReplicasModel", "clashes", "(II)Z"⟩ ∈ q_gw := q_gw_sel (List.mem_of_getElem? (i := 30) rfl) rfl
theorem sw_31 : Cond.selects "CalendarReplicasModel" ⟨"CalendarReplicasModel", "isOfPerson", "(I)Z"⟩ ⟨"CalendarReplicasModel", "isOfPerson", "(I)Z"⟩ ∈ q_gw := q_gw_sel (List.mem_of_getElem? (i := 31) rfl) rfl
theorem sw_32 : Cond.selects "CalendarReplicasModel" ⟨"CalendarReplicasModel", "forms", "(I)V"⟩ ⟨"CalendarReplicasModel", "forms", "(I)V"⟩ ∈ q_gw := q_gw_sel (List.mem_of_getElem? (i := 32) rfl) rfl
theorem sw_33 : Cond.selects "CalendarReplicasModel" ⟨"CalendarReplicasModel", "carriesOut", "(I)V"⟩ ⟨"CalendarReplicasModel", "carriesOut", "(I)V"⟩ ∈ q_gw := q_gw_sel (List.mem_of_getElem? (i := 33) rfl) rfl
theorem sw_34 : Cond.selects "CalendarReplicasModel" ⟨"CalendarReplicasModel", "find", "(I)I"⟩ ⟨"CalendarReplicasModel", "find", "(I)I"⟩ ∈ q_gw := q_gw_sel (List.mem_of_getElem? (i := 34) rfl) rfl
theorem sw_35 : Cond.selects "CalendarReplicasModel" ⟨"CalendarReplicasModel", "isValid", "()Z"⟩ ⟨"CalendarReplicasModel", "isValid", "()Z"⟩ ∈ q_gw := q_gw_sel (List.mem_of_getElem? (i := 35) rfl) rfl
theorem sw_36 : Cond.selects "CalendarReplicasModel" ⟨"CalendarReplicasModel", "isWell", "(I)Z"⟩ ⟨"CalendarReplicasModel", "isWell", "(I)Z"⟩ ∈ q_gw := q_gw_sel (List.mem_of_getElem? (i := 36) rfl) rfl
theorem sw_37 : Cond.selects "CalendarReplicasModel" ⟨"CalendarReplicasModel", "lastSlot", "(I)I"⟩ ⟨"CalendarReplicasModel", "lastSlot", "(I)I"⟩ ∈ q_gw := q_gw_sel (List.mem_of_getElem? (i := 37) rfl) rfl
theorem sw_38 : Cond.selects "CalendarReplicasModel" ⟨"CalendarReplicasModel", "findSlots", "(I)V"⟩ ⟨"CalendarReplicasModel", "findSlots", "(I)V"⟩ ∈ q_gw := q_gw_sel (List.mem_of_getElem? (i := 38) rfl) rfl
theorem sw_39 : Cond.selects "CalendarReplicasModel" ⟨"CalendarReplicasModel", "meets", "(III)Z"⟩ ⟨"CalendarReplicasModel", "meets", "(III)Z"⟩ ∈ q_gw := q_gw_sel (List.mem_of_getElem? (i := 39) rfl) rfl
theorem sw_4 : Cond.selects "CalendarReplicas" ⟨"CalendarReplicas", "make", "(IIIII)I"⟩ ⟨"CalendarReplicas", "make", "(IIIII)I"⟩ ∈ q_gw := q_gw_sel (List.mem_of_getElem? (i := 4) rfl) rfl
theorem sw_40 : Cond.selects "CalendarReplicasModel" ⟨"CalendarReplicasModel", "creates", "(IIIIII)I"⟩ ⟨"CalendarReplicasModel", "creates", "(IIIIII)I"⟩ ∈ q_gw := q_gw_sel (List.mem_of_getElem? (i := 40) rfl) rfl
theorem sw_41 : Cond.selects "CalendarReplicasModel" ⟨"CalendarReplicasModel", "makes", "(IIIII)I"⟩ ⟨"CalendarReplicasModel", "makes", "(IIIII)I"⟩ ∈ q_gw := q_gw_sel (List.mem_of_getElem? (i := 41) rfl) rfl
theorem sw_42 : Cond.selects "CalendarReplicasModel" ⟨"CalendarReplicasModel", "accepted", "(I)I"⟩ ⟨"CalendarReplicasModel", "accepted", "(I)I"⟩ ∈ q_gw := q_gw_sel (List.mem_of_getElem? (i := 42) rfl) rfl
theorem sw_43 : Cond.selects "CalendarReplicasModel" ⟨"CalendarReplicasModel", "bestWith", "(II)I"⟩ ⟨"CalendarReplicasModel", "bestWith", "(II)I"⟩ ∈ q_gw := q_gw_sel (List.mem_of_getElem? (i := 43) rfl) rfl
theorem sw_44 : Cond.selects "CalendarReplicasModel" ⟨"CalendarReplicasModel", "usable", "(I)I"⟩ ⟨"CalendarReplicasModel", "usable", "(I)I"⟩ ∈ q_gw := q_gw_sel (List.mem_of_getElem? (i := 44) rfl) rfl
theorem sw_45 : Cond.selects "CalendarReplicasModel" ⟨"CalendarReplicasModel", "weight", "(I)I"⟩ ⟨"CalendarReplicasModel", "weight", "(I)I"⟩ ∈ q_gw := q_gw_sel (List.mem_of_getElem? (i := 45) rfl) rfl
theorem sw_46 : Cond.selects "CalendarReplicasModel" ⟨"CalendarReplicasModel", "isText", "()Z"⟩ ⟨"CalendarReplicasModel", "isText", "()Z"⟩ ∈ q_gw := q_gw_sel (List.mem_of_getElem? (i := 46) rfl) rfl
theorem sw_47 : Cond.selects "CalendarReplicasModel" ⟨"CalendarReplicasModel", "numbe\x72", "()I"⟩ ⟨"CalendarReplicasModel", "numbe\x72", "()I"⟩ ∈ q_gw := q_gw_sel (List.mem_of_getElem? (i := 47) rfl) rfl
theorem sw_48 : Cond.selects "CalendarReplicasModel" ⟨"CalendarReplicasModel", "here", "()I"⟩ ⟨"CalendarReplicasModel", "here", "()I"⟩ ∈ q_gw := q_gw_sel (List.mem_of_getElem? (i := 48) rfl) rfl
theorem sw_49 : Cond.selects "CalendarReplicasModel" ⟨"CalendarReplicasModel", "takes", "(I)Z"⟩ ⟨"CalendarReplicasModel", "takes", "(I)Z"⟩ ∈ q_gw := q_gw_sel (List.mem_of_getElem? (i := 49) rfl) rfl
theorem sw_5 : Cond.selects "CalendarReplicas$Edit" ⟨"CalendarReplicas$Edit", "changesSame", "(LCalendarReplicas$Edit;)Z"⟩ ⟨"CalendarReplicas$Edit", "changesSame", "(LCalendarReplicas$Edit;)Z"⟩ ∈ q_gw := q_gw_sel (List.mem_of_getElem? (i := 5) rfl) rfl
theorem sw_50 : Cond.selects "CalendarReplicasModel" ⟨"CalendarReplicasModel", "areOptions", "()Z"⟩ ⟨"CalendarReplicasModel", "areOptions", "()Z"⟩ ∈ q_gw := q_gw_sel (List.mem_of_getElem? (i := 50) rfl) rfl
theorem sw_51 : Cond.selects "CalendarReplicasModel" ⟨"CalendarReplicasModel", "isOption", "(I)Z"⟩ ⟨"CalendarReplicasModel", "isOption", "(I)Z"⟩ ∈ q_gw := q_gw_sel (List.mem_of_getElem? (i := 51) rfl) rfl
theorem sw_52 : Cond.selects "CalendarReplicasModel" ⟨"CalendarReplicasModel", "areToldPersons", "()Z"⟩ ⟨"CalendarReplicasModel", "areToldPersons", "()Z"⟩ ∈ q_gw := q_gw_sel (List.mem_of_getElem? (i := 52) rfl) rfl
theorem sw_53 : Cond.selects "CalendarReplicasModel" ⟨"CalendarReplicasModel", "changes", "(IIIIII)I"⟩ ⟨"CalendarReplicasModel", "changes", "(IIIIII)I"⟩ ∈ q_gw := q_gw_sel (List.mem_of_getElem? (i := 53) rfl) rfl
theorem sw_54 : Cond.selects "CalendarReplicasModel" ⟨"CalendarReplicasModel", "isThere", "(II)Z"⟩ ⟨"CalendarReplicasModel", "isThere", "(II)Z"⟩ ∈ q_gw := q_gw_sel (List.mem_of_getElem? (i := 54) rfl) rfl
theorem sw_55 : Cond.selects "CalendarReplicasModel" ⟨"CalendarReplicasModel", "shows", "(I)V"⟩ ⟨"CalendarReplicasModel", "shows", "(I)V"⟩ ∈ q_gw := q_gw_sel (List.mem_of_getElem? (i := 55) rfl) rfl
theorem sw_56 : Cond.selects "CalendarReplicasModel" ⟨"CalendarReplicasModel", "findEdit", "(I)I"⟩ ⟨"CalendarReplicasModel", "findEdit", "(I)I"⟩ ∈ q_gw := q_gw_sel (List.mem_of_getElem? (i := 56) rfl) rfl
theorem sw_57 : Cond.selects "CalendarReplicasModel" ⟨"CalendarReplicasModel", "indexOf", "(I)I"⟩ ⟨"CalendarReplicasModel", "indexOf", "(I)I"⟩ ∈ q_gw := q_gw_sel (List.mem_of_getElem? (i := 57) rfl) rfl
theorem sw_58 : Cond.selects "CalendarReplicasModel" ⟨"CalendarReplicasModel", "of", "(III)I"⟩ ⟨"CalendarReplicasModel", "of", "(III)I"⟩ ∈ q_gw := q_gw_sel (List.mem_of_getElem? (i := 58) rfl) rfl
theorem sw_59 : Cond.selects "CalendarReplicasModel" ⟨"CalendarReplicasModel", "ofEdit", "(II)I"⟩ ⟨"CalendarReplicasModel", "ofEdit", "(II)I"⟩ ∈ q_gw := q_gw_sel (List.mem_of_getElem? (i := 59) rfl) rfl
theorem sw_6 : Cond.selects "CalendarReplicas$Description" ⟨"CalendarReplicas$Description", "readTime", "()Z"⟩ ⟨"CalendarReplicas$Description", "readTime", "()Z"⟩ ∈ q_gw := q_gw_sel (List.mem_of_getElem? (i := 6) rfl) rfl
theorem sw_60 : Cond.selects "CalendarReplicasModel" ⟨"CalendarReplicasModel", "stateOf", "(II)I"⟩ ⟨"CalendarReplicasModel", "stateOf", "(II)I"⟩ ∈ q_gw := q_gw_sel (List.mem_of_getElem? (i := 60) rfl) rfl
theorem sw_61 : Cond.selects "CalendarReplicasModel" ⟨"CalendarReplicasModel", "stateBy", "(IIII)I"⟩ ⟨"CalendarReplicasModel", "stateBy", "(IIII)I"⟩ ∈ q_gw := q_gw_sel (List.mem_of_getElem? (i := 61) rfl) rfl
theorem sw_62 : Cond.selects "CalendarReplicasModel" ⟨"CalendarReplicasModel", "decimal", "(I)V"⟩ ⟨"CalendarReplicasModel", "decimal", "(I)V"⟩ ∈ q_gw := q_gw_sel (List.mem_of_getElem? (i := 62) rfl) rfl
theorem sw_63 : Cond.selects "CalendarReplicasModel" ⟨"CalendarReplicasModel", "sign", "(I)V"⟩ ⟨"CalendarReplicasModel", "sign", "(I)V"⟩ ∈ q_gw := q_gw_sel (List.mem_of_getElem? (i := 63) rfl) rfl
theorem sw_64 : Cond.selects "CalendarReplicasModel" ⟨"CalendarReplicasModel", "option", "(I)V"⟩ ⟨"CalendarReplicasModel", "option", "(I)V"⟩ ∈ q_gw := q_gw_sel (List.mem_of_getElem? (i := 64) rfl) rfl
theorem sw_65 : Cond.selects "CalendarReplicasModel" ⟨"CalendarReplicasModel", "moreOfEdit", "(JI)J"⟩ ⟨"CalendarReplicasModel", "moreOfEdit", "(JI)J"⟩ ∈ q_gw := q_gw_sel (List.mem_of_getElem? (i := 65) rfl) rfl
theorem sw_66 : Cond.selects "CalendarReplicasModel" ⟨"CalendarReplicasModel", "moreOf", "(JI)J"⟩ ⟨"CalendarReplicasModel", "moreOf", "(JI)J"⟩ ∈ q_gw := q_gw_sel (List.mem_of_getElem? (i := 66) rfl) rfl
theorem sw_7 : Cond.selects "CalendarReplicas$Description" ⟨"CalendarReplicas$Description", "readNumbe\x72", "()I"⟩ ⟨"CalendarReplicas$Description", "readNumbe\x72", "()I"⟩ ∈ q_gw := q_gw_sel (List.mem_of_getElem? (i := 7) rfl) rfl
theorem sw_8 : Cond.selects "CalendarReplicas$Description" ⟨"CalendarReplicas$Description", "readDigit", "(II)I"⟩ ⟨"CalendarReplicas$Description", "readDigit", "(II)I"⟩ ∈ q_gw := q_gw_sel (List.mem_of_getElem? (i := 8) rfl) rfl
theorem sw_9 : Cond.selects "CalendarReplicas$Description" ⟨"CalendarReplicas$Description", "peek", "()C"⟩ ⟨"CalendarReplicas$Description", "peek", "()C"⟩ ∈ q_gw := q_gw_sel (List.mem_of_getElem? (i := 9) rfl) rfl
theorem tw_1_0 : (Jvm.Cond.initialized "CalendarReplicasLaw") ∈ q_gw := q_gw_of (q_t1 (List.mem_of_getElem? (i := 0) rfl)) rfl
theorem tw_1_1 : (Jvm.Cond.initialized "CalendarReplicas") ∈ q_gw := q_gw_of (q_t1 (List.mem_of_getElem? (i := 1) rfl)) rfl
theorem tw_1_10 : (Jvm.Cond.initialized "CalendarReplicas$Description") ∈ q_gw := q_gw_of (q_t1 (List.mem_of_getElem? (i := 10) rfl)) rfl
theorem tw_1_100 : (Jvm.Cond.fieldLink "CalendarReplicas$Timetable" (47 : Nat) "CalendarReplicas$Meeting" "start" "I") ∈ q_gw := q_gw_of (q_t1 (List.mem_of_getElem? (i := 100) rfl)) rfl
theorem tw_1_101 : (Jvm.Cond.fieldLink "CalendarReplicas$Edit" (51 : Nat) "CalendarReplicas$Meeting" "start" "I") ∈ q_gw := q_gw_of (q_t1 (List.mem_of_getElem? (i := 101) rfl)) rfl
theorem tw_1_102 : (Jvm.Cond.fieldLink "CalendarReplicas$Rules" (58 : Nat) "CalendarReplicas$Meeting" "start" "I") ∈ q_gw := q_gw_of (q_t1 (List.mem_of_getElem? (i := 102) rfl)) rfl
theorem tw_1_103 : (Jvm.Cond.fieldLink "CalendarReplicas$Calenda\x72" (44 : Nat) "CalendarReplicas$Meeting" "start" "I") ∈ q_gw := q_gw_of (q_t1 (List.mem_of_getElem? (i := 103) rfl)) rfl
theorem tw_1_104 : (Jvm.Cond.fieldLink "CalendarReplicas" (234 : Nat) "CalendarReplicas$Meeting" "start" "I") ∈ q_gw := q_gw_of (q_t1 (List.mem_of_getElem? (i := 104) rfl)) rfl
theorem tw_1_105 : (Jvm.Cond.fieldLink "CalendarReplicas$Meeting" (15 : Nat) "CalendarReplicas$Meeting" "duration" "I") ∈ q_gw := q_gw_of (q_t1 (List.mem_of_getElem? (i := 105) rfl)) rfl
theorem tw_1_106 : (Jvm.Cond.fieldLink "CalendarReplicas$Timetable" (53 : Nat) "CalendarReplicas$Meeting" "duration" "I") ∈ q_gw := q_gw_of (q_t1 (List.mem_of_getElem? (i := 106) rfl)) rfl
theorem tw_1_107 : (Jvm.Cond.fieldLink "CalendarReplicas$Description" (64 : Nat) "CalendarReplicas$Meeting" "duration" "I") ∈ q_gw := q_gw_of (q_t1 (List.mem_of_getElem? (i := 107) rfl)) rfl
theorem tw_1_108 : (Jvm.Cond.fieldLink "CalendarReplicas$Rules" (71 : Nat) "CalendarReplicas$Meeting" "duration" "I") ∈ q_gw := q_gw_of (q_t1 (List.mem_of_getElem? (i := 108) rfl)) rfl
theorem tw_1_109 : (Jvm.Cond.fieldLink "CalendarReplicas$Edit" (61 : Nat) "CalendarReplicas$Meeting" "duration" "I") ∈ q_gw := q_gw_of (q_t1 (List.mem_of_getElem? (i := 109) rfl)) rfl
theorem tw_1_11 : (Jvm.Cond.initialized "java/lang/AbstractStringBuilde\x72") ∈ q_gw := q_gw_of (q_t1 (List.mem_of_getElem? (i := 11) rfl)) rfl
theorem tw_1_110 : (Jvm.Cond.fieldLink "CalendarReplicas" (237 : Nat) "CalendarReplicas$Meeting" "duration" "I") ∈ q_gw := q_gw_of (q_t1 (List.mem_of_getElem? (i := 110) rfl)) rfl
theorem tw_1_111 : (Jvm.Cond.fieldLink "CalendarReplicas$Meeting" (18 : Nat) "CalendarReplicas$Meeting" "room" "I") ∈ q_gw := q_gw_of (q_t1 (List.mem_of_getElem? (i := 111) rfl)) rfl
theorem tw_1_112 : (Jvm.Cond.fieldLink "CalendarReplicas$Rules" (49 : Nat) "CalendarReplicas$Meeting" "room" "I") ∈ q_gw := q_gw_of (q_t1 (List.mem_of_getElem? (i := 112) rfl)) rfl
theorem tw_1_113 : (Jvm.Cond.fieldLink "CalendarReplicas$Description" (89 : Nat) "CalendarReplicas$Meeting" "room" "I") ∈ q_gw := q_gw_of (q_t1 (List.mem_of_getElem? (i := 113) rfl)) rfl
theorem tw_1_114 : (Jvm.Cond.fieldLink "CalendarReplicas$Edit" (58 : Nat) "CalendarReplicas$Meeting" "room" "I") ∈ q_gw := q_gw_of (q_t1 (List.mem_of_getElem? (i := 114) rfl)) rfl
theorem tw_1_115 : (Jvm.Cond.fieldLink "CalendarReplicas" (240 : Nat) "CalendarReplicas$Meeting" "room" "I") ∈ q_gw := q_gw_of (q_t1 (List.mem_of_getElem? (i := 115) rfl)) rfl
theorem tw_1_116 : (Jvm.Cond.fieldLink "CalendarReplicas$Meeting" (21 : Nat) "CalendarReplicas$Meeting" "persons" "I") ∈ q_gw := q_gw_of (q_t1 (List.mem_of_getElem? (i := 116) rfl)) rfl
theorem tw_1_117 : (Jvm.Cond.fieldLink "CalendarReplicas$Rules" (74 : Nat) "CalendarReplicas$Meeting" "persons" "I") ∈ q_gw := q_gw_of (q_t1 (List.mem_of_getElem? (i := 117) rfl)) rfl
theorem tw_1_118 : (Jvm.Cond.fieldLink "CalendarReplicas$Description" (95 : Nat) "CalendarReplicas$Meeting" "persons" "I") ∈ q_gw := q_gw_of (q_t1 (List.mem_of_getElem? (i := 118) rfl)) rfl
theorem tw_1_119 : (Jvm.Cond.fieldLink "CalendarReplicas$Edit" (64 : Nat) "CalendarReplicas$Meeting" "persons" "I") ∈ q_gw := q_gw_of (q_t1 (List.mem_of_getElem? (i := 119) rfl)) rfl
theorem tw_1_12 : (Jvm.Cond.initialized "java/lang/StringBuilde\x72") ∈ q_gw := q_gw_of (q_t1 (List.mem_of_getElem? (i := 12) rfl)) rfl
theorem tw_1_120 : (Jvm.Cond.fieldLink "CalendarReplicas" (243 : Nat) "CalendarReplicas$Meeting" "persons" "I") ∈ q_gw := q_gw_of (q_t1 (List.mem_of_getElem? (i := 120) rfl)) rfl
theorem tw_1_121 : (Jvm.Cond.fieldLink "CalendarReplicas$Meeting" (24 : Nat) "CalendarReplicas$Meeting" "period" "I") ∈ q_gw := q_gw_of (q_t1 (List.mem_of_getElem? (i := 121) rfl)) rfl
theorem tw_1_122 : (Jvm.Cond.fieldLink "CalendarReplicas$Timetable" (50 : Nat) "CalendarReplicas$Meeting" "period" "I") ∈ q_gw := q_gw_of (q_t1 (List.mem_of_getElem? (i := 122) rfl)) rfl
theorem tw_1_123 : (Jvm.Cond.fieldLink "CalendarReplicas$Rules" (68 : Nat) "CalendarReplicas$Meeting" "period" "I") ∈ q_gw := q_gw_of (q_t1 (List.mem_of_getElem? (i := 123) rfl)) rfl
theorem tw_1_124 : (Jvm.Cond.fieldLink "CalendarReplicas$Description" (101 : Nat) "CalendarReplicas$Meeting" "period" "I") ∈ q_gw := q_gw_of (q_t1 (List.mem_of_getElem? (i := 124) rfl)) rfl
theorem tw_1_125 : (Jvm.Cond.fieldLink "CalendarReplicas" (246 : Nat) "CalendarReplicas$Meeting" "period" "I") ∈ q_gw := q_gw_of (q_t1 (List.mem_of_getElem? (i := 125) rfl)) rfl
theorem tw_1_126 : (Jvm.Cond.fieldLink "CalendarReplicas$Meeting" (27 : Nat) "CalendarReplicas$Meeting" "count" "I") ∈ q_gw := q_gw_of (q_t1 (List.mem_of_getElem? (i := 126) rfl)) rfl
theorem tw_1_127 : (Jvm.Cond.fieldLink "CalendarReplicas$Timetable" (43 : Nat) "CalendarReplicas$Meeting" "count" "I") ∈ q_gw := q_gw_of (q_t1 (List.mem_of_getElem? (i := 127) rfl)) rfl
theorem tw_1_128 : (Jvm.Cond.fieldLink "CalendarReplicas$Rules" (65 : Nat) "CalendarReplicas$Meeting" "count" "I") ∈ q_gw := q_gw_of (q_t1 (List.mem_of_getElem? (i := 128) rfl)) rfl
theorem tw_1_129 : (Jvm.Cond.fieldLink "CalendarReplicas$Description" (104 : Nat) "CalendarReplicas$Meeting" "count" "I") ∈ q_gw := q_gw_of (q_t1 (List.mem_of_getElem? (i := 129) rfl)) rfl
theorem tw_1_13 : (Jvm.Cond.initialized "java/lang/String") ∈ q_gw := q_gw_of (q_t1 (List.mem_of_getElem? (i := 13) rfl)) rfl
theorem tw_1_130 : (Jvm.Cond.fieldLink "CalendarReplicas" (249 : Nat) "CalendarReplicas$Meeting" "count" "I") ∈ q_gw := q_gw_of (q_t1 (List.mem_of_getElem? (i := 130) rfl)) rfl
theorem tw_1_131 : (Jvm.Cond.lays "CalendarReplicas$Meeting" "CalendarReplicas$Meeting" "numbe\x72" "I") ∈ q_gw := q_gw_of (q_t1 (List.mem_of_getElem? (i := 131) rfl)) rfl
theorem tw_1_132 : (Jvm.Cond.soleField "CalendarReplicas$Meeting" "numbe\x72") ∈ q_gw := q_gw_of (q_t1 (List.mem_of_getElem? (i := 132) rfl)) rfl
theorem tw_1_133 : (Jvm.Cond.lays "CalendarReplicas$Meeting" "CalendarReplicas$Meeting" "start" "I") ∈ q_gw := q_gw_of (q_t1 (List.mem_of_getElem? (i := 133) rfl)) rfl
theorem tw_1_134 : (Jvm.Cond.soleField "CalendarReplicas$Meeting" "start") ∈ q_gw := q_gw_of (q_t1 (List.mem_of_getElem? (i := 134) rfl)) rfl
theorem tw_1_135 : (Jvm.Cond.lays "CalendarReplicas$Meeting" "CalendarReplicas$Meeting" "duration" "I") ∈ q_gw := q_gw_of (q_t1 (List.mem_of_getElem? (i := 135) rfl)) rfl
theorem tw_1_136 : (Jvm.Cond.soleField "CalendarReplicas$Meeting" "duration") ∈ q_gw := q_gw_of (q_t1 (List.mem_of_getElem? (i := 136) rfl)) rfl
theorem tw_1_137 : (Jvm.Cond.lays "CalendarReplicas$Meeting" "CalendarReplicas$Meeting" "room" "I") ∈ q_gw := q_gw_of (q_t1 (List.mem_of_getElem? (i := 137) rfl)) rfl
theorem tw_1_138 : (Jvm.Cond.soleField "CalendarReplicas$Meeting" "room") ∈ q_gw := q_gw_of (q_t1 (List.mem_of_getElem? (i := 138) rfl)) rfl
theorem tw_1_139 : (Jvm.Cond.lays "CalendarReplicas$Meeting" "CalendarReplicas$Meeting" "persons" "I") ∈ q_gw := q_gw_of (q_t1 (List.mem_of_getElem? (i := 139) rfl)) rfl
theorem tw_1_14 : (Jvm.Cond.initialized "java/lang/StringUTF16") ∈ q_gw := q_gw_of (q_t1 (List.mem_of_getElem? (i := 14) rfl)) rfl
theorem tw_1_140 : (Jvm.Cond.soleField "CalendarReplicas$Meeting" "persons") ∈ q_gw := q_gw_of (q_t1 (List.mem_of_getElem? (i := 140) rfl)) rfl
theorem tw_1_141 : (Jvm.Cond.lays "CalendarReplicas$Meeting" "CalendarReplicas$Meeting" "period" "I") ∈ q_gw := q_gw_of (q_t1 (List.mem_of_getElem? (i := 141) rfl)) rfl
theorem tw_1_142 : (Jvm.Cond.soleField "CalendarReplicas$Meeting" "period") ∈ q_gw := q_gw_of (q_t1 (List.mem_of_getElem? (i := 142) rfl)) rfl
theorem tw_1_143 : (Jvm.Cond.lays "CalendarReplicas$Meeting" "CalendarReplicas$Meeting" "count" "I") ∈ q_gw := q_gw_of (q_t1 (List.mem_of_getElem? (i := 143) rfl)) rfl
theorem tw_1_144 : (Jvm.Cond.soleField "CalendarReplicas$Meeting" "count") ∈ q_gw := q_gw_of (q_t1 (List.mem_of_getElem? (i := 144) rfl)) rfl
theorem tw_1_145 : (Jvm.Cond.superclass "CalendarReplicas$Meeting" "java/lang/Object") ∈ q_gw := q_gw_of (q_t1 (List.mem_of_getElem? (i := 145) rfl)) rfl
theorem tw_1_146 : (Jvm.Cond.fieldLink "CalendarReplicas$Calenda\x72" (15 : Nat) "CalendarReplicas$Calenda\x72" "rows" "[LCalendarReplicas$Meeting;") ∈ q_gw := q_gw_of (q_t1 (List.mem_of_getElem? (i := 146) rfl)) rfl
theorem tw_1_147 : (Jvm.Cond.fieldLink "CalendarReplicas$Calenda\x72" (22 : Nat) "CalendarReplicas$Calenda\x72" "size" "I") ∈ q_gw := q_gw_of (q_t1 (List.mem_of_getElem? (i := 147) rfl)) rfl
theorem tw_1_148 : (Jvm.Cond.fieldLink "CalendarReplicas$World" (70 : Nat) "CalendarReplicas$Calenda\x72" "size" "I") ∈ q_gw := q_gw_of (q_t1 (List.mem_of_getElem? (i := 148) rfl)) rfl
theorem tw_1_149 : (Jvm.Cond.fieldLink "CalendarReplicas$Merge" (87 : Nat) "CalendarReplicas$Calenda\x72" "size" "I") ∈ q_gw := q_gw_of (q_t1 (List.mem_of_getElem? (i := 149) rfl)) rfl
theorem tw_1_15 : (Jvm.Cond.initialized "CalendarReplicasModel") ∈ q_gw := q_gw_of (q_t1 (List.mem_of_getElem? (i := 15) rfl)) rfl
theorem tw_1_150 : (Jvm.Cond.fieldLink "CalendarReplicas" (217 : Nat) "CalendarReplicas$Calenda\x72" "size" "I") ∈ q_gw := q_gw_of (q_t1 (List.mem_of_getElem? (i := 150) rfl)) rfl
theorem tw_1_151 : (Jvm.Cond.laysFinal "CalendarReplicas$Calenda\x72" "CalendarReplicas$Calenda\x72" "rows" "[LCalendarReplicas$Meeting;") ∈ q_gw := q_gw_of (q_t1 (List.mem_of_getElem? (i := 151) rfl)) rfl
theorem tw_1_152 : (Jvm.Cond.soleField "CalendarReplicas$Calenda\x72" "rows") ∈ q_gw := q_gw_of (q_t1 (List.mem_of_getElem? (i := 152) rfl)) rfl
theorem tw_1_153 : (Jvm.Cond.lays "CalendarReplicas$Calenda\x72" "CalendarReplicas$Calenda\x72" "size" "I") ∈ q_gw := q_gw_of (q_t1 (List.mem_of_getElem? (i := 153) rfl)) rfl
theorem tw_1_154 : (Jvm.Cond.soleField "CalendarReplicas$Calenda\x72" "size") ∈ q_gw := q_gw_of (q_t1 (List.mem_of_getElem? (i := 154) rfl)) rfl
theorem tw_1_155 : (Jvm.Cond.superclass "CalendarReplicas$Calenda\x72" "java/lang/Object") ∈ q_gw := q_gw_of (q_t1 (List.mem_of_getElem? (i := 155) rfl)) rfl
theorem tw_1_156 : (Jvm.Cond.classLink "CalendarReplicas$World" (27 : Nat) "CalendarReplicas$Edit") ∈ q_gw := q_gw_of (q_t1 (List.mem_of_getElem? (i := 156) rfl)) rfl
theorem tw_1_157 : (Jvm.Cond.arrayOver (Jvm.ClassFile.FieldType.object "CalendarReplicas$Edit")) ∈ lw_tbl := List.mem_append_right _ (q_t1 (List.mem_of_getElem? (i := 157) rfl))
theorem tw_1_158 : (Jvm.Cond.instantiable "CalendarReplicas$Edit" (9 : Nat)) ∈ q_gw := q_gw_of (q_t1 (List.mem_of_getElem? (i := 158) rfl)) rfl
theorem tw_1_159 : (Jvm.Cond.methodLinkNest "CalendarReplicas$World" (40 : Nat) ({ cls := "CalendarReplicas$Edit", name := "<init>", desc := "()V" } : Jvm.MethodName) "CalendarReplicas") ∈ lw_tbl := List.mem_append_right _ (q_t1 (List.mem_of_getElem? (i := 159) rfl))
theorem tw_1_16 : (Jvm.Cond.initialized "java/lang/Intege\x72") ∈ q_gw := q_gw_of (q_t1 (List.mem_of_getElem? (i := 16) rfl)) rfl
theorem tw_1_160 : (Jvm.Cond.instanceMethod ({ cls := "CalendarReplicas$Edit", name := "<init>", desc := "()V" } : Jvm.MethodName)) ∈ q_gw := q_gw_of (q_t1 (List.mem_of_getElem? (i := 160) rfl)) rfl
theorem tw_1_161 : (Jvm.Cond.code ({ cls := "CalendarReplicas$Edit", name := "<init>", desc := "()V" } : Jvm.MethodName) prog_4_method_1_code (1 : Nat) (Option.none : Option Jvm.ClassFile.FieldType)) ∈ q_gw := q_gw_of (q_t1 (List.mem_of_getElem? (i := 161) rfl)) rfl
theorem tw_1_162 : (Jvm.Cond.methodLink "CalendarReplicas$Edit" (3 : Nat) ({ cls := "java/lang/Object", name := "<init>", desc := "()V" } : Jvm.MethodName)) ∈ q_gw := q_gw_of (q_t1 (List.mem_of_getElem? (i := 162) rfl)) rfl
theorem tw_1_163 : (Jvm.Cond.classLink "CalendarReplicas$Edit" (9 : Nat) "CalendarReplicas$Meeting") ∈ q_gw := q_gw_of (q_t1 (List.mem_of_getElem? (i := 163) rfl)) rfl
theorem tw_1_164 : (Jvm.Cond.methodLinkNest "CalendarReplicas$Edit" (11 : Nat) ({ cls := "CalendarReplicas$Meeting", name := "<init>", desc := "()V" } : Jvm.MethodName) "CalendarReplicas") ∈ lw_tbl := List.mem_append_right _ (q_t1 (List.mem_of_getElem? (i := 164) rfl))
theorem tw_1_165 : (Jvm.Cond.fieldLink "CalendarReplicas$Edit" (18 : Nat) "CalendarReplicas$Edit" "numbe\x72" "I") ∈ q_gw := q_gw_of (q_t1 (List.mem_of_getElem? (i := 165) rfl)) rfl
theorem tw_1_166 : (Jvm.Cond.fieldLink "CalendarReplicas$World" (71 : Nat) "CalendarReplicas$Edit" "numbe\x72" "I") ∈ q_gw := q_gw_of (q_t1 (List.mem_of_getElem? (i := 166) rfl)) rfl
theorem tw_1_167 : (Jvm.Cond.fieldLink "CalendarReplicas" (198 : Nat) "CalendarReplicas$Edit" "numbe\x72" "I") ∈ q_gw := q_gw_of (q_t1 (List.mem_of_getElem? (i := 167) rfl)) rfl
theorem tw_1_168 : (Jvm.Cond.fieldLink "CalendarReplicas$Edit" (22 : Nat) "CalendarReplicas$Edit" "autho\x72" "I") ∈ q_gw := q_gw_of (q_t1 (List.mem_of_getElem? (i := 168) rfl)) rfl
theorem tw_1_169 : (Jvm.Cond.fieldLink "CalendarReplicas" (259 : Nat) "CalendarReplicas$Edit" "autho\x72" "I") ∈ q_gw := q_gw_of (q_t1 (List.mem_of_getElem? (i := 169) rfl)) rfl
theorem tw_1_17 : (Jvm.Cond.initialized "jdk/internal/util/Preconditions") ∈ q_gw := q_gw_of (q_t1 (List.mem_of_getElem? (i := 17) rfl)) rfl
theorem tw_1_170 : (Jvm.Cond.fieldLink "CalendarReplicas$Edit" (25 : Nat) "CalendarReplicas$Edit" "weight" "I") ∈ q_gw := q_gw_of (q_t1 (List.mem_of_getElem? (i := 170) rfl)) rfl
theorem tw_1_171 : (Jvm.Cond.fieldLink "CalendarReplicas$World" (94 : Nat) "CalendarReplicas$Edit" "weight" "I") ∈ q_gw := q_gw_of (q_t1 (List.mem_of_getElem? (i := 171) rfl)) rfl
theorem tw_1_172 : (Jvm.Cond.fieldLink "CalendarReplicas" (262 : Nat) "CalendarReplicas$Edit" "weight" "I") ∈ q_gw := q_gw_of (q_t1 (List.mem_of_getElem? (i := 172) rfl)) rfl
theorem tw_1_173 : (Jvm.Cond.fieldLink "CalendarReplicas$Edit" (28 : Nat) "CalendarReplicas$Edit" "kind" "I") ∈ q_gw := q_gw_of (q_t1 (List.mem_of_getElem? (i := 173) rfl)) rfl
theorem tw_1_174 : (Jvm.Cond.fieldLink "CalendarReplicas$World" (91 : Nat) "CalendarReplicas$Edit" "kind" "I") ∈ q_gw := q_gw_of (q_t1 (List.mem_of_getElem? (i := 174) rfl)) rfl
theorem tw_1_175 : (Jvm.Cond.fieldLink "CalendarReplicas" (254 : Nat) "CalendarReplicas$Edit" "kind" "I") ∈ q_gw := q_gw_of (q_t1 (List.mem_of_getElem? (i := 175) rfl)) rfl
theorem tw_1_176 : (Jvm.Cond.fieldLink "CalendarReplicas$Edit" (31 : Nat) "CalendarReplicas$Edit" "meeting" "I") ∈ q_gw := q_gw_of (q_t1 (List.mem_of_getElem? (i := 176) rfl)) rfl
theorem tw_1_177 : (Jvm.Cond.fieldLink "CalendarReplicas$World" (80 : Nat) "CalendarReplicas$Edit" "meeting" "I") ∈ q_gw := q_gw_of (q_t1 (List.mem_of_getElem? (i := 177) rfl)) rfl
theorem tw_1_178 : (Jvm.Cond.fieldLink "CalendarReplicas" (257 : Nat) "CalendarReplicas$Edit" "meeting" "I") ∈ q_gw := q_gw_of (q_t1 (List.mem_of_getElem? (i := 178) rfl)) rfl
theorem tw_1_179 : (Jvm.Cond.fieldLink "CalendarReplicas$Edit" (34 : Nat) "CalendarReplicas$Edit" "value" "I") ∈ q_gw := q_gw_of (q_t1 (List.mem_of_getElem? (i := 179) rfl)) rfl
theorem tw_1_18 : (Jvm.Cond.initialized "java/lang/StringLatin1") ∈ q_gw := q_gw_of (q_t1 (List.mem_of_getElem? (i := 18) rfl)) rfl
theorem tw_1_180 : (Jvm.Cond.fieldLink "CalendarReplicas$Edit" (41 : Nat) "CalendarReplicas$Edit" "clashes" "I") ∈ q_gw := q_gw_of (q_t1 (List.mem_of_getElem? (i := 180) rfl)) rfl
theorem tw_1_181 : (Jvm.Cond.fieldLink "CalendarReplicas$World" (74 : Nat) "CalendarReplicas$Edit" "clashes" "I") ∈ q_gw := q_gw_of (q_t1 (List.mem_of_getElem? (i := 181) rfl)) rfl
theorem tw_1_182 : (Jvm.Cond.fieldLink "CalendarReplicas$Edit" (44 : Nat) "CalendarReplicas$Edit" "needs" "I") ∈ q_gw := q_gw_of (q_t1 (List.mem_of_getElem? (i := 182) rfl)) rfl
theorem tw_1_183 : (Jvm.Cond.fieldLink "CalendarReplicas$World" (77 : Nat) "CalendarReplicas$Edit" "needs" "I") ∈ q_gw := q_gw_of (q_t1 (List.mem_of_getElem? (i := 183) rfl)) rfl
theorem tw_1_184 : (Jvm.Cond.fieldLink "CalendarReplicas$Edit" (12 : Nat) "CalendarReplicas$Edit" "created" "LCalendarReplicas$Meeting;") ∈ q_gw := q_gw_of (q_t1 (List.mem_of_getElem? (i := 184) rfl)) rfl
theorem tw_1_185 : (Jvm.Cond.fieldLink "CalendarReplicas$World" (97 : Nat) "CalendarReplicas$Edit" "created" "LCalendarReplicas$Meeting;") ∈ q_gw := q_gw_of (q_t1 (List.mem_of_getElem? (i := 185) rfl)) rfl
theorem tw_1_186 : (Jvm.Cond.fieldLink "CalendarReplicas" (178 : Nat) "CalendarReplicas$Edit" "created" "LCalendarReplicas$Meeting;") ∈ q_gw := q_gw_of (q_t1 (List.mem_of_getElem? (i := 186) rfl)) rfl
theorem tw_1_187 : (Jvm.Cond.lays "CalendarReplicas$Edit" "CalendarReplicas$Edit" "numbe\x72" "I") ∈ q_gw := q_gw_of (q_t1 (List.mem_of_getElem? (i := 187) rfl)) rfl
theorem tw_1_188 : (Jvm.Cond.soleField "CalendarReplicas$Edit" "numbe\x72") ∈ q_gw := q_gw_of (q_t1 (List.mem_of_getElem? (i := 188) rfl)) rfl
theorem tw_1_189 : (Jvm.Cond.lays "CalendarReplicas$Edit" "CalendarReplicas$Edit" "autho\x72" "I") ∈ q_gw := q_gw_of (q_t1 (List.mem_of_getElem? (i := 189) rfl)) rfl
theorem tw_1_19 : (Jvm.Cond.initialized "java/lang/Characte\x72") ∈ q_gw := q_gw_of (q_t1 (List.mem_of_getElem? (i := 19) rfl)) rfl
theorem tw_1_190 : (Jvm.Cond.soleField "CalendarReplicas$Edit" "autho\x72") ∈ q_gw := q_gw_of (q_t1 (List.mem_of_getElem? (i := 190) rfl)) rfl
theorem tw_1_191 : (Jvm.Cond.lays "CalendarReplicas$Edit" "CalendarReplicas$Edit" "weight" "I") ∈ q_gw := q_gw_of (q_t1 (List.mem_of_getElem? (i := 191) rfl)) rfl
theorem tw_1_192 : (Jvm.Cond.soleField "CalendarReplicas$Edit" "weight") ∈ q_gw := q_gw_of (q_t1 (List.mem_of_getElem? (i := 192) rfl)) rfl
theorem tw_1_193 : (Jvm.Cond.lays "CalendarReplicas$Edit" "CalendarReplicas$Edit" "kind" "I") ∈ q_gw := q_gw_of (q_t1 (List.mem_of_getElem? (i := 193) rfl)) rfl
theorem tw_1_194 : (Jvm.Cond.soleField "CalendarReplicas$Edit" "kind") ∈ q_gw := q_gw_of (q_t1 (List.mem_of_getElem? (i := 194) rfl)) rfl
theorem tw_1_195 : (Jvm.Cond.lays "CalendarReplicas$Edit" "CalendarReplicas$Edit" "meeting" "I") ∈ q_gw := q_gw_of (q_t1 (List.mem_of_getElem? (i := 195) rfl)) rfl
theorem tw_1_196 : (Jvm.Cond.soleField "CalendarReplicas$Edit" "meeting") ∈ q_gw := q_gw_of (q_t1 (List.mem_of_getElem? (i := 196) rfl)) rfl
theorem tw_1_197 : (Jvm.Cond.lays "CalendarReplicas$Edit" "CalendarReplicas$Edit" "value" "I") ∈ q_gw := q_gw_of (q_t1 (List.mem_of_getElem? (i := 197) rfl)) rfl
theorem tw_1_198 : (Jvm.Cond.soleField "CalendarReplicas$Edit" "value") ∈ q_gw := q_gw_of (q_t1 (List.mem_of_getElem? (i := 198) rfl)) rfl
theorem tw_1_199 : (Jvm.Cond.lays "CalendarReplicas$Edit" "CalendarReplicas$Edit" "clashes" "I") ∈ q_gw := q_gw_of (q_t1 (List.mem_of_getElem? (i := 199) rfl)) rfl
theorem tw_1_2 : (Jvm.Cond.initialized "CalendarReplicas$World") ∈ q_gw := q_gw_of (q_t1 (List.mem_of_getElem? (i := 2) rfl)) rfl
theorem tw_1_20 : (Jvm.Cond.initialized "jdk/internal/util/ArraysSupport") ∈ q_gw := q_gw_of (q_t1 (List.mem_of_getElem? (i := 20) rfl)) rfl
theorem tw_1_200 : (Jvm.Cond.soleField "CalendarReplicas$Edit" "clashes") ∈ q_gw := q_gw_of (q_t1 (List.mem_of_getElem? (i := 200) rfl)) rfl
theorem tw_1_201 : (Jvm.Cond.lays "CalendarReplicas$Edit" "CalendarReplicas$Edit" "needs" "I") ∈ q_gw := q_gw_of (q_t1 (List.mem_of_getElem? (i := 201) rfl)) rfl
theorem tw_1_202 : (Jvm.Cond.soleField "CalendarReplicas$Edit" "needs") ∈ q_gw := q_gw_of (q_t1 (List.mem_of_getElem? (i := 202) rfl)) rfl
theorem tw_1_203 : (Jvm.Cond.laysFinal "CalendarReplicas$Edit" "CalendarReplicas$Edit" "created" "LCalendarReplicas$Meeting;") ∈ q_gw := q_gw_of (q_t1 (List.mem_of_getElem? (i := 203) rfl)) rfl
theorem tw_1_204 : (Jvm.Cond.soleField "CalendarReplicas$Edit" "created") ∈ q_gw := q_gw_of (q_t1 (List.mem_of_getElem? (i := 204) rfl)) rfl
theorem tw_1_205 : (Jvm.Cond.superclass "CalendarReplicas$Edit" "java/lang/Object") ∈ q_gw := q_gw_of (q_t1 (List.mem_of_getElem? (i := 205) rfl)) rfl
theorem tw_1_206 : (Jvm.Cond.fieldLink "CalendarReplicas$World" (12 : Nat) "CalendarReplicas$World" "rules" "LCalendarReplicas$Rules;") ∈ q_gw := q_gw_of (q_t1 (List.mem_of_getElem? (i := 206) rfl)) rfl
theorem tw_1_207 : (Jvm.Cond.fieldLink "CalendarReplicas" (80 : Nat) "CalendarReplicas$World" "rules" "LCalendarReplicas$Rules;") ∈ q_gw := q_gw_of (q_t1 (List.mem_of_getElem? (i := 207) rfl)) rfl
theorem tw_1_208 : (Jvm.Cond.fieldLink "CalendarReplicas$Merge" (79 : Nat) "CalendarReplicas$World" "rules" "LCalendarReplicas$Rules;") ∈ q_gw := q_gw_of (q_t1 (List.mem_of_getElem? (i := 208) rfl)) rfl
theorem tw_1_209 : (Jvm.Cond.fieldLink "CalendarReplicas$World" (23 : Nat) "CalendarReplicas$World" "base" "LCalendarReplicas$Calendar;") ∈ q_gw := q_gw_of (q_t1 (List.mem_of_getElem? (i := 209) rfl)) rfl
theorem tw_1_21 : (Jvm.Cond.initialized "java/util/Arrays") ∈ q_gw := q_gw_of (q_t1 (List.mem_of_getElem? (i := 21) rfl)) rfl
theorem tw_1_210 : (Jvm.Cond.fieldLink "CalendarReplicas" (106 : Nat) "CalendarReplicas$World" "base" "LCalendarReplicas$Calendar;") ∈ q_gw := q_gw_of (q_t1 (List.mem_of_getElem? (i := 210) rfl)) rfl
theorem tw_1_211 : (Jvm.Cond.fieldLink "CalendarReplicas$World" (29 : Nat) "CalendarReplicas$World" "edits" "[LCalendarReplicas$Edit;") ∈ q_gw := q_gw_of (q_t1 (List.mem_of_getElem? (i := 211) rfl)) rfl
theorem tw_1_212 : (Jvm.Cond.fieldLink "CalendarReplicas$World" (48 : Nat) "CalendarReplicas$World" "size" "I") ∈ q_gw := q_gw_of (q_t1 (List.mem_of_getElem? (i := 212) rfl)) rfl
theorem tw_1_213 : (Jvm.Cond.fieldLink "CalendarReplicas" (168 : Nat) "CalendarReplicas$World" "size" "I") ∈ q_gw := q_gw_of (q_t1 (List.mem_of_getElem? (i := 213) rfl)) rfl
theorem tw_1_214 : (Jvm.Cond.fieldLink "CalendarReplicas$World" (58 : Nat) "CalendarReplicas$World" "next" "I") ∈ q_gw := q_gw_of (q_t1 (List.mem_of_getElem? (i := 214) rfl)) rfl
theorem tw_1_215 : (Jvm.Cond.fieldLink "CalendarReplicas" (136 : Nat) "CalendarReplicas$World" "next" "I") ∈ q_gw := q_gw_of (q_t1 (List.mem_of_getElem? (i := 215) rfl)) rfl
theorem tw_1_216 : (Jvm.Cond.fieldLink "CalendarReplicas$World" (33 : Nat) "CalendarReplicas$World" "known" "[I") ∈ q_gw := q_gw_of (q_t1 (List.mem_of_getElem? (i := 216) rfl)) rfl
theorem tw_1_217 : (Jvm.Cond.fieldLink "CalendarReplicas" (184 : Nat) "CalendarReplicas$World" "known" "[I") ∈ q_gw := q_gw_of (q_t1 (List.mem_of_getElem? (i := 217) rfl)) rfl
theorem tw_1_218 : (Jvm.Cond.fieldLink "CalendarReplicas$World" (37 : Nat) "CalendarReplicas$World" "accepted" "[I") ∈ q_gw := q_gw_of (q_t1 (List.mem_of_getElem? (i := 218) rfl)) rfl
theorem tw_1_219 : (Jvm.Cond.fieldLink "CalendarReplicas" (195 : Nat) "CalendarReplicas$World" "accepted" "[I") ∈ q_gw := q_gw_of (q_t1 (List.mem_of_getElem? (i := 219) rfl)) rfl
theorem tw_1_22 : (Jvm.Cond.initialized "java/lang/System") ∈ q_gw := q_gw_of (q_t1 (List.mem_of_getElem? (i := 22) rfl)) rfl
theorem tw_1_220 : (Jvm.Cond.laysFinal "CalendarReplicas$World" "CalendarReplicas$World" "rules" "LCalendarReplicas$Rules;") ∈ q_gw := q_gw_of (q_t1 (List.mem_of_getElem? (i := 220) rfl)) rfl
theorem tw_1_221 : (Jvm.Cond.soleField "CalendarReplicas$World" "rules") ∈ q_gw := q_gw_of (q_t1 (List.mem_of_getElem? (i := 221) rfl)) rfl
theorem tw_1_222 : (Jvm.Cond.laysFinal "CalendarReplicas$World" "CalendarReplicas$World" "base" "LCalendarReplicas$Calendar;") ∈ q_gw := q_gw_of (q_t1 (List.mem_of_getElem? (i := 222) rfl)) rfl
theorem tw_1_223 : (Jvm.Cond.soleField "CalendarReplicas$World" "base") ∈ q_gw := q_gw_of (q_t1 (List.mem_of_getElem? (i := 223) rfl)) rfl
theorem tw_1_224 : (Jvm.Cond.laysFinal "CalendarReplicas$World" "CalendarReplicas$World" "edits" "[LCalendarReplicas$Edit;") ∈ q_gw := q_gw_of (q_t1 (List.mem_of_getElem? (i := 224) rfl)) rfl
theorem tw_1_225 : (Jvm.Cond.soleField "CalendarReplicas$World" "edits") ∈ q_gw := q_gw_of (q_t1 (List.mem_of_getElem? (i := 225) rfl)) rfl
theorem tw_1_226 : (Jvm.Cond.lays "CalendarReplicas$World" "CalendarReplicas$World" "size" "I") ∈ q_gw := q_gw_of (q_t1 (List.mem_of_getElem? (i := 226) rfl)) rfl
theorem tw_1_227 : (Jvm.Cond.soleField "CalendarReplicas$World" "size") ∈ q_gw := q_gw_of (q_t1 (List.mem_of_getElem? (i := 227) rfl)) rfl
theorem tw_1_228 : (Jvm.Cond.lays "CalendarReplicas$World" "CalendarReplicas$World" "next" "I") ∈ q_gw := q_gw_of (q_t1 (List.mem_of_getElem? (i := 228) rfl)) rfl
theorem tw_1_229 : (Jvm.Cond.soleField "CalendarReplicas$World" "next") ∈ q_gw := q_gw_of (q_t1 (List.mem_of_getElem? (i := 229) rfl)) rfl
theorem tw_1_23 : (Jvm.Cond.classLink "CalendarReplicasLaw" (7 : Nat) "CalendarReplicas") ∈ q_gw := q_gw_of (q_t1 (List.mem_of_getElem? (i := 23) rfl)) rfl
theorem tw_1_230 : (Jvm.Cond.laysFinal "CalendarReplicas$World" "CalendarReplicas$World" "known" "[I") ∈ q_gw := q_gw_of (q_t1 (List.mem_of_getElem? (i := 230) rfl)) rfl
theorem tw_1_231 : (Jvm.Cond.soleField "CalendarReplicas$World" "known") ∈ q_gw := q_gw_of (q_t1 (List.mem_of_getElem? (i := 231) rfl)) rfl
theorem tw_1_232 : (Jvm.Cond.laysFinal "CalendarReplicas$World" "CalendarReplicas$World" "accepted" "[I") ∈ q_gw := q_gw_of (q_t1 (List.mem_of_getElem? (i := 232) rfl)) rfl
theorem tw_1_233 : (Jvm.Cond.soleField "CalendarReplicas$World" "accepted") ∈ q_gw := q_gw_of (q_t1 (List.mem_of_getElem? (i := 233) rfl)) rfl
theorem tw_1_234 : (Jvm.Cond.superclass "CalendarReplicas$World" "java/lang/Object") ∈ q_gw := q_gw_of (q_t1 (List.mem_of_getElem? (i := 234) rfl)) rfl
theorem tw_1_235 : (Jvm.Cond.arrayOver (Jvm.ClassFile.FieldType.object "CalendarReplicas$World")) ∈ lw_tbl := List.mem_append_right _ (q_t1 (List.mem_of_getElem? (i := 235) rfl))
theorem tw_1_236 : (Jvm.Cond.classLink "CalendarReplicas" (24 : Nat) "CalendarReplicas$Merge") ∈ q_gw := q_gw_of (q_t1 (List.mem_of_getElem? (i := 236) rfl)) rfl
theorem tw_1_237 : (Jvm.Cond.instantiable "CalendarReplicas$Merge" (5 : Nat)) ∈ q_gw := q_gw_of (q_t1 (List.mem_of_getElem? (i := 237) rfl)) rfl
theorem tw_1_238 : (Jvm.Cond.methodLinkNest "CalendarReplicas" (26 : Nat) ({ cls := "CalendarReplicas$Merge", name := "<init>", desc := "()V" } : Jvm.MethodName) "CalendarReplicas") ∈ lw_tbl := List.mem_append_right _ (q_t1 (List.mem_of_getElem? (i := 238) rfl))
theorem tw_1_239 : (Jvm.Cond.instanceMethod ({ cls := "CalendarReplicas$Merge", name := "<init>", desc := "()V" } : Jvm.MethodName)) ∈ q_gw := q_gw_of (q_t1 (List.mem_of_getElem? (i := 239) rfl)) rfl
theorem tw_1_24 : (Jvm.Cond.instantiable "CalendarReplicas" (9 : Nat)) ∈ q_gw := q_gw_of (q_t1 (List.mem_of_getElem? (i := 24) rfl)) rfl
theorem tw_1_25 : (Jvm.Cond.methodLink "CalendarReplicasLaw" (9 : Nat) ({ cls := "CalendarReplicas", name := "<init>", desc := "()V" } : Jvm.MethodName)) ∈ q_gw := q_gw_of (q_t1 (List.mem_of_getElem? (i := 25) rfl)) rfl
theorem tw_1_26 : (Jvm.Cond.instanceMethod ({ cls := "CalendarReplicas", name := "<init>", desc := "()V" } : Jvm.MethodName)) ∈ q_gw := q_gw_of (q_t1 (List.mem_of_getElem? (i := 26) rfl)) rfl
theorem tw_1_27 : (Jvm.Cond.code ({ cls := "CalendarReplicas", name := "<init>", desc := "()V" } : Jvm.MethodName) prog_1_method_1_code (2 : Nat) (Option.none : Option Jvm.ClassFile.FieldType)) ∈ q_gw := q_gw_of (q_t1 (List.mem_of_getElem? (i := 27) rfl)) rfl
theorem tw_1_28 : (Jvm.Cond.methodLink "CalendarReplicas" (3 : Nat) ({ cls := "java/lang/Object", name := "<init>", desc := "()V" } : Jvm.MethodName)) ∈ q_gw := q_gw_of (q_t1 (List.mem_of_getElem? (i := 28) rfl)) rfl
theorem tw_1_29 : (Jvm.Cond.instanceMethod ({ cls := "java/lang/Object", name := "<init>", desc := "()V" } : Jvm.MethodName)) ∈ q_gw := q_gw_of (q_t1 (List.mem_of_getElem? (i := 29) rfl)) rfl
theorem tw_1_3 : (Jvm.Cond.initialized "CalendarReplicas$Rules") ∈ q_gw := q_gw_of (q_t1 (List.mem_of_getElem? (i := 3) rfl)) rfl
theorem tw_1_30 : (Jvm.Cond.code ({ cls := "java/lang/Object", name := "<init>", desc := "()V" } : Jvm.MethodName) object_method_1_code (1 : Nat) (Option.none : Option Jvm.ClassFile.FieldType)) ∈ q_gw := q_gw_of (q_t1 (List.mem_of_getElem? (i := 30) rfl)) rfl
theorem tw_1_31 : (Jvm.Cond.classLink "CalendarReplicas" (9 : Nat) "CalendarReplicas$World") ∈ q_gw := q_gw_of (q_t1 (List.mem_of_getElem? (i := 31) rfl)) rfl
theorem tw_1_32 : (Jvm.Cond.instantiable "CalendarReplicas$World" (7 : Nat)) ∈ q_gw := q_gw_of (q_t1 (List.mem_of_getElem? (i := 32) rfl)) rfl
theorem tw_1_33 : (Jvm.Cond.methodLink "CalendarReplicas" (11 : Nat) ({ cls := "CalendarReplicas$World", name := "<init>", desc := "()V" } : Jvm.MethodName)) ∈ q_gw := q_gw_of (q_t1 (List.mem_of_getElem? (i := 33) rfl)) rfl
theorem tw_1_34 : (Jvm.Cond.instanceMethod ({ cls := "CalendarReplicas$World", name := "<init>", desc := "()V" } : Jvm.MethodName)) ∈ q_gw := q_gw_of (q_t1 (List.mem_of_getElem? (i := 34) rfl)) rfl
theorem tw_1_35 : (Jvm.Cond.code ({ cls := "CalendarReplicas$World", name := "<init>", desc := "()V" } : Jvm.MethodName) prog_9_method_1_code (2 : Nat) (Option.none : Option Jvm.ClassFile.FieldType)) ∈ q_gw := q_gw_of (q_t1 (List.mem_of_getElem? (i := 35) rfl)) rfl
theorem tw_1_36 : (Jvm.Cond.methodLink "CalendarReplicas$World" (3 : Nat) ({ cls := "java/lang/Object", name := "<init>", desc := "()V" } : Jvm.MethodName)) ∈ q_gw := q_gw_of (q_t1 (List.mem_of_getElem? (i := 36) rfl)) rfl
theorem tw_1_37 : (Jvm.Cond.classLink "CalendarReplicas$World" (9 : Nat) "CalendarReplicas$Rules") ∈ q_gw := q_gw_of (q_t1 (List.mem_of_getElem? (i := 37) rfl)) rfl
theorem tw_1_38 : (Jvm.Cond.instantiable "CalendarReplicas$Rules" (8 : Nat)) ∈ q_gw := q_gw_of (q_t1 (List.mem_of_getElem? (i := 38) rfl)) rfl
theorem tw_1_39 : (Jvm.Cond.methodLink "CalendarReplicas$World" (11 : Nat) ({ cls := "CalendarReplicas$Rules", name := "<init>", desc := "()V" } : Jvm.MethodName)) ∈ q_gw := q_gw_of (q_t1 (List.mem_of_getElem? (i := 39) rfl)) rfl
theorem tw_1_4 : (Jvm.Cond.initialized "CalendarReplicas$Calenda\x72") ∈ q_gw := q_gw_of (q_t1 (List.mem_of_getElem? (i := 4) rfl)) rfl
theorem tw_1_40 : (Jvm.Cond.instanceMethod ({ cls := "CalendarReplicas$Rules", name := "<init>", desc := "()V" } : Jvm.MethodName)) ∈ q_gw := q_gw_of (q_t1 (List.mem_of_getElem? (i := 40) rfl)) rfl
theorem tw_1_41 : (Jvm.Cond.code ({ cls := "CalendarReplicas$Rules", name := "<init>", desc := "()V" } : Jvm.MethodName) prog_7_method_1_code (2 : Nat) (Option.none : Option Jvm.ClassFile.FieldType)) ∈ q_gw := q_gw_of (q_t1 (List.mem_of_getElem? (i := 41) rfl)) rfl
theorem tw_1_42 : (Jvm.Cond.methodLink "CalendarReplicas$Rules" (3 : Nat) ({ cls := "java/lang/Object", name := "<init>", desc := "()V" } : Jvm.MethodName)) ∈ q_gw := q_gw_of (q_t1 (List.mem_of_getElem? (i := 42) rfl)) rfl
theorem tw_1_43 : (Jvm.Cond.fieldLink "CalendarReplicas$Rules" (9 : Nat) "CalendarReplicas$Rules" "capacity" "[I") ∈ q_gw := q_gw_of (q_t1 (List.mem_of_getElem? (i := 43) rfl)) rfl
theorem tw_1_44 : (Jvm.Cond.fieldLink "CalendarReplicas" (84 : Nat) "CalendarReplicas$Rules" "capacity" "[I") ∈ q_gw := q_gw_of (q_t1 (List.mem_of_getElem? (i := 44) rfl)) rfl
theorem tw_1_45 : (Jvm.Cond.fieldLink "CalendarReplicas$Rules" (15 : Nat) "CalendarReplicas$Rules" "closedFrom" "[I") ∈ q_gw := q_gw_of (q_t1 (List.mem_of_getElem? (i := 45) rfl)) rfl
theorem tw_1_46 : (Jvm.Cond.fieldLink "CalendarReplicas$Timetable" (18 : Nat) "CalendarReplicas$Rules" "closedFrom" "[I") ∈ q_gw := q_gw_of (q_t1 (List.mem_of_getElem? (i := 46) rfl)) rfl
theorem tw_1_47 : (Jvm.Cond.fieldLink "CalendarReplicas" (90 : Nat) "CalendarReplicas$Rules" "closedFrom" "[I") ∈ q_gw := q_gw_of (q_t1 (List.mem_of_getElem? (i := 47) rfl)) rfl
theorem tw_1_48 : (Jvm.Cond.fieldLink "CalendarReplicas$Rules" (18 : Nat) "CalendarReplicas$Rules" "closedTo" "[I") ∈ q_gw := q_gw_of (q_t1 (List.mem_of_getElem? (i := 48) rfl)) rfl
theorem tw_1_49 : (Jvm.Cond.fieldLink "CalendarReplicas$Timetable" (24 : Nat) "CalendarReplicas$Rules" "closedTo" "[I") ∈ q_gw := q_gw_of (q_t1 (List.mem_of_getElem? (i := 49) rfl)) rfl
theorem tw_1_5 : (Jvm.Cond.initialized "java/lang/Math") ∈ q_gw := q_gw_of (q_t1 (List.mem_of_getElem? (i := 5) rfl)) rfl
theorem tw_1_50 : (Jvm.Cond.fieldLink "CalendarReplicas" (93 : Nat) "CalendarReplicas$Rules" "closedTo" "[I") ∈ q_gw := q_gw_of (q_t1 (List.mem_of_getElem? (i := 50) rfl)) rfl
theorem tw_1_51 : (Jvm.Cond.fieldLink "CalendarReplicas$Rules" (21 : Nat) "CalendarReplicas$Rules" "absentFrom" "[I") ∈ q_gw := q_gw_of (q_t1 (List.mem_of_getElem? (i := 51) rfl)) rfl
theorem tw_1_52 : (Jvm.Cond.fieldLink "CalendarReplicas$Timetable" (31 : Nat) "CalendarReplicas$Rules" "absentFrom" "[I") ∈ q_gw := q_gw_of (q_t1 (List.mem_of_getElem? (i := 52) rfl)) rfl
theorem tw_1_53 : (Jvm.Cond.fieldLink "CalendarReplicas" (99 : Nat) "CalendarReplicas$Rules" "absentFrom" "[I") ∈ q_gw := q_gw_of (q_t1 (List.mem_of_getElem? (i := 53) rfl)) rfl
theorem tw_1_54 : (Jvm.Cond.fieldLink "CalendarReplicas$Rules" (24 : Nat) "CalendarReplicas$Rules" "absentTo" "[I") ∈ q_gw := q_gw_of (q_t1 (List.mem_of_getElem? (i := 54) rfl)) rfl
theorem tw_1_55 : (Jvm.Cond.fieldLink "CalendarReplicas$Timetable" (34 : Nat) "CalendarReplicas$Rules" "absentTo" "[I") ∈ q_gw := q_gw_of (q_t1 (List.mem_of_getElem? (i := 55) rfl)) rfl
theorem tw_1_56 : (Jvm.Cond.fieldLink "CalendarReplicas" (96 : Nat) "CalendarReplicas$Rules" "absentTo" "[I") ∈ q_gw := q_gw_of (q_t1 (List.mem_of_getElem? (i := 56) rfl)) rfl
theorem tw_1_57 : (Jvm.Cond.fieldLink "CalendarReplicas$Rules" (27 : Nat) "CalendarReplicas$Rules" "orderFirst" "[I") ∈ q_gw := q_gw_of (q_t1 (List.mem_of_getElem? (i := 57) rfl)) rfl
theorem tw_1_58 : (Jvm.Cond.fieldLink "CalendarReplicas$Rules" (30 : Nat) "CalendarReplicas$Rules" "orderSecond" "[I") ∈ q_gw := q_gw_of (q_t1 (List.mem_of_getElem? (i := 58) rfl)) rfl
theorem tw_1_59 : (Jvm.Cond.fieldLink "CalendarReplicas$Rules" (39 : Nat) "CalendarReplicas$Rules" "orders" "I") ∈ q_gw := q_gw_of (q_t1 (List.mem_of_getElem? (i := 59) rfl)) rfl
theorem tw_1_6 : (Jvm.Cond.initialized "CalendarReplicas$Meeting") ∈ q_gw := q_gw_of (q_t1 (List.mem_of_getElem? (i := 6) rfl)) rfl
theorem tw_1_60 : (Jvm.Cond.fieldLink "CalendarReplicas" (102 : Nat) "CalendarReplicas$Rules" "orders" "I") ∈ q_gw := q_gw_of (q_t1 (List.mem_of_getElem? (i := 60) rfl)) rfl
theorem tw_1_61 : (Jvm.Cond.laysFinal "CalendarReplicas$Rules" "CalendarReplicas$Rules" "capacity" "[I") ∈ q_gw := q_gw_of (q_t1 (List.mem_of_getElem? (i := 61) rfl)) rfl
theorem tw_1_62 : (Jvm.Cond.soleField "CalendarReplicas$Rules" "capacity") ∈ q_gw := q_gw_of (q_t1 (List.mem_of_getElem? (i := 62) rfl)) rfl
theorem tw_1_63 : (Jvm.Cond.laysFinal "CalendarReplicas$Rules" "CalendarReplicas$Rules" "closedFrom" "[I") ∈ q_gw := q_gw_of (q_t1 (List.mem_of_getElem? (i := 63) rfl)) rfl
theorem tw_1_64 : (Jvm.Cond.soleField "CalendarReplicas$Rules" "closedFrom") ∈ q_gw := q_gw_of (q_t1 (List.mem_of_getElem? (i := 64) rfl)) rfl
theorem tw_1_65 : (Jvm.Cond.laysFinal "CalendarReplicas$Rules" "CalendarReplicas$Rules" "closedTo" "[I") ∈ q_gw := q_gw_of (q_t1 (List.mem_of_getElem? (i := 65) rfl)) rfl
theorem tw_1_66 : (Jvm.Cond.soleField "CalendarReplicas$Rules" "closedTo") ∈ q_gw := q_gw_of (q_t1 (List.mem_of_getElem? (i := 66) rfl)) rfl
theorem tw_1_67 : (Jvm.Cond.laysFinal "CalendarReplicas$Rules" "CalendarReplicas$Rules" "absentFrom" "[I") ∈ q_gw := q_gw_of (q_t1 (List.mem_of_getElem? (i := 67) rfl)) rfl
theorem tw_1_68 : (Jvm.Cond.soleField "CalendarReplicas$Rules" "absentFrom") ∈ q_gw := q_gw_of (q_t1 (List.mem_of_getElem? (i := 68) rfl)) rfl
theorem tw_1_69 : (Jvm.Cond.laysFinal "CalendarReplicas$Rules" "CalendarReplicas$Rules" "absentTo" "[I") ∈ q_gw := q_gw_of (q_t1 (List.mem_of_getElem? (i := 69) rfl)) rfl
theorem tw_1_7 : (Jvm.Cond.initialized "CalendarReplicas$Edit") ∈ q_gw := q_gw_of (q_t1 (List.mem_of_getElem? (i := 7) rfl)) rfl
theorem tw_1_70 : (Jvm.Cond.soleField "CalendarReplicas$Rules" "absentTo") ∈ q_gw := q_gw_of (q_t1 (List.mem_of_getElem? (i := 70) rfl)) rfl
theorem tw_1_71 : (Jvm.Cond.laysFinal "CalendarReplicas$Rules" "CalendarReplicas$Rules" "orderFirst" "[I") ∈ q_gw := q_gw_of (q_t1 (List.mem_of_getElem? (i := 71) rfl)) rfl
theorem tw_1_72 : (Jvm.Cond.soleField "CalendarReplicas$Rules" "orderFirst") ∈ q_gw := q_gw_of (q_t1 (List.mem_of_getElem? (i := 72) rfl)) rfl
theorem tw_1_73 : (Jvm.Cond.laysFinal "CalendarReplicas$Rules" "CalendarReplicas$Rules" "orderSecond" "[I") ∈ q_gw := q_gw_of (q_t1 (List.mem_of_getElem? (i := 73) rfl)) rfl
theorem tw_1_74 : (Jvm.Cond.soleField "CalendarReplicas$Rules" "orderSecond") ∈ q_gw := q_gw_of (q_t1 (List.mem_of_getElem? (i := 74) rfl)) rfl
theorem tw_1_75 : (Jvm.Cond.lays "CalendarReplicas$Rules" "CalendarReplicas$Rules" "orders" "I") ∈ q_gw := q_gw_of (q_t1 (List.mem_of_getElem? (i := 75) rfl)) rfl
theorem tw_1_76 : (Jvm.Cond.soleField "CalendarReplicas$Rules" "orders") ∈ q_gw := q_gw_of (q_t1 (List.mem_of_getElem? (i := 76) rfl)) rfl
theorem tw_1_77 : (Jvm.Cond.superclass "CalendarReplicas$Rules" "java/lang/Object") ∈ q_gw := q_gw_of (q_t1 (List.mem_of_getElem? (i := 77) rfl)) rfl
theorem tw_1_78 : (Jvm.Cond.arrayClass Jvm.ClassFile.FieldType.int) ∈ q_gw := q_gw_of (q_t1 (List.mem_of_getElem? (i := 78) rfl)) rfl
theorem tw_1_79 : (Jvm.Cond.classLink "CalendarReplicas$World" (18 : Nat) "CalendarReplicas$Calenda\x72") ∈ q_gw := q_gw_of (q_t1 (List.mem_of_getElem? (i := 79) rfl)) rfl
theorem tw_1_8 : (Jvm.Cond.initialized "CalendarReplicas$Merge") ∈ q_gw := q_gw_of (q_t1 (List.mem_of_getElem? (i := 8) rfl)) rfl
theorem tw_1_80 : (Jvm.Cond.instantiable "CalendarReplicas$Calenda\x72" (2 : Nat)) ∈ q_gw := q_gw_of (q_t1 (List.mem_of_getElem? (i := 80) rfl)) rfl
theorem tw_1_81 : (Jvm.Cond.methodLink "CalendarReplicas$World" (20 : Nat) ({ cls := "CalendarReplicas$Calenda\x72", name := "<init>", desc := "(I)V" } : Jvm.MethodName)) ∈ q_gw := q_gw_of (q_t1 (List.mem_of_getElem? (i := 81) rfl)) rfl
theorem tw_1_82 : (Jvm.Cond.instanceMethod ({ cls := "CalendarReplicas$Calenda\x72", name := "<init>", desc := "(I)V" } : Jvm.MethodName)) ∈ q_gw := q_gw_of (q_t1 (List.mem_of_getElem? (i := 82) rfl)) rfl
theorem tw_1_83 : (Jvm.Cond.code ({ cls := "CalendarReplicas$Calenda\x72", name := "<init>", desc := "(I)V" } : Jvm.MethodName) prog_2_method_1_code (3 : Nat) (Option.none : Option Jvm.ClassFile.FieldType)) ∈ q_gw := q_gw_of (q_t1 (List.mem_of_getElem? (i := 83) rfl)) rfl
theorem tw_1_84 : (Jvm.Cond.methodLink "CalendarReplicas$Calenda\x72" (1 : Nat) ({ cls := "java/lang/Object", name := "<init>", desc := "()V" } : Jvm.MethodName)) ∈ q_gw := q_gw_of (q_t1 (List.mem_of_getElem? (i := 84) rfl)) rfl
theorem tw_1_85 : (Jvm.Cond.methodLink "CalendarReplicas$Calenda\x72" (7 : Nat) ({ cls := "java/lang/Math", name := "max", desc := "(II)I" } : Jvm.MethodName)) ∈ q_gw := q_gw_of (q_t1 (List.mem_of_getElem? (i := 85) rfl)) rfl
theorem tw_1_86 : (Jvm.Cond.static ({ cls := "java/lang/Math", name := "max", desc := "(II)I" } : Jvm.MethodName)) ∈ q_gw := q_gw_of (q_t1 (List.mem_of_getElem? (i := 86) rfl)) rfl
theorem tw_1_87 : (Jvm.Cond.code ({ cls := "java/lang/Math", name := "max", desc := "(II)I" } : Jvm.MethodName) prog_16_method_65_code (2 : Nat) (Option.some Jvm.ClassFile.FieldType.int)) ∈ q_gw := q_gw_of (q_t1 (List.mem_of_getElem? (i := 87) rfl)) rfl
theorem tw_1_88 : (Jvm.Cond.classLink "CalendarReplicas$Calenda\x72" (13 : Nat) "CalendarReplicas$Meeting") ∈ q_gw := q_gw_of (q_t1 (List.mem_of_getElem? (i := 88) rfl)) rfl
theorem tw_1_89 : (Jvm.Cond.arrayOver (Jvm.ClassFile.FieldType.object "CalendarReplicas$Meeting")) ∈ lw_tbl := List.mem_append_right _ (q_t1 (List.mem_of_getElem? (i := 89) rfl))
theorem tw_1_9 : (Jvm.Cond.initialized "CalendarReplicas$Timetable") ∈ q_gw := q_gw_of (q_t1 (List.mem_of_getElem? (i := 9) rfl)) rfl
theorem tw_1_90 : (Jvm.Cond.instantiable "CalendarReplicas$Meeting" (7 : Nat)) ∈ q_gw := q_gw_of (q_t1 (List.mem_of_getElem? (i := 90) rfl)) rfl
theorem tw_1_91 : (Jvm.Cond.methodLinkNest "CalendarReplicas$Calenda\x72" (21 : Nat) ({ cls := "CalendarReplicas$Meeting", name := "<init>", desc := "()V" } : Jvm.MethodName) "CalendarReplicas") ∈ lw_tbl := List.mem_append_right _ (q_t1 (List.mem_of_getElem? (i := 91) rfl))
theorem tw_1_92 : (Jvm.Cond.instanceMethod ({ cls := "CalendarReplicas$Meeting", name := "<init>", desc := "()V" } : Jvm.MethodName)) ∈ q_gw := q_gw_of (q_t1 (List.mem_of_getElem? (i := 92) rfl)) rfl
theorem tw_1_93 : (Jvm.Cond.code ({ cls := "CalendarReplicas$Meeting", name := "<init>", desc := "()V" } : Jvm.MethodName) prog_5_method_1_code (1 : Nat) (Option.none : Option Jvm.ClassFile.FieldType)) ∈ q_gw := q_gw_of (q_t1 (List.mem_of_getElem? (i := 93) rfl)) rfl
theorem tw_1_94 : (Jvm.Cond.methodLink "CalendarReplicas$Meeting" (3 : Nat) ({ cls := "java/lang/Object", name := "<init>", desc := "()V" } : Jvm.MethodName)) ∈ q_gw := q_gw_of (q_t1 (List.mem_of_getElem? (i := 94) rfl)) rfl
theorem tw_1_95 : (Jvm.Cond.fieldLink "CalendarReplicas$Meeting" (30 : Nat) "CalendarReplicas$Meeting" "numbe\x72" "I") ∈ q_gw := q_gw_of (q_t1 (List.mem_of_getElem? (i := 95) rfl)) rfl
theorem tw_1_96 : (Jvm.Cond.fieldLink "CalendarReplicas$Calenda\x72" (26 : Nat) "CalendarReplicas$Meeting" "numbe\x72" "I") ∈ q_gw := q_gw_of (q_t1 (List.mem_of_getElem? (i := 96) rfl)) rfl
theorem tw_1_97 : (Jvm.Cond.fieldLink "CalendarReplicas" (181 : Nat) "CalendarReplicas$Meeting" "numbe\x72" "I") ∈ q_gw := q_gw_of (q_t1 (List.mem_of_getElem? (i := 97) rfl)) rfl
theorem tw_1_98 : (Jvm.Cond.fieldLink "CalendarReplicas$Meeting" (9 : Nat) "CalendarReplicas$Meeting" "start" "I") ∈ q_gw := q_gw_of (q_t1 (List.mem_of_getElem? (i := 98) rfl)) rfl
theorem tw_1_99 : (Jvm.Cond.fieldLink "CalendarReplicas$Description" (57 : Nat) "CalendarReplicas$Meeting" "start" "I") ∈ q_gw := q_gw_of (q_t1 (List.mem_of_getElem? (i := 99) rfl)) rfl
theorem tw_2_0 : (Jvm.Cond.code ({ cls := "CalendarReplicas$Merge", name := "<init>", desc := "()V" } : Jvm.MethodName) prog_6_method_1_code (1 : Nat) (Option.none : Option Jvm.ClassFile.FieldType)) ∈ q_gw := q_gw_of (q_t2 (List.mem_of_getElem? (i := 0) rfl)) rfl
theorem tw_2_1 : (Jvm.Cond.methodLink "CalendarReplicas$Merge" (3 : Nat) ({ cls := "java/lang/Object", name := "<init>", desc := "()V" } : Jvm.MethodName)) ∈ q_gw := q_gw_of (q_t2 (List.mem_of_getElem? (i := 1) rfl)) rfl
theorem tw_2_10 : (Jvm.Cond.fieldLink "CalendarReplicas$Timetable" (11 : Nat) "CalendarReplicas$Timetable" "early" "[J") ∈ q_gw := q_gw_of (q_t2 (List.mem_of_getElem? (i := 10) rfl)) rfl
theorem tw_2_100 : (Jvm.Cond.classLink "CalendarReplicas" (61 : Nat) "java/lang/StringBuilde\x72") ∈ q_gw := q_gw_of (q_t2 (List.mem_of_getElem? (i := 100) rfl)) rfl
theorem tw_2_101 : (Jvm.Cond.methodLink "CalendarReplicas" (63 : Nat) ({ cls := "java/lang/StringBuilde\x72", name := "<init>", desc := "()V" } : Jvm.MethodName)) ∈ q_gw := q_gw_of (q_t2 (List.mem_of_getElem? (i := 101) rfl)) rfl
theorem tw_2_102 : (Jvm.Cond.fieldLink "CalendarReplicas" (12 : Nat) "CalendarReplicas" "world" "LCalendarReplicas$World;") ∈ q_gw := q_gw_of (q_t2 (List.mem_of_getElem? (i := 102) rfl)) rfl
theorem tw_2_103 : (Jvm.Cond.fieldLink "CalendarReplicas" (16 : Nat) "CalendarReplicas" "kept" "[LCalendarReplicas$World;") ∈ q_gw := q_gw_of (q_t2 (List.mem_of_getElem? (i := 103) rfl)) rfl
theorem tw_2_104 : (Jvm.Cond.fieldLink "CalendarReplicas" (20 : Nat) "CalendarReplicas" "filled" "[Z") ∈ q_gw := q_gw_of (q_t2 (List.mem_of_getElem? (i := 104) rfl)) rfl
theorem tw_2_105 : (Jvm.Cond.fieldLink "CalendarReplicas" (27 : Nat) "CalendarReplicas" "merge" "LCalendarReplicas$Merge;") ∈ q_gw := q_gw_of (q_t2 (List.mem_of_getElem? (i := 105) rfl)) rfl
theorem tw_2_106 : (Jvm.Cond.fieldLink "CalendarReplicas" (36 : Nat) "CalendarReplicas" "shown" "LCalendarReplicas$Calendar;") ∈ q_gw := q_gw_of (q_t2 (List.mem_of_getElem? (i := 106) rfl)) rfl
theorem tw_2_107 : (Jvm.Cond.fieldLink "CalendarReplicas" (43 : Nat) "CalendarReplicas" "timetable" "LCalendarReplicas$Timetable;") ∈ q_gw := q_gw_of (q_t2 (List.mem_of_getElem? (i := 107) rfl)) rfl
theorem tw_2_108 : (Jvm.Cond.fieldLink "CalendarReplicas" (50 : Nat) "CalendarReplicas" "plan" "LCalendarReplicas$Meeting;") ∈ q_gw := q_gw_of (q_t2 (List.mem_of_getElem? (i := 108) rfl)) rfl
theorem tw_2_109 : (Jvm.Cond.fieldLink "CalendarReplicas" (57 : Nat) "CalendarReplicas" "description" "LCalendarReplicas$Description;") ∈ q_gw := q_gw_of (q_t2 (List.mem_of_getElem? (i := 109) rfl)) rfl
theorem tw_2_11 : (Jvm.Cond.fieldLink "CalendarReplicas$Timetable" (15 : Nat) "CalendarReplicas$Timetable" "late" "[J") ∈ q_gw := q_gw_of (q_t2 (List.mem_of_getElem? (i := 11) rfl)) rfl
theorem tw_2_110 : (Jvm.Cond.fieldLink "CalendarReplicas" (64 : Nat) "CalendarReplicas" "page" "Ljava/lang/StringBuilder;") ∈ q_gw := q_gw_of (q_t2 (List.mem_of_getElem? (i := 110) rfl)) rfl
theorem tw_2_111 : (Jvm.Cond.laysFinal "CalendarReplicas" "CalendarReplicas" "world" "LCalendarReplicas$World;") ∈ q_gw := q_gw_of (q_t2 (List.mem_of_getElem? (i := 111) rfl)) rfl
theorem tw_2_112 : (Jvm.Cond.soleField "CalendarReplicas" "world") ∈ q_gw := q_gw_of (q_t2 (List.mem_of_getElem? (i := 112) rfl)) rfl
theorem tw_2_113 : (Jvm.Cond.laysFinal "CalendarReplicas" "CalendarReplicas" "kept" "[LCalendarReplicas$World;") ∈ q_gw := q_gw_of (q_t2 (List.mem_of_getElem? (i := 113) rfl)) rfl
theorem tw_2_114 : (Jvm.Cond.soleField "CalendarReplicas" "kept") ∈ q_gw := q_gw_of (q_t2 (List.mem_of_getElem? (i := 114) rfl)) rfl
theorem tw_2_115 : (Jvm.Cond.laysFinal "CalendarReplicas" "CalendarReplicas" "filled" "[Z") ∈ q_gw := q_gw_of (q_t2 (List.mem_of_getElem? (i := 115) rfl)) rfl
theorem tw_2_116 : (Jvm.Cond.soleField "CalendarReplicas" "filled") ∈ q_gw := q_gw_of (q_t2 (List.mem_of_getElem? (i := 116) rfl)) rfl
theorem tw_2_117 : (Jvm.Cond.laysFinal "CalendarReplicas" "CalendarReplicas" "merge" "LCalendarReplicas$Merge;") ∈ q_gw := q_gw_of (q_t2 (List.mem_of_getElem? (i := 117) rfl)) rfl
theorem tw_2_118 : (Jvm.Cond.soleField "CalendarReplicas" "merge") ∈ q_gw := q_gw_of (q_t2 (List.mem_of_getElem? (i := 118) rfl)) rfl
theorem tw_2_119 : (Jvm.Cond.laysFinal "CalendarReplicas" "CalendarReplicas" "shown" "LCalendarReplicas$Calendar;") ∈ q_gw := q_gw_of (q_t2 (List.mem_of_getElem? (i := 119) rfl)) rfl
theorem tw_2_12 : (Jvm.Cond.laysFinal "CalendarReplicas$Timetable" "CalendarReplicas$Timetable" "early" "[J") ∈ q_gw := q_gw_of (q_t2 (List.mem_of_getElem? (i := 12) rfl)) rfl
theorem tw_2_120 : (Jvm.Cond.soleField "CalendarReplicas" "shown") ∈ q_gw := q_gw_of (q_t2 (List.mem_of_getElem? (i := 120) rfl)) rfl
theorem tw_2_121 : (Jvm.Cond.laysFinal "CalendarReplicas" "CalendarReplicas" "timetable" "LCalendarReplicas$Timetable;") ∈ q_gw := q_gw_of (q_t2 (List.mem_of_getElem? (i := 121) rfl)) rfl
theorem tw_2_122 : (Jvm.Cond.soleField "CalendarReplicas" "timetable") ∈ q_gw := q_gw_of (q_t2 (List.mem_of_getElem? (i := 122) rfl)) rfl
theorem tw_2_123 : (Jvm.Cond.laysFinal "CalendarReplicas" "CalendarReplicas" "plan" "LCalendarReplicas$Meeting;") ∈ q_gw := q_gw_of (q_t2 (List.mem_of_getElem? (i := 123) rfl)) rfl
theorem tw_2_124 : (Jvm.Cond.soleField "CalendarReplicas" "plan") ∈ q_gw := q_gw_of (q_t2 (List.mem_of_getElem? (i := 124) rfl)) rfl
theorem tw_2_125 : (Jvm.Cond.laysFinal "CalendarReplicas" "CalendarReplicas" "description" "LCalendarReplicas$Description;") ∈ q_gw := q_gw_of (q_t2 (List.mem_of_getElem? (i := 125) rfl)) rfl
theorem tw_2_126 : (Jvm.Cond.soleField "CalendarReplicas" "description") ∈ q_gw := q_gw_of (q_t2 (List.mem_of_getElem? (i := 126) rfl)) rfl
theorem tw_2_127 : (Jvm.Cond.laysFinal "CalendarReplicas" "CalendarReplicas" "page" "Ljava/lang/StringBuilder;") ∈ q_gw := q_gw_of (q_t2 (List.mem_of_getElem? (i := 127) rfl)) rfl
theorem tw_2_128 : (Jvm.Cond.soleField "CalendarReplicas" "page") ∈ q_gw := q_gw_of (q_t2 (List.mem_of_getElem? (i := 128) rfl)) rfl
theorem tw_2_129 : (Jvm.Cond.superclass "CalendarReplicas" "java/lang/Object") ∈ q_gw := q_gw_of (q_t2 (List.mem_of_getElem? (i := 129) rfl)) rfl
theorem tw_2_13 : (Jvm.Cond.soleField "CalendarReplicas$Timetable" "early") ∈ q_gw := q_gw_of (q_t2 (List.mem_of_getElem? (i := 13) rfl)) rfl
theorem tw_2_130 : (Jvm.Cond.methodLink "CalendarReplicasLaw" (13 : Nat) ({ cls := "CalendarReplicas", name := "setRoom", desc := "(IIII)I" } : Jvm.MethodName)) ∈ q_gw := q_gw_of (q_t2 (List.mem_of_getElem? (i := 130) rfl)) rfl
theorem tw_2_131 : (Jvm.Cond.instanceMethod ({ cls := "CalendarReplicas", name := "setRoom", desc := "(IIII)I" } : Jvm.MethodName)) ∈ q_gw := q_gw_of (q_t2 (List.mem_of_getElem? (i := 131) rfl)) rfl
theorem tw_2_132 : (Jvm.Cond.selects "CalendarReplicas" ({ cls := "CalendarReplicas", name := "setRoom", desc := "(IIII)I" } : Jvm.MethodName) ({ cls := "CalendarReplicas", name := "setRoom", desc := "(IIII)I" } : Jvm.MethodName)) ∈ q_gw := q_gw_of (q_t2 (List.mem_of_getElem? (i := 132) rfl)) rfl
theorem tw_2_133 : (Jvm.Cond.code ({ cls := "CalendarReplicas", name := "setRoom", desc := "(IIII)I" } : Jvm.MethodName) prog_1_method_2_code (6 : Nat) (Option.some Jvm.ClassFile.FieldType.int)) ∈ q_gw := q_gw_of (q_t2 (List.mem_of_getElem? (i := 133) rfl)) rfl
theorem tw_2_134 : (Jvm.Cond.methodLink "CalendarReplicas" (68 : Nat) ({ cls := "CalendarReplicas", name := "within", desc := "(III)Z" } : Jvm.MethodName)) ∈ q_gw := q_gw_of (q_t2 (List.mem_of_getElem? (i := 134) rfl)) rfl
theorem tw_2_135 : (Jvm.Cond.static ({ cls := "CalendarReplicas", name := "within", desc := "(III)Z" } : Jvm.MethodName)) ∈ q_gw := q_gw_of (q_t2 (List.mem_of_getElem? (i := 135) rfl)) rfl
theorem tw_2_136 : (Jvm.Cond.code ({ cls := "CalendarReplicas", name := "within", desc := "(III)Z" } : Jvm.MethodName) prog_1_method_64_code (3 : Nat) (Option.some Jvm.ClassFile.FieldType.boolean)) ∈ q_gw := q_gw_of (q_t2 (List.mem_of_getElem? (i := 136) rfl)) rfl
theorem tw_2_137 : (Jvm.Cond.methodLink "CalendarReplicas" (72 : Nat) ({ cls := "CalendarReplicas", name := "isRange", desc := "(II)Z" } : Jvm.MethodName)) ∈ q_gw := q_gw_of (q_t2 (List.mem_of_getElem? (i := 137) rfl)) rfl
theorem tw_2_138 : (Jvm.Cond.static ({ cls := "CalendarReplicas", name := "isRange", desc := "(II)Z" } : Jvm.MethodName)) ∈ q_gw := q_gw_of (q_t2 (List.mem_of_getElem? (i := 138) rfl)) rfl
theorem tw_2_139 : (Jvm.Cond.code ({ cls := "CalendarReplicas", name := "isRange", desc := "(II)Z" } : Jvm.MethodName) prog_1_method_67_code (2 : Nat) (Option.some Jvm.ClassFile.FieldType.boolean)) ∈ q_gw := q_gw_of (q_t2 (List.mem_of_getElem? (i := 139) rfl)) rfl
theorem tw_2_14 : (Jvm.Cond.laysFinal "CalendarReplicas$Timetable" "CalendarReplicas$Timetable" "late" "[J") ∈ q_gw := q_gw_of (q_t2 (List.mem_of_getElem? (i := 14) rfl)) rfl
theorem tw_2_140 : (Jvm.Cond.methodLink "CalendarReplicas" (76 : Nat) ({ cls := "CalendarReplicas$World", name := "isBlank", desc := "()Z" } : Jvm.MethodName)) ∈ q_gw := q_gw_of (q_t2 (List.mem_of_getElem? (i := 140) rfl)) rfl
theorem tw_2_141 : (Jvm.Cond.instanceMethod ({ cls := "CalendarReplicas$World", name := "isBlank", desc := "()Z" } : Jvm.MethodName)) ∈ q_gw := q_gw_of (q_t2 (List.mem_of_getElem? (i := 141) rfl)) rfl
theorem tw_2_142 : (Jvm.Cond.selects "CalendarReplicas$World" ({ cls := "CalendarReplicas$World", name := "isBlank", desc := "()Z" } : Jvm.MethodName) ({ cls := "CalendarReplicas$World", name := "isBlank", desc := "()Z" } : Jvm.MethodName)) ∈ q_gw := q_gw_of (q_t2 (List.mem_of_getElem? (i := 142) rfl)) rfl
theorem tw_2_143 : (Jvm.Cond.code ({ cls := "CalendarReplicas$World", name := "isBlank", desc := "()Z" } : Jvm.MethodName) prog_9_method_4_code (1 : Nat) (Option.some Jvm.ClassFile.FieldType.boolean)) ∈ q_gw := q_gw_of (q_t2 (List.mem_of_getElem? (i := 143) rfl)) rfl
theorem tw_2_144 : (Jvm.Cond.methodLink "CalendarReplicasLaw" (18 : Nat) ({ cls := "CalendarReplicas", name := "setAbsence", desc := "(III)I" } : Jvm.MethodName)) ∈ q_gw := q_gw_of (q_t2 (List.mem_of_getElem? (i := 144) rfl)) rfl
theorem tw_2_145 : (Jvm.Cond.instanceMethod ({ cls := "CalendarReplicas", name := "setAbsence", desc := "(III)I" } : Jvm.MethodName)) ∈ q_gw := q_gw_of (q_t2 (List.mem_of_getElem? (i := 145) rfl)) rfl
theorem tw_2_146 : (Jvm.Cond.selects "CalendarReplicas" ({ cls := "CalendarReplicas", name := "setAbsence", desc := "(III)I" } : Jvm.MethodName) ({ cls := "CalendarReplicas", name := "setAbsence", desc := "(III)I" } : Jvm.MethodName)) ∈ q_gw := q_gw_of (q_t2 (List.mem_of_getElem? (i := 146) rfl)) rfl
theorem tw_2_147 : (Jvm.Cond.code ({ cls := "CalendarReplicas", name := "setAbsence", desc := "(III)I" } : Jvm.MethodName) prog_1_method_3_code (5 : Nat) (Option.some Jvm.ClassFile.FieldType.int)) ∈ q_gw := q_gw_of (q_t2 (List.mem_of_getElem? (i := 147) rfl)) rfl
theorem tw_2_148 : (Jvm.Cond.methodLink "CalendarReplicasLaw" (23 : Nat) ({ cls := "CalendarReplicas", name := "addOrde\x72", desc := "(II)I" } : Jvm.MethodName)) ∈ q_gw := q_gw_of (q_t2 (List.mem_of_getElem? (i := 148) rfl)) rfl
theorem tw_2_149 : (Jvm.Cond.instanceMethod ({ cls := "CalendarReplicas", name := "addOrde\x72", desc := "(II)I" } : Jvm.MethodName)) ∈ q_gw := q_gw_of (q_t2 (List.mem_of_getElem? (i := 149) rfl)) rfl
theorem tw_2_15 : (Jvm.Cond.soleField "CalendarReplicas$Timetable" "late") ∈ q_gw := q_gw_of (q_t2 (List.mem_of_getElem? (i := 15) rfl)) rfl
theorem tw_2_150 : (Jvm.Cond.selects "CalendarReplicas" ({ cls := "CalendarReplicas", name := "addOrde\x72", desc := "(II)I" } : Jvm.MethodName) ({ cls := "CalendarReplicas", name := "addOrde\x72", desc := "(II)I" } : Jvm.MethodName)) ∈ q_gw := q_gw_of (q_t2 (List.mem_of_getElem? (i := 150) rfl)) rfl
theorem tw_2_151 : (Jvm.Cond.code ({ cls := "CalendarReplicas", name := "addOrde\x72", desc := "(II)I" } : Jvm.MethodName) prog_1_method_4_code (3 : Nat) (Option.some Jvm.ClassFile.FieldType.int)) ∈ q_gw := q_gw_of (q_t2 (List.mem_of_getElem? (i := 151) rfl)) rfl
theorem tw_2_152 : (Jvm.Cond.methodLink "CalendarReplicas" (109 : Nat) ({ cls := "CalendarReplicas$Calenda\x72", name := "keepsOrde\x72", desc := "(II)Z" } : Jvm.MethodName)) ∈ q_gw := q_gw_of (q_t2 (List.mem_of_getElem? (i := 152) rfl)) rfl
theorem tw_2_153 : (Jvm.Cond.instanceMethod ({ cls := "CalendarReplicas$Calenda\x72", name := "keepsOrde\x72", desc := "(II)Z" } : Jvm.MethodName)) ∈ q_gw := q_gw_of (q_t2 (List.mem_of_getElem? (i := 153) rfl)) rfl
theorem tw_2_154 : (Jvm.Cond.selects "CalendarReplicas$Calenda\x72" ({ cls := "CalendarReplicas$Calenda\x72", name := "keepsOrde\x72", desc := "(II)Z" } : Jvm.MethodName) ({ cls := "CalendarReplicas$Calenda\x72", name := "keepsOrde\x72", desc := "(II)Z" } : Jvm.MethodName)) ∈ q_gw := q_gw_of (q_t2 (List.mem_of_getElem? (i := 154) rfl)) rfl
theorem tw_2_155 : (Jvm.Cond.code ({ cls := "CalendarReplicas$Calenda\x72", name := "keepsOrde\x72", desc := "(II)Z" } : Jvm.MethodName) prog_2_method_7_code (5 : Nat) (Option.some Jvm.ClassFile.FieldType.boolean)) ∈ q_gw := q_gw_of (q_t2 (List.mem_of_getElem? (i := 155) rfl)) rfl
theorem tw_2_156 : (Jvm.Cond.methodLink "CalendarReplicas$Calenda\x72" (36 : Nat) ({ cls := "CalendarReplicas$Calenda\x72", name := "find", desc := "(I)LCalendarReplicas$Meeting;" } : Jvm.MethodName)) ∈ q_gw := q_gw_of (q_t2 (List.mem_of_getElem? (i := 156) rfl)) rfl
theorem tw_2_157 : (Jvm.Cond.instanceMethod ({ cls := "CalendarReplicas$Calenda\x72", name := "find", desc := "(I)LCalendarReplicas$Meeting;" } : Jvm.MethodName)) ∈ q_gw := q_gw_of (q_t2 (List.mem_of_getElem? (i := 157) rfl)) rfl
theorem tw_2_158 : (Jvm.Cond.selects "CalendarReplicas$Calenda\x72" ({ cls := "CalendarReplicas$Calenda\x72", name := "find", desc := "(I)LCalendarReplicas$Meeting;" } : Jvm.MethodName) ({ cls := "CalendarReplicas$Calenda\x72", name := "find", desc := "(I)LCalendarReplicas$Meeting;" } : Jvm.MethodName)) ∈ q_gw := q_gw_of (q_t2 (List.mem_of_getElem? (i := 158) rfl)) rfl
theorem tw_2_159 : (Jvm.Cond.code ({ cls := "CalendarReplicas$Calenda\x72", name := "find", desc := "(I)LCalendarReplicas$Meeting;" } : Jvm.MethodName) prog_2_method_3_code (3 : Nat) (Option.some (Jvm.ClassFile.FieldType.object "CalendarReplicas$Meeting"))) ∈ q_gw := q_gw_of (q_t2 (List.mem_of_getElem? (i := 159) rfl)) rfl
theorem tw_2_16 : (Jvm.Cond.superclass "CalendarReplicas$Timetable" "java/lang/Object") ∈ q_gw := q_gw_of (q_t2 (List.mem_of_getElem? (i := 16) rfl)) rfl
theorem tw_2_160 : (Jvm.Cond.methodLink "CalendarReplicas$Calenda\x72" (40 : Nat) ({ cls := "CalendarReplicas$Meeting", name := "end", desc := "()I" } : Jvm.MethodName)) ∈ q_gw := q_gw_of (q_t2 (List.mem_of_getElem? (i := 160) rfl)) rfl
theorem tw_2_161 : (Jvm.Cond.instanceMethod ({ cls := "CalendarReplicas$Meeting", name := "end", desc := "()I" } : Jvm.MethodName)) ∈ q_gw := q_gw_of (q_t2 (List.mem_of_getElem? (i := 161) rfl)) rfl
theorem tw_2_162 : (Jvm.Cond.selects "CalendarReplicas$Meeting" ({ cls := "CalendarReplicas$Meeting", name := "end", desc := "()I" } : Jvm.MethodName) ({ cls := "CalendarReplicas$Meeting", name := "end", desc := "()I" } : Jvm.MethodName)) ∈ q_gw := q_gw_of (q_t2 (List.mem_of_getElem? (i := 162) rfl)) rfl
theorem tw_2_163 : (Jvm.Cond.code ({ cls := "CalendarReplicas$Meeting", name := "end", desc := "()I" } : Jvm.MethodName) prog_5_method_4_code (1 : Nat) (Option.some Jvm.ClassFile.FieldType.int)) ∈ q_gw := q_gw_of (q_t2 (List.mem_of_getElem? (i := 163) rfl)) rfl
theorem tw_2_164 : (Jvm.Cond.methodLink "CalendarReplicas" (112 : Nat) ({ cls := "CalendarReplicas$Rules", name := "putOrde\x72", desc := "(II)V" } : Jvm.MethodName)) ∈ q_gw := q_gw_of (q_t2 (List.mem_of_getElem? (i := 164) rfl)) rfl
theorem tw_2_165 : (Jvm.Cond.instanceMethod ({ cls := "CalendarReplicas$Rules", name := "putOrde\x72", desc := "(II)V" } : Jvm.MethodName)) ∈ q_gw := q_gw_of (q_t2 (List.mem_of_getElem? (i := 165) rfl)) rfl
theorem tw_2_166 : (Jvm.Cond.selects "CalendarReplicas$Rules" ({ cls := "CalendarReplicas$Rules", name := "putOrde\x72", desc := "(II)V" } : Jvm.MethodName) ({ cls := "CalendarReplicas$Rules", name := "putOrde\x72", desc := "(II)V" } : Jvm.MethodName)) ∈ q_gw := q_gw_of (q_t2 (List.mem_of_getElem? (i := 166) rfl)) rfl
theorem tw_2_167 : (Jvm.Cond.code ({ cls := "CalendarReplicas$Rules", name := "putOrde\x72", desc := "(II)V" } : Jvm.MethodName) prog_7_method_3_code (3 : Nat) (Option.none : Option Jvm.ClassFile.FieldType)) ∈ q_gw := q_gw_of (q_t2 (List.mem_of_getElem? (i := 167) rfl)) rfl
theorem tw_2_168 : (Jvm.Cond.methodLink "CalendarReplicas" (116 : Nat) ({ cls := "CalendarReplicas", name := "mergeAll", desc := "()V" } : Jvm.MethodName)) ∈ q_gw := q_gw_of (q_t2 (List.mem_of_getElem? (i := 168) rfl)) rfl
theorem tw_2_169 : (Jvm.Cond.privateMethod ({ cls := "CalendarReplicas", name := "mergeAll", desc := "()V" } : Jvm.MethodName)) ∈ lw_tbl := List.mem_append_right _ (q_t2 (List.mem_of_getElem? (i := 169) rfl))
theorem tw_2_17 : (Jvm.Cond.arrayClass Jvm.ClassFile.FieldType.boolean) ∈ q_gw := q_gw_of (q_t2 (List.mem_of_getElem? (i := 17) rfl)) rfl
theorem tw_2_170 : (Jvm.Cond.instanceMethod ({ cls := "CalendarReplicas", name := "mergeAll", desc := "()V" } : Jvm.MethodName)) ∈ q_gw := q_gw_of (q_t2 (List.mem_of_getElem? (i := 170) rfl)) rfl
theorem tw_2_171 : (Jvm.Cond.code ({ cls := "CalendarReplicas", name := "mergeAll", desc := "()V" } : Jvm.MethodName) prog_1_method_20_code (2 : Nat) (Option.none : Option Jvm.ClassFile.FieldType)) ∈ q_gw := q_gw_of (q_t2 (List.mem_of_getElem? (i := 171) rfl)) rfl
theorem tw_2_172 : (Jvm.Cond.methodLink "CalendarReplicas" (191 : Nat) ({ cls := "CalendarReplicas$Merge", name := "heaviest", desc := "(LCalendarReplicas$World;II)I" } : Jvm.MethodName)) ∈ q_gw := q_gw_of (q_t2 (List.mem_of_getElem? (i := 172) rfl)) rfl
theorem tw_2_173 : (Jvm.Cond.instanceMethod ({ cls := "CalendarReplicas$Merge", name := "heaviest", desc := "(LCalendarReplicas$World;II)I" } : Jvm.MethodName)) ∈ q_gw := q_gw_of (q_t2 (List.mem_of_getElem? (i := 173) rfl)) rfl
theorem tw_2_174 : (Jvm.Cond.selects "CalendarReplicas$Merge" ({ cls := "CalendarReplicas$Merge", name := "heaviest", desc := "(LCalendarReplicas$World;II)I" } : Jvm.MethodName) ({ cls := "CalendarReplicas$Merge", name := "heaviest", desc := "(LCalendarReplicas$World;II)I" } : Jvm.MethodName)) ∈ q_gw := q_gw_of (q_t2 (List.mem_of_getElem? (i := 174) rfl)) rfl
theorem tw_2_175 : (Jvm.Cond.code ({ cls := "CalendarReplicas$Merge", name := "heaviest", desc := "(LCalendarReplicas$World;II)I" } : Jvm.MethodName) prog_6_method_3_code (4 : Nat) (Option.some Jvm.ClassFile.FieldType.int)) ∈ q_gw := q_gw_of (q_t2 (List.mem_of_getElem? (i := 175) rfl)) rfl
theorem tw_2_176 : (Jvm.Cond.methodLink "CalendarReplicas$Merge" (33 : Nat) ({ cls := "CalendarReplicas$World", name := "usable", desc := "(I)I" } : Jvm.MethodName)) ∈ q_gw := q_gw_of (q_t2 (List.mem_of_getElem? (i := 176) rfl)) rfl
theorem tw_2_177 : (Jvm.Cond.instanceMethod ({ cls := "CalendarReplicas$World", name := "usable", desc := "(I)I" } : Jvm.MethodName)) ∈ q_gw := q_gw_of (q_t2 (List.mem_of_getElem? (i := 177) rfl)) rfl
theorem tw_2_178 : (Jvm.Cond.selects "CalendarReplicas$World" ({ cls := "CalendarReplicas$World", name := "usable", desc := "(I)I" } : Jvm.MethodName) ({ cls := "CalendarReplicas$World", name := "usable", desc := "(I)I" } : Jvm.MethodName)) ∈ q_gw := q_gw_of (q_t2 (List.mem_of_getElem? (i := 178) rfl)) rfl
theorem tw_2_179 : (Jvm.Cond.code ({ cls := "CalendarReplicas$World", name := "usable", desc := "(I)I" } : Jvm.MethodName) prog_9_method_10_code (4 : Nat) (Option.some Jvm.ClassFile.FieldType.int)) ∈ q_gw := q_gw_of (q_t2 (List.mem_of_getElem? (i := 179) rfl)) rfl
theorem tw_2_18 : (Jvm.Cond.arrayClass Jvm.ClassFile.FieldType.long) ∈ q_gw := q_gw_of (q_t2 (List.mem_of_getElem? (i := 18) rfl)) rfl
theorem tw_2_180 : (Jvm.Cond.methodLinkNest "CalendarReplicas$World" (83 : Nat) ({ cls := "CalendarReplicas", name := "contains", desc := "(II)Z" } : Jvm.MethodName) "CalendarReplicas") ∈ lw_tbl := List.mem_append_right _ (q_t2 (List.mem_of_getElem? (i := 180) rfl))
theorem tw_2_181 : (Jvm.Cond.static ({ cls := "CalendarReplicas", name := "contains", desc := "(II)Z" } : Jvm.MethodName)) ∈ q_gw := q_gw_of (q_t2 (List.mem_of_getElem? (i := 181) rfl)) rfl
theorem tw_2_182 : (Jvm.Cond.code ({ cls := "CalendarReplicas", name := "contains", desc := "(II)Z" } : Jvm.MethodName) prog_1_method_72_code (2 : Nat) (Option.some Jvm.ClassFile.FieldType.boolean)) ∈ q_gw := q_gw_of (q_t2 (List.mem_of_getElem? (i := 182) rfl)) rfl
theorem tw_2_183 : (Jvm.Cond.methodLink "CalendarReplicas$Merge" (51 : Nat) ({ cls := "CalendarReplicas$Merge", name := "search", desc := "(LCalendarReplicas$Merge;LCalendarReplicas$World;III)V" } : Jvm.MethodName)) ∈ q_gw := q_gw_of (q_t2 (List.mem_of_getElem? (i := 183) rfl)) rfl
theorem tw_2_184 : (Jvm.Cond.static ({ cls := "CalendarReplicas$Merge", name := "search", desc := "(LCalendarReplicas$Merge;LCalendarReplicas$World;III)V" } : Jvm.MethodName)) ∈ q_gw := q_gw_of (q_t2 (List.mem_of_getElem? (i := 184) rfl)) rfl
theorem tw_2_185 : (Jvm.Cond.code ({ cls := "CalendarReplicas$Merge", name := "search", desc := "(LCalendarReplicas$Merge;LCalendarReplicas$World;III)V" } : Jvm.MethodName) prog_6_method_4_code (7 : Nat) (Option.none : Option Jvm.ClassFile.FieldType)) ∈ q_gw := q_gw_of (q_t2 (List.mem_of_getElem? (i := 185) rfl)) rfl
theorem tw_2_186 : (Jvm.Cond.methodLink "CalendarReplicas$Merge" (55 : Nat) ({ cls := "CalendarReplicas$Merge", name := "mayBeBette\x72", desc := "(LCalendarReplicas$World;II)Z" } : Jvm.MethodName)) ∈ q_gw := q_gw_of (q_t2 (List.mem_of_getElem? (i := 186) rfl)) rfl
theorem tw_2_187 : (Jvm.Cond.privateMethod ({ cls := "CalendarReplicas$Merge", name := "mayBeBette\x72", desc := "(LCalendarReplicas$World;II)Z" } : Jvm.MethodName)) ∈ lw_tbl := List.mem_append_right _ (q_t2 (List.mem_of_getElem? (i := 187) rfl))
theorem tw_2_188 : (Jvm.Cond.instanceMethod ({ cls := "CalendarReplicas$Merge", name := "mayBeBette\x72", desc := "(LCalendarReplicas$World;II)Z" } : Jvm.MethodName)) ∈ q_gw := q_gw_of (q_t2 (List.mem_of_getElem? (i := 188) rfl)) rfl
theorem tw_2_189 : (Jvm.Cond.code ({ cls := "CalendarReplicas$Merge", name := "mayBeBette\x72", desc := "(LCalendarReplicas$World;II)Z" } : Jvm.MethodName) prog_6_method_5_code (5 : Nat) (Option.some Jvm.ClassFile.FieldType.boolean)) ∈ q_gw := q_gw_of (q_t2 (List.mem_of_getElem? (i := 189) rfl)) rfl
theorem tw_2_19 : (Jvm.Cond.fieldLink "CalendarReplicas$Merge" (14 : Nat) "CalendarReplicas$Merge" "calenda\x72" "LCalendarReplicas$Calendar;") ∈ q_gw := q_gw_of (q_t2 (List.mem_of_getElem? (i := 19) rfl)) rfl
theorem tw_2_190 : (Jvm.Cond.methodLink "CalendarReplicas$Merge" (58 : Nat) ({ cls := "CalendarReplicas$World", name := "weigh", desc := "(I)I" } : Jvm.MethodName)) ∈ q_gw := q_gw_of (q_t2 (List.mem_of_getElem? (i := 190) rfl)) rfl
theorem tw_2_191 : (Jvm.Cond.instanceMethod ({ cls := "CalendarReplicas$World", name := "weigh", desc := "(I)I" } : Jvm.MethodName)) ∈ q_gw := q_gw_of (q_t2 (List.mem_of_getElem? (i := 191) rfl)) rfl
theorem tw_2_192 : (Jvm.Cond.selects "CalendarReplicas$World" ({ cls := "CalendarReplicas$World", name := "weigh", desc := "(I)I" } : Jvm.MethodName) ({ cls := "CalendarReplicas$World", name := "weigh", desc := "(I)I" } : Jvm.MethodName)) ∈ q_gw := q_gw_of (q_t2 (List.mem_of_getElem? (i := 192) rfl)) rfl
theorem tw_2_193 : (Jvm.Cond.code ({ cls := "CalendarReplicas$World", name := "weigh", desc := "(I)I" } : Jvm.MethodName) prog_9_method_12_code (4 : Nat) (Option.some Jvm.ClassFile.FieldType.int)) ∈ q_gw := q_gw_of (q_t2 (List.mem_of_getElem? (i := 193) rfl)) rfl
theorem tw_2_194 : (Jvm.Cond.methodLink "CalendarReplicas$Merge" (37 : Nat) ({ cls := "CalendarReplicas$Merge", name := "fits", desc := "(LCalendarReplicas$World;II)Z" } : Jvm.MethodName)) ∈ q_gw := q_gw_of (q_t2 (List.mem_of_getElem? (i := 194) rfl)) rfl
theorem tw_2_195 : (Jvm.Cond.privateMethod ({ cls := "CalendarReplicas$Merge", name := "fits", desc := "(LCalendarReplicas$World;II)Z" } : Jvm.MethodName)) ∈ lw_tbl := List.mem_append_right _ (q_t2 (List.mem_of_getElem? (i := 195) rfl))
theorem tw_2_196 : (Jvm.Cond.instanceMethod ({ cls := "CalendarReplicas$Merge", name := "fits", desc := "(LCalendarReplicas$World;II)Z" } : Jvm.MethodName)) ∈ q_gw := q_gw_of (q_t2 (List.mem_of_getElem? (i := 196) rfl)) rfl
theorem tw_2_197 : (Jvm.Cond.code ({ cls := "CalendarReplicas$Merge", name := "fits", desc := "(LCalendarReplicas$World;II)Z" } : Jvm.MethodName) prog_6_method_6_code (6 : Nat) (Option.some Jvm.ClassFile.FieldType.boolean)) ∈ q_gw := q_gw_of (q_t2 (List.mem_of_getElem? (i := 197) rfl)) rfl
theorem tw_2_198 : (Jvm.Cond.methodLink "CalendarReplicas$Merge" (72 : Nat) ({ cls := "CalendarReplicas$World", name := "form", desc := "(ILCalendarReplicas$Calendar;)V" } : Jvm.MethodName)) ∈ q_gw := q_gw_of (q_t2 (List.mem_of_getElem? (i := 198) rfl)) rfl
theorem tw_2_199 : (Jvm.Cond.instanceMethod ({ cls := "CalendarReplicas$World", name := "form", desc := "(ILCalendarReplicas$Calendar;)V" } : Jvm.MethodName)) ∈ q_gw := q_gw_of (q_t2 (List.mem_of_getElem? (i := 199) rfl)) rfl
theorem tw_2_2 : (Jvm.Cond.classLink "CalendarReplicas$Merge" (9 : Nat) "CalendarReplicas$Calenda\x72") ∈ q_gw := q_gw_of (q_t2 (List.mem_of_getElem? (i := 2) rfl)) rfl
theorem tw_2_20 : (Jvm.Cond.fieldLink "CalendarReplicas$Merge" (23 : Nat) "CalendarReplicas$Merge" "timetable" "LCalendarReplicas$Timetable;") ∈ q_gw := q_gw_of (q_t2 (List.mem_of_getElem? (i := 20) rfl)) rfl
theorem tw_2_200 : (Jvm.Cond.selects "CalendarReplicas$World" ({ cls := "CalendarReplicas$World", name := "form", desc := "(ILCalendarReplicas$Calendar;)V" } : Jvm.MethodName) ({ cls := "CalendarReplicas$World", name := "form", desc := "(ILCalendarReplicas$Calendar;)V" } : Jvm.MethodName)) ∈ q_gw := q_gw_of (q_t2 (List.mem_of_getElem? (i := 200) rfl)) rfl
theorem tw_2_201 : (Jvm.Cond.code ({ cls := "CalendarReplicas$World", name := "form", desc := "(ILCalendarReplicas$Calendar;)V" } : Jvm.MethodName) prog_9_method_13_code (6 : Nat) (Option.none : Option Jvm.ClassFile.FieldType)) ∈ q_gw := q_gw_of (q_t2 (List.mem_of_getElem? (i := 201) rfl)) rfl
theorem tw_2_202 : (Jvm.Cond.methodLink "CalendarReplicas$World" (45 : Nat) ({ cls := "CalendarReplicas$Calenda\x72", name := "copyFrom", desc := "(LCalendarReplicas$Calendar;)V" } : Jvm.MethodName)) ∈ q_gw := q_gw_of (q_t2 (List.mem_of_getElem? (i := 202) rfl)) rfl
theorem tw_2_203 : (Jvm.Cond.instanceMethod ({ cls := "CalendarReplicas$Calenda\x72", name := "copyFrom", desc := "(LCalendarReplicas$Calendar;)V" } : Jvm.MethodName)) ∈ q_gw := q_gw_of (q_t2 (List.mem_of_getElem? (i := 203) rfl)) rfl
theorem tw_2_204 : (Jvm.Cond.selects "CalendarReplicas$Calenda\x72" ({ cls := "CalendarReplicas$Calenda\x72", name := "copyFrom", desc := "(LCalendarReplicas$Calendar;)V" } : Jvm.MethodName) ({ cls := "CalendarReplicas$Calenda\x72", name := "copyFrom", desc := "(LCalendarReplicas$Calendar;)V" } : Jvm.MethodName)) ∈ q_gw := q_gw_of (q_t2 (List.mem_of_getElem? (i := 204) rfl)) rfl
theorem tw_2_205 : (Jvm.Cond.code ({ cls := "CalendarReplicas$Calenda\x72", name := "copyFrom", desc := "(LCalendarReplicas$Calendar;)V" } : Jvm.MethodName) prog_2_method_6_code (3 : Nat) (Option.none : Option Jvm.ClassFile.FieldType)) ∈ q_gw := q_gw_of (q_t2 (List.mem_of_getElem? (i := 205) rfl)) rfl
theorem tw_2_206 : (Jvm.Cond.methodLink "CalendarReplicas$Calenda\x72" (33 : Nat) ({ cls := "java/lang/Math", name := "min", desc := "(II)I" } : Jvm.MethodName)) ∈ q_gw := q_gw_of (q_t2 (List.mem_of_getElem? (i := 206) rfl)) rfl
theorem tw_2_207 : (Jvm.Cond.static ({ cls := "java/lang/Math", name := "min", desc := "(II)I" } : Jvm.MethodName)) ∈ q_gw := q_gw_of (q_t2 (List.mem_of_getElem? (i := 207) rfl)) rfl
theorem tw_2_208 : (Jvm.Cond.code ({ cls := "java/lang/Math", name := "min", desc := "(II)I" } : Jvm.MethodName) prog_16_method_69_code (2 : Nat) (Option.some Jvm.ClassFile.FieldType.int)) ∈ q_gw := q_gw_of (q_t2 (List.mem_of_getElem? (i := 208) rfl)) rfl
theorem tw_2_209 : (Jvm.Cond.methodLink "CalendarReplicas$Calenda\x72" (29 : Nat) ({ cls := "CalendarReplicas$Meeting", name := "copyFrom", desc := "(LCalendarReplicas$Meeting;)V" } : Jvm.MethodName)) ∈ q_gw := q_gw_of (q_t2 (List.mem_of_getElem? (i := 209) rfl)) rfl
theorem tw_2_21 : (Jvm.Cond.fieldLink "CalendarReplicas$Merge" (41 : Nat) "CalendarReplicas$Merge" "required" "I") ∈ q_gw := q_gw_of (q_t2 (List.mem_of_getElem? (i := 21) rfl)) rfl
theorem tw_2_210 : (Jvm.Cond.instanceMethod ({ cls := "CalendarReplicas$Meeting", name := "copyFrom", desc := "(LCalendarReplicas$Meeting;)V" } : Jvm.MethodName)) ∈ q_gw := q_gw_of (q_t2 (List.mem_of_getElem? (i := 210) rfl)) rfl
theorem tw_2_211 : (Jvm.Cond.selects "CalendarReplicas$Meeting" ({ cls := "CalendarReplicas$Meeting", name := "copyFrom", desc := "(LCalendarReplicas$Meeting;)V" } : Jvm.MethodName) ({ cls := "CalendarReplicas$Meeting", name := "copyFrom", desc := "(LCalendarReplicas$Meeting;)V" } : Jvm.MethodName)) ∈ q_gw := q_gw_of (q_t2 (List.mem_of_getElem? (i := 211) rfl)) rfl
theorem tw_2_212 : (Jvm.Cond.code ({ cls := "CalendarReplicas$Meeting", name := "copyFrom", desc := "(LCalendarReplicas$Meeting;)V" } : Jvm.MethodName) prog_5_method_3_code (2 : Nat) (Option.none : Option Jvm.ClassFile.FieldType)) ∈ q_gw := q_gw_of (q_t2 (List.mem_of_getElem? (i := 212) rfl)) rfl
theorem tw_2_213 : (Jvm.Cond.methodLink "CalendarReplicas$World" (101 : Nat) ({ cls := "CalendarReplicas$Calenda\x72", name := "put", desc := "(LCalendarReplicas$Meeting;)V" } : Jvm.MethodName)) ∈ q_gw := q_gw_of (q_t2 (List.mem_of_getElem? (i := 213) rfl)) rfl
theorem tw_2_214 : (Jvm.Cond.instanceMethod ({ cls := "CalendarReplicas$Calenda\x72", name := "put", desc := "(LCalendarReplicas$Meeting;)V" } : Jvm.MethodName)) ∈ q_gw := q_gw_of (q_t2 (List.mem_of_getElem? (i := 214) rfl)) rfl
theorem tw_2_215 : (Jvm.Cond.selects "CalendarReplicas$Calenda\x72" ({ cls := "CalendarReplicas$Calenda\x72", name := "put", desc := "(LCalendarReplicas$Meeting;)V" } : Jvm.MethodName) ({ cls := "CalendarReplicas$Calenda\x72", name := "put", desc := "(LCalendarReplicas$Meeting;)V" } : Jvm.MethodName)) ∈ q_gw := q_gw_of (q_t2 (List.mem_of_getElem? (i := 215) rfl)) rfl
theorem tw_2_216 : (Jvm.Cond.code ({ cls := "CalendarReplicas$Calenda\x72", name := "put", desc := "(LCalendarReplicas$Meeting;)V" } : Jvm.MethodName) prog_2_method_4_code (2 : Nat) (Option.none : Option Jvm.ClassFile.FieldType)) ∈ q_gw := q_gw_of (q_t2 (List.mem_of_getElem? (i := 216) rfl)) rfl
theorem tw_2_217 : (Jvm.Cond.methodLink "CalendarReplicas$World" (105 : Nat) ({ cls := "CalendarReplicas$Calenda\x72", name := "drop", desc := "(I)V" } : Jvm.MethodName)) ∈ q_gw := q_gw_of (q_t2 (List.mem_of_getElem? (i := 217) rfl)) rfl
theorem tw_2_218 : (Jvm.Cond.instanceMethod ({ cls := "CalendarReplicas$Calenda\x72", name := "drop", desc := "(I)V" } : Jvm.MethodName)) ∈ q_gw := q_gw_of (q_t2 (List.mem_of_getElem? (i := 218) rfl)) rfl
theorem tw_2_219 : (Jvm.Cond.selects "CalendarReplicas$Calenda\x72" ({ cls := "CalendarReplicas$Calenda\x72", name := "drop", desc := "(I)V" } : Jvm.MethodName) ({ cls := "CalendarReplicas$Calenda\x72", name := "drop", desc := "(I)V" } : Jvm.MethodName)) ∈ q_gw := q_gw_of (q_t2 (List.mem_of_getElem? (i := 219) rfl)) rfl
theorem tw_2_22 : (Jvm.Cond.fieldLink "CalendarReplicas$Merge" (45 : Nat) "CalendarReplicas$Merge" "best" "I") ∈ q_gw := q_gw_of (q_t2 (List.mem_of_getElem? (i := 22) rfl)) rfl
theorem tw_2_220 : (Jvm.Cond.code ({ cls := "CalendarReplicas$Calenda\x72", name := "drop", desc := "(I)V" } : Jvm.MethodName) prog_2_method_5_code (5 : Nat) (Option.none : Option Jvm.ClassFile.FieldType)) ∈ q_gw := q_gw_of (q_t2 (List.mem_of_getElem? (i := 220) rfl)) rfl
theorem tw_2_221 : (Jvm.Cond.methodLink "CalendarReplicas$World" (108 : Nat) ({ cls := "CalendarReplicas$Calenda\x72", name := "find", desc := "(I)LCalendarReplicas$Meeting;" } : Jvm.MethodName)) ∈ q_gw := q_gw_of (q_t2 (List.mem_of_getElem? (i := 221) rfl)) rfl
theorem tw_2_222 : (Jvm.Cond.methodLink "CalendarReplicas$World" (112 : Nat) ({ cls := "CalendarReplicas$Edit", name := "applyTo", desc := "(LCalendarReplicas$Meeting;)V" } : Jvm.MethodName)) ∈ q_gw := q_gw_of (q_t2 (List.mem_of_getElem? (i := 222) rfl)) rfl
theorem tw_2_223 : (Jvm.Cond.instanceMethod ({ cls := "CalendarReplicas$Edit", name := "applyTo", desc := "(LCalendarReplicas$Meeting;)V" } : Jvm.MethodName)) ∈ q_gw := q_gw_of (q_t2 (List.mem_of_getElem? (i := 223) rfl)) rfl
theorem tw_2_224 : (Jvm.Cond.selects "CalendarReplicas$Edit" ({ cls := "CalendarReplicas$Edit", name := "applyTo", desc := "(LCalendarReplicas$Meeting;)V" } : Jvm.MethodName) ({ cls := "CalendarReplicas$Edit", name := "applyTo", desc := "(LCalendarReplicas$Meeting;)V" } : Jvm.MethodName)) ∈ q_gw := q_gw_of (q_t2 (List.mem_of_getElem? (i := 224) rfl)) rfl
theorem tw_2_225 : (Jvm.Cond.code ({ cls := "CalendarReplicas$Edit", name := "applyTo", desc := "(LCalendarReplicas$Meeting;)V" } : Jvm.MethodName) prog_4_method_8_code (2 : Nat) (Option.none : Option Jvm.ClassFile.FieldType)) ∈ q_gw := q_gw_of (q_t2 (List.mem_of_getElem? (i := 225) rfl)) rfl
theorem tw_2_226 : (Jvm.Cond.methodLink "CalendarReplicas$Merge" (76 : Nat) ({ cls := "CalendarReplicas$World", name := "dropChanged", desc := "(ILCalendarReplicas$Calendar;)V" } : Jvm.MethodName)) ∈ q_gw := q_gw_of (q_t2 (List.mem_of_getElem? (i := 226) rfl)) rfl
theorem tw_2_227 : (Jvm.Cond.instanceMethod ({ cls := "CalendarReplicas$World", name := "dropChanged", desc := "(ILCalendarReplicas$Calendar;)V" } : Jvm.MethodName)) ∈ q_gw := q_gw_of (q_t2 (List.mem_of_getElem? (i := 227) rfl)) rfl
theorem tw_2_228 : (Jvm.Cond.selects "CalendarReplicas$World" ({ cls := "CalendarReplicas$World", name := "dropChanged", desc := "(ILCalendarReplicas$Calendar;)V" } : Jvm.MethodName) ({ cls := "CalendarReplicas$World", name := "dropChanged", desc := "(ILCalendarReplicas$Calendar;)V" } : Jvm.MethodName)) ∈ q_gw := q_gw_of (q_t2 (List.mem_of_getElem? (i := 228) rfl)) rfl
theorem tw_2_229 : (Jvm.Cond.code ({ cls := "CalendarReplicas$World", name := "dropChanged", desc := "(ILCalendarReplicas$Calendar;)V" } : Jvm.MethodName) prog_9_method_14_code (4 : Nat) (Option.none : Option Jvm.ClassFile.FieldType)) ∈ q_gw := q_gw_of (q_t2 (List.mem_of_getElem? (i := 229) rfl)) rfl
theorem tw_2_23 : (Jvm.Cond.fieldLink "CalendarReplicas$Merge" (48 : Nat) "CalendarReplicas$Merge" "bestWeight" "I") ∈ q_gw := q_gw_of (q_t2 (List.mem_of_getElem? (i := 23) rfl)) rfl
theorem tw_2_230 : (Jvm.Cond.methodLink "CalendarReplicas$Merge" (83 : Nat) ({ cls := "CalendarReplicas$Timetable", name := "begin", desc := "(LCalendarReplicas$Rules;)V" } : Jvm.MethodName)) ∈ q_gw := q_gw_of (q_t2 (List.mem_of_getElem? (i := 230) rfl)) rfl
theorem tw_2_231 : (Jvm.Cond.instanceMethod ({ cls := "CalendarReplicas$Timetable", name := "begin", desc := "(LCalendarReplicas$Rules;)V" } : Jvm.MethodName)) ∈ q_gw := q_gw_of (q_t2 (List.mem_of_getElem? (i := 231) rfl)) rfl
theorem tw_2_232 : (Jvm.Cond.selects "CalendarReplicas$Timetable" ({ cls := "CalendarReplicas$Timetable", name := "begin", desc := "(LCalendarReplicas$Rules;)V" } : Jvm.MethodName) ({ cls := "CalendarReplicas$Timetable", name := "begin", desc := "(LCalendarReplicas$Rules;)V" } : Jvm.MethodName)) ∈ q_gw := q_gw_of (q_t2 (List.mem_of_getElem? (i := 232) rfl)) rfl
theorem tw_2_233 : (Jvm.Cond.code ({ cls := "CalendarReplicas$Timetable", name := "begin", desc := "(LCalendarReplicas$Rules;)V" } : Jvm.MethodName) prog_8_method_2_code (3 : Nat) (Option.none : Option Jvm.ClassFile.FieldType)) ∈ q_gw := q_gw_of (q_t2 (List.mem_of_getElem? (i := 233) rfl)) rfl
theorem tw_2_234 : (Jvm.Cond.methodLink "CalendarReplicas$Timetable" (27 : Nat) ({ cls := "CalendarReplicas$Timetable", name := "take", desc := "(III)V" } : Jvm.MethodName)) ∈ q_gw := q_gw_of (q_t2 (List.mem_of_getElem? (i := 234) rfl)) rfl
theorem tw_2_235 : (Jvm.Cond.privateMethod ({ cls := "CalendarReplicas$Timetable", name := "take", desc := "(III)V" } : Jvm.MethodName)) ∈ lw_tbl := List.mem_append_right _ (q_t2 (List.mem_of_getElem? (i := 235) rfl))
theorem tw_2_236 : (Jvm.Cond.instanceMethod ({ cls := "CalendarReplicas$Timetable", name := "take", desc := "(III)V" } : Jvm.MethodName)) ∈ q_gw := q_gw_of (q_t2 (List.mem_of_getElem? (i := 236) rfl)) rfl
theorem tw_2_237 : (Jvm.Cond.code ({ cls := "CalendarReplicas$Timetable", name := "take", desc := "(III)V" } : Jvm.MethodName) prog_8_method_5_code (9 : Nat) (Option.none : Option Jvm.ClassFile.FieldType)) ∈ q_gw := q_gw_of (q_t2 (List.mem_of_getElem? (i := 237) rfl)) rfl
theorem tw_2_238 : (Jvm.Cond.methodLink "CalendarReplicas$Timetable" (60 : Nat) ({ cls := "CalendarReplicas$Timetable", name := "bits", desc := "(II)J" } : Jvm.MethodName)) ∈ q_gw := q_gw_of (q_t2 (List.mem_of_getElem? (i := 238) rfl)) rfl
theorem tw_2_239 : (Jvm.Cond.static ({ cls := "CalendarReplicas$Timetable", name := "bits", desc := "(II)J" } : Jvm.MethodName)) ∈ q_gw := q_gw_of (q_t2 (List.mem_of_getElem? (i := 239) rfl)) rfl
theorem tw_2_24 : (Jvm.Cond.laysFinal "CalendarReplicas$Merge" "CalendarReplicas$Merge" "calenda\x72" "LCalendarReplicas$Calendar;") ∈ q_gw := q_gw_of (q_t2 (List.mem_of_getElem? (i := 24) rfl)) rfl
theorem tw_2_25 : (Jvm.Cond.soleField "CalendarReplicas$Merge" "calenda\x72") ∈ q_gw := q_gw_of (q_t2 (List.mem_of_getElem? (i := 25) rfl)) rfl
theorem tw_2_26 : (Jvm.Cond.laysFinal "CalendarReplicas$Merge" "CalendarReplicas$Merge" "timetable" "LCalendarReplicas$Timetable;") ∈ q_gw := q_gw_of (q_t2 (List.mem_of_getElem? (i := 26) rfl)) rfl
theorem tw_2_27 : (Jvm.Cond.soleField "CalendarReplicas$Merge" "timetable") ∈ q_gw := q_gw_of (q_t2 (List.mem_of_getElem? (i := 27) rfl)) rfl
theorem tw_2_28 : (Jvm.Cond.lays "CalendarReplicas$Merge" "CalendarReplicas$Merge" "required" "I") ∈ q_gw := q_gw_of (q_t2 (List.mem_of_getElem? (i := 28) rfl)) rfl
theorem tw_2_29 : (Jvm.Cond.soleField "CalendarReplicas$Merge" "required") ∈ q_gw := q_gw_of (q_t2 (List.mem_of_getElem? (i := 29) rfl)) rfl
theorem tw_2_3 : (Jvm.Cond.methodLink "CalendarReplicas$Merge" (11 : Nat) ({ cls := "CalendarReplicas$Calenda\x72", name := "<init>", desc := "(I)V" } : Jvm.MethodName)) ∈ q_gw := q_gw_of (q_t2 (List.mem_of_getElem? (i := 3) rfl)) rfl
theorem tw_2_30 : (Jvm.Cond.lays "CalendarReplicas$Merge" "CalendarReplicas$Merge" "best" "I") ∈ q_gw := q_gw_of (q_t2 (List.mem_of_getElem? (i := 30) rfl)) rfl
theorem tw_2_31 : (Jvm.Cond.soleField "CalendarReplicas$Merge" "best") ∈ q_gw := q_gw_of (q_t2 (List.mem_of_getElem? (i := 31) rfl)) rfl
theorem tw_2_32 : (Jvm.Cond.lays "CalendarReplicas$Merge" "CalendarReplicas$Merge" "bestWeight" "I") ∈ q_gw := q_gw_of (q_t2 (List.mem_of_getElem? (i := 32) rfl)) rfl
theorem tw_2_33 : (Jvm.Cond.soleField "CalendarReplicas$Merge" "bestWeight") ∈ q_gw := q_gw_of (q_t2 (List.mem_of_getElem? (i := 33) rfl)) rfl
theorem tw_2_34 : (Jvm.Cond.superclass "CalendarReplicas$Merge" "java/lang/Object") ∈ q_gw := q_gw_of (q_t2 (List.mem_of_getElem? (i := 34) rfl)) rfl
theorem tw_2_35 : (Jvm.Cond.classLink "CalendarReplicas" (31 : Nat) "CalendarReplicas$Calenda\x72") ∈ q_gw := q_gw_of (q_t2 (List.mem_of_getElem? (i := 35) rfl)) rfl
theorem tw_2_36 : (Jvm.Cond.methodLink "CalendarReplicas" (33 : Nat) ({ cls := "CalendarReplicas$Calenda\x72", name := "<init>", desc := "(I)V" } : Jvm.MethodName)) ∈ q_gw := q_gw_of (q_t2 (List.mem_of_getElem? (i := 36) rfl)) rfl
theorem tw_2_37 : (Jvm.Cond.classLink "CalendarReplicas" (40 : Nat) "CalendarReplicas$Timetable") ∈ q_gw := q_gw_of (q_t2 (List.mem_of_getElem? (i := 37) rfl)) rfl
theorem tw_2_38 : (Jvm.Cond.methodLinkNest "CalendarReplicas" (42 : Nat) ({ cls := "CalendarReplicas$Timetable", name := "<init>", desc := "()V" } : Jvm.MethodName) "CalendarReplicas") ∈ lw_tbl := List.mem_append_right _ (q_t2 (List.mem_of_getElem? (i := 38) rfl))
theorem tw_2_39 : (Jvm.Cond.classLink "CalendarReplicas" (47 : Nat) "CalendarReplicas$Meeting") ∈ q_gw := q_gw_of (q_t2 (List.mem_of_getElem? (i := 39) rfl)) rfl
theorem tw_2_4 : (Jvm.Cond.classLink "CalendarReplicas$Merge" (20 : Nat) "CalendarReplicas$Timetable") ∈ q_gw := q_gw_of (q_t2 (List.mem_of_getElem? (i := 4) rfl)) rfl
theorem tw_2_40 : (Jvm.Cond.methodLinkNest "CalendarReplicas" (49 : Nat) ({ cls := "CalendarReplicas$Meeting", name := "<init>", desc := "()V" } : Jvm.MethodName) "CalendarReplicas") ∈ lw_tbl := List.mem_append_right _ (q_t2 (List.mem_of_getElem? (i := 40) rfl))
theorem tw_2_41 : (Jvm.Cond.classLink "CalendarReplicas" (54 : Nat) "CalendarReplicas$Description") ∈ q_gw := q_gw_of (q_t2 (List.mem_of_getElem? (i := 41) rfl)) rfl
theorem tw_2_42 : (Jvm.Cond.instantiable "CalendarReplicas$Description" (5 : Nat)) ∈ q_gw := q_gw_of (q_t2 (List.mem_of_getElem? (i := 42) rfl)) rfl
theorem tw_2_43 : (Jvm.Cond.methodLinkNest "CalendarReplicas" (56 : Nat) ({ cls := "CalendarReplicas$Description", name := "<init>", desc := "()V" } : Jvm.MethodName) "CalendarReplicas") ∈ lw_tbl := List.mem_append_right _ (q_t2 (List.mem_of_getElem? (i := 43) rfl))
theorem tw_2_44 : (Jvm.Cond.instanceMethod ({ cls := "CalendarReplicas$Description", name := "<init>", desc := "()V" } : Jvm.MethodName)) ∈ q_gw := q_gw_of (q_t2 (List.mem_of_getElem? (i := 44) rfl)) rfl
theorem tw_2_45 : (Jvm.Cond.code ({ cls := "CalendarReplicas$Description", name := "<init>", desc := "()V" } : Jvm.MethodName) prog_3_method_1_code (1 : Nat) (Option.none : Option Jvm.ClassFile.FieldType)) ∈ q_gw := q_gw_of (q_t2 (List.mem_of_getElem? (i := 45) rfl)) rfl
theorem tw_2_46 : (Jvm.Cond.methodLink "CalendarReplicas$Description" (3 : Nat) ({ cls := "java/lang/Object", name := "<init>", desc := "()V" } : Jvm.MethodName)) ∈ q_gw := q_gw_of (q_t2 (List.mem_of_getElem? (i := 46) rfl)) rfl
theorem tw_2_47 : (Jvm.Cond.classLink "CalendarReplicas$Description" (9 : Nat) "java/lang/StringBuilde\x72") ∈ q_gw := q_gw_of (q_t2 (List.mem_of_getElem? (i := 47) rfl)) rfl
theorem tw_2_48 : (Jvm.Cond.instantiable "java/lang/StringBuilde\x72" (4 : Nat)) ∈ q_gw := q_gw_of (q_t2 (List.mem_of_getElem? (i := 48) rfl)) rfl
theorem tw_2_49 : (Jvm.Cond.methodLink "CalendarReplicas$Description" (11 : Nat) ({ cls := "java/lang/StringBuilde\x72", name := "<init>", desc := "()V" } : Jvm.MethodName)) ∈ q_gw := q_gw_of (q_t2 (List.mem_of_getElem? (i := 49) rfl)) rfl
theorem tw_2_5 : (Jvm.Cond.instantiable "CalendarReplicas$Timetable" (2 : Nat)) ∈ q_gw := q_gw_of (q_t2 (List.mem_of_getElem? (i := 5) rfl)) rfl
theorem tw_2_50 : (Jvm.Cond.instanceMethod ({ cls := "java/lang/StringBuilde\x72", name := "<init>", desc := "()V" } : Jvm.MethodName)) ∈ q_gw := q_gw_of (q_t2 (List.mem_of_getElem? (i := 50) rfl)) rfl
theorem tw_2_51 : (Jvm.Cond.code ({ cls := "java/lang/StringBuilde\x72", name := "<init>", desc := "()V" } : Jvm.MethodName) prog_18_method_1_code (1 : Nat) (Option.none : Option Jvm.ClassFile.FieldType)) ∈ q_gw := q_gw_of (q_t2 (List.mem_of_getElem? (i := 51) rfl)) rfl
theorem tw_2_52 : (Jvm.Cond.methodLink "java/lang/StringBuilde\x72" (1 : Nat) ({ cls := "java/lang/AbstractStringBuilde\x72", name := "<init>", desc := "(I)V" } : Jvm.MethodName)) ∈ q_gw := q_gw_of (q_t2 (List.mem_of_getElem? (i := 52) rfl)) rfl
theorem tw_2_53 : (Jvm.Cond.instanceMethod ({ cls := "java/lang/AbstractStringBuilde\x72", name := "<init>", desc := "(I)V" } : Jvm.MethodName)) ∈ q_gw := q_gw_of (q_t2 (List.mem_of_getElem? (i := 53) rfl)) rfl
theorem tw_2_54 : (Jvm.Cond.code ({ cls := "java/lang/AbstractStringBuilde\x72", name := "<init>", desc := "(I)V" } : Jvm.MethodName) prog_12_method_2_code (2 : Nat) (Option.none : Option Jvm.ClassFile.FieldType)) ∈ q_gw := q_gw_of (q_t2 (List.mem_of_getElem? (i := 54) rfl)) rfl
theorem tw_2_55 : (Jvm.Cond.methodLink "java/lang/AbstractStringBuilde\x72" (3 : Nat) ({ cls := "java/lang/Object", name := "<init>", desc := "()V" } : Jvm.MethodName)) ∈ q_gw := q_gw_of (q_t2 (List.mem_of_getElem? (i := 55) rfl)) rfl
theorem tw_2_56 : (Jvm.Cond.fieldLink "java/lang/AbstractStringBuilde\x72" (18 : Nat) "java/lang/String" "COMPACT_STRINGS" "Z") ∈ q_gw := q_gw_of (q_t2 (List.mem_of_getElem? (i := 56) rfl)) rfl
theorem tw_2_57 : (Jvm.Cond.laysStatic "java/lang/String" "COMPACT_STRINGS" "Z") ∈ lw_tbl := List.mem_append_right _ (q_t2 (List.mem_of_getElem? (i := 57) rfl))
theorem tw_2_58 : (Jvm.Cond.methodLink "java/lang/AbstractStringBuilde\x72" (26 : Nat) ({ cls := "java/lang/StringUTF16", name := "newBytesFo\x72", desc := "(I)[B" } : Jvm.MethodName)) ∈ q_gw := q_gw_of (q_t2 (List.mem_of_getElem? (i := 58) rfl)) rfl
theorem tw_2_59 : (Jvm.Cond.static ({ cls := "java/lang/StringUTF16", name := "newBytesFo\x72", desc := "(I)[B" } : Jvm.MethodName)) ∈ q_gw := q_gw_of (q_t2 (List.mem_of_getElem? (i := 59) rfl)) rfl
theorem tw_2_6 : (Jvm.Cond.methodLinkNest "CalendarReplicas$Merge" (22 : Nat) ({ cls := "CalendarReplicas$Timetable", name := "<init>", desc := "()V" } : Jvm.MethodName) "CalendarReplicas") ∈ lw_tbl := List.mem_append_right _ (q_t2 (List.mem_of_getElem? (i := 6) rfl))
theorem tw_2_60 : (Jvm.Cond.code ({ cls := "java/lang/StringUTF16", name := "newBytesFo\x72", desc := "(I)[B" } : Jvm.MethodName) prog_20_method_2_code (1 : Nat) (Option.some (Jvm.ClassFile.FieldType.array Jvm.ClassFile.FieldType.byte))) ∈ q_gw := q_gw_of (q_t2 (List.mem_of_getElem? (i := 60) rfl)) rfl
theorem tw_2_61 : (Jvm.Cond.methodLink "java/lang/StringUTF16" (11 : Nat) ({ cls := "java/lang/StringUTF16", name := "newBytesLength", desc := "(I)I" } : Jvm.MethodName)) ∈ q_gw := q_gw_of (q_t2 (List.mem_of_getElem? (i := 61) rfl)) rfl
theorem tw_2_62 : (Jvm.Cond.static ({ cls := "java/lang/StringUTF16", name := "newBytesLength", desc := "(I)I" } : Jvm.MethodName)) ∈ q_gw := q_gw_of (q_t2 (List.mem_of_getElem? (i := 62) rfl)) rfl
theorem tw_2_63 : (Jvm.Cond.code ({ cls := "java/lang/StringUTF16", name := "newBytesLength", desc := "(I)I" } : Jvm.MethodName) prog_20_method_3_code (1 : Nat) (Option.some Jvm.ClassFile.FieldType.int)) ∈ q_gw := q_gw_of (q_t2 (List.mem_of_getElem? (i := 63) rfl)) rfl
theorem tw_2_64 : (Jvm.Cond.constant "java/lang/StringUTF16" (20 : Nat) (1073741823 : Int32)) ∈ q_gw := q_gw_of (q_t2 (List.mem_of_getElem? (i := 64) rfl)) rfl
theorem tw_2_65 : (Jvm.Cond.fieldLink "java/lang/AbstractStringBuilde\x72" (15 : Nat) "java/lang/AbstractStringBuilde\x72" "value" "[B") ∈ q_gw := q_gw_of (q_t2 (List.mem_of_getElem? (i := 65) rfl)) rfl
theorem tw_2_66 : (Jvm.Cond.fieldLink "java/lang/AbstractStringBuilde\x72" (22 : Nat) "java/lang/AbstractStringBuilde\x72" "code\x72" "B") ∈ q_gw := q_gw_of (q_t2 (List.mem_of_getElem? (i := 66) rfl)) rfl
theorem tw_2_67 : (Jvm.Cond.fieldLink "java/lang/AbstractStringBuilde\x72" (73 : Nat) "java/lang/AbstractStringBuilde\x72" "maybeLatin1" "Z") ∈ q_gw := q_gw_of (q_t2 (List.mem_of_getElem? (i := 67) rfl)) rfl
theorem tw_2_68 : (Jvm.Cond.fieldLink "java/lang/AbstractStringBuilde\x72" (79 : Nat) "java/lang/AbstractStringBuilde\x72" "count" "I") ∈ q_gw := q_gw_of (q_t2 (List.mem_of_getElem? (i := 68) rfl)) rfl
theorem tw_2_69 : (Jvm.Cond.lays "java/lang/StringBuilde\x72" "java/lang/AbstractStringBuilde\x72" "value" "[B") ∈ q_gw := q_gw_of (q_t2 (List.mem_of_getElem? (i := 69) rfl)) rfl
theorem tw_2_7 : (Jvm.Cond.instanceMethod ({ cls := "CalendarReplicas$Timetable", name := "<init>", desc := "()V" } : Jvm.MethodName)) ∈ q_gw := q_gw_of (q_t2 (List.mem_of_getElem? (i := 7) rfl)) rfl
theorem tw_2_70 : (Jvm.Cond.soleField "java/lang/AbstractStringBuilde\x72" "value") ∈ q_gw := q_gw_of (q_t2 (List.mem_of_getElem? (i := 70) rfl)) rfl
theorem tw_2_71 : (Jvm.Cond.lays "java/lang/StringBuilde\x72" "java/lang/AbstractStringBuilde\x72" "code\x72" "B") ∈ q_gw := q_gw_of (q_t2 (List.mem_of_getElem? (i := 71) rfl)) rfl
theorem tw_2_72 : (Jvm.Cond.soleField "java/lang/AbstractStringBuilde\x72" "code\x72") ∈ q_gw := q_gw_of (q_t2 (List.mem_of_getElem? (i := 72) rfl)) rfl
theorem tw_2_73 : (Jvm.Cond.lays "java/lang/StringBuilde\x72" "java/lang/AbstractStringBuilde\x72" "maybeLatin1" "Z") ∈ q_gw := q_gw_of (q_t2 (List.mem_of_getElem? (i := 73) rfl)) rfl
theorem tw_2_74 : (Jvm.Cond.soleField "java/lang/AbstractStringBuilde\x72" "maybeLatin1") ∈ q_gw := q_gw_of (q_t2 (List.mem_of_getElem? (i := 74) rfl)) rfl
theorem tw_2_75 : (Jvm.Cond.lays "java/lang/StringBuilde\x72" "java/lang/AbstractStringBuilde\x72" "count" "I") ∈ q_gw := q_gw_of (q_t2 (List.mem_of_getElem? (i := 75) rfl)) rfl
theorem tw_2_76 : (Jvm.Cond.soleField "java/lang/AbstractStringBuilde\x72" "count") ∈ q_gw := q_gw_of (q_t2 (List.mem_of_getElem? (i := 76) rfl)) rfl
theorem tw_2_77 : (Jvm.Cond.superclass "java/lang/StringBuilde\x72" "java/lang/AbstractStringBuilde\x72") ∈ q_gw := q_gw_of (q_t2 (List.mem_of_getElem? (i := 77) rfl)) rfl
theorem tw_2_78 : (Jvm.Cond.arrayClass Jvm.ClassFile.FieldType.byte) ∈ q_gw := q_gw_of (q_t2 (List.mem_of_getElem? (i := 78) rfl)) rfl
theorem tw_2_79 : (Jvm.Cond.classLink "CalendarReplicas$Description" (18 : Nat) "CalendarReplicas$Meeting") ∈ q_gw := q_gw_of (q_t2 (List.mem_of_getElem? (i := 79) rfl)) rfl
theorem tw_2_8 : (Jvm.Cond.code ({ cls := "CalendarReplicas$Timetable", name := "<init>", desc := "()V" } : Jvm.MethodName) prog_8_method_1_code (1 : Nat) (Option.none : Option Jvm.ClassFile.FieldType)) ∈ q_gw := q_gw_of (q_t2 (List.mem_of_getElem? (i := 8) rfl)) rfl
theorem tw_2_80 : (Jvm.Cond.methodLinkNest "CalendarReplicas$Description" (20 : Nat) ({ cls := "CalendarReplicas$Meeting", name := "<init>", desc := "()V" } : Jvm.MethodName) "CalendarReplicas") ∈ lw_tbl := List.mem_append_right _ (q_t2 (List.mem_of_getElem? (i := 80) rfl))
theorem tw_2_81 : (Jvm.Cond.fieldLink "CalendarReplicas$Description" (12 : Nat) "CalendarReplicas$Description" "text" "Ljava/lang/StringBuilder;") ∈ q_gw := q_gw_of (q_t2 (List.mem_of_getElem? (i := 81) rfl)) rfl
theorem tw_2_82 : (Jvm.Cond.fieldLink "CalendarReplicas" (314 : Nat) "CalendarReplicas$Description" "text" "Ljava/lang/StringBuilder;") ∈ q_gw := q_gw_of (q_t2 (List.mem_of_getElem? (i := 82) rfl)) rfl
theorem tw_2_83 : (Jvm.Cond.fieldLink "CalendarReplicas$Description" (21 : Nat) "CalendarReplicas$Description" "meeting" "LCalendarReplicas$Meeting;") ∈ q_gw := q_gw_of (q_t2 (List.mem_of_getElem? (i := 83) rfl)) rfl
theorem tw_2_84 : (Jvm.Cond.fieldLink "CalendarReplicas" (147 : Nat) "CalendarReplicas$Description" "meeting" "LCalendarReplicas$Meeting;") ∈ q_gw := q_gw_of (q_t2 (List.mem_of_getElem? (i := 84) rfl)) rfl
theorem tw_2_85 : (Jvm.Cond.fieldLink "CalendarReplicas$Description" (44 : Nat) "CalendarReplicas$Description" "weight" "I") ∈ q_gw := q_gw_of (q_t2 (List.mem_of_getElem? (i := 85) rfl)) rfl
theorem tw_2_86 : (Jvm.Cond.fieldLink "CalendarReplicas" (158 : Nat) "CalendarReplicas$Description" "weight" "I") ∈ q_gw := q_gw_of (q_t2 (List.mem_of_getElem? (i := 86) rfl)) rfl
theorem tw_2_87 : (Jvm.Cond.fieldLink "CalendarReplicas$Description" (25 : Nat) "CalendarReplicas$Description" "position" "I") ∈ q_gw := q_gw_of (q_t2 (List.mem_of_getElem? (i := 87) rfl)) rfl
theorem tw_2_88 : (Jvm.Cond.fieldLink "CalendarReplicas$Description" (37 : Nat) "CalendarReplicas$Description" "optionsLeft" "I") ∈ q_gw := q_gw_of (q_t2 (List.mem_of_getElem? (i := 88) rfl)) rfl
theorem tw_2_89 : (Jvm.Cond.laysFinal "CalendarReplicas$Description" "CalendarReplicas$Description" "text" "Ljava/lang/StringBuilder;") ∈ q_gw := q_gw_of (q_t2 (List.mem_of_getElem? (i := 89) rfl)) rfl
theorem tw_2_9 : (Jvm.Cond.methodLink "CalendarReplicas$Timetable" (3 : Nat) ({ cls := "java/lang/Object", name := "<init>", desc := "()V" } : Jvm.MethodName)) ∈ q_gw := q_gw_of (q_t2 (List.mem_of_getElem? (i := 9) rfl)) rfl
theorem tw_2_90 : (Jvm.Cond.soleField "CalendarReplicas$Description" "text") ∈ q_gw := q_gw_of (q_t2 (List.mem_of_getElem? (i := 90) rfl)) rfl
theorem tw_2_91 : (Jvm.Cond.laysFinal "CalendarReplicas$Description" "CalendarReplicas$Description" "meeting" "LCalendarReplicas$Meeting;") ∈ q_gw := q_gw_of (q_t2 (List.mem_of_getElem? (i := 91) rfl)) rfl
theorem tw_2_92 : (Jvm.Cond.soleField "CalendarReplicas$Description" "meeting") ∈ q_gw := q_gw_of (q_t2 (List.mem_of_getElem? (i := 92) rfl)) rfl
theorem tw_2_93 : (Jvm.Cond.lays "CalendarReplicas$Description" "CalendarReplicas$Description" "weight" "I") ∈ q_gw := q_gw_of (q_t2 (List.mem_of_getElem? (i := 93) rfl)) rfl
theorem tw_2_94 : (Jvm.Cond.soleField "CalendarReplicas$Description" "weight") ∈ q_gw := q_gw_of (q_t2 (List.mem_of_getElem? (i := 94) rfl)) rfl
theorem tw_2_95 : (Jvm.Cond.lays "CalendarReplicas$Description" "CalendarReplicas$Description" "position" "I") ∈ q_gw := q_gw_of (q_t2 (List.mem_of_getElem? (i := 95) rfl)) rfl
theorem tw_2_96 : (Jvm.Cond.soleField "CalendarReplicas$Description" "position") ∈ q_gw := q_gw_of (q_t2 (List.mem_of_getElem? (i := 96) rfl)) rfl
theorem tw_2_97 : (Jvm.Cond.lays "CalendarReplicas$Description" "CalendarReplicas$Description" "optionsLeft" "I") ∈ q_gw := q_gw_of (q_t2 (List.mem_of_getElem? (i := 97) rfl)) rfl
theorem tw_2_98 : (Jvm.Cond.soleField "CalendarReplicas$Description" "optionsLeft") ∈ q_gw := q_gw_of (q_t2 (List.mem_of_getElem? (i := 98) rfl)) rfl
theorem tw_2_99 : (Jvm.Cond.superclass "CalendarReplicas$Description" "java/lang/Object") ∈ q_gw := q_gw_of (q_t2 (List.mem_of_getElem? (i := 99) rfl)) rfl
theorem tw_3_0 : (Jvm.Cond.code ({ cls := "CalendarReplicas$Timetable", name := "bits", desc := "(II)J" } : Jvm.MethodName) prog_8_method_6_code (4 : Nat) (Option.some Jvm.ClassFile.FieldType.long)) ∈ q_gw := q_gw_of (q_t3 (List.mem_of_getElem? (i := 0) rfl)) rfl
theorem tw_3_1 : (Jvm.Cond.methodLinkNest "CalendarReplicas$Timetable" (64 : Nat) ({ cls := "CalendarReplicas", name := "contains", desc := "(II)Z" } : Jvm.MethodName) "CalendarReplicas") ∈ lw_tbl := List.mem_append_right _ (q_t3 (List.mem_of_getElem? (i := 1) rfl))
theorem tw_3_10 : (Jvm.Cond.methodLinkNest "CalendarReplicas$Rules" (54 : Nat) ({ cls := "CalendarReplicas", name := "within", desc := "(III)Z" } : Jvm.MethodName) "CalendarReplicas") ∈ lw_tbl := List.mem_append_right _ (q_t3 (List.mem_of_getElem? (i := 10) rfl))
theorem tw_3_100 : (Jvm.Cond.methodLink "CalendarReplicas" (143 : Nat) ({ cls := "CalendarReplicas$Description", name := "read", desc := "()I" } : Jvm.MethodName)) ∈ q_gw := q_gw_of (q_t3 (List.mem_of_getElem? (i := 100) rfl)) rfl
theorem tw_3_101 : (Jvm.Cond.instanceMethod ({ cls := "CalendarReplicas$Description", name := "read", desc := "()I" } : Jvm.MethodName)) ∈ q_gw := q_gw_of (q_t3 (List.mem_of_getElem? (i := 101) rfl)) rfl
theorem tw_3_102 : (Jvm.Cond.selects "CalendarReplicas$Description" ({ cls := "CalendarReplicas$Description", name := "read", desc := "()I" } : Jvm.MethodName) ({ cls := "CalendarReplicas$Description", name := "read", desc := "()I" } : Jvm.MethodName)) ∈ q_gw := q_gw_of (q_t3 (List.mem_of_getElem? (i := 102) rfl)) rfl
theorem tw_3_103 : (Jvm.Cond.code ({ cls := "CalendarReplicas$Description", name := "read", desc := "()I" } : Jvm.MethodName) prog_3_method_2_code (1 : Nat) (Option.some Jvm.ClassFile.FieldType.int)) ∈ q_gw := q_gw_of (q_t3 (List.mem_of_getElem? (i := 103) rfl)) rfl
theorem tw_3_104 : (Jvm.Cond.stringRef "CalendarReplicas$Description" (29 : Nat) "rpwe") ∈ lw_tbl := List.mem_append_right _ (q_t3 (List.mem_of_getElem? (i := 104) rfl))
theorem tw_3_105 : (Jvm.Cond.methodLink "CalendarReplicas$Description" (31 : Nat) ({ cls := "java/lang/String", name := "length", desc := "()I" } : Jvm.MethodName)) ∈ q_gw := q_gw_of (q_t3 (List.mem_of_getElem? (i := 105) rfl)) rfl
theorem tw_3_106 : (Jvm.Cond.instanceMethod ({ cls := "java/lang/String", name := "length", desc := "()I" } : Jvm.MethodName)) ∈ q_gw := q_gw_of (q_t3 (List.mem_of_getElem? (i := 106) rfl)) rfl
theorem tw_3_107 : (Jvm.Cond.selects "java/lang/String" ({ cls := "java/lang/String", name := "length", desc := "()I" } : Jvm.MethodName) ({ cls := "java/lang/String", name := "length", desc := "()I" } : Jvm.MethodName)) ∈ q_gw := q_gw_of (q_t3 (List.mem_of_getElem? (i := 107) rfl)) rfl
theorem tw_3_108 : (Jvm.Cond.code ({ cls := "java/lang/String", name := "length", desc := "()I" } : Jvm.MethodName) prog_17_method_54_code (1 : Nat) (Option.some Jvm.ClassFile.FieldType.int)) ∈ q_gw := q_gw_of (q_t3 (List.mem_of_getElem? (i := 108) rfl)) rfl
theorem tw_3_109 : (Jvm.Cond.methodLink "java/lang/String" (335 : Nat) ({ cls := "java/lang/String", name := "code\x72", desc := "()B" } : Jvm.MethodName)) ∈ q_gw := q_gw_of (q_t3 (List.mem_of_getElem? (i := 109) rfl)) rfl
theorem tw_3_11 : (Jvm.Cond.methodLink "CalendarReplicas$Rules" (61 : Nat) ({ cls := "CalendarReplicas$Meeting", name := "end", desc := "()I" } : Jvm.MethodName)) ∈ q_gw := q_gw_of (q_t3 (List.mem_of_getElem? (i := 11) rfl)) rfl
theorem tw_3_110 : (Jvm.Cond.instanceMethod ({ cls := "java/lang/String", name := "code\x72", desc := "()B" } : Jvm.MethodName)) ∈ q_gw := q_gw_of (q_t3 (List.mem_of_getElem? (i := 110) rfl)) rfl
theorem tw_3_111 : (Jvm.Cond.selects "java/lang/String" ({ cls := "java/lang/String", name := "code\x72", desc := "()B" } : Jvm.MethodName) ({ cls := "java/lang/String", name := "code\x72", desc := "()B" } : Jvm.MethodName)) ∈ q_gw := q_gw_of (q_t3 (List.mem_of_getElem? (i := 111) rfl)) rfl
theorem tw_3_112 : (Jvm.Cond.code ({ cls := "java/lang/String", name := "code\x72", desc := "()B" } : Jvm.MethodName) prog_17_method_152_code (1 : Nat) (Option.some Jvm.ClassFile.FieldType.byte)) ∈ q_gw := q_gw_of (q_t3 (List.mem_of_getElem? (i := 112) rfl)) rfl
theorem tw_3_113 : (Jvm.Cond.fieldLink "java/lang/String" (38 : Nat) "java/lang/String" "COMPACT_STRINGS" "Z") ∈ q_gw := q_gw_of (q_t3 (List.mem_of_getElem? (i := 113) rfl)) rfl
theorem tw_3_114 : (Jvm.Cond.methodLink "CalendarReplicas$Description" (40 : Nat) ({ cls := "CalendarReplicas$Meeting", name := "fill", desc := "(IIIIII)V" } : Jvm.MethodName)) ∈ q_gw := q_gw_of (q_t3 (List.mem_of_getElem? (i := 114) rfl)) rfl
theorem tw_3_115 : (Jvm.Cond.methodLink "CalendarReplicas$Description" (47 : Nat) ({ cls := "CalendarReplicas$Description", name := "readTime", desc := "()Z" } : Jvm.MethodName)) ∈ q_gw := q_gw_of (q_t3 (List.mem_of_getElem? (i := 115) rfl)) rfl
theorem tw_3_116 : (Jvm.Cond.privateMethod ({ cls := "CalendarReplicas$Description", name := "readTime", desc := "()Z" } : Jvm.MethodName)) ∈ lw_tbl := List.mem_append_right _ (q_t3 (List.mem_of_getElem? (i := 116) rfl))
theorem tw_3_117 : (Jvm.Cond.instanceMethod ({ cls := "CalendarReplicas$Description", name := "readTime", desc := "()Z" } : Jvm.MethodName)) ∈ q_gw := q_gw_of (q_t3 (List.mem_of_getElem? (i := 117) rfl)) rfl
theorem tw_3_118 : (Jvm.Cond.code ({ cls := "CalendarReplicas$Description", name := "readTime", desc := "()Z" } : Jvm.MethodName) prog_3_method_3_code (1 : Nat) (Option.some Jvm.ClassFile.FieldType.boolean)) ∈ q_gw := q_gw_of (q_t3 (List.mem_of_getElem? (i := 118) rfl)) rfl
theorem tw_3_119 : (Jvm.Cond.methodLink "CalendarReplicas$Description" (54 : Nat) ({ cls := "CalendarReplicas$Description", name := "readNumbe\x72", desc := "()I" } : Jvm.MethodName)) ∈ q_gw := q_gw_of (q_t3 (List.mem_of_getElem? (i := 119) rfl)) rfl
theorem tw_3_12 : (Jvm.Cond.methodLink "CalendarReplicas$Rules" (77 : Nat) ({ cls := "java/lang/Intege\x72", name := "bitCount", desc := "(I)I" } : Jvm.MethodName)) ∈ q_gw := q_gw_of (q_t3 (List.mem_of_getElem? (i := 12) rfl)) rfl
theorem tw_3_120 : (Jvm.Cond.privateMethod ({ cls := "CalendarReplicas$Description", name := "readNumbe\x72", desc := "()I" } : Jvm.MethodName)) ∈ lw_tbl := List.mem_append_right _ (q_t3 (List.mem_of_getElem? (i := 120) rfl))
theorem tw_3_121 : (Jvm.Cond.instanceMethod ({ cls := "CalendarReplicas$Description", name := "readNumbe\x72", desc := "()I" } : Jvm.MethodName)) ∈ q_gw := q_gw_of (q_t3 (List.mem_of_getElem? (i := 121) rfl)) rfl
theorem tw_3_122 : (Jvm.Cond.code ({ cls := "CalendarReplicas$Description", name := "readNumbe\x72", desc := "()I" } : Jvm.MethodName) prog_3_method_8_code (3 : Nat) (Option.some Jvm.ClassFile.FieldType.int)) ∈ q_gw := q_gw_of (q_t3 (List.mem_of_getElem? (i := 122) rfl)) rfl
theorem tw_3_123 : (Jvm.Cond.methodLink "CalendarReplicas$Description" (85 : Nat) ({ cls := "CalendarReplicas$Description", name := "readDigit", desc := "(II)I" } : Jvm.MethodName)) ∈ q_gw := q_gw_of (q_t3 (List.mem_of_getElem? (i := 123) rfl)) rfl
theorem tw_3_124 : (Jvm.Cond.privateMethod ({ cls := "CalendarReplicas$Description", name := "readDigit", desc := "(II)I" } : Jvm.MethodName)) ∈ lw_tbl := List.mem_append_right _ (q_t3 (List.mem_of_getElem? (i := 124) rfl))
theorem tw_3_125 : (Jvm.Cond.instanceMethod ({ cls := "CalendarReplicas$Description", name := "readDigit", desc := "(II)I" } : Jvm.MethodName)) ∈ q_gw := q_gw_of (q_t3 (List.mem_of_getElem? (i := 125) rfl)) rfl
theorem tw_3_126 : (Jvm.Cond.code ({ cls := "CalendarReplicas$Description", name := "readDigit", desc := "(II)I" } : Jvm.MethodName) prog_3_method_9_code (4 : Nat) (Option.some Jvm.ClassFile.FieldType.int)) ∈ q_gw := q_gw_of (q_t3 (List.mem_of_getElem? (i := 126) rfl)) rfl
theorem tw_3_127 : (Jvm.Cond.methodLink "CalendarReplicas$Description" (73 : Nat) ({ cls := "CalendarReplicas$Description", name := "peek", desc := "()C" } : Jvm.MethodName)) ∈ q_gw := q_gw_of (q_t3 (List.mem_of_getElem? (i := 127) rfl)) rfl
theorem tw_3_128 : (Jvm.Cond.privateMethod ({ cls := "CalendarReplicas$Description", name := "peek", desc := "()C" } : Jvm.MethodName)) ∈ lw_tbl := List.mem_append_right _ (q_t3 (List.mem_of_getElem? (i := 128) rfl))
theorem tw_3_129 : (Jvm.Cond.instanceMethod ({ cls := "CalendarReplicas$Description", name := "peek", desc := "()C" } : Jvm.MethodName)) ∈ q_gw := q_gw_of (q_t3 (List.mem_of_getElem? (i := 129) rfl)) rfl
theorem tw_3_13 : (Jvm.Cond.static ({ cls := "java/lang/Intege\x72", name := "bitCount", desc := "(I)I" } : Jvm.MethodName)) ∈ q_gw := q_gw_of (q_t3 (List.mem_of_getElem? (i := 13) rfl)) rfl
theorem tw_3_130 : (Jvm.Cond.code ({ cls := "CalendarReplicas$Description", name := "peek", desc := "()C" } : Jvm.MethodName) prog_3_method_12_code (1 : Nat) (Option.some Jvm.ClassFile.FieldType.char)) ∈ q_gw := q_gw_of (q_t3 (List.mem_of_getElem? (i := 130) rfl)) rfl
theorem tw_3_131 : (Jvm.Cond.methodLink "CalendarReplicas$Description" (111 : Nat) ({ cls := "java/lang/StringBuilde\x72", name := "length", desc := "()I" } : Jvm.MethodName)) ∈ q_gw := q_gw_of (q_t3 (List.mem_of_getElem? (i := 131) rfl)) rfl
theorem tw_3_132 : (Jvm.Cond.instanceMethod ({ cls := "java/lang/StringBuilde\x72", name := "length", desc := "()I" } : Jvm.MethodName)) ∈ q_gw := q_gw_of (q_t3 (List.mem_of_getElem? (i := 132) rfl)) rfl
theorem tw_3_133 : (Jvm.Cond.selects "java/lang/StringBuilde\x72" ({ cls := "java/lang/StringBuilde\x72", name := "length", desc := "()I" } : Jvm.MethodName) ({ cls := "java/lang/StringBuilde\x72", name := "length", desc := "()I" } : Jvm.MethodName)) ∈ q_gw := q_gw_of (q_t3 (List.mem_of_getElem? (i := 133) rfl)) rfl
theorem tw_3_134 : (Jvm.Cond.code ({ cls := "java/lang/StringBuilde\x72", name := "length", desc := "()I" } : Jvm.MethodName) prog_18_method_93_code (1 : Nat) (Option.some Jvm.ClassFile.FieldType.int)) ∈ q_gw := q_gw_of (q_t3 (List.mem_of_getElem? (i := 134) rfl)) rfl
theorem tw_3_135 : (Jvm.Cond.methodLink "java/lang/StringBuilde\x72" (343 : Nat) ({ cls := "java/lang/AbstractStringBuilde\x72", name := "length", desc := "()I" } : Jvm.MethodName)) ∈ q_gw := q_gw_of (q_t3 (List.mem_of_getElem? (i := 135) rfl)) rfl
theorem tw_3_136 : (Jvm.Cond.instanceMethod ({ cls := "java/lang/AbstractStringBuilde\x72", name := "length", desc := "()I" } : Jvm.MethodName)) ∈ q_gw := q_gw_of (q_t3 (List.mem_of_getElem? (i := 136) rfl)) rfl
theorem tw_3_137 : (Jvm.Cond.code ({ cls := "java/lang/AbstractStringBuilde\x72", name := "length", desc := "()I" } : Jvm.MethodName) prog_12_method_6_code (1 : Nat) (Option.some Jvm.ClassFile.FieldType.int)) ∈ q_gw := q_gw_of (q_t3 (List.mem_of_getElem? (i := 137) rfl)) rfl
theorem tw_3_138 : (Jvm.Cond.methodLink "CalendarReplicas$Description" (112 : Nat) ({ cls := "java/lang/StringBuilde\x72", name := "charAt", desc := "(I)C" } : Jvm.MethodName)) ∈ q_gw := q_gw_of (q_t3 (List.mem_of_getElem? (i := 138) rfl)) rfl
theorem tw_3_139 : (Jvm.Cond.instanceMethod ({ cls := "java/lang/StringBuilde\x72", name := "charAt", desc := "(I)C" } : Jvm.MethodName)) ∈ q_gw := q_gw_of (q_t3 (List.mem_of_getElem? (i := 139) rfl)) rfl
theorem tw_3_14 : (Jvm.Cond.code ({ cls := "java/lang/Intege\x72", name := "bitCount", desc := "(I)I" } : Jvm.MethodName) prog_15_method_49_code (1 : Nat) (Option.some Jvm.ClassFile.FieldType.int)) ∈ q_gw := q_gw_of (q_t3 (List.mem_of_getElem? (i := 14) rfl)) rfl
theorem tw_3_140 : (Jvm.Cond.selects "java/lang/StringBuilde\x72" ({ cls := "java/lang/StringBuilde\x72", name := "charAt", desc := "(I)C" } : Jvm.MethodName) ({ cls := "java/lang/StringBuilde\x72", name := "charAt", desc := "(I)C" } : Jvm.MethodName)) ∈ q_gw := q_gw_of (q_t3 (List.mem_of_getElem? (i := 140) rfl)) rfl
theorem tw_3_141 : (Jvm.Cond.code ({ cls := "java/lang/StringBuilde\x72", name := "charAt", desc := "(I)C" } : Jvm.MethodName) prog_18_method_88_code (2 : Nat) (Option.some Jvm.ClassFile.FieldType.char)) ∈ q_gw := q_gw_of (q_t3 (List.mem_of_getElem? (i := 141) rfl)) rfl
theorem tw_3_142 : (Jvm.Cond.methodLink "java/lang/StringBuilde\x72" (329 : Nat) ({ cls := "java/lang/AbstractStringBuilde\x72", name := "charAt", desc := "(I)C" } : Jvm.MethodName)) ∈ q_gw := q_gw_of (q_t3 (List.mem_of_getElem? (i := 142) rfl)) rfl
theorem tw_3_143 : (Jvm.Cond.instanceMethod ({ cls := "java/lang/AbstractStringBuilde\x72", name := "charAt", desc := "(I)C" } : Jvm.MethodName)) ∈ q_gw := q_gw_of (q_t3 (List.mem_of_getElem? (i := 143) rfl)) rfl
theorem tw_3_144 : (Jvm.Cond.code ({ cls := "java/lang/AbstractStringBuilde\x72", name := "charAt", desc := "(I)C" } : Jvm.MethodName) prog_12_method_14_code (5 : Nat) (Option.some Jvm.ClassFile.FieldType.char)) ∈ q_gw := q_gw_of (q_t3 (List.mem_of_getElem? (i := 144) rfl)) rfl
theorem tw_3_145 : (Jvm.Cond.methodLink "java/lang/AbstractStringBuilde\x72" (138 : Nat) ({ cls := "java/lang/Math", name := "min", desc := "(II)I" } : Jvm.MethodName)) ∈ q_gw := q_gw_of (q_t3 (List.mem_of_getElem? (i := 145) rfl)) rfl
theorem tw_3_146 : (Jvm.Cond.methodLink "java/lang/AbstractStringBuilde\x72" (144 : Nat) ({ cls := "java/lang/String", name := "checkIndex", desc := "(II)V" } : Jvm.MethodName)) ∈ q_gw := q_gw_of (q_t3 (List.mem_of_getElem? (i := 146) rfl)) rfl
theorem tw_3_147 : (Jvm.Cond.static ({ cls := "java/lang/String", name := "checkIndex", desc := "(II)V" } : Jvm.MethodName)) ∈ q_gw := q_gw_of (q_t3 (List.mem_of_getElem? (i := 147) rfl)) rfl
theorem tw_3_148 : (Jvm.Cond.code ({ cls := "java/lang/String", name := "checkIndex", desc := "(II)V" } : Jvm.MethodName) prog_17_method_155_code (2 : Nat) (Option.none : Option Jvm.ClassFile.FieldType)) ∈ q_gw := q_gw_of (q_t3 (List.mem_of_getElem? (i := 148) rfl)) rfl
theorem tw_3_149 : (Jvm.Cond.fieldLink "java/lang/String" (1053 : Nat) "jdk/internal/util/Preconditions" "SIOOBE_FORMATTER" "Ljava/util/function/BiFunction;") ∈ q_gw := q_gw_of (q_t3 (List.mem_of_getElem? (i := 149) rfl)) rfl
theorem tw_3_15 : (Jvm.Cond.constant "java/lang/Intege\x72" (265 : Nat) (1431655765 : Int32)) ∈ q_gw := q_gw_of (q_t3 (List.mem_of_getElem? (i := 15) rfl)) rfl
theorem tw_3_150 : (Jvm.Cond.laysStatic "jdk/internal/util/Preconditions" "SIOOBE_FORMATTER" "Ljava/util/function/BiFunction;") ∈ lw_tbl := List.mem_append_right _ (q_t3 (List.mem_of_getElem? (i := 150) rfl))
theorem tw_3_151 : (Jvm.Cond.methodLink "java/lang/String" (1059 : Nat) ({ cls := "jdk/internal/util/Preconditions", name := "checkIndex", desc := "(IILjava/util/function/BiFunction;)I" } : Jvm.MethodName)) ∈ q_gw := q_gw_of (q_t3 (List.mem_of_getElem? (i := 151) rfl)) rfl
theorem tw_3_152 : (Jvm.Cond.static ({ cls := "jdk/internal/util/Preconditions", name := "checkIndex", desc := "(IILjava/util/function/BiFunction;)I" } : Jvm.MethodName)) ∈ q_gw := q_gw_of (q_t3 (List.mem_of_getElem? (i := 152) rfl)) rfl
theorem tw_3_153 : (Jvm.Cond.code ({ cls := "jdk/internal/util/Preconditions", name := "checkIndex", desc := "(IILjava/util/function/BiFunction;)I" } : Jvm.MethodName) prog_24_method_11_code (3 : Nat) (Option.some Jvm.ClassFile.FieldType.int)) ∈ q_gw := q_gw_of (q_t3 (List.mem_of_getElem? (i := 153) rfl)) rfl
theorem tw_3_154 : (Jvm.Cond.methodLink "java/lang/AbstractStringBuilde\x72" (148 : Nat) ({ cls := "java/lang/StringUTF16", name := "getCha\x72", desc := "([BI)C" } : Jvm.MethodName)) ∈ q_gw := q_gw_of (q_t3 (List.mem_of_getElem? (i := 154) rfl)) rfl
theorem tw_3_155 : (Jvm.Cond.static ({ cls := "java/lang/StringUTF16", name := "getCha\x72", desc := "([BI)C" } : Jvm.MethodName)) ∈ q_gw := q_gw_of (q_t3 (List.mem_of_getElem? (i := 155) rfl)) rfl
theorem tw_3_156 : (Jvm.Cond.code ({ cls := "java/lang/StringUTF16", name := "getCha\x72", desc := "([BI)C" } : Jvm.MethodName) prog_20_method_5_code (2 : Nat) (Option.some Jvm.ClassFile.FieldType.char)) ∈ q_gw := q_gw_of (q_t3 (List.mem_of_getElem? (i := 156) rfl)) rfl
theorem tw_3_157 : (Jvm.Cond.fieldLink "java/lang/StringUTF16" (44 : Nat) "java/lang/StringUTF16" "$assertionsDisabled" "Z") ∈ q_gw := q_gw_of (q_t3 (List.mem_of_getElem? (i := 157) rfl)) rfl
theorem tw_3_158 : (Jvm.Cond.laysStatic "java/lang/StringUTF16" "$assertionsDisabled" "Z") ∈ lw_tbl := List.mem_append_right _ (q_t3 (List.mem_of_getElem? (i := 158) rfl))
theorem tw_3_159 : (Jvm.Cond.methodLink "java/lang/StringUTF16" (48 : Nat) ({ cls := "java/lang/StringUTF16", name := "length", desc := "([B)I" } : Jvm.MethodName)) ∈ q_gw := q_gw_of (q_t3 (List.mem_of_getElem? (i := 159) rfl)) rfl
theorem tw_3_16 : (Jvm.Cond.constant "java/lang/Intege\x72" (266 : Nat) (858993459 : Int32)) ∈ q_gw := q_gw_of (q_t3 (List.mem_of_getElem? (i := 16) rfl)) rfl
theorem tw_3_160 : (Jvm.Cond.static ({ cls := "java/lang/StringUTF16", name := "length", desc := "([B)I" } : Jvm.MethodName)) ∈ q_gw := q_gw_of (q_t3 (List.mem_of_getElem? (i := 160) rfl)) rfl
theorem tw_3_161 : (Jvm.Cond.code ({ cls := "java/lang/StringUTF16", name := "length", desc := "([B)I" } : Jvm.MethodName) prog_20_method_6_code (1 : Nat) (Option.some Jvm.ClassFile.FieldType.int)) ∈ q_gw := q_gw_of (q_t3 (List.mem_of_getElem? (i := 161) rfl)) rfl
theorem tw_3_162 : (Jvm.Cond.fieldLink "java/lang/StringUTF16" (59 : Nat) "java/lang/StringUTF16" "HI_BYTE_SHIFT" "I") ∈ q_gw := q_gw_of (q_t3 (List.mem_of_getElem? (i := 162) rfl)) rfl
theorem tw_3_163 : (Jvm.Cond.laysStatic "java/lang/StringUTF16" "HI_BYTE_SHIFT" "I") ∈ lw_tbl := List.mem_append_right _ (q_t3 (List.mem_of_getElem? (i := 163) rfl))
theorem tw_3_164 : (Jvm.Cond.fieldLink "java/lang/StringUTF16" (63 : Nat) "java/lang/StringUTF16" "LO_BYTE_SHIFT" "I") ∈ q_gw := q_gw_of (q_t3 (List.mem_of_getElem? (i := 164) rfl)) rfl
theorem tw_3_165 : (Jvm.Cond.laysStatic "java/lang/StringUTF16" "LO_BYTE_SHIFT" "I") ∈ lw_tbl := List.mem_append_right _ (q_t3 (List.mem_of_getElem? (i := 165) rfl))
theorem tw_3_166 : (Jvm.Cond.methodLinkNest "CalendarReplicas$Description" (107 : Nat) ({ cls := "CalendarReplicas", name := "within", desc := "(III)Z" } : Jvm.MethodName) "CalendarReplicas") ∈ lw_tbl := List.mem_append_right _ (q_t3 (List.mem_of_getElem? (i := 166) rfl))
theorem tw_3_167 : (Jvm.Cond.methodLink "CalendarReplicas$Description" (60 : Nat) ({ cls := "CalendarReplicas$Description", name := "skip", desc := "(C)Z" } : Jvm.MethodName)) ∈ q_gw := q_gw_of (q_t3 (List.mem_of_getElem? (i := 167) rfl)) rfl
theorem tw_3_168 : (Jvm.Cond.privateMethod ({ cls := "CalendarReplicas$Description", name := "skip", desc := "(C)Z" } : Jvm.MethodName)) ∈ lw_tbl := List.mem_append_right _ (q_t3 (List.mem_of_getElem? (i := 168) rfl))
theorem tw_3_169 : (Jvm.Cond.instanceMethod ({ cls := "CalendarReplicas$Description", name := "skip", desc := "(C)Z" } : Jvm.MethodName)) ∈ q_gw := q_gw_of (q_t3 (List.mem_of_getElem? (i := 169) rfl)) rfl
theorem tw_3_17 : (Jvm.Cond.constant "java/lang/Intege\x72" (267 : Nat) (252645135 : Int32)) ∈ q_gw := q_gw_of (q_t3 (List.mem_of_getElem? (i := 17) rfl)) rfl
theorem tw_3_170 : (Jvm.Cond.code ({ cls := "CalendarReplicas$Description", name := "skip", desc := "(C)Z" } : Jvm.MethodName) prog_3_method_10_code (2 : Nat) (Option.some Jvm.ClassFile.FieldType.boolean)) ∈ q_gw := q_gw_of (q_t3 (List.mem_of_getElem? (i := 170) rfl)) rfl
theorem tw_3_171 : (Jvm.Cond.methodLink "CalendarReplicas$Description" (51 : Nat) ({ cls := "CalendarReplicas$Description", name := "readOptions", desc := "()Z" } : Jvm.MethodName)) ∈ q_gw := q_gw_of (q_t3 (List.mem_of_getElem? (i := 171) rfl)) rfl
theorem tw_3_172 : (Jvm.Cond.privateMethod ({ cls := "CalendarReplicas$Description", name := "readOptions", desc := "()Z" } : Jvm.MethodName)) ∈ lw_tbl := List.mem_append_right _ (q_t3 (List.mem_of_getElem? (i := 172) rfl))
theorem tw_3_173 : (Jvm.Cond.instanceMethod ({ cls := "CalendarReplicas$Description", name := "readOptions", desc := "()Z" } : Jvm.MethodName)) ∈ q_gw := q_gw_of (q_t3 (List.mem_of_getElem? (i := 173) rfl)) rfl
theorem tw_3_174 : (Jvm.Cond.code ({ cls := "CalendarReplicas$Description", name := "readOptions", desc := "()Z" } : Jvm.MethodName) prog_3_method_4_code (2 : Nat) (Option.some Jvm.ClassFile.FieldType.boolean)) ∈ q_gw := q_gw_of (q_t3 (List.mem_of_getElem? (i := 174) rfl)) rfl
theorem tw_3_175 : (Jvm.Cond.methodLink "CalendarReplicas$Description" (67 : Nat) ({ cls := "CalendarReplicas$Description", name := "isAtEnd", desc := "()Z" } : Jvm.MethodName)) ∈ q_gw := q_gw_of (q_t3 (List.mem_of_getElem? (i := 175) rfl)) rfl
theorem tw_3_176 : (Jvm.Cond.privateMethod ({ cls := "CalendarReplicas$Description", name := "isAtEnd", desc := "()Z" } : Jvm.MethodName)) ∈ lw_tbl := List.mem_append_right _ (q_t3 (List.mem_of_getElem? (i := 176) rfl))
theorem tw_3_177 : (Jvm.Cond.instanceMethod ({ cls := "CalendarReplicas$Description", name := "isAtEnd", desc := "()Z" } : Jvm.MethodName)) ∈ q_gw := q_gw_of (q_t3 (List.mem_of_getElem? (i := 177) rfl)) rfl
theorem tw_3_178 : (Jvm.Cond.code ({ cls := "CalendarReplicas$Description", name := "isAtEnd", desc := "()Z" } : Jvm.MethodName) prog_3_method_11_code (1 : Nat) (Option.some Jvm.ClassFile.FieldType.boolean)) ∈ q_gw := q_gw_of (q_t3 (List.mem_of_getElem? (i := 178) rfl)) rfl
theorem tw_3_179 : (Jvm.Cond.methodLink "CalendarReplicas$Description" (70 : Nat) ({ cls := "CalendarReplicas$Description", name := "readOption", desc := "()Z" } : Jvm.MethodName)) ∈ q_gw := q_gw_of (q_t3 (List.mem_of_getElem? (i := 179) rfl)) rfl
theorem tw_3_18 : (Jvm.Cond.methodLink "CalendarReplicas$Merge" (100 : Nat) ({ cls := "CalendarReplicas$Timetable", name := "book", desc := "(LCalendarReplicas$Meeting;)Z" } : Jvm.MethodName)) ∈ q_gw := q_gw_of (q_t3 (List.mem_of_getElem? (i := 18) rfl)) rfl
theorem tw_3_180 : (Jvm.Cond.privateMethod ({ cls := "CalendarReplicas$Description", name := "readOption", desc := "()Z" } : Jvm.MethodName)) ∈ lw_tbl := List.mem_append_right _ (q_t3 (List.mem_of_getElem? (i := 180) rfl))
theorem tw_3_181 : (Jvm.Cond.instanceMethod ({ cls := "CalendarReplicas$Description", name := "readOption", desc := "()Z" } : Jvm.MethodName)) ∈ q_gw := q_gw_of (q_t3 (List.mem_of_getElem? (i := 181) rfl)) rfl
theorem tw_3_182 : (Jvm.Cond.code ({ cls := "CalendarReplicas$Description", name := "readOption", desc := "()Z" } : Jvm.MethodName) prog_3_method_5_code (2 : Nat) (Option.some Jvm.ClassFile.FieldType.boolean)) ∈ q_gw := q_gw_of (q_t3 (List.mem_of_getElem? (i := 182) rfl)) rfl
theorem tw_3_183 : (Jvm.Cond.methodLink "CalendarReplicas$Description" (77 : Nat) ({ cls := "java/lang/String", name := "indexOf", desc := "(I)I" } : Jvm.MethodName)) ∈ q_gw := q_gw_of (q_t3 (List.mem_of_getElem? (i := 183) rfl)) rfl
theorem tw_3_184 : (Jvm.Cond.instanceMethod ({ cls := "java/lang/String", name := "indexOf", desc := "(I)I" } : Jvm.MethodName)) ∈ q_gw := q_gw_of (q_t3 (List.mem_of_getElem? (i := 184) rfl)) rfl
theorem tw_3_185 : (Jvm.Cond.selects "java/lang/String" ({ cls := "java/lang/String", name := "indexOf", desc := "(I)I" } : Jvm.MethodName) ({ cls := "java/lang/String", name := "indexOf", desc := "(I)I" } : Jvm.MethodName)) ∈ q_gw := q_gw_of (q_t3 (List.mem_of_getElem? (i := 185) rfl)) rfl
theorem tw_3_186 : (Jvm.Cond.code ({ cls := "java/lang/String", name := "indexOf", desc := "(I)I" } : Jvm.MethodName) prog_17_method_79_code (2 : Nat) (Option.some Jvm.ClassFile.FieldType.int)) ∈ q_gw := q_gw_of (q_t3 (List.mem_of_getElem? (i := 186) rfl)) rfl
theorem tw_3_187 : (Jvm.Cond.methodLink "java/lang/String" (633 : Nat) ({ cls := "java/lang/String", name := "indexOf", desc := "(II)I" } : Jvm.MethodName)) ∈ q_gw := q_gw_of (q_t3 (List.mem_of_getElem? (i := 187) rfl)) rfl
theorem tw_3_188 : (Jvm.Cond.instanceMethod ({ cls := "java/lang/String", name := "indexOf", desc := "(II)I" } : Jvm.MethodName)) ∈ q_gw := q_gw_of (q_t3 (List.mem_of_getElem? (i := 188) rfl)) rfl
theorem tw_3_189 : (Jvm.Cond.selects "java/lang/String" ({ cls := "java/lang/String", name := "indexOf", desc := "(II)I" } : Jvm.MethodName) ({ cls := "java/lang/String", name := "indexOf", desc := "(II)I" } : Jvm.MethodName)) ∈ q_gw := q_gw_of (q_t3 (List.mem_of_getElem? (i := 189) rfl)) rfl
theorem tw_3_19 : (Jvm.Cond.instanceMethod ({ cls := "CalendarReplicas$Timetable", name := "book", desc := "(LCalendarReplicas$Meeting;)Z" } : Jvm.MethodName)) ∈ q_gw := q_gw_of (q_t3 (List.mem_of_getElem? (i := 19) rfl)) rfl
theorem tw_3_190 : (Jvm.Cond.code ({ cls := "java/lang/String", name := "indexOf", desc := "(II)I" } : Jvm.MethodName) prog_17_method_80_code (3 : Nat) (Option.some Jvm.ClassFile.FieldType.int)) ∈ q_gw := q_gw_of (q_t3 (List.mem_of_getElem? (i := 190) rfl)) rfl
theorem tw_3_191 : (Jvm.Cond.methodLink "java/lang/String" (492 : Nat) ({ cls := "java/lang/String", name := "isLatin1", desc := "()Z" } : Jvm.MethodName)) ∈ q_gw := q_gw_of (q_t3 (List.mem_of_getElem? (i := 191) rfl)) rfl
theorem tw_3_192 : (Jvm.Cond.instanceMethod ({ cls := "java/lang/String", name := "isLatin1", desc := "()Z" } : Jvm.MethodName)) ∈ q_gw := q_gw_of (q_t3 (List.mem_of_getElem? (i := 192) rfl)) rfl
theorem tw_3_193 : (Jvm.Cond.selects "java/lang/String" ({ cls := "java/lang/String", name := "isLatin1", desc := "()Z" } : Jvm.MethodName) ({ cls := "java/lang/String", name := "isLatin1", desc := "()Z" } : Jvm.MethodName)) ∈ q_gw := q_gw_of (q_t3 (List.mem_of_getElem? (i := 193) rfl)) rfl
theorem tw_3_194 : (Jvm.Cond.code ({ cls := "java/lang/String", name := "isLatin1", desc := "()Z" } : Jvm.MethodName) prog_17_method_154_code (1 : Nat) (Option.some Jvm.ClassFile.FieldType.boolean)) ∈ q_gw := q_gw_of (q_t3 (List.mem_of_getElem? (i := 194) rfl)) rfl
theorem tw_3_195 : (Jvm.Cond.methodLink "java/lang/String" (505 : Nat) ({ cls := "java/lang/String", name := "length", desc := "()I" } : Jvm.MethodName)) ∈ q_gw := q_gw_of (q_t3 (List.mem_of_getElem? (i := 195) rfl)) rfl
theorem tw_3_196 : (Jvm.Cond.methodLink "java/lang/String" (637 : Nat) ({ cls := "java/lang/StringLatin1", name := "indexOf", desc := "([BIII)I" } : Jvm.MethodName)) ∈ q_gw := q_gw_of (q_t3 (List.mem_of_getElem? (i := 196) rfl)) rfl
theorem tw_3_197 : (Jvm.Cond.static ({ cls := "java/lang/StringLatin1", name := "indexOf", desc := "([BIII)I" } : Jvm.MethodName)) ∈ q_gw := q_gw_of (q_t3 (List.mem_of_getElem? (i := 197) rfl)) rfl
theorem tw_3_198 : (Jvm.Cond.code ({ cls := "java/lang/StringLatin1", name := "indexOf", desc := "([BIII)I" } : Jvm.MethodName) prog_19_method_22_code (4 : Nat) (Option.some Jvm.ClassFile.FieldType.int)) ∈ q_gw := q_gw_of (q_t3 (List.mem_of_getElem? (i := 198) rfl)) rfl
theorem tw_3_199 : (Jvm.Cond.methodLink "java/lang/StringLatin1" (88 : Nat) ({ cls := "java/lang/StringLatin1", name := "canEncode", desc := "(I)Z" } : Jvm.MethodName)) ∈ q_gw := q_gw_of (q_t3 (List.mem_of_getElem? (i := 199) rfl)) rfl
theorem tw_3_2 : (Jvm.Cond.methodLink "CalendarReplicas$Merge" (90 : Nat) ({ cls := "CalendarReplicas$Calenda\x72", name := "row", desc := "(I)LCalendarReplicas$Meeting;" } : Jvm.MethodName)) ∈ q_gw := q_gw_of (q_t3 (List.mem_of_getElem? (i := 2) rfl)) rfl
theorem tw_3_20 : (Jvm.Cond.selects "CalendarReplicas$Timetable" ({ cls := "CalendarReplicas$Timetable", name := "book", desc := "(LCalendarReplicas$Meeting;)Z" } : Jvm.MethodName) ({ cls := "CalendarReplicas$Timetable", name := "book", desc := "(LCalendarReplicas$Meeting;)Z" } : Jvm.MethodName)) ∈ q_gw := q_gw_of (q_t3 (List.mem_of_getElem? (i := 20) rfl)) rfl
theorem tw_3_200 : (Jvm.Cond.static ({ cls := "java/lang/StringLatin1", name := "canEncode", desc := "(I)Z" } : Jvm.MethodName)) ∈ q_gw := q_gw_of (q_t3 (List.mem_of_getElem? (i := 200) rfl)) rfl
theorem tw_3_201 : (Jvm.Cond.code ({ cls := "java/lang/StringLatin1", name := "canEncode", desc := "(I)Z" } : Jvm.MethodName) prog_19_method_4_code (1 : Nat) (Option.some Jvm.ClassFile.FieldType.boolean)) ∈ q_gw := q_gw_of (q_t3 (List.mem_of_getElem? (i := 201) rfl)) rfl
theorem tw_3_202 : (Jvm.Cond.methodLink "java/lang/StringLatin1" (92 : Nat) ({ cls := "java/lang/Math", name := "max", desc := "(II)I" } : Jvm.MethodName)) ∈ q_gw := q_gw_of (q_t3 (List.mem_of_getElem? (i := 202) rfl)) rfl
theorem tw_3_203 : (Jvm.Cond.methodLink "java/lang/StringLatin1" (38 : Nat) ({ cls := "java/lang/Math", name := "min", desc := "(II)I" } : Jvm.MethodName)) ∈ q_gw := q_gw_of (q_t3 (List.mem_of_getElem? (i := 203) rfl)) rfl
theorem tw_3_204 : (Jvm.Cond.methodLink "java/lang/StringLatin1" (95 : Nat) ({ cls := "java/lang/StringLatin1", name := "indexOfCha\x72", desc := "([BIII)I" } : Jvm.MethodName)) ∈ q_gw := q_gw_of (q_t3 (List.mem_of_getElem? (i := 204) rfl)) rfl
theorem tw_3_205 : (Jvm.Cond.static ({ cls := "java/lang/StringLatin1", name := "indexOfCha\x72", desc := "([BIII)I" } : Jvm.MethodName)) ∈ q_gw := q_gw_of (q_t3 (List.mem_of_getElem? (i := 205) rfl)) rfl
theorem tw_3_206 : (Jvm.Cond.code ({ cls := "java/lang/StringLatin1", name := "indexOfCha\x72", desc := "([BIII)I" } : Jvm.MethodName) prog_19_method_23_code (6 : Nat) (Option.some Jvm.ClassFile.FieldType.int)) ∈ q_gw := q_gw_of (q_t3 (List.mem_of_getElem? (i := 206) rfl)) rfl
theorem tw_3_207 : (Jvm.Cond.methodLink "java/lang/String" (640 : Nat) ({ cls := "java/lang/StringUTF16", name := "indexOf", desc := "([BIII)I" } : Jvm.MethodName)) ∈ q_gw := q_gw_of (q_t3 (List.mem_of_getElem? (i := 207) rfl)) rfl
theorem tw_3_208 : (Jvm.Cond.static ({ cls := "java/lang/StringUTF16", name := "indexOf", desc := "([BIII)I" } : Jvm.MethodName)) ∈ q_gw := q_gw_of (q_t3 (List.mem_of_getElem? (i := 208) rfl)) rfl
theorem tw_3_209 : (Jvm.Cond.code ({ cls := "java/lang/StringUTF16", name := "indexOf", desc := "([BIII)I" } : Jvm.MethodName) prog_20_method_40_code (4 : Nat) (Option.some Jvm.ClassFile.FieldType.int)) ∈ q_gw := q_gw_of (q_t3 (List.mem_of_getElem? (i := 209) rfl)) rfl
theorem tw_3_21 : (Jvm.Cond.code ({ cls := "CalendarReplicas$Timetable", name := "book", desc := "(LCalendarReplicas$Meeting;)Z" } : Jvm.MethodName) prog_8_method_3_code (5 : Nat) (Option.some Jvm.ClassFile.FieldType.boolean)) ∈ q_gw := q_gw_of (q_t3 (List.mem_of_getElem? (i := 21) rfl)) rfl
theorem tw_3_210 : (Jvm.Cond.methodLink "java/lang/StringUTF16" (224 : Nat) ({ cls := "java/lang/Math", name := "max", desc := "(II)I" } : Jvm.MethodName)) ∈ q_gw := q_gw_of (q_t3 (List.mem_of_getElem? (i := 210) rfl)) rfl
theorem tw_3_211 : (Jvm.Cond.methodLink "java/lang/StringUTF16" (183 : Nat) ({ cls := "java/lang/Math", name := "min", desc := "(II)I" } : Jvm.MethodName)) ∈ q_gw := q_gw_of (q_t3 (List.mem_of_getElem? (i := 211) rfl)) rfl
theorem tw_3_212 : (Jvm.Cond.constant "java/lang/StringUTF16" (227 : Nat) (65536 : Int32)) ∈ q_gw := q_gw_of (q_t3 (List.mem_of_getElem? (i := 212) rfl)) rfl
theorem tw_3_213 : (Jvm.Cond.methodLink "java/lang/StringUTF16" (228 : Nat) ({ cls := "java/lang/StringUTF16", name := "indexOfCha\x72", desc := "([BIII)I" } : Jvm.MethodName)) ∈ q_gw := q_gw_of (q_t3 (List.mem_of_getElem? (i := 213) rfl)) rfl
theorem tw_3_214 : (Jvm.Cond.static ({ cls := "java/lang/StringUTF16", name := "indexOfCha\x72", desc := "([BIII)I" } : Jvm.MethodName)) ∈ q_gw := q_gw_of (q_t3 (List.mem_of_getElem? (i := 214) rfl)) rfl
theorem tw_3_215 : (Jvm.Cond.code ({ cls := "java/lang/StringUTF16", name := "indexOfCha\x72", desc := "([BIII)I" } : Jvm.MethodName) prog_20_method_47_code (4 : Nat) (Option.some Jvm.ClassFile.FieldType.int)) ∈ q_gw := q_gw_of (q_t3 (List.mem_of_getElem? (i := 215) rfl)) rfl
theorem tw_3_216 : (Jvm.Cond.methodLink "java/lang/StringUTF16" (96 : Nat) ({ cls := "java/lang/StringUTF16", name := "checkBoundsBeginEnd", desc := "(II[B)V" } : Jvm.MethodName)) ∈ q_gw := q_gw_of (q_t3 (List.mem_of_getElem? (i := 216) rfl)) rfl
theorem tw_3_217 : (Jvm.Cond.static ({ cls := "java/lang/StringUTF16", name := "checkBoundsBeginEnd", desc := "(II[B)V" } : Jvm.MethodName)) ∈ q_gw := q_gw_of (q_t3 (List.mem_of_getElem? (i := 217) rfl)) rfl
theorem tw_3_218 : (Jvm.Cond.code ({ cls := "java/lang/StringUTF16", name := "checkBoundsBeginEnd", desc := "(II[B)V" } : Jvm.MethodName) prog_20_method_93_code (3 : Nat) (Option.none : Option Jvm.ClassFile.FieldType)) ∈ q_gw := q_gw_of (q_t3 (List.mem_of_getElem? (i := 218) rfl)) rfl
theorem tw_3_219 : (Jvm.Cond.methodLink "java/lang/StringUTF16" (241 : Nat) ({ cls := "java/lang/String", name := "checkBoundsBeginEnd", desc := "(III)V" } : Jvm.MethodName)) ∈ q_gw := q_gw_of (q_t3 (List.mem_of_getElem? (i := 219) rfl)) rfl
theorem tw_3_22 : (Jvm.Cond.methodLink "CalendarReplicas$Timetable" (37 : Nat) ({ cls := "CalendarReplicas$Meeting", name := "rows", desc := "()I" } : Jvm.MethodName)) ∈ q_gw := q_gw_of (q_t3 (List.mem_of_getElem? (i := 22) rfl)) rfl
theorem tw_3_220 : (Jvm.Cond.static ({ cls := "java/lang/String", name := "checkBoundsBeginEnd", desc := "(III)V" } : Jvm.MethodName)) ∈ q_gw := q_gw_of (q_t3 (List.mem_of_getElem? (i := 220) rfl)) rfl
theorem tw_3_221 : (Jvm.Cond.code ({ cls := "java/lang/String", name := "checkBoundsBeginEnd", desc := "(III)V" } : Jvm.MethodName) prog_17_method_158_code (3 : Nat) (Option.none : Option Jvm.ClassFile.FieldType)) ∈ q_gw := q_gw_of (q_t3 (List.mem_of_getElem? (i := 221) rfl)) rfl
theorem tw_3_222 : (Jvm.Cond.methodLink "java/lang/String" (1062 : Nat) ({ cls := "jdk/internal/util/Preconditions", name := "checkFromToIndex", desc := "(IIILjava/util/function/BiFunction;)I" } : Jvm.MethodName)) ∈ q_gw := q_gw_of (q_t3 (List.mem_of_getElem? (i := 222) rfl)) rfl
theorem tw_3_223 : (Jvm.Cond.static ({ cls := "jdk/internal/util/Preconditions", name := "checkFromToIndex", desc := "(IIILjava/util/function/BiFunction;)I" } : Jvm.MethodName)) ∈ q_gw := q_gw_of (q_t3 (List.mem_of_getElem? (i := 223) rfl)) rfl
theorem tw_3_224 : (Jvm.Cond.code ({ cls := "jdk/internal/util/Preconditions", name := "checkFromToIndex", desc := "(IIILjava/util/function/BiFunction;)I" } : Jvm.MethodName) prog_24_method_12_code (4 : Nat) (Option.some Jvm.ClassFile.FieldType.int)) ∈ q_gw := q_gw_of (q_t3 (List.mem_of_getElem? (i := 224) rfl)) rfl
theorem tw_3_225 : (Jvm.Cond.methodLink "java/lang/StringUTF16" (244 : Nat) ({ cls := "java/lang/StringUTF16", name := "indexOfCharUnsafe", desc := "([BIII)I" } : Jvm.MethodName)) ∈ q_gw := q_gw_of (q_t3 (List.mem_of_getElem? (i := 225) rfl)) rfl
theorem tw_3_226 : (Jvm.Cond.static ({ cls := "java/lang/StringUTF16", name := "indexOfCharUnsafe", desc := "([BIII)I" } : Jvm.MethodName)) ∈ q_gw := q_gw_of (q_t3 (List.mem_of_getElem? (i := 226) rfl)) rfl
theorem tw_3_227 : (Jvm.Cond.code ({ cls := "java/lang/StringUTF16", name := "indexOfCharUnsafe", desc := "([BIII)I" } : Jvm.MethodName) prog_20_method_48_code (5 : Nat) (Option.some Jvm.ClassFile.FieldType.int)) ∈ q_gw := q_gw_of (q_t3 (List.mem_of_getElem? (i := 227) rfl)) rfl
theorem tw_3_228 : (Jvm.Cond.methodLink "java/lang/StringUTF16" (71 : Nat) ({ cls := "java/lang/StringUTF16", name := "getCha\x72", desc := "([BI)C" } : Jvm.MethodName)) ∈ q_gw := q_gw_of (q_t3 (List.mem_of_getElem? (i := 228) rfl)) rfl
theorem tw_3_229 : (Jvm.Cond.methodLink "java/lang/StringUTF16" (232 : Nat) ({ cls := "java/lang/StringUTF16", name := "indexOfSupplementary", desc := "([BIII)I" } : Jvm.MethodName)) ∈ q_gw := q_gw_of (q_t3 (List.mem_of_getElem? (i := 229) rfl)) rfl
theorem tw_3_23 : (Jvm.Cond.instanceMethod ({ cls := "CalendarReplicas$Meeting", name := "rows", desc := "()I" } : Jvm.MethodName)) ∈ q_gw := q_gw_of (q_t3 (List.mem_of_getElem? (i := 23) rfl)) rfl
theorem tw_3_230 : (Jvm.Cond.static ({ cls := "java/lang/StringUTF16", name := "indexOfSupplementary", desc := "([BIII)I" } : Jvm.MethodName)) ∈ q_gw := q_gw_of (q_t3 (List.mem_of_getElem? (i := 230) rfl)) rfl
theorem tw_3_231 : (Jvm.Cond.code ({ cls := "java/lang/StringUTF16", name := "indexOfSupplementary", desc := "([BIII)I" } : Jvm.MethodName) prog_20_method_49_code (7 : Nat) (Option.some Jvm.ClassFile.FieldType.int)) ∈ q_gw := q_gw_of (q_t3 (List.mem_of_getElem? (i := 231) rfl)) rfl
theorem tw_3_232 : (Jvm.Cond.methodLink "java/lang/StringUTF16" (164 : Nat) ({ cls := "java/lang/Characte\x72", name := "isValidCodePoint", desc := "(I)Z" } : Jvm.MethodName)) ∈ q_gw := q_gw_of (q_t3 (List.mem_of_getElem? (i := 232) rfl)) rfl
theorem tw_3_233 : (Jvm.Cond.static ({ cls := "java/lang/Characte\x72", name := "isValidCodePoint", desc := "(I)Z" } : Jvm.MethodName)) ∈ q_gw := q_gw_of (q_t3 (List.mem_of_getElem? (i := 233) rfl)) rfl
theorem tw_3_234 : (Jvm.Cond.code ({ cls := "java/lang/Characte\x72", name := "isValidCodePoint", desc := "(I)Z" } : Jvm.MethodName) prog_13_method_11_code (2 : Nat) (Option.some Jvm.ClassFile.FieldType.boolean)) ∈ q_gw := q_gw_of (q_t3 (List.mem_of_getElem? (i := 234) rfl)) rfl
theorem tw_3_235 : (Jvm.Cond.methodLink "java/lang/StringUTF16" (157 : Nat) ({ cls := "java/lang/Characte\x72", name := "highSurrogate", desc := "(I)C" } : Jvm.MethodName)) ∈ q_gw := q_gw_of (q_t3 (List.mem_of_getElem? (i := 235) rfl)) rfl
theorem tw_3_236 : (Jvm.Cond.static ({ cls := "java/lang/Characte\x72", name := "highSurrogate", desc := "(I)C" } : Jvm.MethodName)) ∈ q_gw := q_gw_of (q_t3 (List.mem_of_getElem? (i := 236) rfl)) rfl
theorem tw_3_237 : (Jvm.Cond.code ({ cls := "java/lang/Characte\x72", name := "highSurrogate", desc := "(I)C" } : Jvm.MethodName) prog_13_method_28_code (1 : Nat) (Option.some Jvm.ClassFile.FieldType.char)) ∈ q_gw := q_gw_of (q_t3 (List.mem_of_getElem? (i := 237) rfl)) rfl
theorem tw_3_238 : (Jvm.Cond.constant "java/lang/Characte\x72" (110 : Nat) (55232 : Int32)) ∈ q_gw := q_gw_of (q_t3 (List.mem_of_getElem? (i := 238) rfl)) rfl
theorem tw_3_239 : (Jvm.Cond.methodLink "java/lang/StringUTF16" (161 : Nat) ({ cls := "java/lang/Characte\x72", name := "lowSurrogate", desc := "(I)C" } : Jvm.MethodName)) ∈ q_gw := q_gw_of (q_t3 (List.mem_of_getElem? (i := 239) rfl)) rfl
theorem tw_3_24 : (Jvm.Cond.selects "CalendarReplicas$Meeting" ({ cls := "CalendarReplicas$Meeting", name := "rows", desc := "()I" } : Jvm.MethodName) ({ cls := "CalendarReplicas$Meeting", name := "rows", desc := "()I" } : Jvm.MethodName)) ∈ q_gw := q_gw_of (q_t3 (List.mem_of_getElem? (i := 24) rfl)) rfl
theorem tw_3_25 : (Jvm.Cond.code ({ cls := "CalendarReplicas$Meeting", name := "rows", desc := "()I" } : Jvm.MethodName) prog_5_method_5_code (1 : Nat) (Option.some Jvm.ClassFile.FieldType.int)) ∈ q_gw := q_gw_of (q_t3 (List.mem_of_getElem? (i := 25) rfl)) rfl
theorem tw_3_26 : (Jvm.Cond.methodLink "CalendarReplicas$Timetable" (56 : Nat) ({ cls := "CalendarReplicas$Timetable", name := "isFree", desc := "(III)Z" } : Jvm.MethodName)) ∈ q_gw := q_gw_of (q_t3 (List.mem_of_getElem? (i := 26) rfl)) rfl
theorem tw_3_27 : (Jvm.Cond.instanceMethod ({ cls := "CalendarReplicas$Timetable", name := "isFree", desc := "(III)Z" } : Jvm.MethodName)) ∈ q_gw := q_gw_of (q_t3 (List.mem_of_getElem? (i := 27) rfl)) rfl
theorem tw_3_28 : (Jvm.Cond.selects "CalendarReplicas$Timetable" ({ cls := "CalendarReplicas$Timetable", name := "isFree", desc := "(III)Z" } : Jvm.MethodName) ({ cls := "CalendarReplicas$Timetable", name := "isFree", desc := "(III)Z" } : Jvm.MethodName)) ∈ q_gw := q_gw_of (q_t3 (List.mem_of_getElem? (i := 28) rfl)) rfl
theorem tw_3_29 : (Jvm.Cond.code ({ cls := "CalendarReplicas$Timetable", name := "isFree", desc := "(III)Z" } : Jvm.MethodName) prog_8_method_4_code (9 : Nat) (Option.some Jvm.ClassFile.FieldType.boolean)) ∈ q_gw := q_gw_of (q_t3 (List.mem_of_getElem? (i := 29) rfl)) rfl
theorem tw_3_3 : (Jvm.Cond.instanceMethod ({ cls := "CalendarReplicas$Calenda\x72", name := "row", desc := "(I)LCalendarReplicas$Meeting;" } : Jvm.MethodName)) ∈ q_gw := q_gw_of (q_t3 (List.mem_of_getElem? (i := 3) rfl)) rfl
theorem tw_3_30 : (Jvm.Cond.methodLink "CalendarReplicas$Merge" (103 : Nat) ({ cls := "CalendarReplicas$Rules", name := "hasOrders", desc := "(LCalendarReplicas$Calendar;)Z" } : Jvm.MethodName)) ∈ q_gw := q_gw_of (q_t3 (List.mem_of_getElem? (i := 30) rfl)) rfl
theorem tw_3_31 : (Jvm.Cond.instanceMethod ({ cls := "CalendarReplicas$Rules", name := "hasOrders", desc := "(LCalendarReplicas$Calendar;)Z" } : Jvm.MethodName)) ∈ q_gw := q_gw_of (q_t3 (List.mem_of_getElem? (i := 31) rfl)) rfl
theorem tw_3_32 : (Jvm.Cond.selects "CalendarReplicas$Rules" ({ cls := "CalendarReplicas$Rules", name := "hasOrders", desc := "(LCalendarReplicas$Calendar;)Z" } : Jvm.MethodName) ({ cls := "CalendarReplicas$Rules", name := "hasOrders", desc := "(LCalendarReplicas$Calendar;)Z" } : Jvm.MethodName)) ∈ q_gw := q_gw_of (q_t3 (List.mem_of_getElem? (i := 32) rfl)) rfl
theorem tw_3_33 : (Jvm.Cond.code ({ cls := "CalendarReplicas$Rules", name := "hasOrders", desc := "(LCalendarReplicas$Calendar;)Z" } : Jvm.MethodName) prog_7_method_4_code (3 : Nat) (Option.some Jvm.ClassFile.FieldType.boolean)) ∈ q_gw := q_gw_of (q_t3 (List.mem_of_getElem? (i := 33) rfl)) rfl
theorem tw_3_34 : (Jvm.Cond.methodLink "CalendarReplicas$Rules" (43 : Nat) ({ cls := "CalendarReplicas$Calenda\x72", name := "keepsOrde\x72", desc := "(II)Z" } : Jvm.MethodName)) ∈ q_gw := q_gw_of (q_t3 (List.mem_of_getElem? (i := 34) rfl)) rfl
theorem tw_3_35 : (Jvm.Cond.methodLink "CalendarReplicas$Merge" (61 : Nat) ({ cls := "java/lang/Intege\x72", name := "numberOfTrailingZeros", desc := "(I)I" } : Jvm.MethodName)) ∈ q_gw := q_gw_of (q_t3 (List.mem_of_getElem? (i := 35) rfl)) rfl
theorem tw_3_36 : (Jvm.Cond.static ({ cls := "java/lang/Intege\x72", name := "numberOfTrailingZeros", desc := "(I)I" } : Jvm.MethodName)) ∈ q_gw := q_gw_of (q_t3 (List.mem_of_getElem? (i := 36) rfl)) rfl
theorem tw_3_37 : (Jvm.Cond.code ({ cls := "java/lang/Intege\x72", name := "numberOfTrailingZeros", desc := "(I)I" } : Jvm.MethodName) prog_15_method_48_code (2 : Nat) (Option.some Jvm.ClassFile.FieldType.int)) ∈ q_gw := q_gw_of (q_t3 (List.mem_of_getElem? (i := 37) rfl)) rfl
theorem tw_3_38 : (Jvm.Cond.constant "java/lang/Intege\x72" (264 : Nat) (65536 : Int32)) ∈ q_gw := q_gw_of (q_t3 (List.mem_of_getElem? (i := 38) rfl)) rfl
theorem tw_3_39 : (Jvm.Cond.methodLink "CalendarReplicas$Merge" (66 : Nat) ({ cls := "CalendarReplicas$World", name := "clashing", desc := "(I)I" } : Jvm.MethodName)) ∈ q_gw := q_gw_of (q_t3 (List.mem_of_getElem? (i := 39) rfl)) rfl
theorem tw_3_4 : (Jvm.Cond.selects "CalendarReplicas$Calenda\x72" ({ cls := "CalendarReplicas$Calenda\x72", name := "row", desc := "(I)LCalendarReplicas$Meeting;" } : Jvm.MethodName) ({ cls := "CalendarReplicas$Calenda\x72", name := "row", desc := "(I)LCalendarReplicas$Meeting;" } : Jvm.MethodName)) ∈ q_gw := q_gw_of (q_t3 (List.mem_of_getElem? (i := 4) rfl)) rfl
theorem tw_3_40 : (Jvm.Cond.instanceMethod ({ cls := "CalendarReplicas$World", name := "clashing", desc := "(I)I" } : Jvm.MethodName)) ∈ q_gw := q_gw_of (q_t3 (List.mem_of_getElem? (i := 40) rfl)) rfl
theorem tw_3_41 : (Jvm.Cond.selects "CalendarReplicas$World" ({ cls := "CalendarReplicas$World", name := "clashing", desc := "(I)I" } : Jvm.MethodName) ({ cls := "CalendarReplicas$World", name := "clashing", desc := "(I)I" } : Jvm.MethodName)) ∈ q_gw := q_gw_of (q_t3 (List.mem_of_getElem? (i := 41) rfl)) rfl
theorem tw_3_42 : (Jvm.Cond.code ({ cls := "CalendarReplicas$World", name := "clashing", desc := "(I)I" } : Jvm.MethodName) prog_9_method_8_code (4 : Nat) (Option.some Jvm.ClassFile.FieldType.int)) ∈ q_gw := q_gw_of (q_t3 (List.mem_of_getElem? (i := 42) rfl)) rfl
theorem tw_3_43 : (Jvm.Cond.methodLink "CalendarReplicas$Merge" (69 : Nat) ({ cls := "CalendarReplicas$World", name := "needing", desc := "(I)I" } : Jvm.MethodName)) ∈ q_gw := q_gw_of (q_t3 (List.mem_of_getElem? (i := 43) rfl)) rfl
theorem tw_3_44 : (Jvm.Cond.instanceMethod ({ cls := "CalendarReplicas$World", name := "needing", desc := "(I)I" } : Jvm.MethodName)) ∈ q_gw := q_gw_of (q_t3 (List.mem_of_getElem? (i := 44) rfl)) rfl
theorem tw_3_45 : (Jvm.Cond.selects "CalendarReplicas$World" ({ cls := "CalendarReplicas$World", name := "needing", desc := "(I)I" } : Jvm.MethodName) ({ cls := "CalendarReplicas$World", name := "needing", desc := "(I)I" } : Jvm.MethodName)) ∈ q_gw := q_gw_of (q_t3 (List.mem_of_getElem? (i := 45) rfl)) rfl
theorem tw_3_46 : (Jvm.Cond.code ({ cls := "CalendarReplicas$World", name := "needing", desc := "(I)I" } : Jvm.MethodName) prog_9_method_9_code (4 : Nat) (Option.some Jvm.ClassFile.FieldType.int)) ∈ q_gw := q_gw_of (q_t3 (List.mem_of_getElem? (i := 46) rfl)) rfl
theorem tw_3_47 : (Jvm.Cond.methodLink "CalendarReplicasLaw" (28 : Nat) ({ cls := "CalendarReplicas", name := "clearOrders", desc := "()I" } : Jvm.MethodName)) ∈ q_gw := q_gw_of (q_t3 (List.mem_of_getElem? (i := 47) rfl)) rfl
theorem tw_3_48 : (Jvm.Cond.instanceMethod ({ cls := "CalendarReplicas", name := "clearOrders", desc := "()I" } : Jvm.MethodName)) ∈ q_gw := q_gw_of (q_t3 (List.mem_of_getElem? (i := 48) rfl)) rfl
theorem tw_3_49 : (Jvm.Cond.selects "CalendarReplicas" ({ cls := "CalendarReplicas", name := "clearOrders", desc := "()I" } : Jvm.MethodName) ({ cls := "CalendarReplicas", name := "clearOrders", desc := "()I" } : Jvm.MethodName)) ∈ q_gw := q_gw_of (q_t3 (List.mem_of_getElem? (i := 49) rfl)) rfl
theorem tw_3_5 : (Jvm.Cond.code ({ cls := "CalendarReplicas$Calenda\x72", name := "row", desc := "(I)LCalendarReplicas$Meeting;" } : Jvm.MethodName) prog_2_method_2_code (2 : Nat) (Option.some (Jvm.ClassFile.FieldType.object "CalendarReplicas$Meeting"))) ∈ q_gw := q_gw_of (q_t3 (List.mem_of_getElem? (i := 5) rfl)) rfl
theorem tw_3_50 : (Jvm.Cond.code ({ cls := "CalendarReplicas", name := "clearOrders", desc := "()I" } : Jvm.MethodName) prog_1_method_5_code (2 : Nat) (Option.some Jvm.ClassFile.FieldType.int)) ∈ q_gw := q_gw_of (q_t3 (List.mem_of_getElem? (i := 50) rfl)) rfl
theorem tw_3_51 : (Jvm.Cond.methodLink "CalendarReplicasLaw" (33 : Nat) ({ cls := "CalendarReplicas", name := "create", desc := "(IIIIII)I" } : Jvm.MethodName)) ∈ q_gw := q_gw_of (q_t3 (List.mem_of_getElem? (i := 51) rfl)) rfl
theorem tw_3_52 : (Jvm.Cond.instanceMethod ({ cls := "CalendarReplicas", name := "create", desc := "(IIIIII)I" } : Jvm.MethodName)) ∈ q_gw := q_gw_of (q_t3 (List.mem_of_getElem? (i := 52) rfl)) rfl
theorem tw_3_53 : (Jvm.Cond.selects "CalendarReplicas" ({ cls := "CalendarReplicas", name := "create", desc := "(IIIIII)I" } : Jvm.MethodName) ({ cls := "CalendarReplicas", name := "create", desc := "(IIIIII)I" } : Jvm.MethodName)) ∈ q_gw := q_gw_of (q_t3 (List.mem_of_getElem? (i := 53) rfl)) rfl
theorem tw_3_54 : (Jvm.Cond.code ({ cls := "CalendarReplicas", name := "create", desc := "(IIIIII)I" } : Jvm.MethodName) prog_1_method_6_code (7 : Nat) (Option.some Jvm.ClassFile.FieldType.int)) ∈ q_gw := q_gw_of (q_t3 (List.mem_of_getElem? (i := 54) rfl)) rfl
theorem tw_3_55 : (Jvm.Cond.methodLink "CalendarReplicas" (119 : Nat) ({ cls := "CalendarReplicas", name := "isReplica", desc := "(I)Z" } : Jvm.MethodName)) ∈ q_gw := q_gw_of (q_t3 (List.mem_of_getElem? (i := 55) rfl)) rfl
theorem tw_3_56 : (Jvm.Cond.static ({ cls := "CalendarReplicas", name := "isReplica", desc := "(I)Z" } : Jvm.MethodName)) ∈ q_gw := q_gw_of (q_t3 (List.mem_of_getElem? (i := 56) rfl)) rfl
theorem tw_3_57 : (Jvm.Cond.code ({ cls := "CalendarReplicas", name := "isReplica", desc := "(I)Z" } : Jvm.MethodName) prog_1_method_65_code (1 : Nat) (Option.some Jvm.ClassFile.FieldType.boolean)) ∈ q_gw := q_gw_of (q_t3 (List.mem_of_getElem? (i := 57) rfl)) rfl
theorem tw_3_58 : (Jvm.Cond.methodLink "CalendarReplicas" (123 : Nat) ({ cls := "CalendarReplicas", name := "isStart", desc := "(I)Z" } : Jvm.MethodName)) ∈ q_gw := q_gw_of (q_t3 (List.mem_of_getElem? (i := 58) rfl)) rfl
theorem tw_3_59 : (Jvm.Cond.static ({ cls := "CalendarReplicas", name := "isStart", desc := "(I)Z" } : Jvm.MethodName)) ∈ q_gw := q_gw_of (q_t3 (List.mem_of_getElem? (i := 59) rfl)) rfl
theorem tw_3_6 : (Jvm.Cond.methodLink "CalendarReplicas$Merge" (94 : Nat) ({ cls := "CalendarReplicas$Rules", name := "allows", desc := "(LCalendarReplicas$Meeting;)Z" } : Jvm.MethodName)) ∈ q_gw := q_gw_of (q_t3 (List.mem_of_getElem? (i := 6) rfl)) rfl
theorem tw_3_60 : (Jvm.Cond.code ({ cls := "CalendarReplicas", name := "isStart", desc := "(I)Z" } : Jvm.MethodName) prog_1_method_68_code (1 : Nat) (Option.some Jvm.ClassFile.FieldType.boolean)) ∈ q_gw := q_gw_of (q_t3 (List.mem_of_getElem? (i := 60) rfl)) rfl
theorem tw_3_61 : (Jvm.Cond.methodLink "CalendarReplicas" (126 : Nat) ({ cls := "CalendarReplicas", name := "isDuration", desc := "(I)Z" } : Jvm.MethodName)) ∈ q_gw := q_gw_of (q_t3 (List.mem_of_getElem? (i := 61) rfl)) rfl
theorem tw_3_62 : (Jvm.Cond.static ({ cls := "CalendarReplicas", name := "isDuration", desc := "(I)Z" } : Jvm.MethodName)) ∈ q_gw := q_gw_of (q_t3 (List.mem_of_getElem? (i := 62) rfl)) rfl
theorem tw_3_63 : (Jvm.Cond.code ({ cls := "CalendarReplicas", name := "isDuration", desc := "(I)Z" } : Jvm.MethodName) prog_1_method_69_code (1 : Nat) (Option.some Jvm.ClassFile.FieldType.boolean)) ∈ q_gw := q_gw_of (q_t3 (List.mem_of_getElem? (i := 63) rfl)) rfl
theorem tw_3_64 : (Jvm.Cond.methodLink "CalendarReplicas" (129 : Nat) ({ cls := "CalendarReplicas", name := "isWeight", desc := "(I)Z" } : Jvm.MethodName)) ∈ q_gw := q_gw_of (q_t3 (List.mem_of_getElem? (i := 64) rfl)) rfl
theorem tw_3_65 : (Jvm.Cond.static ({ cls := "CalendarReplicas", name := "isWeight", desc := "(I)Z" } : Jvm.MethodName)) ∈ q_gw := q_gw_of (q_t3 (List.mem_of_getElem? (i := 65) rfl)) rfl
theorem tw_3_66 : (Jvm.Cond.code ({ cls := "CalendarReplicas", name := "isWeight", desc := "(I)Z" } : Jvm.MethodName) prog_1_method_70_code (1 : Nat) (Option.some Jvm.ClassFile.FieldType.boolean)) ∈ q_gw := q_gw_of (q_t3 (List.mem_of_getElem? (i := 66) rfl)) rfl
theorem tw_3_67 : (Jvm.Cond.methodLink "CalendarReplicas" (132 : Nat) ({ cls := "CalendarReplicas$Meeting", name := "fill", desc := "(IIIIII)V" } : Jvm.MethodName)) ∈ q_gw := q_gw_of (q_t3 (List.mem_of_getElem? (i := 67) rfl)) rfl
theorem tw_3_68 : (Jvm.Cond.instanceMethod ({ cls := "CalendarReplicas$Meeting", name := "fill", desc := "(IIIIII)V" } : Jvm.MethodName)) ∈ q_gw := q_gw_of (q_t3 (List.mem_of_getElem? (i := 68) rfl)) rfl
theorem tw_3_69 : (Jvm.Cond.selects "CalendarReplicas$Meeting" ({ cls := "CalendarReplicas$Meeting", name := "fill", desc := "(IIIIII)V" } : Jvm.MethodName) ({ cls := "CalendarReplicas$Meeting", name := "fill", desc := "(IIIIII)V" } : Jvm.MethodName)) ∈ q_gw := q_gw_of (q_t3 (List.mem_of_getElem? (i := 69) rfl)) rfl
theorem tw_3_7 : (Jvm.Cond.instanceMethod ({ cls := "CalendarReplicas$Rules", name := "allows", desc := "(LCalendarReplicas$Meeting;)Z" } : Jvm.MethodName)) ∈ q_gw := q_gw_of (q_t3 (List.mem_of_getElem? (i := 7) rfl)) rfl
theorem tw_3_70 : (Jvm.Cond.code ({ cls := "CalendarReplicas$Meeting", name := "fill", desc := "(IIIIII)V" } : Jvm.MethodName) prog_5_method_2_code (7 : Nat) (Option.none : Option Jvm.ClassFile.FieldType)) ∈ q_gw := q_gw_of (q_t3 (List.mem_of_getElem? (i := 70) rfl)) rfl
theorem tw_3_71 : (Jvm.Cond.methodLink "CalendarReplicas" (139 : Nat) ({ cls := "CalendarReplicas", name := "make", desc := "(IIIII)I" } : Jvm.MethodName)) ∈ q_gw := q_gw_of (q_t3 (List.mem_of_getElem? (i := 71) rfl)) rfl
theorem tw_3_72 : (Jvm.Cond.privateMethod ({ cls := "CalendarReplicas", name := "make", desc := "(IIIII)I" } : Jvm.MethodName)) ∈ lw_tbl := List.mem_append_right _ (q_t3 (List.mem_of_getElem? (i := 72) rfl))
theorem tw_3_73 : (Jvm.Cond.instanceMethod ({ cls := "CalendarReplicas", name := "make", desc := "(IIIII)I" } : Jvm.MethodName)) ∈ q_gw := q_gw_of (q_t3 (List.mem_of_getElem? (i := 73) rfl)) rfl
theorem tw_3_74 : (Jvm.Cond.code ({ cls := "CalendarReplicas", name := "make", desc := "(IIIII)I" } : Jvm.MethodName) prog_1_method_15_code (9 : Nat) (Option.some Jvm.ClassFile.FieldType.int)) ∈ q_gw := q_gw_of (q_t3 (List.mem_of_getElem? (i := 74) rfl)) rfl
theorem tw_3_75 : (Jvm.Cond.methodLink "CalendarReplicas" (171 : Nat) ({ cls := "CalendarReplicas$World", name := "editAtIndex", desc := "(I)LCalendarReplicas$Edit;" } : Jvm.MethodName)) ∈ q_gw := q_gw_of (q_t3 (List.mem_of_getElem? (i := 75) rfl)) rfl
theorem tw_3_76 : (Jvm.Cond.instanceMethod ({ cls := "CalendarReplicas$World", name := "editAtIndex", desc := "(I)LCalendarReplicas$Edit;" } : Jvm.MethodName)) ∈ q_gw := q_gw_of (q_t3 (List.mem_of_getElem? (i := 76) rfl)) rfl
theorem tw_3_77 : (Jvm.Cond.selects "CalendarReplicas$World" ({ cls := "CalendarReplicas$World", name := "editAtIndex", desc := "(I)LCalendarReplicas$Edit;" } : Jvm.MethodName) ({ cls := "CalendarReplicas$World", name := "editAtIndex", desc := "(I)LCalendarReplicas$Edit;" } : Jvm.MethodName)) ∈ q_gw := q_gw_of (q_t3 (List.mem_of_getElem? (i := 77) rfl)) rfl
theorem tw_3_78 : (Jvm.Cond.code ({ cls := "CalendarReplicas$World", name := "editAtIndex", desc := "(I)LCalendarReplicas$Edit;" } : Jvm.MethodName) prog_9_method_5_code (2 : Nat) (Option.some (Jvm.ClassFile.FieldType.object "CalendarReplicas$Edit"))) ∈ q_gw := q_gw_of (q_t3 (List.mem_of_getElem? (i := 78) rfl)) rfl
theorem tw_3_79 : (Jvm.Cond.methodLink "CalendarReplicas" (175 : Nat) ({ cls := "CalendarReplicas$Edit", name := "fill", desc := "(IIIIII)V" } : Jvm.MethodName)) ∈ q_gw := q_gw_of (q_t3 (List.mem_of_getElem? (i := 79) rfl)) rfl
theorem tw_3_8 : (Jvm.Cond.selects "CalendarReplicas$Rules" ({ cls := "CalendarReplicas$Rules", name := "allows", desc := "(LCalendarReplicas$Meeting;)Z" } : Jvm.MethodName) ({ cls := "CalendarReplicas$Rules", name := "allows", desc := "(LCalendarReplicas$Meeting;)Z" } : Jvm.MethodName)) ∈ q_gw := q_gw_of (q_t3 (List.mem_of_getElem? (i := 8) rfl)) rfl
theorem tw_3_80 : (Jvm.Cond.instanceMethod ({ cls := "CalendarReplicas$Edit", name := "fill", desc := "(IIIIII)V" } : Jvm.MethodName)) ∈ q_gw := q_gw_of (q_t3 (List.mem_of_getElem? (i := 80) rfl)) rfl
theorem tw_3_81 : (Jvm.Cond.selects "CalendarReplicas$Edit" ({ cls := "CalendarReplicas$Edit", name := "fill", desc := "(IIIIII)V" } : Jvm.MethodName) ({ cls := "CalendarReplicas$Edit", name := "fill", desc := "(IIIIII)V" } : Jvm.MethodName)) ∈ q_gw := q_gw_of (q_t3 (List.mem_of_getElem? (i := 81) rfl)) rfl
theorem tw_3_82 : (Jvm.Cond.code ({ cls := "CalendarReplicas$Edit", name := "fill", desc := "(IIIIII)V" } : Jvm.MethodName) prog_4_method_2_code (7 : Nat) (Option.none : Option Jvm.ClassFile.FieldType)) ∈ q_gw := q_gw_of (q_t3 (List.mem_of_getElem? (i := 82) rfl)) rfl
theorem tw_3_83 : (Jvm.Cond.methodLink "CalendarReplicas" (154 : Nat) ({ cls := "CalendarReplicas$Meeting", name := "copyFrom", desc := "(LCalendarReplicas$Meeting;)V" } : Jvm.MethodName)) ∈ q_gw := q_gw_of (q_t3 (List.mem_of_getElem? (i := 83) rfl)) rfl
theorem tw_3_84 : (Jvm.Cond.methodLink "CalendarReplicas" (187 : Nat) ({ cls := "CalendarReplicas$World", name := "relate", desc := "(LCalendarReplicas$Edit;I)V" } : Jvm.MethodName)) ∈ q_gw := q_gw_of (q_t3 (List.mem_of_getElem? (i := 84) rfl)) rfl
theorem tw_3_85 : (Jvm.Cond.instanceMethod ({ cls := "CalendarReplicas$World", name := "relate", desc := "(LCalendarReplicas$Edit;I)V" } : Jvm.MethodName)) ∈ q_gw := q_gw_of (q_t3 (List.mem_of_getElem? (i := 85) rfl)) rfl
theorem tw_3_86 : (Jvm.Cond.selects "CalendarReplicas$World" ({ cls := "CalendarReplicas$World", name := "relate", desc := "(LCalendarReplicas$Edit;I)V" } : Jvm.MethodName) ({ cls := "CalendarReplicas$World", name := "relate", desc := "(LCalendarReplicas$Edit;I)V" } : Jvm.MethodName)) ∈ q_gw := q_gw_of (q_t3 (List.mem_of_getElem? (i := 86) rfl)) rfl
theorem tw_3_87 : (Jvm.Cond.code ({ cls := "CalendarReplicas$World", name := "relate", desc := "(LCalendarReplicas$Edit;I)V" } : Jvm.MethodName) prog_9_method_7_code (5 : Nat) (Option.none : Option Jvm.ClassFile.FieldType)) ∈ q_gw := q_gw_of (q_t3 (List.mem_of_getElem? (i := 87) rfl)) rfl
theorem tw_3_88 : (Jvm.Cond.methodLink "CalendarReplicas$World" (87 : Nat) ({ cls := "CalendarReplicas$Edit", name := "clashesWith", desc := "(LCalendarReplicas$Edit;Z)Z" } : Jvm.MethodName)) ∈ q_gw := q_gw_of (q_t3 (List.mem_of_getElem? (i := 88) rfl)) rfl
theorem tw_3_89 : (Jvm.Cond.instanceMethod ({ cls := "CalendarReplicas$Edit", name := "clashesWith", desc := "(LCalendarReplicas$Edit;Z)Z" } : Jvm.MethodName)) ∈ q_gw := q_gw_of (q_t3 (List.mem_of_getElem? (i := 89) rfl)) rfl
theorem tw_3_9 : (Jvm.Cond.code ({ cls := "CalendarReplicas$Rules", name := "allows", desc := "(LCalendarReplicas$Meeting;)Z" } : Jvm.MethodName) prog_7_method_5_code (2 : Nat) (Option.some Jvm.ClassFile.FieldType.boolean)) ∈ q_gw := q_gw_of (q_t3 (List.mem_of_getElem? (i := 9) rfl)) rfl
theorem tw_3_90 : (Jvm.Cond.selects "CalendarReplicas$Edit" ({ cls := "CalendarReplicas$Edit", name := "clashesWith", desc := "(LCalendarReplicas$Edit;Z)Z" } : Jvm.MethodName) ({ cls := "CalendarReplicas$Edit", name := "clashesWith", desc := "(LCalendarReplicas$Edit;Z)Z" } : Jvm.MethodName)) ∈ q_gw := q_gw_of (q_t3 (List.mem_of_getElem? (i := 90) rfl)) rfl
theorem tw_3_91 : (Jvm.Cond.code ({ cls := "CalendarReplicas$Edit", name := "clashesWith", desc := "(LCalendarReplicas$Edit;Z)Z" } : Jvm.MethodName) prog_4_method_6_code (3 : Nat) (Option.some Jvm.ClassFile.FieldType.boolean)) ∈ q_gw := q_gw_of (q_t3 (List.mem_of_getElem? (i := 91) rfl)) rfl
theorem tw_3_92 : (Jvm.Cond.methodLink "CalendarReplicas$Edit" (54 : Nat) ({ cls := "CalendarReplicas$Edit", name := "changesSame", desc := "(LCalendarReplicas$Edit;)Z" } : Jvm.MethodName)) ∈ q_gw := q_gw_of (q_t3 (List.mem_of_getElem? (i := 92) rfl)) rfl
theorem tw_3_93 : (Jvm.Cond.privateMethod ({ cls := "CalendarReplicas$Edit", name := "changesSame", desc := "(LCalendarReplicas$Edit;)Z" } : Jvm.MethodName)) ∈ lw_tbl := List.mem_append_right _ (q_t3 (List.mem_of_getElem? (i := 93) rfl))
theorem tw_3_94 : (Jvm.Cond.instanceMethod ({ cls := "CalendarReplicas$Edit", name := "changesSame", desc := "(LCalendarReplicas$Edit;)Z" } : Jvm.MethodName)) ∈ q_gw := q_gw_of (q_t3 (List.mem_of_getElem? (i := 94) rfl)) rfl
theorem tw_3_95 : (Jvm.Cond.code ({ cls := "CalendarReplicas$Edit", name := "changesSame", desc := "(LCalendarReplicas$Edit;)Z" } : Jvm.MethodName) prog_4_method_7_code (2 : Nat) (Option.some Jvm.ClassFile.FieldType.boolean)) ∈ q_gw := q_gw_of (q_t3 (List.mem_of_getElem? (i := 95) rfl)) rfl
theorem tw_3_96 : (Jvm.Cond.methodLink "CalendarReplicasLaw" (38 : Nat) ({ cls := "CalendarReplicas", name := "createFromText", desc := "(I)I" } : Jvm.MethodName)) ∈ q_gw := q_gw_of (q_t3 (List.mem_of_getElem? (i := 96) rfl)) rfl
theorem tw_3_97 : (Jvm.Cond.instanceMethod ({ cls := "CalendarReplicas", name := "createFromText", desc := "(I)I" } : Jvm.MethodName)) ∈ q_gw := q_gw_of (q_t3 (List.mem_of_getElem? (i := 97) rfl)) rfl
theorem tw_3_98 : (Jvm.Cond.selects "CalendarReplicas" ({ cls := "CalendarReplicas", name := "createFromText", desc := "(I)I" } : Jvm.MethodName) ({ cls := "CalendarReplicas", name := "createFromText", desc := "(I)I" } : Jvm.MethodName)) ∈ q_gw := q_gw_of (q_t3 (List.mem_of_getElem? (i := 98) rfl)) rfl
theorem tw_3_99 : (Jvm.Cond.code ({ cls := "CalendarReplicas", name := "createFromText", desc := "(I)I" } : Jvm.MethodName) prog_1_method_7_code (2 : Nat) (Option.some Jvm.ClassFile.FieldType.int)) ∈ q_gw := q_gw_of (q_t3 (List.mem_of_getElem? (i := 99) rfl)) rfl
theorem tw_4_0 : (Jvm.Cond.static ({ cls := "java/lang/Characte\x72", name := "lowSurrogate", desc := "(I)C" } : Jvm.MethodName)) ∈ q_gw := q_gw_of (q_t4 (List.mem_of_getElem? (i := 0) rfl)) rfl
theorem tw_4_1 : (Jvm.Cond.code ({ cls := "java/lang/Characte\x72", name := "lowSurrogate", desc := "(I)C" } : Jvm.MethodName) prog_13_method_29_code (1 : Nat) (Option.some Jvm.ClassFile.FieldType.char)) ∈ q_gw := q_gw_of (q_t4 (List.mem_of_getElem? (i := 1) rfl)) rfl
theorem tw_4_10 : (Jvm.Cond.instanceMethod ({ cls := "CalendarReplicas$Description", name := "readPeriod", desc := "()Z" } : Jvm.MethodName)) ∈ q_gw := q_gw_of (q_t4 (List.mem_of_getElem? (i := 10) rfl)) rfl
theorem tw_4_100 : (Jvm.Cond.instanceMethod ({ cls := "CalendarReplicas", name := "roomOf", desc := "(II)I" } : Jvm.MethodName)) ∈ q_gw := q_gw_of (q_t4 (List.mem_of_getElem? (i := 100) rfl)) rfl
theorem tw_4_101 : (Jvm.Cond.selects "CalendarReplicas" ({ cls := "CalendarReplicas", name := "roomOf", desc := "(II)I" } : Jvm.MethodName) ({ cls := "CalendarReplicas", name := "roomOf", desc := "(II)I" } : Jvm.MethodName)) ∈ q_gw := q_gw_of (q_t4 (List.mem_of_getElem? (i := 101) rfl)) rfl
theorem tw_4_102 : (Jvm.Cond.code ({ cls := "CalendarReplicas", name := "roomOf", desc := "(II)I" } : Jvm.MethodName) prog_1_method_25_code (4 : Nat) (Option.some Jvm.ClassFile.FieldType.int)) ∈ q_gw := q_gw_of (q_t4 (List.mem_of_getElem? (i := 102) rfl)) rfl
theorem tw_4_103 : (Jvm.Cond.methodLink "CalendarReplicasLaw" (99 : Nat) ({ cls := "CalendarReplicas", name := "personsOf", desc := "(II)I" } : Jvm.MethodName)) ∈ q_gw := q_gw_of (q_t4 (List.mem_of_getElem? (i := 103) rfl)) rfl
theorem tw_4_104 : (Jvm.Cond.instanceMethod ({ cls := "CalendarReplicas", name := "personsOf", desc := "(II)I" } : Jvm.MethodName)) ∈ q_gw := q_gw_of (q_t4 (List.mem_of_getElem? (i := 104) rfl)) rfl
theorem tw_4_105 : (Jvm.Cond.selects "CalendarReplicas" ({ cls := "CalendarReplicas", name := "personsOf", desc := "(II)I" } : Jvm.MethodName) ({ cls := "CalendarReplicas", name := "personsOf", desc := "(II)I" } : Jvm.MethodName)) ∈ q_gw := q_gw_of (q_t4 (List.mem_of_getElem? (i := 105) rfl)) rfl
theorem tw_4_106 : (Jvm.Cond.code ({ cls := "CalendarReplicas", name := "personsOf", desc := "(II)I" } : Jvm.MethodName) prog_1_method_26_code (4 : Nat) (Option.some Jvm.ClassFile.FieldType.int)) ∈ q_gw := q_gw_of (q_t4 (List.mem_of_getElem? (i := 106) rfl)) rfl
theorem tw_4_107 : (Jvm.Cond.methodLink "CalendarReplicasLaw" (103 : Nat) ({ cls := "CalendarReplicas", name := "periodOf", desc := "(II)I" } : Jvm.MethodName)) ∈ q_gw := q_gw_of (q_t4 (List.mem_of_getElem? (i := 107) rfl)) rfl
theorem tw_4_108 : (Jvm.Cond.instanceMethod ({ cls := "CalendarReplicas", name := "periodOf", desc := "(II)I" } : Jvm.MethodName)) ∈ q_gw := q_gw_of (q_t4 (List.mem_of_getElem? (i := 108) rfl)) rfl
theorem tw_4_109 : (Jvm.Cond.selects "CalendarReplicas" ({ cls := "CalendarReplicas", name := "periodOf", desc := "(II)I" } : Jvm.MethodName) ({ cls := "CalendarReplicas", name := "periodOf", desc := "(II)I" } : Jvm.MethodName)) ∈ q_gw := q_gw_of (q_t4 (List.mem_of_getElem? (i := 109) rfl)) rfl
theorem tw_4_11 : (Jvm.Cond.code ({ cls := "CalendarReplicas$Description", name := "readPeriod", desc := "()Z" } : Jvm.MethodName) prog_3_method_7_code (1 : Nat) (Option.some Jvm.ClassFile.FieldType.boolean)) ∈ q_gw := q_gw_of (q_t4 (List.mem_of_getElem? (i := 11) rfl)) rfl
theorem tw_4_110 : (Jvm.Cond.code ({ cls := "CalendarReplicas", name := "periodOf", desc := "(II)I" } : Jvm.MethodName) prog_1_method_27_code (4 : Nat) (Option.some Jvm.ClassFile.FieldType.int)) ∈ q_gw := q_gw_of (q_t4 (List.mem_of_getElem? (i := 110) rfl)) rfl
theorem tw_4_111 : (Jvm.Cond.methodLink "CalendarReplicasLaw" (107 : Nat) ({ cls := "CalendarReplicas", name := "countOf", desc := "(II)I" } : Jvm.MethodName)) ∈ q_gw := q_gw_of (q_t4 (List.mem_of_getElem? (i := 111) rfl)) rfl
theorem tw_4_112 : (Jvm.Cond.instanceMethod ({ cls := "CalendarReplicas", name := "countOf", desc := "(II)I" } : Jvm.MethodName)) ∈ q_gw := q_gw_of (q_t4 (List.mem_of_getElem? (i := 112) rfl)) rfl
theorem tw_4_113 : (Jvm.Cond.selects "CalendarReplicas" ({ cls := "CalendarReplicas", name := "countOf", desc := "(II)I" } : Jvm.MethodName) ({ cls := "CalendarReplicas", name := "countOf", desc := "(II)I" } : Jvm.MethodName)) ∈ q_gw := q_gw_of (q_t4 (List.mem_of_getElem? (i := 113) rfl)) rfl
theorem tw_4_114 : (Jvm.Cond.code ({ cls := "CalendarReplicas", name := "countOf", desc := "(II)I" } : Jvm.MethodName) prog_1_method_28_code (4 : Nat) (Option.some Jvm.ClassFile.FieldType.int)) ∈ q_gw := q_gw_of (q_t4 (List.mem_of_getElem? (i := 114) rfl)) rfl
theorem tw_4_115 : (Jvm.Cond.methodLink "CalendarReplicasLaw" (111 : Nat) ({ cls := "CalendarReplicas", name := "edits", desc := "()I" } : Jvm.MethodName)) ∈ q_gw := q_gw_of (q_t4 (List.mem_of_getElem? (i := 115) rfl)) rfl
theorem tw_4_116 : (Jvm.Cond.instanceMethod ({ cls := "CalendarReplicas", name := "edits", desc := "()I" } : Jvm.MethodName)) ∈ q_gw := q_gw_of (q_t4 (List.mem_of_getElem? (i := 116) rfl)) rfl
theorem tw_4_117 : (Jvm.Cond.selects "CalendarReplicas" ({ cls := "CalendarReplicas", name := "edits", desc := "()I" } : Jvm.MethodName) ({ cls := "CalendarReplicas", name := "edits", desc := "()I" } : Jvm.MethodName)) ∈ q_gw := q_gw_of (q_t4 (List.mem_of_getElem? (i := 117) rfl)) rfl
theorem tw_4_118 : (Jvm.Cond.code ({ cls := "CalendarReplicas", name := "edits", desc := "()I" } : Jvm.MethodName) prog_1_method_31_code (1 : Nat) (Option.some Jvm.ClassFile.FieldType.int)) ∈ q_gw := q_gw_of (q_t4 (List.mem_of_getElem? (i := 118) rfl)) rfl
theorem tw_4_119 : (Jvm.Cond.methodLink "CalendarReplicasLaw" (115 : Nat) ({ cls := "CalendarReplicas", name := "editAt", desc := "(I)I" } : Jvm.MethodName)) ∈ q_gw := q_gw_of (q_t4 (List.mem_of_getElem? (i := 119) rfl)) rfl
theorem tw_4_12 : (Jvm.Cond.methodLink "CalendarReplicas" (150 : Nat) ({ cls := "CalendarReplicas", name := "hasPlainValues", desc := "(LCalendarReplicas$Meeting;)Z" } : Jvm.MethodName)) ∈ q_gw := q_gw_of (q_t4 (List.mem_of_getElem? (i := 12) rfl)) rfl
theorem tw_4_120 : (Jvm.Cond.instanceMethod ({ cls := "CalendarReplicas", name := "editAt", desc := "(I)I" } : Jvm.MethodName)) ∈ q_gw := q_gw_of (q_t4 (List.mem_of_getElem? (i := 120) rfl)) rfl
theorem tw_4_121 : (Jvm.Cond.selects "CalendarReplicas" ({ cls := "CalendarReplicas", name := "editAt", desc := "(I)I" } : Jvm.MethodName) ({ cls := "CalendarReplicas", name := "editAt", desc := "(I)I" } : Jvm.MethodName)) ∈ q_gw := q_gw_of (q_t4 (List.mem_of_getElem? (i := 121) rfl)) rfl
theorem tw_4_122 : (Jvm.Cond.code ({ cls := "CalendarReplicas", name := "editAt", desc := "(I)I" } : Jvm.MethodName) prog_1_method_32_code (3 : Nat) (Option.some Jvm.ClassFile.FieldType.int)) ∈ q_gw := q_gw_of (q_t4 (List.mem_of_getElem? (i := 122) rfl)) rfl
theorem tw_4_123 : (Jvm.Cond.methodLink "CalendarReplicasLaw" (119 : Nat) ({ cls := "CalendarReplicas", name := "kindOf", desc := "(I)I" } : Jvm.MethodName)) ∈ q_gw := q_gw_of (q_t4 (List.mem_of_getElem? (i := 123) rfl)) rfl
theorem tw_4_124 : (Jvm.Cond.instanceMethod ({ cls := "CalendarReplicas", name := "kindOf", desc := "(I)I" } : Jvm.MethodName)) ∈ q_gw := q_gw_of (q_t4 (List.mem_of_getElem? (i := 124) rfl)) rfl
theorem tw_4_125 : (Jvm.Cond.selects "CalendarReplicas" ({ cls := "CalendarReplicas", name := "kindOf", desc := "(I)I" } : Jvm.MethodName) ({ cls := "CalendarReplicas", name := "kindOf", desc := "(I)I" } : Jvm.MethodName)) ∈ q_gw := q_gw_of (q_t4 (List.mem_of_getElem? (i := 125) rfl)) rfl
theorem tw_4_126 : (Jvm.Cond.code ({ cls := "CalendarReplicas", name := "kindOf", desc := "(I)I" } : Jvm.MethodName) prog_1_method_33_code (3 : Nat) (Option.some Jvm.ClassFile.FieldType.int)) ∈ q_gw := q_gw_of (q_t4 (List.mem_of_getElem? (i := 126) rfl)) rfl
theorem tw_4_127 : (Jvm.Cond.methodLink "CalendarReplicasLaw" (123 : Nat) ({ cls := "CalendarReplicas", name := "meetingOf", desc := "(I)I" } : Jvm.MethodName)) ∈ q_gw := q_gw_of (q_t4 (List.mem_of_getElem? (i := 127) rfl)) rfl
theorem tw_4_128 : (Jvm.Cond.instanceMethod ({ cls := "CalendarReplicas", name := "meetingOf", desc := "(I)I" } : Jvm.MethodName)) ∈ q_gw := q_gw_of (q_t4 (List.mem_of_getElem? (i := 128) rfl)) rfl
theorem tw_4_129 : (Jvm.Cond.selects "CalendarReplicas" ({ cls := "CalendarReplicas", name := "meetingOf", desc := "(I)I" } : Jvm.MethodName) ({ cls := "CalendarReplicas", name := "meetingOf", desc := "(I)I" } : Jvm.MethodName)) ∈ q_gw := q_gw_of (q_t4 (List.mem_of_getElem? (i := 129) rfl)) rfl
theorem tw_4_13 : (Jvm.Cond.static ({ cls := "CalendarReplicas", name := "hasPlainValues", desc := "(LCalendarReplicas$Meeting;)Z" } : Jvm.MethodName)) ∈ q_gw := q_gw_of (q_t4 (List.mem_of_getElem? (i := 13) rfl)) rfl
theorem tw_4_130 : (Jvm.Cond.code ({ cls := "CalendarReplicas", name := "meetingOf", desc := "(I)I" } : Jvm.MethodName) prog_1_method_34_code (3 : Nat) (Option.some Jvm.ClassFile.FieldType.int)) ∈ q_gw := q_gw_of (q_t4 (List.mem_of_getElem? (i := 130) rfl)) rfl
theorem tw_4_131 : (Jvm.Cond.methodLink "CalendarReplicasLaw" (127 : Nat) ({ cls := "CalendarReplicas", name := "authorOf", desc := "(I)I" } : Jvm.MethodName)) ∈ q_gw := q_gw_of (q_t4 (List.mem_of_getElem? (i := 131) rfl)) rfl
theorem tw_4_132 : (Jvm.Cond.instanceMethod ({ cls := "CalendarReplicas", name := "authorOf", desc := "(I)I" } : Jvm.MethodName)) ∈ q_gw := q_gw_of (q_t4 (List.mem_of_getElem? (i := 132) rfl)) rfl
theorem tw_4_133 : (Jvm.Cond.selects "CalendarReplicas" ({ cls := "CalendarReplicas", name := "authorOf", desc := "(I)I" } : Jvm.MethodName) ({ cls := "CalendarReplicas", name := "authorOf", desc := "(I)I" } : Jvm.MethodName)) ∈ q_gw := q_gw_of (q_t4 (List.mem_of_getElem? (i := 133) rfl)) rfl
theorem tw_4_134 : (Jvm.Cond.code ({ cls := "CalendarReplicas", name := "authorOf", desc := "(I)I" } : Jvm.MethodName) prog_1_method_35_code (3 : Nat) (Option.some Jvm.ClassFile.FieldType.int)) ∈ q_gw := q_gw_of (q_t4 (List.mem_of_getElem? (i := 134) rfl)) rfl
theorem tw_4_135 : (Jvm.Cond.methodLink "CalendarReplicasLaw" (131 : Nat) ({ cls := "CalendarReplicas", name := "weightOf", desc := "(I)I" } : Jvm.MethodName)) ∈ q_gw := q_gw_of (q_t4 (List.mem_of_getElem? (i := 135) rfl)) rfl
theorem tw_4_136 : (Jvm.Cond.instanceMethod ({ cls := "CalendarReplicas", name := "weightOf", desc := "(I)I" } : Jvm.MethodName)) ∈ q_gw := q_gw_of (q_t4 (List.mem_of_getElem? (i := 136) rfl)) rfl
theorem tw_4_137 : (Jvm.Cond.selects "CalendarReplicas" ({ cls := "CalendarReplicas", name := "weightOf", desc := "(I)I" } : Jvm.MethodName) ({ cls := "CalendarReplicas", name := "weightOf", desc := "(I)I" } : Jvm.MethodName)) ∈ q_gw := q_gw_of (q_t4 (List.mem_of_getElem? (i := 137) rfl)) rfl
theorem tw_4_138 : (Jvm.Cond.code ({ cls := "CalendarReplicas", name := "weightOf", desc := "(I)I" } : Jvm.MethodName) prog_1_method_36_code (3 : Nat) (Option.some Jvm.ClassFile.FieldType.int)) ∈ q_gw := q_gw_of (q_t4 (List.mem_of_getElem? (i := 138) rfl)) rfl
theorem tw_4_139 : (Jvm.Cond.methodLink "CalendarReplicasLaw" (135 : Nat) ({ cls := "CalendarReplicas", name := "clash", desc := "(II)I" } : Jvm.MethodName)) ∈ q_gw := q_gw_of (q_t4 (List.mem_of_getElem? (i := 139) rfl)) rfl
theorem tw_4_14 : (Jvm.Cond.code ({ cls := "CalendarReplicas", name := "hasPlainValues", desc := "(LCalendarReplicas$Meeting;)Z" } : Jvm.MethodName) prog_1_method_71_code (1 : Nat) (Option.some Jvm.ClassFile.FieldType.boolean)) ∈ q_gw := q_gw_of (q_t4 (List.mem_of_getElem? (i := 14) rfl)) rfl
theorem tw_4_140 : (Jvm.Cond.instanceMethod ({ cls := "CalendarReplicas", name := "clash", desc := "(II)I" } : Jvm.MethodName)) ∈ q_gw := q_gw_of (q_t4 (List.mem_of_getElem? (i := 140) rfl)) rfl
theorem tw_4_141 : (Jvm.Cond.selects "CalendarReplicas" ({ cls := "CalendarReplicas", name := "clash", desc := "(II)I" } : Jvm.MethodName) ({ cls := "CalendarReplicas", name := "clash", desc := "(II)I" } : Jvm.MethodName)) ∈ q_gw := q_gw_of (q_t4 (List.mem_of_getElem? (i := 141) rfl)) rfl
theorem tw_4_142 : (Jvm.Cond.code ({ cls := "CalendarReplicas", name := "clash", desc := "(II)I" } : Jvm.MethodName) prog_1_method_37_code (5 : Nat) (Option.some Jvm.ClassFile.FieldType.int)) ∈ q_gw := q_gw_of (q_t4 (List.mem_of_getElem? (i := 142) rfl)) rfl
theorem tw_4_143 : (Jvm.Cond.methodLink "CalendarReplicas" (263 : Nat) ({ cls := "CalendarReplicas$World", name := "clashing", desc := "(I)I" } : Jvm.MethodName)) ∈ q_gw := q_gw_of (q_t4 (List.mem_of_getElem? (i := 143) rfl)) rfl
theorem tw_4_144 : (Jvm.Cond.methodLink "CalendarReplicasLaw" (139 : Nat) ({ cls := "CalendarReplicas", name := "state", desc := "(II)I" } : Jvm.MethodName)) ∈ q_gw := q_gw_of (q_t4 (List.mem_of_getElem? (i := 144) rfl)) rfl
theorem tw_4_145 : (Jvm.Cond.instanceMethod ({ cls := "CalendarReplicas", name := "state", desc := "(II)I" } : Jvm.MethodName)) ∈ q_gw := q_gw_of (q_t4 (List.mem_of_getElem? (i := 145) rfl)) rfl
theorem tw_4_146 : (Jvm.Cond.selects "CalendarReplicas" ({ cls := "CalendarReplicas", name := "state", desc := "(II)I" } : Jvm.MethodName) ({ cls := "CalendarReplicas", name := "state", desc := "(II)I" } : Jvm.MethodName)) ∈ q_gw := q_gw_of (q_t4 (List.mem_of_getElem? (i := 146) rfl)) rfl
theorem tw_4_147 : (Jvm.Cond.code ({ cls := "CalendarReplicas", name := "state", desc := "(II)I" } : Jvm.MethodName) prog_1_method_38_code (4 : Nat) (Option.some Jvm.ClassFile.FieldType.int)) ∈ q_gw := q_gw_of (q_t4 (List.mem_of_getElem? (i := 147) rfl)) rfl
theorem tw_4_148 : (Jvm.Cond.methodLink "CalendarReplicas" (266 : Nat) ({ cls := "CalendarReplicas", name := "standing", desc := "(II)I" } : Jvm.MethodName)) ∈ q_gw := q_gw_of (q_t4 (List.mem_of_getElem? (i := 148) rfl)) rfl
theorem tw_4_149 : (Jvm.Cond.privateMethod ({ cls := "CalendarReplicas", name := "standing", desc := "(II)I" } : Jvm.MethodName)) ∈ lw_tbl := List.mem_append_right _ (q_t4 (List.mem_of_getElem? (i := 149) rfl))
theorem tw_4_15 : (Jvm.Cond.methodLink "CalendarReplicasLaw" (43 : Nat) ({ cls := "CalendarReplicas", name := "move", desc := "(IIII)I" } : Jvm.MethodName)) ∈ q_gw := q_gw_of (q_t4 (List.mem_of_getElem? (i := 15) rfl)) rfl
theorem tw_4_150 : (Jvm.Cond.instanceMethod ({ cls := "CalendarReplicas", name := "standing", desc := "(II)I" } : Jvm.MethodName)) ∈ q_gw := q_gw_of (q_t4 (List.mem_of_getElem? (i := 150) rfl)) rfl
theorem tw_4_151 : (Jvm.Cond.code ({ cls := "CalendarReplicas", name := "standing", desc := "(II)I" } : Jvm.MethodName) prog_1_method_42_code (4 : Nat) (Option.some Jvm.ClassFile.FieldType.int)) ∈ q_gw := q_gw_of (q_t4 (List.mem_of_getElem? (i := 151) rfl)) rfl
theorem tw_4_152 : (Jvm.Cond.methodLink "CalendarReplicas" (272 : Nat) ({ cls := "CalendarReplicas$World", name := "usable", desc := "(I)I" } : Jvm.MethodName)) ∈ q_gw := q_gw_of (q_t4 (List.mem_of_getElem? (i := 152) rfl)) rfl
theorem tw_4_153 : (Jvm.Cond.methodLink "CalendarReplicasLaw" (143 : Nat) ({ cls := "CalendarReplicas", name := "acceptedWeight", desc := "(I)I" } : Jvm.MethodName)) ∈ q_gw := q_gw_of (q_t4 (List.mem_of_getElem? (i := 153) rfl)) rfl
theorem tw_4_154 : (Jvm.Cond.instanceMethod ({ cls := "CalendarReplicas", name := "acceptedWeight", desc := "(I)I" } : Jvm.MethodName)) ∈ q_gw := q_gw_of (q_t4 (List.mem_of_getElem? (i := 154) rfl)) rfl
theorem tw_4_155 : (Jvm.Cond.selects "CalendarReplicas" ({ cls := "CalendarReplicas", name := "acceptedWeight", desc := "(I)I" } : Jvm.MethodName) ({ cls := "CalendarReplicas", name := "acceptedWeight", desc := "(I)I" } : Jvm.MethodName)) ∈ q_gw := q_gw_of (q_t4 (List.mem_of_getElem? (i := 155) rfl)) rfl
theorem tw_4_156 : (Jvm.Cond.code ({ cls := "CalendarReplicas", name := "acceptedWeight", desc := "(I)I" } : Jvm.MethodName) prog_1_method_39_code (2 : Nat) (Option.some Jvm.ClassFile.FieldType.int)) ∈ q_gw := q_gw_of (q_t4 (List.mem_of_getElem? (i := 156) rfl)) rfl
theorem tw_4_157 : (Jvm.Cond.methodLink "CalendarReplicas" (269 : Nat) ({ cls := "CalendarReplicas$World", name := "weigh", desc := "(I)I" } : Jvm.MethodName)) ∈ q_gw := q_gw_of (q_t4 (List.mem_of_getElem? (i := 157) rfl)) rfl
theorem tw_4_158 : (Jvm.Cond.methodLink "CalendarReplicasLaw" (147 : Nat) ({ cls := "CalendarReplicas", name := "rejectedWeight", desc := "(I)I" } : Jvm.MethodName)) ∈ q_gw := q_gw_of (q_t4 (List.mem_of_getElem? (i := 158) rfl)) rfl
theorem tw_4_159 : (Jvm.Cond.instanceMethod ({ cls := "CalendarReplicas", name := "rejectedWeight", desc := "(I)I" } : Jvm.MethodName)) ∈ q_gw := q_gw_of (q_t4 (List.mem_of_getElem? (i := 159) rfl)) rfl
theorem tw_4_16 : (Jvm.Cond.instanceMethod ({ cls := "CalendarReplicas", name := "move", desc := "(IIII)I" } : Jvm.MethodName)) ∈ q_gw := q_gw_of (q_t4 (List.mem_of_getElem? (i := 16) rfl)) rfl
theorem tw_4_160 : (Jvm.Cond.selects "CalendarReplicas" ({ cls := "CalendarReplicas", name := "rejectedWeight", desc := "(I)I" } : Jvm.MethodName) ({ cls := "CalendarReplicas", name := "rejectedWeight", desc := "(I)I" } : Jvm.MethodName)) ∈ q_gw := q_gw_of (q_t4 (List.mem_of_getElem? (i := 160) rfl)) rfl
theorem tw_4_161 : (Jvm.Cond.code ({ cls := "CalendarReplicas", name := "rejectedWeight", desc := "(I)I" } : Jvm.MethodName) prog_1_method_40_code (2 : Nat) (Option.some Jvm.ClassFile.FieldType.int)) ∈ q_gw := q_gw_of (q_t4 (List.mem_of_getElem? (i := 161) rfl)) rfl
theorem tw_4_162 : (Jvm.Cond.methodLink "CalendarReplicasLaw" (151 : Nat) ({ cls := "CalendarReplicas", name := "agree", desc := "(II)I" } : Jvm.MethodName)) ∈ q_gw := q_gw_of (q_t4 (List.mem_of_getElem? (i := 162) rfl)) rfl
theorem tw_4_163 : (Jvm.Cond.instanceMethod ({ cls := "CalendarReplicas", name := "agree", desc := "(II)I" } : Jvm.MethodName)) ∈ q_gw := q_gw_of (q_t4 (List.mem_of_getElem? (i := 163) rfl)) rfl
theorem tw_4_164 : (Jvm.Cond.selects "CalendarReplicas" ({ cls := "CalendarReplicas", name := "agree", desc := "(II)I" } : Jvm.MethodName) ({ cls := "CalendarReplicas", name := "agree", desc := "(II)I" } : Jvm.MethodName)) ∈ q_gw := q_gw_of (q_t4 (List.mem_of_getElem? (i := 164) rfl)) rfl
theorem tw_4_165 : (Jvm.Cond.code ({ cls := "CalendarReplicas", name := "agree", desc := "(II)I" } : Jvm.MethodName) prog_1_method_41_code (3 : Nat) (Option.some Jvm.ClassFile.FieldType.int)) ∈ q_gw := q_gw_of (q_t4 (List.mem_of_getElem? (i := 165) rfl)) rfl
theorem tw_4_166 : (Jvm.Cond.methodLink "CalendarReplicasLaw" (155 : Nat) ({ cls := "CalendarReplicas", name := "obstacle", desc := "(II)I" } : Jvm.MethodName)) ∈ q_gw := q_gw_of (q_t4 (List.mem_of_getElem? (i := 166) rfl)) rfl
theorem tw_4_167 : (Jvm.Cond.instanceMethod ({ cls := "CalendarReplicas", name := "obstacle", desc := "(II)I" } : Jvm.MethodName)) ∈ q_gw := q_gw_of (q_t4 (List.mem_of_getElem? (i := 167) rfl)) rfl
theorem tw_4_168 : (Jvm.Cond.selects "CalendarReplicas" ({ cls := "CalendarReplicas", name := "obstacle", desc := "(II)I" } : Jvm.MethodName) ({ cls := "CalendarReplicas", name := "obstacle", desc := "(II)I" } : Jvm.MethodName)) ∈ q_gw := q_gw_of (q_t4 (List.mem_of_getElem? (i := 168) rfl)) rfl
theorem tw_4_169 : (Jvm.Cond.code ({ cls := "CalendarReplicas", name := "obstacle", desc := "(II)I" } : Jvm.MethodName) prog_1_method_43_code (6 : Nat) (Option.some Jvm.ClassFile.FieldType.int)) ∈ q_gw := q_gw_of (q_t4 (List.mem_of_getElem? (i := 169) rfl)) rfl
theorem tw_4_17 : (Jvm.Cond.selects "CalendarReplicas" ({ cls := "CalendarReplicas", name := "move", desc := "(IIII)I" } : Jvm.MethodName) ({ cls := "CalendarReplicas", name := "move", desc := "(IIII)I" } : Jvm.MethodName)) ∈ q_gw := q_gw_of (q_t4 (List.mem_of_getElem? (i := 17) rfl)) rfl
theorem tw_4_170 : (Jvm.Cond.methodLink "CalendarReplicas" (275 : Nat) ({ cls := "CalendarReplicas$Merge", name := "admits", desc := "(LCalendarReplicas$World;I)Z" } : Jvm.MethodName)) ∈ q_gw := q_gw_of (q_t4 (List.mem_of_getElem? (i := 170) rfl)) rfl
theorem tw_4_171 : (Jvm.Cond.instanceMethod ({ cls := "CalendarReplicas$Merge", name := "admits", desc := "(LCalendarReplicas$World;I)Z" } : Jvm.MethodName)) ∈ q_gw := q_gw_of (q_t4 (List.mem_of_getElem? (i := 171) rfl)) rfl
theorem tw_4_172 : (Jvm.Cond.selects "CalendarReplicas$Merge" ({ cls := "CalendarReplicas$Merge", name := "admits", desc := "(LCalendarReplicas$World;I)Z" } : Jvm.MethodName) ({ cls := "CalendarReplicas$Merge", name := "admits", desc := "(LCalendarReplicas$World;I)Z" } : Jvm.MethodName)) ∈ q_gw := q_gw_of (q_t4 (List.mem_of_getElem? (i := 172) rfl)) rfl
theorem tw_4_173 : (Jvm.Cond.code ({ cls := "CalendarReplicas$Merge", name := "admits", desc := "(LCalendarReplicas$World;I)Z" } : Jvm.MethodName) prog_6_method_2_code (3 : Nat) (Option.some Jvm.ClassFile.FieldType.boolean)) ∈ q_gw := q_gw_of (q_t4 (List.mem_of_getElem? (i := 173) rfl)) rfl
theorem tw_4_174 : (Jvm.Cond.methodLink "CalendarReplicas$Merge" (27 : Nat) ({ cls := "CalendarReplicas$World", name := "hasClash", desc := "(I)Z" } : Jvm.MethodName)) ∈ q_gw := q_gw_of (q_t4 (List.mem_of_getElem? (i := 174) rfl)) rfl
theorem tw_4_175 : (Jvm.Cond.instanceMethod ({ cls := "CalendarReplicas$World", name := "hasClash", desc := "(I)Z" } : Jvm.MethodName)) ∈ q_gw := q_gw_of (q_t4 (List.mem_of_getElem? (i := 175) rfl)) rfl
theorem tw_4_176 : (Jvm.Cond.selects "CalendarReplicas$World" ({ cls := "CalendarReplicas$World", name := "hasClash", desc := "(I)Z" } : Jvm.MethodName) ({ cls := "CalendarReplicas$World", name := "hasClash", desc := "(I)Z" } : Jvm.MethodName)) ∈ q_gw := q_gw_of (q_t4 (List.mem_of_getElem? (i := 176) rfl)) rfl
theorem tw_4_177 : (Jvm.Cond.code ({ cls := "CalendarReplicas$World", name := "hasClash", desc := "(I)Z" } : Jvm.MethodName) prog_9_method_11_code (3 : Nat) (Option.some Jvm.ClassFile.FieldType.boolean)) ∈ q_gw := q_gw_of (q_t4 (List.mem_of_getElem? (i := 177) rfl)) rfl
theorem tw_4_178 : (Jvm.Cond.methodLink "CalendarReplicas" (279 : Nat) ({ cls := "CalendarReplicas", name := "editAt", desc := "(I)I" } : Jvm.MethodName)) ∈ q_gw := q_gw_of (q_t4 (List.mem_of_getElem? (i := 178) rfl)) rfl
theorem tw_4_179 : (Jvm.Cond.methodLink "CalendarReplicasLaw" (159 : Nat) ({ cls := "CalendarReplicas", name := "cost", desc := "(II)I" } : Jvm.MethodName)) ∈ q_gw := q_gw_of (q_t4 (List.mem_of_getElem? (i := 179) rfl)) rfl
theorem tw_4_18 : (Jvm.Cond.code ({ cls := "CalendarReplicas", name := "move", desc := "(IIII)I" } : Jvm.MethodName) prog_1_method_8_code (5 : Nat) (Option.some Jvm.ClassFile.FieldType.int)) ∈ q_gw := q_gw_of (q_t4 (List.mem_of_getElem? (i := 18) rfl)) rfl
theorem tw_4_180 : (Jvm.Cond.instanceMethod ({ cls := "CalendarReplicas", name := "cost", desc := "(II)I" } : Jvm.MethodName)) ∈ q_gw := q_gw_of (q_t4 (List.mem_of_getElem? (i := 180) rfl)) rfl
theorem tw_4_181 : (Jvm.Cond.selects "CalendarReplicas" ({ cls := "CalendarReplicas", name := "cost", desc := "(II)I" } : Jvm.MethodName) ({ cls := "CalendarReplicas", name := "cost", desc := "(II)I" } : Jvm.MethodName)) ∈ q_gw := q_gw_of (q_t4 (List.mem_of_getElem? (i := 181) rfl)) rfl
theorem tw_4_182 : (Jvm.Cond.code ({ cls := "CalendarReplicas", name := "cost", desc := "(II)I" } : Jvm.MethodName) prog_1_method_44_code (5 : Nat) (Option.some Jvm.ClassFile.FieldType.int)) ∈ q_gw := q_gw_of (q_t4 (List.mem_of_getElem? (i := 182) rfl)) rfl
theorem tw_4_183 : (Jvm.Cond.methodLink "CalendarReplicasLaw" (163 : Nat) ({ cls := "CalendarReplicas", name := "alternative", desc := "(II)I" } : Jvm.MethodName)) ∈ q_gw := q_gw_of (q_t4 (List.mem_of_getElem? (i := 183) rfl)) rfl
theorem tw_4_184 : (Jvm.Cond.instanceMethod ({ cls := "CalendarReplicas", name := "alternative", desc := "(II)I" } : Jvm.MethodName)) ∈ q_gw := q_gw_of (q_t4 (List.mem_of_getElem? (i := 184) rfl)) rfl
theorem tw_4_185 : (Jvm.Cond.selects "CalendarReplicas" ({ cls := "CalendarReplicas", name := "alternative", desc := "(II)I" } : Jvm.MethodName) ({ cls := "CalendarReplicas", name := "alternative", desc := "(II)I" } : Jvm.MethodName)) ∈ q_gw := q_gw_of (q_t4 (List.mem_of_getElem? (i := 185) rfl)) rfl
theorem tw_4_186 : (Jvm.Cond.code ({ cls := "CalendarReplicas", name := "alternative", desc := "(II)I" } : Jvm.MethodName) prog_1_method_45_code (7 : Nat) (Option.some Jvm.ClassFile.FieldType.int)) ∈ q_gw := q_gw_of (q_t4 (List.mem_of_getElem? (i := 186) rfl)) rfl
theorem tw_4_187 : (Jvm.Cond.methodLink "CalendarReplicas" (282 : Nat) ({ cls := "CalendarReplicas$Edit", name := "start", desc := "()I" } : Jvm.MethodName)) ∈ q_gw := q_gw_of (q_t4 (List.mem_of_getElem? (i := 187) rfl)) rfl
theorem tw_4_188 : (Jvm.Cond.instanceMethod ({ cls := "CalendarReplicas$Edit", name := "start", desc := "()I" } : Jvm.MethodName)) ∈ q_gw := q_gw_of (q_t4 (List.mem_of_getElem? (i := 188) rfl)) rfl
theorem tw_4_189 : (Jvm.Cond.selects "CalendarReplicas$Edit" ({ cls := "CalendarReplicas$Edit", name := "start", desc := "()I" } : Jvm.MethodName) ({ cls := "CalendarReplicas$Edit", name := "start", desc := "()I" } : Jvm.MethodName)) ∈ q_gw := q_gw_of (q_t4 (List.mem_of_getElem? (i := 189) rfl)) rfl
theorem tw_4_19 : (Jvm.Cond.methodLink "CalendarReplicas" (161 : Nat) ({ cls := "CalendarReplicas", name := "isChangeable", desc := "(III)Z" } : Jvm.MethodName)) ∈ q_gw := q_gw_of (q_t4 (List.mem_of_getElem? (i := 19) rfl)) rfl
theorem tw_4_190 : (Jvm.Cond.code ({ cls := "CalendarReplicas$Edit", name := "start", desc := "()I" } : Jvm.MethodName) prog_4_method_4_code (1 : Nat) (Option.some Jvm.ClassFile.FieldType.int)) ∈ q_gw := q_gw_of (q_t4 (List.mem_of_getElem? (i := 190) rfl)) rfl
theorem tw_4_191 : (Jvm.Cond.methodLink "CalendarReplicas" (284 : Nat) ({ cls := "CalendarReplicas", name := "nearestStart", desc := "(LCalendarReplicas$Edit;II)I" } : Jvm.MethodName)) ∈ q_gw := q_gw_of (q_t4 (List.mem_of_getElem? (i := 191) rfl)) rfl
theorem tw_4_192 : (Jvm.Cond.privateMethod ({ cls := "CalendarReplicas", name := "nearestStart", desc := "(LCalendarReplicas$Edit;II)I" } : Jvm.MethodName)) ∈ lw_tbl := List.mem_append_right _ (q_t4 (List.mem_of_getElem? (i := 192) rfl))
theorem tw_4_193 : (Jvm.Cond.instanceMethod ({ cls := "CalendarReplicas", name := "nearestStart", desc := "(LCalendarReplicas$Edit;II)I" } : Jvm.MethodName)) ∈ q_gw := q_gw_of (q_t4 (List.mem_of_getElem? (i := 193) rfl)) rfl
theorem tw_4_194 : (Jvm.Cond.code ({ cls := "CalendarReplicas", name := "nearestStart", desc := "(LCalendarReplicas$Edit;II)I" } : Jvm.MethodName) prog_1_method_46_code (5 : Nat) (Option.some Jvm.ClassFile.FieldType.int)) ∈ q_gw := q_gw_of (q_t4 (List.mem_of_getElem? (i := 194) rfl)) rfl
theorem tw_4_195 : (Jvm.Cond.methodLink "CalendarReplicas" (291 : Nat) ({ cls := "CalendarReplicas", name := "admitsStart", desc := "(LCalendarReplicas$Edit;II)Z" } : Jvm.MethodName)) ∈ q_gw := q_gw_of (q_t4 (List.mem_of_getElem? (i := 195) rfl)) rfl
theorem tw_4_196 : (Jvm.Cond.privateMethod ({ cls := "CalendarReplicas", name := "admitsStart", desc := "(LCalendarReplicas$Edit;II)Z" } : Jvm.MethodName)) ∈ lw_tbl := List.mem_append_right _ (q_t4 (List.mem_of_getElem? (i := 196) rfl))
theorem tw_4_197 : (Jvm.Cond.instanceMethod ({ cls := "CalendarReplicas", name := "admitsStart", desc := "(LCalendarReplicas$Edit;II)Z" } : Jvm.MethodName)) ∈ q_gw := q_gw_of (q_t4 (List.mem_of_getElem? (i := 197) rfl)) rfl
theorem tw_4_198 : (Jvm.Cond.code ({ cls := "CalendarReplicas", name := "admitsStart", desc := "(LCalendarReplicas$Edit;II)Z" } : Jvm.MethodName) prog_1_method_47_code (4 : Nat) (Option.some Jvm.ClassFile.FieldType.boolean)) ∈ q_gw := q_gw_of (q_t4 (List.mem_of_getElem? (i := 198) rfl)) rfl
theorem tw_4_199 : (Jvm.Cond.methodLink "CalendarReplicas" (288 : Nat) ({ cls := "CalendarReplicas$Edit", name := "setStart", desc := "(I)V" } : Jvm.MethodName)) ∈ q_gw := q_gw_of (q_t4 (List.mem_of_getElem? (i := 199) rfl)) rfl
theorem tw_4_2 : (Jvm.Cond.constant "java/lang/Characte\x72" (76 : Nat) (56320 : Int32)) ∈ q_gw := q_gw_of (q_t4 (List.mem_of_getElem? (i := 2) rfl)) rfl
theorem tw_4_20 : (Jvm.Cond.privateMethod ({ cls := "CalendarReplicas", name := "isChangeable", desc := "(III)Z" } : Jvm.MethodName)) ∈ lw_tbl := List.mem_append_right _ (q_t4 (List.mem_of_getElem? (i := 20) rfl))
theorem tw_4_200 : (Jvm.Cond.instanceMethod ({ cls := "CalendarReplicas$Edit", name := "setStart", desc := "(I)V" } : Jvm.MethodName)) ∈ q_gw := q_gw_of (q_t4 (List.mem_of_getElem? (i := 200) rfl)) rfl
theorem tw_4_201 : (Jvm.Cond.selects "CalendarReplicas$Edit" ({ cls := "CalendarReplicas$Edit", name := "setStart", desc := "(I)V" } : Jvm.MethodName) ({ cls := "CalendarReplicas$Edit", name := "setStart", desc := "(I)V" } : Jvm.MethodName)) ∈ q_gw := q_gw_of (q_t4 (List.mem_of_getElem? (i := 201) rfl)) rfl
theorem tw_4_202 : (Jvm.Cond.code ({ cls := "CalendarReplicas$Edit", name := "setStart", desc := "(I)V" } : Jvm.MethodName) prog_4_method_5_code (2 : Nat) (Option.none : Option Jvm.ClassFile.FieldType)) ∈ q_gw := q_gw_of (q_t4 (List.mem_of_getElem? (i := 202) rfl)) rfl
theorem tw_4_203 : (Jvm.Cond.methodLink "CalendarReplicasLaw" (167 : Nat) ({ cls := "CalendarReplicas", name := "freeStart", desc := "(IIII)I" } : Jvm.MethodName)) ∈ q_gw := q_gw_of (q_t4 (List.mem_of_getElem? (i := 203) rfl)) rfl
theorem tw_4_204 : (Jvm.Cond.instanceMethod ({ cls := "CalendarReplicas", name := "freeStart", desc := "(IIII)I" } : Jvm.MethodName)) ∈ q_gw := q_gw_of (q_t4 (List.mem_of_getElem? (i := 204) rfl)) rfl
theorem tw_4_205 : (Jvm.Cond.selects "CalendarReplicas" ({ cls := "CalendarReplicas", name := "freeStart", desc := "(IIII)I" } : Jvm.MethodName) ({ cls := "CalendarReplicas", name := "freeStart", desc := "(IIII)I" } : Jvm.MethodName)) ∈ q_gw := q_gw_of (q_t4 (List.mem_of_getElem? (i := 205) rfl)) rfl
theorem tw_4_206 : (Jvm.Cond.code ({ cls := "CalendarReplicas", name := "freeStart", desc := "(IIII)I" } : Jvm.MethodName) prog_1_method_48_code (6 : Nat) (Option.some Jvm.ClassFile.FieldType.int)) ∈ q_gw := q_gw_of (q_t4 (List.mem_of_getElem? (i := 206) rfl)) rfl
theorem tw_4_207 : (Jvm.Cond.methodLink "CalendarReplicas" (295 : Nat) ({ cls := "CalendarReplicas", name := "fillTimetable", desc := "(I)V" } : Jvm.MethodName)) ∈ q_gw := q_gw_of (q_t4 (List.mem_of_getElem? (i := 207) rfl)) rfl
theorem tw_4_208 : (Jvm.Cond.privateMethod ({ cls := "CalendarReplicas", name := "fillTimetable", desc := "(I)V" } : Jvm.MethodName)) ∈ lw_tbl := List.mem_append_right _ (q_t4 (List.mem_of_getElem? (i := 208) rfl))
theorem tw_4_209 : (Jvm.Cond.instanceMethod ({ cls := "CalendarReplicas", name := "fillTimetable", desc := "(I)V" } : Jvm.MethodName)) ∈ q_gw := q_gw_of (q_t4 (List.mem_of_getElem? (i := 209) rfl)) rfl
theorem tw_4_21 : (Jvm.Cond.instanceMethod ({ cls := "CalendarReplicas", name := "isChangeable", desc := "(III)Z" } : Jvm.MethodName)) ∈ q_gw := q_gw_of (q_t4 (List.mem_of_getElem? (i := 21) rfl)) rfl
theorem tw_4_210 : (Jvm.Cond.code ({ cls := "CalendarReplicas", name := "fillTimetable", desc := "(I)V" } : Jvm.MethodName) prog_1_method_51_code (4 : Nat) (Option.none : Option Jvm.ClassFile.FieldType)) ∈ q_gw := q_gw_of (q_t4 (List.mem_of_getElem? (i := 210) rfl)) rfl
theorem tw_4_211 : (Jvm.Cond.methodLink "CalendarReplicas" (307 : Nat) ({ cls := "CalendarReplicas$Timetable", name := "begin", desc := "(LCalendarReplicas$Rules;)V" } : Jvm.MethodName)) ∈ q_gw := q_gw_of (q_t4 (List.mem_of_getElem? (i := 211) rfl)) rfl
theorem tw_4_212 : (Jvm.Cond.methodLink "CalendarReplicas" (311 : Nat) ({ cls := "CalendarReplicas$Timetable", name := "book", desc := "(LCalendarReplicas$Meeting;)Z" } : Jvm.MethodName)) ∈ q_gw := q_gw_of (q_t4 (List.mem_of_getElem? (i := 212) rfl)) rfl
theorem tw_4_213 : (Jvm.Cond.methodLink "CalendarReplicas" (298 : Nat) ({ cls := "CalendarReplicas$Timetable", name := "isFree", desc := "(III)Z" } : Jvm.MethodName)) ∈ q_gw := q_gw_of (q_t4 (List.mem_of_getElem? (i := 213) rfl)) rfl
theorem tw_4_214 : (Jvm.Cond.methodLink "CalendarReplicasLaw" (171 : Nat) ({ cls := "CalendarReplicas", name := "commonStart", desc := "(IIII)I" } : Jvm.MethodName)) ∈ q_gw := q_gw_of (q_t4 (List.mem_of_getElem? (i := 214) rfl)) rfl
theorem tw_4_215 : (Jvm.Cond.instanceMethod ({ cls := "CalendarReplicas", name := "commonStart", desc := "(IIII)I" } : Jvm.MethodName)) ∈ q_gw := q_gw_of (q_t4 (List.mem_of_getElem? (i := 215) rfl)) rfl
theorem tw_4_216 : (Jvm.Cond.selects "CalendarReplicas" ({ cls := "CalendarReplicas", name := "commonStart", desc := "(IIII)I" } : Jvm.MethodName) ({ cls := "CalendarReplicas", name := "commonStart", desc := "(IIII)I" } : Jvm.MethodName)) ∈ q_gw := q_gw_of (q_t4 (List.mem_of_getElem? (i := 216) rfl)) rfl
theorem tw_4_217 : (Jvm.Cond.code ({ cls := "CalendarReplicas", name := "commonStart", desc := "(IIII)I" } : Jvm.MethodName) prog_1_method_49_code (7 : Nat) (Option.some Jvm.ClassFile.FieldType.int)) ∈ q_gw := q_gw_of (q_t4 (List.mem_of_getElem? (i := 217) rfl)) rfl
theorem tw_4_218 : (Jvm.Cond.methodLink "CalendarReplicas" (301 : Nat) ({ cls := "CalendarReplicas$Rules", name := "allows", desc := "(LCalendarReplicas$Meeting;)Z" } : Jvm.MethodName)) ∈ q_gw := q_gw_of (q_t4 (List.mem_of_getElem? (i := 218) rfl)) rfl
theorem tw_4_219 : (Jvm.Cond.methodLink "CalendarReplicas" (304 : Nat) ({ cls := "CalendarReplicas$Meeting", name := "rows", desc := "()I" } : Jvm.MethodName)) ∈ q_gw := q_gw_of (q_t4 (List.mem_of_getElem? (i := 219) rfl)) rfl
theorem tw_4_22 : (Jvm.Cond.code ({ cls := "CalendarReplicas", name := "isChangeable", desc := "(III)Z" } : Jvm.MethodName) prog_1_method_14_code (4 : Nat) (Option.some Jvm.ClassFile.FieldType.boolean)) ∈ q_gw := q_gw_of (q_t4 (List.mem_of_getElem? (i := 22) rfl)) rfl
theorem tw_4_220 : (Jvm.Cond.methodLink "CalendarReplicasLaw" (175 : Nat) ({ cls := "CalendarReplicas", name := "busySlots", desc := "(II)I" } : Jvm.MethodName)) ∈ q_gw := q_gw_of (q_t4 (List.mem_of_getElem? (i := 220) rfl)) rfl
theorem tw_4_221 : (Jvm.Cond.instanceMethod ({ cls := "CalendarReplicas", name := "busySlots", desc := "(II)I" } : Jvm.MethodName)) ∈ q_gw := q_gw_of (q_t4 (List.mem_of_getElem? (i := 221) rfl)) rfl
theorem tw_4_222 : (Jvm.Cond.selects "CalendarReplicas" ({ cls := "CalendarReplicas", name := "busySlots", desc := "(II)I" } : Jvm.MethodName) ({ cls := "CalendarReplicas", name := "busySlots", desc := "(II)I" } : Jvm.MethodName)) ∈ q_gw := q_gw_of (q_t4 (List.mem_of_getElem? (i := 222) rfl)) rfl
theorem tw_4_223 : (Jvm.Cond.code ({ cls := "CalendarReplicas", name := "busySlots", desc := "(II)I" } : Jvm.MethodName) prog_1_method_50_code (6 : Nat) (Option.some Jvm.ClassFile.FieldType.int)) ∈ q_gw := q_gw_of (q_t4 (List.mem_of_getElem? (i := 223) rfl)) rfl
theorem tw_4_224 : (Jvm.Cond.methodLink "CalendarReplicasLaw" (179 : Nat) ({ cls := "CalendarReplicas", name := "append", desc := "(I)I" } : Jvm.MethodName)) ∈ q_gw := q_gw_of (q_t4 (List.mem_of_getElem? (i := 224) rfl)) rfl
theorem tw_4_225 : (Jvm.Cond.instanceMethod ({ cls := "CalendarReplicas", name := "append", desc := "(I)I" } : Jvm.MethodName)) ∈ q_gw := q_gw_of (q_t4 (List.mem_of_getElem? (i := 225) rfl)) rfl
theorem tw_4_226 : (Jvm.Cond.selects "CalendarReplicas" ({ cls := "CalendarReplicas", name := "append", desc := "(I)I" } : Jvm.MethodName) ({ cls := "CalendarReplicas", name := "append", desc := "(I)I" } : Jvm.MethodName)) ∈ q_gw := q_gw_of (q_t4 (List.mem_of_getElem? (i := 226) rfl)) rfl
theorem tw_4_227 : (Jvm.Cond.code ({ cls := "CalendarReplicas", name := "append", desc := "(I)I" } : Jvm.MethodName) prog_1_method_52_code (2 : Nat) (Option.some Jvm.ClassFile.FieldType.int)) ∈ q_gw := q_gw_of (q_t4 (List.mem_of_getElem? (i := 227) rfl)) rfl
theorem tw_4_228 : (Jvm.Cond.methodLink "CalendarReplicas" (317 : Nat) ({ cls := "java/lang/StringBuilde\x72", name := "length", desc := "()I" } : Jvm.MethodName)) ∈ q_gw := q_gw_of (q_t4 (List.mem_of_getElem? (i := 228) rfl)) rfl
theorem tw_4_229 : (Jvm.Cond.methodLink "CalendarReplicas" (320 : Nat) ({ cls := "java/lang/StringBuilde\x72", name := "append", desc := "(C)Ljava/lang/StringBuilder;" } : Jvm.MethodName)) ∈ q_gw := q_gw_of (q_t4 (List.mem_of_getElem? (i := 229) rfl)) rfl
theorem tw_4_23 : (Jvm.Cond.methodLink "CalendarReplicas" (164 : Nat) ({ cls := "CalendarReplicas", name := "find", desc := "(II)LCalendarReplicas$Meeting;" } : Jvm.MethodName)) ∈ q_gw := q_gw_of (q_t4 (List.mem_of_getElem? (i := 23) rfl)) rfl
theorem tw_4_230 : (Jvm.Cond.instanceMethod ({ cls := "java/lang/StringBuilde\x72", name := "append", desc := "(C)Ljava/lang/StringBuilder;" } : Jvm.MethodName)) ∈ q_gw := q_gw_of (q_t4 (List.mem_of_getElem? (i := 230) rfl)) rfl
theorem tw_4_231 : (Jvm.Cond.selects "java/lang/StringBuilde\x72" ({ cls := "java/lang/StringBuilde\x72", name := "append", desc := "(C)Ljava/lang/StringBuilder;" } : Jvm.MethodName) ({ cls := "java/lang/StringBuilde\x72", name := "append", desc := "(C)Ljava/lang/StringBuilder;" } : Jvm.MethodName)) ∈ q_gw := q_gw_of (q_t4 (List.mem_of_getElem? (i := 231) rfl)) rfl
theorem tw_4_232 : (Jvm.Cond.code ({ cls := "java/lang/StringBuilde\x72", name := "append", desc := "(C)Ljava/lang/StringBuilder;" } : Jvm.MethodName) prog_18_method_14_code (2 : Nat) (Option.some (Jvm.ClassFile.FieldType.object "java/lang/StringBuilde\x72"))) ∈ q_gw := q_gw_of (q_t4 (List.mem_of_getElem? (i := 232) rfl)) rfl
theorem tw_4_233 : (Jvm.Cond.methodLink "java/lang/StringBuilde\x72" (50 : Nat) ({ cls := "java/lang/AbstractStringBuilde\x72", name := "append", desc := "(C)Ljava/lang/AbstractStringBuilder;" } : Jvm.MethodName)) ∈ q_gw := q_gw_of (q_t4 (List.mem_of_getElem? (i := 233) rfl)) rfl
theorem tw_4_234 : (Jvm.Cond.instanceMethod ({ cls := "java/lang/AbstractStringBuilde\x72", name := "append", desc := "(C)Ljava/lang/AbstractStringBuilder;" } : Jvm.MethodName)) ∈ q_gw := q_gw_of (q_t4 (List.mem_of_getElem? (i := 234) rfl)) rfl
theorem tw_4_235 : (Jvm.Cond.code ({ cls := "java/lang/AbstractStringBuilde\x72", name := "append", desc := "(C)Ljava/lang/AbstractStringBuilder;" } : Jvm.MethodName) prog_12_method_31_code (2 : Nat) (Option.some (Jvm.ClassFile.FieldType.object "java/lang/AbstractStringBuilde\x72"))) ∈ q_gw := q_gw_of (q_t4 (List.mem_of_getElem? (i := 235) rfl)) rfl
theorem tw_4_236 : (Jvm.Cond.methodLink "java/lang/AbstractStringBuilde\x72" (100 : Nat) ({ cls := "java/lang/AbstractStringBuilde\x72", name := "ensureCapacityInternal", desc := "(I)V" } : Jvm.MethodName)) ∈ q_gw := q_gw_of (q_t4 (List.mem_of_getElem? (i := 236) rfl)) rfl
theorem tw_4_237 : (Jvm.Cond.privateMethod ({ cls := "java/lang/AbstractStringBuilde\x72", name := "ensureCapacityInternal", desc := "(I)V" } : Jvm.MethodName)) ∈ lw_tbl := List.mem_append_right _ (q_t4 (List.mem_of_getElem? (i := 237) rfl))
theorem tw_4_238 : (Jvm.Cond.instanceMethod ({ cls := "java/lang/AbstractStringBuilde\x72", name := "ensureCapacityInternal", desc := "(I)V" } : Jvm.MethodName)) ∈ q_gw := q_gw_of (q_t4 (List.mem_of_getElem? (i := 238) rfl)) rfl
theorem tw_4_239 : (Jvm.Cond.code ({ cls := "java/lang/AbstractStringBuilde\x72", name := "ensureCapacityInternal", desc := "(I)V" } : Jvm.MethodName) prog_12_method_9_code (3 : Nat) (Option.none : Option Jvm.ClassFile.FieldType)) ∈ q_gw := q_gw_of (q_t4 (List.mem_of_getElem? (i := 239) rfl)) rfl
theorem tw_4_24 : (Jvm.Cond.privateMethod ({ cls := "CalendarReplicas", name := "find", desc := "(II)LCalendarReplicas$Meeting;" } : Jvm.MethodName)) ∈ lw_tbl := List.mem_append_right _ (q_t4 (List.mem_of_getElem? (i := 24) rfl))
theorem tw_4_25 : (Jvm.Cond.instanceMethod ({ cls := "CalendarReplicas", name := "find", desc := "(II)LCalendarReplicas$Meeting;" } : Jvm.MethodName)) ∈ q_gw := q_gw_of (q_t4 (List.mem_of_getElem? (i := 25) rfl)) rfl
theorem tw_4_26 : (Jvm.Cond.code ({ cls := "CalendarReplicas", name := "find", desc := "(II)LCalendarReplicas$Meeting;" } : Jvm.MethodName) prog_1_method_30_code (3 : Nat) (Option.some (Jvm.ClassFile.FieldType.object "CalendarReplicas$Meeting"))) ∈ q_gw := q_gw_of (q_t4 (List.mem_of_getElem? (i := 26) rfl)) rfl
theorem tw_4_27 : (Jvm.Cond.methodLink "CalendarReplicas" (227 : Nat) ({ cls := "CalendarReplicas", name := "show", desc := "(I)V" } : Jvm.MethodName)) ∈ q_gw := q_gw_of (q_t4 (List.mem_of_getElem? (i := 27) rfl)) rfl
theorem tw_4_28 : (Jvm.Cond.privateMethod ({ cls := "CalendarReplicas", name := "show", desc := "(I)V" } : Jvm.MethodName)) ∈ lw_tbl := List.mem_append_right _ (q_t4 (List.mem_of_getElem? (i := 28) rfl))
theorem tw_4_29 : (Jvm.Cond.instanceMethod ({ cls := "CalendarReplicas", name := "show", desc := "(I)V" } : Jvm.MethodName)) ∈ q_gw := q_gw_of (q_t4 (List.mem_of_getElem? (i := 29) rfl)) rfl
theorem tw_4_3 : (Jvm.Cond.methodLinkNest "CalendarReplicas$Description" (81 : Nat) ({ cls := "CalendarReplicas", name := "contains", desc := "(II)Z" } : Jvm.MethodName) "CalendarReplicas") ∈ lw_tbl := List.mem_append_right _ (q_t4 (List.mem_of_getElem? (i := 3) rfl))
theorem tw_4_30 : (Jvm.Cond.code ({ cls := "CalendarReplicas", name := "show", desc := "(I)V" } : Jvm.MethodName) prog_1_method_29_code (2 : Nat) (Option.none : Option Jvm.ClassFile.FieldType)) ∈ q_gw := q_gw_of (q_t4 (List.mem_of_getElem? (i := 30) rfl)) rfl
theorem tw_4_31 : (Jvm.Cond.methodLink "CalendarReplicas" (213 : Nat) ({ cls := "CalendarReplicas$World", name := "form", desc := "(ILCalendarReplicas$Calendar;)V" } : Jvm.MethodName)) ∈ q_gw := q_gw_of (q_t4 (List.mem_of_getElem? (i := 31) rfl)) rfl
theorem tw_4_32 : (Jvm.Cond.methodLink "CalendarReplicas" (252 : Nat) ({ cls := "CalendarReplicas$Calenda\x72", name := "find", desc := "(I)LCalendarReplicas$Meeting;" } : Jvm.MethodName)) ∈ q_gw := q_gw_of (q_t4 (List.mem_of_getElem? (i := 32) rfl)) rfl
theorem tw_4_33 : (Jvm.Cond.methodLink "CalendarReplicasLaw" (47 : Nat) ({ cls := "CalendarReplicas", name := "changeRoom", desc := "(IIII)I" } : Jvm.MethodName)) ∈ q_gw := q_gw_of (q_t4 (List.mem_of_getElem? (i := 33) rfl)) rfl
theorem tw_4_34 : (Jvm.Cond.instanceMethod ({ cls := "CalendarReplicas", name := "changeRoom", desc := "(IIII)I" } : Jvm.MethodName)) ∈ q_gw := q_gw_of (q_t4 (List.mem_of_getElem? (i := 34) rfl)) rfl
theorem tw_4_35 : (Jvm.Cond.selects "CalendarReplicas" ({ cls := "CalendarReplicas", name := "changeRoom", desc := "(IIII)I" } : Jvm.MethodName) ({ cls := "CalendarReplicas", name := "changeRoom", desc := "(IIII)I" } : Jvm.MethodName)) ∈ q_gw := q_gw_of (q_t4 (List.mem_of_getElem? (i := 35) rfl)) rfl
theorem tw_4_36 : (Jvm.Cond.code ({ cls := "CalendarReplicas", name := "changeRoom", desc := "(IIII)I" } : Jvm.MethodName) prog_1_method_9_code (5 : Nat) (Option.some Jvm.ClassFile.FieldType.int)) ∈ q_gw := q_gw_of (q_t4 (List.mem_of_getElem? (i := 36) rfl)) rfl
theorem tw_4_37 : (Jvm.Cond.methodLink "CalendarReplicasLaw" (51 : Nat) ({ cls := "CalendarReplicas", name := "resize", desc := "(IIII)I" } : Jvm.MethodName)) ∈ q_gw := q_gw_of (q_t4 (List.mem_of_getElem? (i := 37) rfl)) rfl
theorem tw_4_38 : (Jvm.Cond.instanceMethod ({ cls := "CalendarReplicas", name := "resize", desc := "(IIII)I" } : Jvm.MethodName)) ∈ q_gw := q_gw_of (q_t4 (List.mem_of_getElem? (i := 38) rfl)) rfl
theorem tw_4_39 : (Jvm.Cond.selects "CalendarReplicas" ({ cls := "CalendarReplicas", name := "resize", desc := "(IIII)I" } : Jvm.MethodName) ({ cls := "CalendarReplicas", name := "resize", desc := "(IIII)I" } : Jvm.MethodName)) ∈ q_gw := q_gw_of (q_t4 (List.mem_of_getElem? (i := 39) rfl)) rfl
theorem tw_4_4 : (Jvm.Cond.methodLink "CalendarReplicas$Description" (92 : Nat) ({ cls := "CalendarReplicas$Description", name := "readPersons", desc := "()I" } : Jvm.MethodName)) ∈ q_gw := q_gw_of (q_t4 (List.mem_of_getElem? (i := 4) rfl)) rfl
theorem tw_4_40 : (Jvm.Cond.code ({ cls := "CalendarReplicas", name := "resize", desc := "(IIII)I" } : Jvm.MethodName) prog_1_method_10_code (5 : Nat) (Option.some Jvm.ClassFile.FieldType.int)) ∈ q_gw := q_gw_of (q_t4 (List.mem_of_getElem? (i := 40) rfl)) rfl
theorem tw_4_41 : (Jvm.Cond.methodLink "CalendarReplicasLaw" (55 : Nat) ({ cls := "CalendarReplicas", name := "join", desc := "(IIII)I" } : Jvm.MethodName)) ∈ q_gw := q_gw_of (q_t4 (List.mem_of_getElem? (i := 41) rfl)) rfl
theorem tw_4_42 : (Jvm.Cond.instanceMethod ({ cls := "CalendarReplicas", name := "join", desc := "(IIII)I" } : Jvm.MethodName)) ∈ q_gw := q_gw_of (q_t4 (List.mem_of_getElem? (i := 42) rfl)) rfl
theorem tw_4_43 : (Jvm.Cond.selects "CalendarReplicas" ({ cls := "CalendarReplicas", name := "join", desc := "(IIII)I" } : Jvm.MethodName) ({ cls := "CalendarReplicas", name := "join", desc := "(IIII)I" } : Jvm.MethodName)) ∈ q_gw := q_gw_of (q_t4 (List.mem_of_getElem? (i := 43) rfl)) rfl
theorem tw_4_44 : (Jvm.Cond.code ({ cls := "CalendarReplicas", name := "join", desc := "(IIII)I" } : Jvm.MethodName) prog_1_method_11_code (5 : Nat) (Option.some Jvm.ClassFile.FieldType.int)) ∈ q_gw := q_gw_of (q_t4 (List.mem_of_getElem? (i := 44) rfl)) rfl
theorem tw_4_45 : (Jvm.Cond.methodLink "CalendarReplicasLaw" (59 : Nat) ({ cls := "CalendarReplicas", name := "leave", desc := "(IIII)I" } : Jvm.MethodName)) ∈ q_gw := q_gw_of (q_t4 (List.mem_of_getElem? (i := 45) rfl)) rfl
theorem tw_4_46 : (Jvm.Cond.instanceMethod ({ cls := "CalendarReplicas", name := "leave", desc := "(IIII)I" } : Jvm.MethodName)) ∈ q_gw := q_gw_of (q_t4 (List.mem_of_getElem? (i := 46) rfl)) rfl
theorem tw_4_47 : (Jvm.Cond.selects "CalendarReplicas" ({ cls := "CalendarReplicas", name := "leave", desc := "(IIII)I" } : Jvm.MethodName) ({ cls := "CalendarReplicas", name := "leave", desc := "(IIII)I" } : Jvm.MethodName)) ∈ q_gw := q_gw_of (q_t4 (List.mem_of_getElem? (i := 47) rfl)) rfl
theorem tw_4_48 : (Jvm.Cond.code ({ cls := "CalendarReplicas", name := "leave", desc := "(IIII)I" } : Jvm.MethodName) prog_1_method_12_code (5 : Nat) (Option.some Jvm.ClassFile.FieldType.int)) ∈ q_gw := q_gw_of (q_t4 (List.mem_of_getElem? (i := 48) rfl)) rfl
theorem tw_4_49 : (Jvm.Cond.methodLink "CalendarReplicasLaw" (63 : Nat) ({ cls := "CalendarReplicas", name := "cancel", desc := "(III)I" } : Jvm.MethodName)) ∈ q_gw := q_gw_of (q_t4 (List.mem_of_getElem? (i := 49) rfl)) rfl
theorem tw_4_5 : (Jvm.Cond.privateMethod ({ cls := "CalendarReplicas$Description", name := "readPersons", desc := "()I" } : Jvm.MethodName)) ∈ lw_tbl := List.mem_append_right _ (q_t4 (List.mem_of_getElem? (i := 5) rfl))
theorem tw_4_50 : (Jvm.Cond.instanceMethod ({ cls := "CalendarReplicas", name := "cancel", desc := "(III)I" } : Jvm.MethodName)) ∈ q_gw := q_gw_of (q_t4 (List.mem_of_getElem? (i := 50) rfl)) rfl
theorem tw_4_51 : (Jvm.Cond.selects "CalendarReplicas" ({ cls := "CalendarReplicas", name := "cancel", desc := "(III)I" } : Jvm.MethodName) ({ cls := "CalendarReplicas", name := "cancel", desc := "(III)I" } : Jvm.MethodName)) ∈ q_gw := q_gw_of (q_t4 (List.mem_of_getElem? (i := 51) rfl)) rfl
theorem tw_4_52 : (Jvm.Cond.code ({ cls := "CalendarReplicas", name := "cancel", desc := "(III)I" } : Jvm.MethodName) prog_1_method_13_code (4 : Nat) (Option.some Jvm.ClassFile.FieldType.int)) ∈ q_gw := q_gw_of (q_t4 (List.mem_of_getElem? (i := 52) rfl)) rfl
theorem tw_4_53 : (Jvm.Cond.methodLink "CalendarReplicasLaw" (67 : Nat) ({ cls := "CalendarReplicas", name := "send", desc := "(II)I" } : Jvm.MethodName)) ∈ q_gw := q_gw_of (q_t4 (List.mem_of_getElem? (i := 53) rfl)) rfl
theorem tw_4_54 : (Jvm.Cond.instanceMethod ({ cls := "CalendarReplicas", name := "send", desc := "(II)I" } : Jvm.MethodName)) ∈ q_gw := q_gw_of (q_t4 (List.mem_of_getElem? (i := 54) rfl)) rfl
theorem tw_4_55 : (Jvm.Cond.selects "CalendarReplicas" ({ cls := "CalendarReplicas", name := "send", desc := "(II)I" } : Jvm.MethodName) ({ cls := "CalendarReplicas", name := "send", desc := "(II)I" } : Jvm.MethodName)) ∈ q_gw := q_gw_of (q_t4 (List.mem_of_getElem? (i := 55) rfl)) rfl
theorem tw_4_56 : (Jvm.Cond.code ({ cls := "CalendarReplicas", name := "send", desc := "(II)I" } : Jvm.MethodName) prog_1_method_16_code (3 : Nat) (Option.some Jvm.ClassFile.FieldType.int)) ∈ q_gw := q_gw_of (q_t4 (List.mem_of_getElem? (i := 56) rfl)) rfl
theorem tw_4_57 : (Jvm.Cond.methodLink "CalendarReplicas" (199 : Nat) ({ cls := "CalendarReplicas", name := "areTwoReplicas", desc := "(II)Z" } : Jvm.MethodName)) ∈ q_gw := q_gw_of (q_t4 (List.mem_of_getElem? (i := 57) rfl)) rfl
theorem tw_4_58 : (Jvm.Cond.static ({ cls := "CalendarReplicas", name := "areTwoReplicas", desc := "(II)Z" } : Jvm.MethodName)) ∈ q_gw := q_gw_of (q_t4 (List.mem_of_getElem? (i := 58) rfl)) rfl
theorem tw_4_59 : (Jvm.Cond.code ({ cls := "CalendarReplicas", name := "areTwoReplicas", desc := "(II)Z" } : Jvm.MethodName) prog_1_method_66_code (2 : Nat) (Option.some Jvm.ClassFile.FieldType.boolean)) ∈ q_gw := q_gw_of (q_t4 (List.mem_of_getElem? (i := 59) rfl)) rfl
theorem tw_4_6 : (Jvm.Cond.instanceMethod ({ cls := "CalendarReplicas$Description", name := "readPersons", desc := "()I" } : Jvm.MethodName)) ∈ q_gw := q_gw_of (q_t4 (List.mem_of_getElem? (i := 6) rfl)) rfl
theorem tw_4_60 : (Jvm.Cond.methodLink "CalendarReplicas" (202 : Nat) ({ cls := "CalendarReplicas", name := "learn", desc := "(II)I" } : Jvm.MethodName)) ∈ q_gw := q_gw_of (q_t4 (List.mem_of_getElem? (i := 60) rfl)) rfl
theorem tw_4_61 : (Jvm.Cond.privateMethod ({ cls := "CalendarReplicas", name := "learn", desc := "(II)I" } : Jvm.MethodName)) ∈ lw_tbl := List.mem_append_right _ (q_t4 (List.mem_of_getElem? (i := 61) rfl))
theorem tw_4_62 : (Jvm.Cond.instanceMethod ({ cls := "CalendarReplicas", name := "learn", desc := "(II)I" } : Jvm.MethodName)) ∈ q_gw := q_gw_of (q_t4 (List.mem_of_getElem? (i := 62) rfl)) rfl
theorem tw_4_63 : (Jvm.Cond.code ({ cls := "CalendarReplicas", name := "learn", desc := "(II)I" } : Jvm.MethodName) prog_1_method_19_code (4 : Nat) (Option.some Jvm.ClassFile.FieldType.int)) ∈ q_gw := q_gw_of (q_t4 (List.mem_of_getElem? (i := 63) rfl)) rfl
theorem tw_4_64 : (Jvm.Cond.methodLink "CalendarReplicas" (222 : Nat) ({ cls := "java/lang/Intege\x72", name := "bitCount", desc := "(I)I" } : Jvm.MethodName)) ∈ q_gw := q_gw_of (q_t4 (List.mem_of_getElem? (i := 64) rfl)) rfl
theorem tw_4_65 : (Jvm.Cond.methodLink "CalendarReplicasLaw" (71 : Nat) ({ cls := "CalendarReplicas", name := "sendOne", desc := "(III)I" } : Jvm.MethodName)) ∈ q_gw := q_gw_of (q_t4 (List.mem_of_getElem? (i := 65) rfl)) rfl
theorem tw_4_66 : (Jvm.Cond.instanceMethod ({ cls := "CalendarReplicas", name := "sendOne", desc := "(III)I" } : Jvm.MethodName)) ∈ q_gw := q_gw_of (q_t4 (List.mem_of_getElem? (i := 66) rfl)) rfl
theorem tw_4_67 : (Jvm.Cond.selects "CalendarReplicas" ({ cls := "CalendarReplicas", name := "sendOne", desc := "(III)I" } : Jvm.MethodName) ({ cls := "CalendarReplicas", name := "sendOne", desc := "(III)I" } : Jvm.MethodName)) ∈ q_gw := q_gw_of (q_t4 (List.mem_of_getElem? (i := 67) rfl)) rfl
theorem tw_4_68 : (Jvm.Cond.code ({ cls := "CalendarReplicas", name := "sendOne", desc := "(III)I" } : Jvm.MethodName) prog_1_method_17_code (5 : Nat) (Option.some Jvm.ClassFile.FieldType.int)) ∈ q_gw := q_gw_of (q_t4 (List.mem_of_getElem? (i := 68) rfl)) rfl
theorem tw_4_69 : (Jvm.Cond.methodLink "CalendarReplicas" (206 : Nat) ({ cls := "CalendarReplicas$World", name := "indexOf", desc := "(I)I" } : Jvm.MethodName)) ∈ q_gw := q_gw_of (q_t4 (List.mem_of_getElem? (i := 69) rfl)) rfl
theorem tw_4_7 : (Jvm.Cond.code ({ cls := "CalendarReplicas$Description", name := "readPersons", desc := "()I" } : Jvm.MethodName) prog_3_method_6_code (3 : Nat) (Option.some Jvm.ClassFile.FieldType.int)) ∈ q_gw := q_gw_of (q_t4 (List.mem_of_getElem? (i := 7) rfl)) rfl
theorem tw_4_70 : (Jvm.Cond.instanceMethod ({ cls := "CalendarReplicas$World", name := "indexOf", desc := "(I)I" } : Jvm.MethodName)) ∈ q_gw := q_gw_of (q_t4 (List.mem_of_getElem? (i := 70) rfl)) rfl
theorem tw_4_71 : (Jvm.Cond.selects "CalendarReplicas$World" ({ cls := "CalendarReplicas$World", name := "indexOf", desc := "(I)I" } : Jvm.MethodName) ({ cls := "CalendarReplicas$World", name := "indexOf", desc := "(I)I" } : Jvm.MethodName)) ∈ q_gw := q_gw_of (q_t4 (List.mem_of_getElem? (i := 71) rfl)) rfl
theorem tw_4_72 : (Jvm.Cond.code ({ cls := "CalendarReplicas$World", name := "indexOf", desc := "(I)I" } : Jvm.MethodName) prog_9_method_6_code (3 : Nat) (Option.some Jvm.ClassFile.FieldType.int)) ∈ q_gw := q_gw_of (q_t4 (List.mem_of_getElem? (i := 72) rfl)) rfl
theorem tw_4_73 : (Jvm.Cond.methodLink "CalendarReplicas" (210 : Nat) ({ cls := "CalendarReplicas", name := "contains", desc := "(II)Z" } : Jvm.MethodName)) ∈ q_gw := q_gw_of (q_t4 (List.mem_of_getElem? (i := 73) rfl)) rfl
theorem tw_4_74 : (Jvm.Cond.methodLink "CalendarReplicasLaw" (75 : Nat) ({ cls := "CalendarReplicas", name := "compact", desc := "()I" } : Jvm.MethodName)) ∈ q_gw := q_gw_of (q_t4 (List.mem_of_getElem? (i := 74) rfl)) rfl
theorem tw_4_75 : (Jvm.Cond.instanceMethod ({ cls := "CalendarReplicas", name := "compact", desc := "()I" } : Jvm.MethodName)) ∈ q_gw := q_gw_of (q_t4 (List.mem_of_getElem? (i := 75) rfl)) rfl
theorem tw_4_76 : (Jvm.Cond.selects "CalendarReplicas" ({ cls := "CalendarReplicas", name := "compact", desc := "()I" } : Jvm.MethodName) ({ cls := "CalendarReplicas", name := "compact", desc := "()I" } : Jvm.MethodName)) ∈ q_gw := q_gw_of (q_t4 (List.mem_of_getElem? (i := 76) rfl)) rfl
theorem tw_4_77 : (Jvm.Cond.code ({ cls := "CalendarReplicas", name := "compact", desc := "()I" } : Jvm.MethodName) prog_1_method_18_code (3 : Nat) (Option.some Jvm.ClassFile.FieldType.int)) ∈ q_gw := q_gw_of (q_t4 (List.mem_of_getElem? (i := 77) rfl)) rfl
theorem tw_4_78 : (Jvm.Cond.methodLink "CalendarReplicas" (218 : Nat) ({ cls := "CalendarReplicas$World", name := "startFrom", desc := "(LCalendarReplicas$Calendar;)V" } : Jvm.MethodName)) ∈ q_gw := q_gw_of (q_t4 (List.mem_of_getElem? (i := 78) rfl)) rfl
theorem tw_4_79 : (Jvm.Cond.instanceMethod ({ cls := "CalendarReplicas$World", name := "startFrom", desc := "(LCalendarReplicas$Calendar;)V" } : Jvm.MethodName)) ∈ q_gw := q_gw_of (q_t4 (List.mem_of_getElem? (i := 79) rfl)) rfl
theorem tw_4_8 : (Jvm.Cond.methodLink "CalendarReplicas$Description" (98 : Nat) ({ cls := "CalendarReplicas$Description", name := "readPeriod", desc := "()Z" } : Jvm.MethodName)) ∈ q_gw := q_gw_of (q_t4 (List.mem_of_getElem? (i := 8) rfl)) rfl
theorem tw_4_80 : (Jvm.Cond.selects "CalendarReplicas$World" ({ cls := "CalendarReplicas$World", name := "startFrom", desc := "(LCalendarReplicas$Calendar;)V" } : Jvm.MethodName) ({ cls := "CalendarReplicas$World", name := "startFrom", desc := "(LCalendarReplicas$Calendar;)V" } : Jvm.MethodName)) ∈ q_gw := q_gw_of (q_t4 (List.mem_of_getElem? (i := 80) rfl)) rfl
theorem tw_4_81 : (Jvm.Cond.code ({ cls := "CalendarReplicas$World", name := "startFrom", desc := "(LCalendarReplicas$Calendar;)V" } : Jvm.MethodName) prog_9_method_3_code (3 : Nat) (Option.none : Option Jvm.ClassFile.FieldType)) ∈ q_gw := q_gw_of (q_t4 (List.mem_of_getElem? (i := 81) rfl)) rfl
theorem tw_4_82 : (Jvm.Cond.methodLink "CalendarReplicasLaw" (79 : Nat) ({ cls := "CalendarReplicas", name := "meetings", desc := "(I)I" } : Jvm.MethodName)) ∈ q_gw := q_gw_of (q_t4 (List.mem_of_getElem? (i := 82) rfl)) rfl
theorem tw_4_83 : (Jvm.Cond.instanceMethod ({ cls := "CalendarReplicas", name := "meetings", desc := "(I)I" } : Jvm.MethodName)) ∈ q_gw := q_gw_of (q_t4 (List.mem_of_getElem? (i := 83) rfl)) rfl
theorem tw_4_84 : (Jvm.Cond.selects "CalendarReplicas" ({ cls := "CalendarReplicas", name := "meetings", desc := "(I)I" } : Jvm.MethodName) ({ cls := "CalendarReplicas", name := "meetings", desc := "(I)I" } : Jvm.MethodName)) ∈ q_gw := q_gw_of (q_t4 (List.mem_of_getElem? (i := 84) rfl)) rfl
theorem tw_4_85 : (Jvm.Cond.code ({ cls := "CalendarReplicas", name := "meetings", desc := "(I)I" } : Jvm.MethodName) prog_1_method_21_code (2 : Nat) (Option.some Jvm.ClassFile.FieldType.int)) ∈ q_gw := q_gw_of (q_t4 (List.mem_of_getElem? (i := 85) rfl)) rfl
theorem tw_4_86 : (Jvm.Cond.methodLink "CalendarReplicasLaw" (83 : Nat) ({ cls := "CalendarReplicas", name := "meetingAt", desc := "(II)I" } : Jvm.MethodName)) ∈ q_gw := q_gw_of (q_t4 (List.mem_of_getElem? (i := 86) rfl)) rfl
theorem tw_4_87 : (Jvm.Cond.instanceMethod ({ cls := "CalendarReplicas", name := "meetingAt", desc := "(II)I" } : Jvm.MethodName)) ∈ q_gw := q_gw_of (q_t4 (List.mem_of_getElem? (i := 87) rfl)) rfl
theorem tw_4_88 : (Jvm.Cond.selects "CalendarReplicas" ({ cls := "CalendarReplicas", name := "meetingAt", desc := "(II)I" } : Jvm.MethodName) ({ cls := "CalendarReplicas", name := "meetingAt", desc := "(II)I" } : Jvm.MethodName)) ∈ q_gw := q_gw_of (q_t4 (List.mem_of_getElem? (i := 88) rfl)) rfl
theorem tw_4_89 : (Jvm.Cond.code ({ cls := "CalendarReplicas", name := "meetingAt", desc := "(II)I" } : Jvm.MethodName) prog_1_method_22_code (4 : Nat) (Option.some Jvm.ClassFile.FieldType.int)) ∈ q_gw := q_gw_of (q_t4 (List.mem_of_getElem? (i := 89) rfl)) rfl
theorem tw_4_9 : (Jvm.Cond.privateMethod ({ cls := "CalendarReplicas$Description", name := "readPeriod", desc := "()Z" } : Jvm.MethodName)) ∈ lw_tbl := List.mem_append_right _ (q_t4 (List.mem_of_getElem? (i := 9) rfl))
theorem tw_4_90 : (Jvm.Cond.methodLink "CalendarReplicas" (230 : Nat) ({ cls := "CalendarReplicas$Calenda\x72", name := "row", desc := "(I)LCalendarReplicas$Meeting;" } : Jvm.MethodName)) ∈ q_gw := q_gw_of (q_t4 (List.mem_of_getElem? (i := 90) rfl)) rfl
theorem tw_4_91 : (Jvm.Cond.methodLink "CalendarReplicasLaw" (87 : Nat) ({ cls := "CalendarReplicas", name := "startOf", desc := "(II)I" } : Jvm.MethodName)) ∈ q_gw := q_gw_of (q_t4 (List.mem_of_getElem? (i := 91) rfl)) rfl
theorem tw_4_92 : (Jvm.Cond.instanceMethod ({ cls := "CalendarReplicas", name := "startOf", desc := "(II)I" } : Jvm.MethodName)) ∈ q_gw := q_gw_of (q_t4 (List.mem_of_getElem? (i := 92) rfl)) rfl
theorem tw_4_93 : (Jvm.Cond.selects "CalendarReplicas" ({ cls := "CalendarReplicas", name := "startOf", desc := "(II)I" } : Jvm.MethodName) ({ cls := "CalendarReplicas", name := "startOf", desc := "(II)I" } : Jvm.MethodName)) ∈ q_gw := q_gw_of (q_t4 (List.mem_of_getElem? (i := 93) rfl)) rfl
theorem tw_4_94 : (Jvm.Cond.code ({ cls := "CalendarReplicas", name := "startOf", desc := "(II)I" } : Jvm.MethodName) prog_1_method_23_code (4 : Nat) (Option.some Jvm.ClassFile.FieldType.int)) ∈ q_gw := q_gw_of (q_t4 (List.mem_of_getElem? (i := 94) rfl)) rfl
theorem tw_4_95 : (Jvm.Cond.methodLink "CalendarReplicasLaw" (91 : Nat) ({ cls := "CalendarReplicas", name := "durationOf", desc := "(II)I" } : Jvm.MethodName)) ∈ q_gw := q_gw_of (q_t4 (List.mem_of_getElem? (i := 95) rfl)) rfl
theorem tw_4_96 : (Jvm.Cond.instanceMethod ({ cls := "CalendarReplicas", name := "durationOf", desc := "(II)I" } : Jvm.MethodName)) ∈ q_gw := q_gw_of (q_t4 (List.mem_of_getElem? (i := 96) rfl)) rfl
theorem tw_4_97 : (Jvm.Cond.selects "CalendarReplicas" ({ cls := "CalendarReplicas", name := "durationOf", desc := "(II)I" } : Jvm.MethodName) ({ cls := "CalendarReplicas", name := "durationOf", desc := "(II)I" } : Jvm.MethodName)) ∈ q_gw := q_gw_of (q_t4 (List.mem_of_getElem? (i := 97) rfl)) rfl
theorem tw_4_98 : (Jvm.Cond.code ({ cls := "CalendarReplicas", name := "durationOf", desc := "(II)I" } : Jvm.MethodName) prog_1_method_24_code (4 : Nat) (Option.some Jvm.ClassFile.FieldType.int)) ∈ q_gw := q_gw_of (q_t4 (List.mem_of_getElem? (i := 98) rfl)) rfl
theorem tw_4_99 : (Jvm.Cond.methodLink "CalendarReplicasLaw" (95 : Nat) ({ cls := "CalendarReplicas", name := "roomOf", desc := "(II)I" } : Jvm.MethodName)) ∈ q_gw := q_gw_of (q_t4 (List.mem_of_getElem? (i := 99) rfl)) rfl
theorem tw_5_0 : (Jvm.Cond.methodLink "java/lang/AbstractStringBuilde\x72" (104 : Nat) ({ cls := "java/lang/AbstractStringBuilde\x72", name := "newCapacity", desc := "(I)I" } : Jvm.MethodName)) ∈ q_gw := q_gw_of (q_t5 (List.mem_of_getElem? (i := 0) rfl)) rfl
theorem tw_5_1 : (Jvm.Cond.privateMethod ({ cls := "java/lang/AbstractStringBuilde\x72", name := "newCapacity", desc := "(I)I" } : Jvm.MethodName)) ∈ lw_tbl := List.mem_append_right _ (q_t5 (List.mem_of_getElem? (i := 1) rfl))
theorem tw_5_10 : (Jvm.Cond.static ({ cls := "jdk/internal/util/ArraysSupport", name := "hugeLength", desc := "(II)I" } : Jvm.MethodName)) ∈ q_gw := q_gw_of (q_t5 (List.mem_of_getElem? (i := 10) rfl)) rfl
theorem tw_5_100 : (Jvm.Cond.methodLink "java/lang/StringBuilde\x72" (53 : Nat) ({ cls := "java/lang/AbstractStringBuilde\x72", name := "append", desc := "(I)Ljava/lang/AbstractStringBuilder;" } : Jvm.MethodName)) ∈ q_gw := q_gw_of (q_t5 (List.mem_of_getElem? (i := 100) rfl)) rfl
theorem tw_5_101 : (Jvm.Cond.instanceMethod ({ cls := "java/lang/AbstractStringBuilde\x72", name := "append", desc := "(I)Ljava/lang/AbstractStringBuilder;" } : Jvm.MethodName)) ∈ q_gw := q_gw_of (q_t5 (List.mem_of_getElem? (i := 101) rfl)) rfl
theorem tw_5_102 : (Jvm.Cond.code ({ cls := "java/lang/AbstractStringBuilde\x72", name := "append", desc := "(I)Ljava/lang/AbstractStringBuilder;" } : Jvm.MethodName) prog_12_method_32_code (4 : Nat) (Option.some (Jvm.ClassFile.FieldType.object "java/lang/AbstractStringBuilde\x72"))) ∈ q_gw := q_gw_of (q_t5 (List.mem_of_getElem? (i := 102) rfl)) rfl
theorem tw_5_103 : (Jvm.Cond.methodLink "java/lang/AbstractStringBuilde\x72" (245 : Nat) ({ cls := "java/lang/Intege\x72", name := "stringSize", desc := "(I)I" } : Jvm.MethodName)) ∈ q_gw := q_gw_of (q_t5 (List.mem_of_getElem? (i := 103) rfl)) rfl
theorem tw_5_104 : (Jvm.Cond.static ({ cls := "java/lang/Intege\x72", name := "stringSize", desc := "(I)I" } : Jvm.MethodName)) ∈ q_gw := q_gw_of (q_t5 (List.mem_of_getElem? (i := 104) rfl)) rfl
theorem tw_5_105 : (Jvm.Cond.code ({ cls := "java/lang/Intege\x72", name := "stringSize", desc := "(I)I" } : Jvm.MethodName) prog_15_method_13_code (4 : Nat) (Option.some Jvm.ClassFile.FieldType.int)) ∈ q_gw := q_gw_of (q_t5 (List.mem_of_getElem? (i := 105) rfl)) rfl
theorem tw_5_106 : (Jvm.Cond.methodLink "java/lang/AbstractStringBuilde\x72" (248 : Nat) ({ cls := "java/lang/Intege\x72", name := "getChars", desc := "(II[B)I" } : Jvm.MethodName)) ∈ q_gw := q_gw_of (q_t5 (List.mem_of_getElem? (i := 106) rfl)) rfl
theorem tw_5_107 : (Jvm.Cond.static ({ cls := "java/lang/Intege\x72", name := "getChars", desc := "(II[B)I" } : Jvm.MethodName)) ∈ q_gw := q_gw_of (q_t5 (List.mem_of_getElem? (i := 107) rfl)) rfl
theorem tw_5_108 : (Jvm.Cond.code ({ cls := "java/lang/Intege\x72", name := "getChars", desc := "(II[B)I" } : Jvm.MethodName) prog_15_method_12_code (7 : Nat) (Option.some Jvm.ClassFile.FieldType.int)) ∈ q_gw := q_gw_of (q_t5 (List.mem_of_getElem? (i := 108) rfl)) rfl
theorem tw_5_109 : (Jvm.Cond.fieldLink "java/lang/Intege\x72" (83 : Nat) "java/lang/Intege\x72" "DigitOnes" "[B") ∈ q_gw := q_gw_of (q_t5 (List.mem_of_getElem? (i := 109) rfl)) rfl
theorem tw_5_11 : (Jvm.Cond.code ({ cls := "jdk/internal/util/ArraysSupport", name := "hugeLength", desc := "(II)I" } : Jvm.MethodName) prog_23_method_28_code (3 : Nat) (Option.some Jvm.ClassFile.FieldType.int)) ∈ q_gw := q_gw_of (q_t5 (List.mem_of_getElem? (i := 11) rfl)) rfl
theorem tw_5_110 : (Jvm.Cond.laysStatic "java/lang/Intege\x72" "DigitOnes" "[B") ∈ lw_tbl := List.mem_append_right _ (q_t5 (List.mem_of_getElem? (i := 110) rfl))
theorem tw_5_111 : (Jvm.Cond.fieldLink "java/lang/Intege\x72" (87 : Nat) "java/lang/Intege\x72" "DigitTens" "[B") ∈ q_gw := q_gw_of (q_t5 (List.mem_of_getElem? (i := 111) rfl)) rfl
theorem tw_5_112 : (Jvm.Cond.laysStatic "java/lang/Intege\x72" "DigitTens" "[B") ∈ lw_tbl := List.mem_append_right _ (q_t5 (List.mem_of_getElem? (i := 112) rfl))
theorem tw_5_113 : (Jvm.Cond.methodLink "java/lang/AbstractStringBuilde\x72" (251 : Nat) ({ cls := "java/lang/StringUTF16", name := "getChars", desc := "(III[B)I" } : Jvm.MethodName)) ∈ q_gw := q_gw_of (q_t5 (List.mem_of_getElem? (i := 113) rfl)) rfl
theorem tw_5_114 : (Jvm.Cond.static ({ cls := "java/lang/StringUTF16", name := "getChars", desc := "(III[B)I" } : Jvm.MethodName)) ∈ q_gw := q_gw_of (q_t5 (List.mem_of_getElem? (i := 114) rfl)) rfl
theorem tw_5_115 : (Jvm.Cond.code ({ cls := "java/lang/StringUTF16", name := "getChars", desc := "(III[B)I" } : Jvm.MethodName) prog_20_method_77_code (5 : Nat) (Option.some Jvm.ClassFile.FieldType.int)) ∈ q_gw := q_gw_of (q_t5 (List.mem_of_getElem? (i := 115) rfl)) rfl
theorem tw_5_116 : (Jvm.Cond.methodLink "java/lang/StringUTF16" (393 : Nat) ({ cls := "java/lang/StringUTF16", name := "getChars", desc := "(II[B)I" } : Jvm.MethodName)) ∈ q_gw := q_gw_of (q_t5 (List.mem_of_getElem? (i := 116) rfl)) rfl
theorem tw_5_117 : (Jvm.Cond.static ({ cls := "java/lang/StringUTF16", name := "getChars", desc := "(II[B)I" } : Jvm.MethodName)) ∈ q_gw := q_gw_of (q_t5 (List.mem_of_getElem? (i := 117) rfl)) rfl
theorem tw_5_118 : (Jvm.Cond.code ({ cls := "java/lang/StringUTF16", name := "getChars", desc := "(II[B)I" } : Jvm.MethodName) prog_20_method_89_code (7 : Nat) (Option.some Jvm.ClassFile.FieldType.int)) ∈ q_gw := q_gw_of (q_t5 (List.mem_of_getElem? (i := 118) rfl)) rfl
theorem tw_5_119 : (Jvm.Cond.fieldLink "java/lang/StringUTF16" (403 : Nat) "java/lang/Intege\x72" "DigitOnes" "[B") ∈ q_gw := q_gw_of (q_t5 (List.mem_of_getElem? (i := 119) rfl)) rfl
theorem tw_5_12 : (Jvm.Cond.constant "java/lang/AbstractStringBuilde\x72" (39 : Nat) (2147483647 : Int32)) ∈ q_gw := q_gw_of (q_t5 (List.mem_of_getElem? (i := 12) rfl)) rfl
theorem tw_5_120 : (Jvm.Cond.fieldLink "java/lang/StringUTF16" (407 : Nat) "java/lang/Intege\x72" "DigitTens" "[B") ∈ q_gw := q_gw_of (q_t5 (List.mem_of_getElem? (i := 120) rfl)) rfl
theorem tw_5_121 : (Jvm.Cond.stringRef "CalendarReplicas" (330 : Nat) " \x72") ∈ lw_tbl := List.mem_append_right _ (q_t5 (List.mem_of_getElem? (i := 121) rfl))
theorem tw_5_122 : (Jvm.Cond.methodLink "CalendarReplicas" (332 : Nat) ({ cls := "java/lang/StringBuilde\x72", name := "append", desc := "(Ljava/lang/String;)Ljava/lang/StringBuilder;" } : Jvm.MethodName)) ∈ q_gw := q_gw_of (q_t5 (List.mem_of_getElem? (i := 122) rfl)) rfl
theorem tw_5_123 : (Jvm.Cond.instanceMethod ({ cls := "java/lang/StringBuilde\x72", name := "append", desc := "(Ljava/lang/String;)Ljava/lang/StringBuilder;" } : Jvm.MethodName)) ∈ q_gw := q_gw_of (q_t5 (List.mem_of_getElem? (i := 123) rfl)) rfl
theorem tw_5_124 : (Jvm.Cond.selects "java/lang/StringBuilde\x72" ({ cls := "java/lang/StringBuilde\x72", name := "append", desc := "(Ljava/lang/String;)Ljava/lang/StringBuilder;" } : Jvm.MethodName) ({ cls := "java/lang/StringBuilde\x72", name := "append", desc := "(Ljava/lang/String;)Ljava/lang/StringBuilder;" } : Jvm.MethodName)) ∈ q_gw := q_gw_of (q_t5 (List.mem_of_getElem? (i := 124) rfl)) rfl
theorem tw_5_125 : (Jvm.Cond.code ({ cls := "java/lang/StringBuilde\x72", name := "append", desc := "(Ljava/lang/String;)Ljava/lang/StringBuilder;" } : Jvm.MethodName) prog_18_method_7_code (2 : Nat) (Option.some (Jvm.ClassFile.FieldType.object "java/lang/StringBuilde\x72"))) ∈ q_gw := q_gw_of (q_t5 (List.mem_of_getElem? (i := 125) rfl)) rfl
theorem tw_5_126 : (Jvm.Cond.methodLink "java/lang/StringBuilde\x72" (29 : Nat) ({ cls := "java/lang/AbstractStringBuilde\x72", name := "append", desc := "(Ljava/lang/String;)Ljava/lang/AbstractStringBuilder;" } : Jvm.MethodName)) ∈ q_gw := q_gw_of (q_t5 (List.mem_of_getElem? (i := 126) rfl)) rfl
theorem tw_5_127 : (Jvm.Cond.instanceMethod ({ cls := "java/lang/AbstractStringBuilde\x72", name := "append", desc := "(Ljava/lang/String;)Ljava/lang/AbstractStringBuilder;" } : Jvm.MethodName)) ∈ q_gw := q_gw_of (q_t5 (List.mem_of_getElem? (i := 127) rfl)) rfl
theorem tw_5_128 : (Jvm.Cond.code ({ cls := "java/lang/AbstractStringBuilde\x72", name := "append", desc := "(Ljava/lang/String;)Ljava/lang/AbstractStringBuilder;" } : Jvm.MethodName) prog_12_method_22_code (3 : Nat) (Option.some (Jvm.ClassFile.FieldType.object "java/lang/AbstractStringBuilde\x72"))) ∈ q_gw := q_gw_of (q_t5 (List.mem_of_getElem? (i := 128) rfl)) rfl
theorem tw_5_129 : (Jvm.Cond.methodLink "java/lang/AbstractStringBuilde\x72" (204 : Nat) ({ cls := "java/lang/AbstractStringBuilde\x72", name := "appendNull", desc := "()Ljava/lang/AbstractStringBuilder;" } : Jvm.MethodName)) ∈ q_gw := q_gw_of (q_t5 (List.mem_of_getElem? (i := 129) rfl)) rfl
theorem tw_5_13 : (Jvm.Cond.methodLink "java/lang/AbstractStringBuilde\x72" (108 : Nat) ({ cls := "java/util/Arrays", name := "copyOf", desc := "([BI)[B" } : Jvm.MethodName)) ∈ q_gw := q_gw_of (q_t5 (List.mem_of_getElem? (i := 13) rfl)) rfl
theorem tw_5_130 : (Jvm.Cond.privateMethod ({ cls := "java/lang/AbstractStringBuilde\x72", name := "appendNull", desc := "()Ljava/lang/AbstractStringBuilder;" } : Jvm.MethodName)) ∈ lw_tbl := List.mem_append_right _ (q_t5 (List.mem_of_getElem? (i := 130) rfl))
theorem tw_5_131 : (Jvm.Cond.instanceMethod ({ cls := "java/lang/AbstractStringBuilde\x72", name := "appendNull", desc := "()Ljava/lang/AbstractStringBuilder;" } : Jvm.MethodName)) ∈ q_gw := q_gw_of (q_t5 (List.mem_of_getElem? (i := 131) rfl)) rfl
theorem tw_5_132 : (Jvm.Cond.code ({ cls := "java/lang/AbstractStringBuilde\x72", name := "appendNull", desc := "()Ljava/lang/AbstractStringBuilder;" } : Jvm.MethodName) prog_12_method_26_code (3 : Nat) (Option.some (Jvm.ClassFile.FieldType.object "java/lang/AbstractStringBuilde\x72"))) ∈ q_gw := q_gw_of (q_t5 (List.mem_of_getElem? (i := 132) rfl)) rfl
theorem tw_5_133 : (Jvm.Cond.methodLink "java/lang/AbstractStringBuilde\x72" (226 : Nat) ({ cls := "java/lang/StringUTF16", name := "putCharsAt", desc := "([BICCCC)I" } : Jvm.MethodName)) ∈ q_gw := q_gw_of (q_t5 (List.mem_of_getElem? (i := 133) rfl)) rfl
theorem tw_5_134 : (Jvm.Cond.static ({ cls := "java/lang/StringUTF16", name := "putCharsAt", desc := "([BICCCC)I" } : Jvm.MethodName)) ∈ q_gw := q_gw_of (q_t5 (List.mem_of_getElem? (i := 134) rfl)) rfl
theorem tw_5_135 : (Jvm.Cond.code ({ cls := "java/lang/StringUTF16", name := "putCharsAt", desc := "([BICCCC)I" } : Jvm.MethodName) prog_20_method_81_code (7 : Nat) (Option.some Jvm.ClassFile.FieldType.int)) ∈ q_gw := q_gw_of (q_t5 (List.mem_of_getElem? (i := 135) rfl)) rfl
theorem tw_5_136 : (Jvm.Cond.methodLink "java/lang/AbstractStringBuilde\x72" (32 : Nat) ({ cls := "java/lang/String", name := "length", desc := "()I" } : Jvm.MethodName)) ∈ q_gw := q_gw_of (q_t5 (List.mem_of_getElem? (i := 136) rfl)) rfl
theorem tw_5_137 : (Jvm.Cond.methodLink "java/lang/AbstractStringBuilde\x72" (208 : Nat) ({ cls := "java/lang/AbstractStringBuilde\x72", name := "putStringAt", desc := "(ILjava/lang/String;)V" } : Jvm.MethodName)) ∈ q_gw := q_gw_of (q_t5 (List.mem_of_getElem? (i := 137) rfl)) rfl
theorem tw_5_138 : (Jvm.Cond.privateMethod ({ cls := "java/lang/AbstractStringBuilde\x72", name := "putStringAt", desc := "(ILjava/lang/String;)V" } : Jvm.MethodName)) ∈ lw_tbl := List.mem_append_right _ (q_t5 (List.mem_of_getElem? (i := 138) rfl))
theorem tw_5_139 : (Jvm.Cond.instanceMethod ({ cls := "java/lang/AbstractStringBuilde\x72", name := "putStringAt", desc := "(ILjava/lang/String;)V" } : Jvm.MethodName)) ∈ q_gw := q_gw_of (q_t5 (List.mem_of_getElem? (i := 139) rfl)) rfl
theorem tw_5_14 : (Jvm.Cond.static ({ cls := "java/util/Arrays", name := "copyOf", desc := "([BI)[B" } : Jvm.MethodName)) ∈ q_gw := q_gw_of (q_t5 (List.mem_of_getElem? (i := 14) rfl)) rfl
theorem tw_5_140 : (Jvm.Cond.code ({ cls := "java/lang/AbstractStringBuilde\x72", name := "putStringAt", desc := "(ILjava/lang/String;)V" } : Jvm.MethodName) prog_12_method_73_code (3 : Nat) (Option.none : Option Jvm.ClassFile.FieldType)) ∈ q_gw := q_gw_of (q_t5 (List.mem_of_getElem? (i := 140) rfl)) rfl
theorem tw_5_141 : (Jvm.Cond.methodLink "java/lang/AbstractStringBuilde\x72" (397 : Nat) ({ cls := "java/lang/AbstractStringBuilde\x72", name := "inflateIfNeededFo\x72", desc := "(Ljava/lang/String;)V" } : Jvm.MethodName)) ∈ q_gw := q_gw_of (q_t5 (List.mem_of_getElem? (i := 141) rfl)) rfl
theorem tw_5_142 : (Jvm.Cond.privateMethod ({ cls := "java/lang/AbstractStringBuilde\x72", name := "inflateIfNeededFo\x72", desc := "(Ljava/lang/String;)V" } : Jvm.MethodName)) ∈ lw_tbl := List.mem_append_right _ (q_t5 (List.mem_of_getElem? (i := 142) rfl))
theorem tw_5_143 : (Jvm.Cond.instanceMethod ({ cls := "java/lang/AbstractStringBuilde\x72", name := "inflateIfNeededFo\x72", desc := "(Ljava/lang/String;)V" } : Jvm.MethodName)) ∈ q_gw := q_gw_of (q_t5 (List.mem_of_getElem? (i := 143) rfl)) rfl
theorem tw_5_144 : (Jvm.Cond.code ({ cls := "java/lang/AbstractStringBuilde\x72", name := "inflateIfNeededFo\x72", desc := "(Ljava/lang/String;)V" } : Jvm.MethodName) prog_12_method_71_code (2 : Nat) (Option.none : Option Jvm.ClassFile.FieldType)) ∈ q_gw := q_gw_of (q_t5 (List.mem_of_getElem? (i := 144) rfl)) rfl
theorem tw_5_145 : (Jvm.Cond.methodLink "java/lang/AbstractStringBuilde\x72" (40 : Nat) ({ cls := "java/lang/String", name := "code\x72", desc := "()B" } : Jvm.MethodName)) ∈ q_gw := q_gw_of (q_t5 (List.mem_of_getElem? (i := 145) rfl)) rfl
theorem tw_5_146 : (Jvm.Cond.methodLink "java/lang/AbstractStringBuilde\x72" (399 : Nat) ({ cls := "java/lang/String", name := "getBytes", desc := "([BIB)V" } : Jvm.MethodName)) ∈ q_gw := q_gw_of (q_t5 (List.mem_of_getElem? (i := 146) rfl)) rfl
theorem tw_5_147 : (Jvm.Cond.instanceMethod ({ cls := "java/lang/String", name := "getBytes", desc := "([BIB)V" } : Jvm.MethodName)) ∈ q_gw := q_gw_of (q_t5 (List.mem_of_getElem? (i := 147) rfl)) rfl
theorem tw_5_148 : (Jvm.Cond.selects "java/lang/String" ({ cls := "java/lang/String", name := "getBytes", desc := "([BIB)V" } : Jvm.MethodName) ({ cls := "java/lang/String", name := "getBytes", desc := "([BIB)V" } : Jvm.MethodName)) ∈ q_gw := q_gw_of (q_t5 (List.mem_of_getElem? (i := 148) rfl)) rfl
theorem tw_5_149 : (Jvm.Cond.code ({ cls := "java/lang/String", name := "getBytes", desc := "([BIB)V" } : Jvm.MethodName) prog_17_method_147_code (4 : Nat) (Option.none : Option Jvm.ClassFile.FieldType)) ∈ q_gw := q_gw_of (q_t5 (List.mem_of_getElem? (i := 149) rfl)) rfl
theorem tw_5_15 : (Jvm.Cond.code ({ cls := "java/util/Arrays", name := "copyOf", desc := "([BI)[B" } : Jvm.MethodName) prog_22_method_121_code (3 : Nat) (Option.some (Jvm.ClassFile.FieldType.array Jvm.ClassFile.FieldType.byte))) ∈ q_gw := q_gw_of (q_t5 (List.mem_of_getElem? (i := 15) rfl)) rfl
theorem tw_5_150 : (Jvm.Cond.methodLink "java/lang/String" (212 : Nat) ({ cls := "java/lang/System", name := "arraycopy", desc := "(Ljava/lang/Object;ILjava/lang/Object;II)V" } : Jvm.MethodName)) ∈ q_gw := q_gw_of (q_t5 (List.mem_of_getElem? (i := 150) rfl)) rfl
theorem tw_5_151 : (Jvm.Cond.methodLink "java/lang/String" (106 : Nat) ({ cls := "java/lang/StringLatin1", name := "inflate", desc := "([BI[BII)V" } : Jvm.MethodName)) ∈ q_gw := q_gw_of (q_t5 (List.mem_of_getElem? (i := 151) rfl)) rfl
theorem tw_5_152 : (Jvm.Cond.stringRef "CalendarReplicas" (335 : Nat) " p") ∈ lw_tbl := List.mem_append_right _ (q_t5 (List.mem_of_getElem? (i := 152) rfl))
theorem tw_5_153 : (Jvm.Cond.stringRef "CalendarReplicas" (337 : Nat) " e") ∈ lw_tbl := List.mem_append_right _ (q_t5 (List.mem_of_getElem? (i := 153) rfl))
theorem tw_5_154 : (Jvm.Cond.methodLink "CalendarReplicasLaw" (195 : Nat) ({ cls := "CalendarReplicas", name := "printed", desc := "(I)I" } : Jvm.MethodName)) ∈ q_gw := q_gw_of (q_t5 (List.mem_of_getElem? (i := 154) rfl)) rfl
theorem tw_5_155 : (Jvm.Cond.instanceMethod ({ cls := "CalendarReplicas", name := "printed", desc := "(I)I" } : Jvm.MethodName)) ∈ q_gw := q_gw_of (q_t5 (List.mem_of_getElem? (i := 155) rfl)) rfl
theorem tw_5_156 : (Jvm.Cond.selects "CalendarReplicas" ({ cls := "CalendarReplicas", name := "printed", desc := "(I)I" } : Jvm.MethodName) ({ cls := "CalendarReplicas", name := "printed", desc := "(I)I" } : Jvm.MethodName)) ∈ q_gw := q_gw_of (q_t5 (List.mem_of_getElem? (i := 156) rfl)) rfl
theorem tw_5_157 : (Jvm.Cond.code ({ cls := "CalendarReplicas", name := "printed", desc := "(I)I" } : Jvm.MethodName) prog_1_method_56_code (2 : Nat) (Option.some Jvm.ClassFile.FieldType.int)) ∈ q_gw := q_gw_of (q_t5 (List.mem_of_getElem? (i := 157) rfl)) rfl
theorem tw_5_158 : (Jvm.Cond.methodLink "CalendarReplicas" (339 : Nat) ({ cls := "java/lang/StringBuilde\x72", name := "charAt", desc := "(I)C" } : Jvm.MethodName)) ∈ q_gw := q_gw_of (q_t5 (List.mem_of_getElem? (i := 158) rfl)) rfl
theorem tw_5_159 : (Jvm.Cond.methodLink "CalendarReplicasLaw" (199 : Nat) ({ cls := "CalendarReplicas", name := "keep", desc := "(I)I" } : Jvm.MethodName)) ∈ q_gw := q_gw_of (q_t5 (List.mem_of_getElem? (i := 159) rfl)) rfl
theorem tw_5_16 : (Jvm.Cond.methodLink "java/util/Arrays" (310 : Nat) ({ cls := "[B", name := "clone", desc := "()Ljava/lang/Object;" } : Jvm.MethodName)) ∈ q_gw := q_gw_of (q_t5 (List.mem_of_getElem? (i := 16) rfl)) rfl
theorem tw_5_160 : (Jvm.Cond.instanceMethod ({ cls := "CalendarReplicas", name := "keep", desc := "(I)I" } : Jvm.MethodName)) ∈ q_gw := q_gw_of (q_t5 (List.mem_of_getElem? (i := 160) rfl)) rfl
theorem tw_5_161 : (Jvm.Cond.selects "CalendarReplicas" ({ cls := "CalendarReplicas", name := "keep", desc := "(I)I" } : Jvm.MethodName) ({ cls := "CalendarReplicas", name := "keep", desc := "(I)I" } : Jvm.MethodName)) ∈ q_gw := q_gw_of (q_t5 (List.mem_of_getElem? (i := 161) rfl)) rfl
theorem tw_5_162 : (Jvm.Cond.code ({ cls := "CalendarReplicas", name := "keep", desc := "(I)I" } : Jvm.MethodName) prog_1_method_57_code (2 : Nat) (Option.some Jvm.ClassFile.FieldType.int)) ∈ q_gw := q_gw_of (q_t5 (List.mem_of_getElem? (i := 162) rfl)) rfl
theorem tw_5_163 : (Jvm.Cond.methodLink "CalendarReplicas" (343 : Nat) ({ cls := "CalendarReplicas$World", name := "copyFrom", desc := "(LCalendarReplicas$World;)V" } : Jvm.MethodName)) ∈ q_gw := q_gw_of (q_t5 (List.mem_of_getElem? (i := 163) rfl)) rfl
theorem tw_5_164 : (Jvm.Cond.instanceMethod ({ cls := "CalendarReplicas$World", name := "copyFrom", desc := "(LCalendarReplicas$World;)V" } : Jvm.MethodName)) ∈ q_gw := q_gw_of (q_t5 (List.mem_of_getElem? (i := 164) rfl)) rfl
theorem tw_5_165 : (Jvm.Cond.selects "CalendarReplicas$World" ({ cls := "CalendarReplicas$World", name := "copyFrom", desc := "(LCalendarReplicas$World;)V" } : Jvm.MethodName) ({ cls := "CalendarReplicas$World", name := "copyFrom", desc := "(LCalendarReplicas$World;)V" } : Jvm.MethodName)) ∈ q_gw := q_gw_of (q_t5 (List.mem_of_getElem? (i := 165) rfl)) rfl
theorem tw_5_166 : (Jvm.Cond.code ({ cls := "CalendarReplicas$World", name := "copyFrom", desc := "(LCalendarReplicas$World;)V" } : Jvm.MethodName) prog_9_method_2_code (3 : Nat) (Option.none : Option Jvm.ClassFile.FieldType)) ∈ q_gw := q_gw_of (q_t5 (List.mem_of_getElem? (i := 166) rfl)) rfl
theorem tw_5_167 : (Jvm.Cond.methodLink "CalendarReplicas$World" (41 : Nat) ({ cls := "CalendarReplicas$Rules", name := "copyFrom", desc := "(LCalendarReplicas$Rules;)V" } : Jvm.MethodName)) ∈ q_gw := q_gw_of (q_t5 (List.mem_of_getElem? (i := 167) rfl)) rfl
theorem tw_5_168 : (Jvm.Cond.instanceMethod ({ cls := "CalendarReplicas$Rules", name := "copyFrom", desc := "(LCalendarReplicas$Rules;)V" } : Jvm.MethodName)) ∈ q_gw := q_gw_of (q_t5 (List.mem_of_getElem? (i := 168) rfl)) rfl
theorem tw_5_169 : (Jvm.Cond.selects "CalendarReplicas$Rules" ({ cls := "CalendarReplicas$Rules", name := "copyFrom", desc := "(LCalendarReplicas$Rules;)V" } : Jvm.MethodName) ({ cls := "CalendarReplicas$Rules", name := "copyFrom", desc := "(LCalendarReplicas$Rules;)V" } : Jvm.MethodName)) ∈ q_gw := q_gw_of (q_t5 (List.mem_of_getElem? (i := 169) rfl)) rfl
theorem tw_5_17 : (Jvm.Cond.sameMethod "[B" "java/lang/Object" "clone" "()Ljava/lang/Object;") ∈ q_gw := q_gw_of (q_t5 (List.mem_of_getElem? (i := 17) rfl)) rfl
theorem tw_5_170 : (Jvm.Cond.code ({ cls := "CalendarReplicas$Rules", name := "copyFrom", desc := "(LCalendarReplicas$Rules;)V" } : Jvm.MethodName) prog_7_method_2_code (2 : Nat) (Option.none : Option Jvm.ClassFile.FieldType)) ∈ q_gw := q_gw_of (q_t5 (List.mem_of_getElem? (i := 170) rfl)) rfl
theorem tw_5_171 : (Jvm.Cond.methodLink "CalendarReplicas$Rules" (33 : Nat) ({ cls := "java/lang/System", name := "arraycopy", desc := "(Ljava/lang/Object;ILjava/lang/Object;II)V" } : Jvm.MethodName)) ∈ q_gw := q_gw_of (q_t5 (List.mem_of_getElem? (i := 171) rfl)) rfl
theorem tw_5_172 : (Jvm.Cond.methodLink "CalendarReplicas$World" (52 : Nat) ({ cls := "java/lang/Math", name := "min", desc := "(II)I" } : Jvm.MethodName)) ∈ q_gw := q_gw_of (q_t5 (List.mem_of_getElem? (i := 172) rfl)) rfl
theorem tw_5_173 : (Jvm.Cond.methodLink "CalendarReplicas$World" (61 : Nat) ({ cls := "CalendarReplicas$Edit", name := "copyFrom", desc := "(LCalendarReplicas$Edit;)V" } : Jvm.MethodName)) ∈ q_gw := q_gw_of (q_t5 (List.mem_of_getElem? (i := 173) rfl)) rfl
theorem tw_5_174 : (Jvm.Cond.instanceMethod ({ cls := "CalendarReplicas$Edit", name := "copyFrom", desc := "(LCalendarReplicas$Edit;)V" } : Jvm.MethodName)) ∈ q_gw := q_gw_of (q_t5 (List.mem_of_getElem? (i := 174) rfl)) rfl
theorem tw_5_175 : (Jvm.Cond.selects "CalendarReplicas$Edit" ({ cls := "CalendarReplicas$Edit", name := "copyFrom", desc := "(LCalendarReplicas$Edit;)V" } : Jvm.MethodName) ({ cls := "CalendarReplicas$Edit", name := "copyFrom", desc := "(LCalendarReplicas$Edit;)V" } : Jvm.MethodName)) ∈ q_gw := q_gw_of (q_t5 (List.mem_of_getElem? (i := 175) rfl)) rfl
theorem tw_5_176 : (Jvm.Cond.code ({ cls := "CalendarReplicas$Edit", name := "copyFrom", desc := "(LCalendarReplicas$Edit;)V" } : Jvm.MethodName) prog_4_method_3_code (2 : Nat) (Option.none : Option Jvm.ClassFile.FieldType)) ∈ q_gw := q_gw_of (q_t5 (List.mem_of_getElem? (i := 176) rfl)) rfl
theorem tw_5_177 : (Jvm.Cond.methodLink "CalendarReplicas$Edit" (37 : Nat) ({ cls := "CalendarReplicas$Edit", name := "fill", desc := "(IIIIII)V" } : Jvm.MethodName)) ∈ q_gw := q_gw_of (q_t5 (List.mem_of_getElem? (i := 177) rfl)) rfl
theorem tw_5_178 : (Jvm.Cond.methodLink "CalendarReplicas$Edit" (47 : Nat) ({ cls := "CalendarReplicas$Meeting", name := "copyFrom", desc := "(LCalendarReplicas$Meeting;)V" } : Jvm.MethodName)) ∈ q_gw := q_gw_of (q_t5 (List.mem_of_getElem? (i := 178) rfl)) rfl
theorem tw_5_179 : (Jvm.Cond.methodLink "CalendarReplicas$World" (64 : Nat) ({ cls := "java/lang/System", name := "arraycopy", desc := "(Ljava/lang/Object;ILjava/lang/Object;II)V" } : Jvm.MethodName)) ∈ q_gw := q_gw_of (q_t5 (List.mem_of_getElem? (i := 179) rfl)) rfl
theorem tw_5_18 : (Jvm.Cond.native ({ cls := "java/lang/Object", name := "clone", desc := "()Ljava/lang/Object;" } : Jvm.MethodName)) ∈ q_gw := q_gw_of (q_t5 (List.mem_of_getElem? (i := 18) rfl)) rfl
theorem tw_5_180 : (Jvm.Cond.methodLink "CalendarReplicasLaw" (203 : Nat) ({ cls := "CalendarReplicas", name := "restore", desc := "(I)I" } : Jvm.MethodName)) ∈ q_gw := q_gw_of (q_t5 (List.mem_of_getElem? (i := 180) rfl)) rfl
theorem tw_5_181 : (Jvm.Cond.instanceMethod ({ cls := "CalendarReplicas", name := "restore", desc := "(I)I" } : Jvm.MethodName)) ∈ q_gw := q_gw_of (q_t5 (List.mem_of_getElem? (i := 181) rfl)) rfl
theorem tw_5_182 : (Jvm.Cond.selects "CalendarReplicas" ({ cls := "CalendarReplicas", name := "restore", desc := "(I)I" } : Jvm.MethodName) ({ cls := "CalendarReplicas", name := "restore", desc := "(I)I" } : Jvm.MethodName)) ∈ q_gw := q_gw_of (q_t5 (List.mem_of_getElem? (i := 182) rfl)) rfl
theorem tw_5_183 : (Jvm.Cond.code ({ cls := "CalendarReplicas", name := "restore", desc := "(I)I" } : Jvm.MethodName) prog_1_method_58_code (2 : Nat) (Option.some Jvm.ClassFile.FieldType.int)) ∈ q_gw := q_gw_of (q_t5 (List.mem_of_getElem? (i := 183) rfl)) rfl
theorem tw_5_184 : (Jvm.Cond.methodLink "CalendarReplicasLaw" (207 : Nat) ({ cls := "CalendarReplicas", name := "checksum", desc := "()J" } : Jvm.MethodName)) ∈ q_gw := q_gw_of (q_t5 (List.mem_of_getElem? (i := 184) rfl)) rfl
theorem tw_5_185 : (Jvm.Cond.instanceMethod ({ cls := "CalendarReplicas", name := "checksum", desc := "()J" } : Jvm.MethodName)) ∈ q_gw := q_gw_of (q_t5 (List.mem_of_getElem? (i := 185) rfl)) rfl
theorem tw_5_186 : (Jvm.Cond.selects "CalendarReplicas" ({ cls := "CalendarReplicas", name := "checksum", desc := "()J" } : Jvm.MethodName) ({ cls := "CalendarReplicas", name := "checksum", desc := "()J" } : Jvm.MethodName)) ∈ q_gw := q_gw_of (q_t5 (List.mem_of_getElem? (i := 186) rfl)) rfl
theorem tw_5_187 : (Jvm.Cond.code ({ cls := "CalendarReplicas", name := "checksum", desc := "()J" } : Jvm.MethodName) prog_1_method_59_code (4 : Nat) (Option.some Jvm.ClassFile.FieldType.long)) ∈ q_gw := q_gw_of (q_t5 (List.mem_of_getElem? (i := 187) rfl)) rfl
theorem tw_5_188 : (Jvm.Cond.constantLong "CalendarReplicas" (346 : Nat) (37 : Int64)) ∈ q_gw := q_gw_of (q_t5 (List.mem_of_getElem? (i := 188) rfl)) rfl
theorem tw_5_189 : (Jvm.Cond.methodLink "CalendarReplicas" (348 : Nat) ({ cls := "CalendarReplicas", name := "mix", desc := "(JJ)J" } : Jvm.MethodName)) ∈ q_gw := q_gw_of (q_t5 (List.mem_of_getElem? (i := 189) rfl)) rfl
theorem tw_5_19 : (Jvm.Cond.instanceMethod ({ cls := "java/lang/Object", name := "clone", desc := "()Ljava/lang/Object;" } : Jvm.MethodName)) ∈ q_gw := q_gw_of (q_t5 (List.mem_of_getElem? (i := 19) rfl)) rfl
theorem tw_5_190 : (Jvm.Cond.static ({ cls := "CalendarReplicas", name := "mix", desc := "(JJ)J" } : Jvm.MethodName)) ∈ q_gw := q_gw_of (q_t5 (List.mem_of_getElem? (i := 190) rfl)) rfl
theorem tw_5_191 : (Jvm.Cond.code ({ cls := "CalendarReplicas", name := "mix", desc := "(JJ)J" } : Jvm.MethodName) prog_1_method_63_code (4 : Nat) (Option.some Jvm.ClassFile.FieldType.long)) ∈ q_gw := q_gw_of (q_t5 (List.mem_of_getElem? (i := 191) rfl)) rfl
theorem tw_5_192 : (Jvm.Cond.constantLong "CalendarReplicas" (369 : Nat) (31 : Int64)) ∈ q_gw := q_gw_of (q_t5 (List.mem_of_getElem? (i := 192) rfl)) rfl
theorem tw_5_193 : (Jvm.Cond.methodLink "CalendarReplicas" (352 : Nat) ({ cls := "CalendarReplicas", name := "mixEdit", desc := "(JI)J" } : Jvm.MethodName)) ∈ q_gw := q_gw_of (q_t5 (List.mem_of_getElem? (i := 193) rfl)) rfl
theorem tw_5_194 : (Jvm.Cond.privateMethod ({ cls := "CalendarReplicas", name := "mixEdit", desc := "(JI)J" } : Jvm.MethodName)) ∈ lw_tbl := List.mem_append_right _ (q_t5 (List.mem_of_getElem? (i := 194) rfl))
theorem tw_5_195 : (Jvm.Cond.instanceMethod ({ cls := "CalendarReplicas", name := "mixEdit", desc := "(JI)J" } : Jvm.MethodName)) ∈ q_gw := q_gw_of (q_t5 (List.mem_of_getElem? (i := 195) rfl)) rfl
theorem tw_5_196 : (Jvm.Cond.code ({ cls := "CalendarReplicas", name := "mixEdit", desc := "(JI)J" } : Jvm.MethodName) prog_1_method_60_code (8 : Nat) (Option.some Jvm.ClassFile.FieldType.long)) ∈ q_gw := q_gw_of (q_t5 (List.mem_of_getElem? (i := 196) rfl)) rfl
theorem tw_5_197 : (Jvm.Cond.methodLink "CalendarReplicas" (356 : Nat) ({ cls := "CalendarReplicas", name := "mixReplica", desc := "(JI)J" } : Jvm.MethodName)) ∈ q_gw := q_gw_of (q_t5 (List.mem_of_getElem? (i := 197) rfl)) rfl
theorem tw_5_198 : (Jvm.Cond.privateMethod ({ cls := "CalendarReplicas", name := "mixReplica", desc := "(JI)J" } : Jvm.MethodName)) ∈ lw_tbl := List.mem_append_right _ (q_t5 (List.mem_of_getElem? (i := 198) rfl))
theorem tw_5_199 : (Jvm.Cond.instanceMethod ({ cls := "CalendarReplicas", name := "mixReplica", desc := "(JI)J" } : Jvm.MethodName)) ∈ q_gw := q_gw_of (q_t5 (List.mem_of_getElem? (i := 199) rfl)) rfl
theorem tw_5_2 : (Jvm.Cond.instanceMethod ({ cls := "java/lang/AbstractStringBuilde\x72", name := "newCapacity", desc := "(I)I" } : Jvm.MethodName)) ∈ q_gw := q_gw_of (q_t5 (List.mem_of_getElem? (i := 2) rfl)) rfl
theorem tw_5_20 : (Jvm.Cond.selects "[B" ({ cls := "[B", name := "clone", desc := "()Ljava/lang/Object;" } : Jvm.MethodName) ({ cls := "java/lang/Object", name := "clone", desc := "()Ljava/lang/Object;" } : Jvm.MethodName)) ∈ q_gw := q_gw_of (q_t5 (List.mem_of_getElem? (i := 20) rfl)) rfl
theorem tw_5_200 : (Jvm.Cond.code ({ cls := "CalendarReplicas", name := "mixReplica", desc := "(JI)J" } : Jvm.MethodName) prog_1_method_61_code (8 : Nat) (Option.some Jvm.ClassFile.FieldType.long)) ∈ q_gw := q_gw_of (q_t5 (List.mem_of_getElem? (i := 200) rfl)) rfl
theorem tw_5_201 : (Jvm.Cond.methodLink "CalendarReplicas" (359 : Nat) ({ cls := "CalendarReplicas", name := "acceptedWeight", desc := "(I)I" } : Jvm.MethodName)) ∈ q_gw := q_gw_of (q_t5 (List.mem_of_getElem? (i := 201) rfl)) rfl
theorem tw_5_202 : (Jvm.Cond.methodLink "CalendarReplicas" (362 : Nat) ({ cls := "CalendarReplicas", name := "rejectedWeight", desc := "(I)I" } : Jvm.MethodName)) ∈ q_gw := q_gw_of (q_t5 (List.mem_of_getElem? (i := 202) rfl)) rfl
theorem tw_5_203 : (Jvm.Cond.methodLink "CalendarReplicas" (365 : Nat) ({ cls := "CalendarReplicas", name := "mixMeeting", desc := "(JLCalendarReplicas$Meeting;)J" } : Jvm.MethodName)) ∈ q_gw := q_gw_of (q_t5 (List.mem_of_getElem? (i := 203) rfl)) rfl
theorem tw_5_204 : (Jvm.Cond.static ({ cls := "CalendarReplicas", name := "mixMeeting", desc := "(JLCalendarReplicas$Meeting;)J" } : Jvm.MethodName)) ∈ q_gw := q_gw_of (q_t5 (List.mem_of_getElem? (i := 204) rfl)) rfl
theorem tw_5_205 : (Jvm.Cond.code ({ cls := "CalendarReplicas", name := "mixMeeting", desc := "(JLCalendarReplicas$Meeting;)J" } : Jvm.MethodName) prog_1_method_62_code (5 : Nat) (Option.some Jvm.ClassFile.FieldType.long)) ∈ q_gw := q_gw_of (q_t5 (List.mem_of_getElem? (i := 205) rfl)) rfl
theorem tw_5_206 : (Jvm.Cond.classLink "CalendarReplicasLaw" (10 : Nat) "CalendarReplicasModel") ∈ q_gw := q_gw_of (q_t5 (List.mem_of_getElem? (i := 206) rfl)) rfl
theorem tw_5_207 : (Jvm.Cond.instantiable "CalendarReplicasModel" (21 : Nat)) ∈ q_gw := q_gw_of (q_t5 (List.mem_of_getElem? (i := 207) rfl)) rfl
theorem tw_5_208 : (Jvm.Cond.methodLink "CalendarReplicasLaw" (12 : Nat) ({ cls := "CalendarReplicasModel", name := "<init>", desc := "()V" } : Jvm.MethodName)) ∈ q_gw := q_gw_of (q_t5 (List.mem_of_getElem? (i := 208) rfl)) rfl
theorem tw_5_209 : (Jvm.Cond.instanceMethod ({ cls := "CalendarReplicasModel", name := "<init>", desc := "()V" } : Jvm.MethodName)) ∈ q_gw := q_gw_of (q_t5 (List.mem_of_getElem? (i := 209) rfl)) rfl
theorem tw_5_21 : (Jvm.Cond.castable "[B" "java/lang/Cloneable") ∈ lw_tbl := List.mem_append_right _ (q_t5 (List.mem_of_getElem? (i := 21) rfl))
theorem tw_5_210 : (Jvm.Cond.code ({ cls := "CalendarReplicasModel", name := "<init>", desc := "()V" } : Jvm.MethodName) prog_11_method_1_code (2 : Nat) (Option.none : Option Jvm.ClassFile.FieldType)) ∈ q_gw := q_gw_of (q_t5 (List.mem_of_getElem? (i := 210) rfl)) rfl
theorem tw_5_211 : (Jvm.Cond.methodLink "CalendarReplicasModel" (1 : Nat) ({ cls := "java/lang/Object", name := "<init>", desc := "()V" } : Jvm.MethodName)) ∈ q_gw := q_gw_of (q_t5 (List.mem_of_getElem? (i := 211) rfl)) rfl
theorem tw_5_212 : (Jvm.Cond.fieldLink "CalendarReplicasModel" (7 : Nat) "CalendarReplicasModel" "v" "[I") ∈ q_gw := q_gw_of (q_t5 (List.mem_of_getElem? (i := 212) rfl)) rfl
theorem tw_5_213 : (Jvm.Cond.fieldLink "CalendarReplicasModel" (13 : Nat) "CalendarReplicasModel" "kept" "[I") ∈ q_gw := q_gw_of (q_t5 (List.mem_of_getElem? (i := 213) rfl)) rfl
theorem tw_5_214 : (Jvm.Cond.fieldLink "CalendarReplicasModel" (16 : Nat) "CalendarReplicasModel" "isKept" "[Z") ∈ q_gw := q_gw_of (q_t5 (List.mem_of_getElem? (i := 214) rfl)) rfl
theorem tw_5_215 : (Jvm.Cond.fieldLink "CalendarReplicasModel" (20 : Nat) "CalendarReplicasModel" "text" "[I") ∈ q_gw := q_gw_of (q_t5 (List.mem_of_getElem? (i := 215) rfl)) rfl
theorem tw_5_216 : (Jvm.Cond.fieldLink "CalendarReplicasModel" (187 : Nat) "CalendarReplicasModel" "length" "I") ∈ q_gw := q_gw_of (q_t5 (List.mem_of_getElem? (i := 216) rfl)) rfl
theorem tw_5_217 : (Jvm.Cond.fieldLink "CalendarReplicasModel" (23 : Nat) "CalendarReplicasModel" "pape\x72" "[I") ∈ q_gw := q_gw_of (q_t5 (List.mem_of_getElem? (i := 217) rfl)) rfl
theorem tw_5_218 : (Jvm.Cond.fieldLink "CalendarReplicasModel" (215 : Nat) "CalendarReplicasModel" "printed" "I") ∈ q_gw := q_gw_of (q_t5 (List.mem_of_getElem? (i := 218) rfl)) rfl
theorem tw_5_219 : (Jvm.Cond.fieldLink "CalendarReplicasModel" (46 : Nat) "CalendarReplicasModel" "many" "I") ∈ q_gw := q_gw_of (q_t5 (List.mem_of_getElem? (i := 219) rfl)) rfl
theorem tw_5_22 : (Jvm.Cond.classLink "java/util/Arrays" (311 : Nat) "[B") ∈ q_gw := q_gw_of (q_t5 (List.mem_of_getElem? (i := 22) rfl)) rfl
theorem tw_5_220 : (Jvm.Cond.fieldLink "CalendarReplicasModel" (26 : Nat) "CalendarReplicasModel" "m" "[I") ∈ q_gw := q_gw_of (q_t5 (List.mem_of_getElem? (i := 220) rfl)) rfl
theorem tw_5_221 : (Jvm.Cond.fieldLink "CalendarReplicasModel" (29 : Nat) "CalendarReplicasModel" "low" "[J") ∈ q_gw := q_gw_of (q_t5 (List.mem_of_getElem? (i := 221) rfl)) rfl
theorem tw_5_222 : (Jvm.Cond.fieldLink "CalendarReplicasModel" (33 : Nat) "CalendarReplicasModel" "high" "[J") ∈ q_gw := q_gw_of (q_t5 (List.mem_of_getElem? (i := 222) rfl)) rfl
theorem tw_5_223 : (Jvm.Cond.fieldLink "CalendarReplicasModel" (143 : Nat) "CalendarReplicasModel" "toldStart" "I") ∈ q_gw := q_gw_of (q_t5 (List.mem_of_getElem? (i := 223) rfl)) rfl
theorem tw_5_224 : (Jvm.Cond.fieldLink "CalendarReplicasModel" (146 : Nat) "CalendarReplicasModel" "toldDuration" "I") ∈ q_gw := q_gw_of (q_t5 (List.mem_of_getElem? (i := 224) rfl)) rfl
theorem tw_5_225 : (Jvm.Cond.fieldLink "CalendarReplicasModel" (149 : Nat) "CalendarReplicasModel" "toldRoom" "I") ∈ q_gw := q_gw_of (q_t5 (List.mem_of_getElem? (i := 225) rfl)) rfl
theorem tw_5_226 : (Jvm.Cond.fieldLink "CalendarReplicasModel" (152 : Nat) "CalendarReplicasModel" "toldPersons" "I") ∈ q_gw := q_gw_of (q_t5 (List.mem_of_getElem? (i := 226) rfl)) rfl
theorem tw_5_227 : (Jvm.Cond.fieldLink "CalendarReplicasModel" (155 : Nat) "CalendarReplicasModel" "toldWeight" "I") ∈ q_gw := q_gw_of (q_t5 (List.mem_of_getElem? (i := 227) rfl)) rfl
theorem tw_5_228 : (Jvm.Cond.fieldLink "CalendarReplicasModel" (123 : Nat) "CalendarReplicasModel" "toldPeriod" "I") ∈ q_gw := q_gw_of (q_t5 (List.mem_of_getElem? (i := 228) rfl)) rfl
theorem tw_5_229 : (Jvm.Cond.fieldLink "CalendarReplicasModel" (126 : Nat) "CalendarReplicasModel" "toldCount" "I") ∈ q_gw := q_gw_of (q_t5 (List.mem_of_getElem? (i := 229) rfl)) rfl
theorem tw_5_23 : (Jvm.Cond.methodLink "java/util/Arrays" (304 : Nat) ({ cls := "java/lang/Math", name := "min", desc := "(II)I" } : Jvm.MethodName)) ∈ q_gw := q_gw_of (q_t5 (List.mem_of_getElem? (i := 23) rfl)) rfl
theorem tw_5_230 : (Jvm.Cond.fieldLink "CalendarReplicasModel" (190 : Nat) "CalendarReplicasModel" "place" "I") ∈ q_gw := q_gw_of (q_t5 (List.mem_of_getElem? (i := 230) rfl)) rfl
theorem tw_5_231 : (Jvm.Cond.fieldLink "CalendarReplicasModel" (36 : Nat) "CalendarReplicasModel" "taken" "[I") ∈ q_gw := q_gw_of (q_t5 (List.mem_of_getElem? (i := 231) rfl)) rfl
theorem tw_5_232 : (Jvm.Cond.fieldLink "CalendarReplicasModel" (39 : Nat) "CalendarReplicasModel" "used" "[I") ∈ q_gw := q_gw_of (q_t5 (List.mem_of_getElem? (i := 232) rfl)) rfl
theorem tw_5_233 : (Jvm.Cond.laysFinal "CalendarReplicasModel" "CalendarReplicasModel" "v" "[I") ∈ q_gw := q_gw_of (q_t5 (List.mem_of_getElem? (i := 233) rfl)) rfl
theorem tw_5_234 : (Jvm.Cond.soleField "CalendarReplicasModel" "v") ∈ q_gw := q_gw_of (q_t5 (List.mem_of_getElem? (i := 234) rfl)) rfl
theorem tw_5_235 : (Jvm.Cond.laysFinal "CalendarReplicasModel" "CalendarReplicasModel" "kept" "[I") ∈ q_gw := q_gw_of (q_t5 (List.mem_of_getElem? (i := 235) rfl)) rfl
theorem tw_5_236 : (Jvm.Cond.soleField "CalendarReplicasModel" "kept") ∈ q_gw := q_gw_of (q_t5 (List.mem_of_getElem? (i := 236) rfl)) rfl
theorem tw_5_237 : (Jvm.Cond.laysFinal "CalendarReplicasModel" "CalendarReplicasModel" "isKept" "[Z") ∈ q_gw := q_gw_of (q_t5 (List.mem_of_getElem? (i := 237) rfl)) rfl
theorem tw_5_238 : (Jvm.Cond.soleField "CalendarReplicasModel" "isKept") ∈ q_gw := q_gw_of (q_t5 (List.mem_of_getElem? (i := 238) rfl)) rfl
theorem tw_5_239 : (Jvm.Cond.laysFinal "CalendarReplicasModel" "CalendarReplicasModel" "text" "[I") ∈ q_gw := q_gw_of (q_t5 (List.mem_of_getElem? (i := 239) rfl)) rfl
theorem tw_5_24 : (Jvm.Cond.methodLink "java/util/Arrays" (150 : Nat) ({ cls := "java/lang/System", name := "arraycopy", desc := "(Ljava/lang/Object;ILjava/lang/Object;II)V" } : Jvm.MethodName)) ∈ q_gw := q_gw_of (q_t5 (List.mem_of_getElem? (i := 24) rfl)) rfl
theorem tw_5_25 : (Jvm.Cond.static ({ cls := "java/lang/System", name := "arraycopy", desc := "(Ljava/lang/Object;ILjava/lang/Object;II)V" } : Jvm.MethodName)) ∈ q_gw := q_gw_of (q_t5 (List.mem_of_getElem? (i := 25) rfl)) rfl
theorem tw_5_26 : (Jvm.Cond.native ({ cls := "java/lang/System", name := "arraycopy", desc := "(Ljava/lang/Object;ILjava/lang/Object;II)V" } : Jvm.MethodName)) ∈ q_gw := q_gw_of (q_t5 (List.mem_of_getElem? (i := 26) rfl)) rfl
theorem tw_5_27 : (Jvm.Cond.methodLink "java/lang/AbstractStringBuilde\x72" (83 : Nat) ({ cls := "java/lang/AbstractStringBuilde\x72", name := "isLatin1", desc := "()Z" } : Jvm.MethodName)) ∈ q_gw := q_gw_of (q_t5 (List.mem_of_getElem? (i := 27) rfl)) rfl
theorem tw_5_28 : (Jvm.Cond.instanceMethod ({ cls := "java/lang/AbstractStringBuilde\x72", name := "isLatin1", desc := "()Z" } : Jvm.MethodName)) ∈ q_gw := q_gw_of (q_t5 (List.mem_of_getElem? (i := 28) rfl)) rfl
theorem tw_5_29 : (Jvm.Cond.sameMethod "java/lang/AbstractStringBuilde\x72" "java/lang/AbstractStringBuilde\x72" "isLatin1" "()Z") ∈ q_gw := q_gw_of (q_t5 (List.mem_of_getElem? (i := 29) rfl)) rfl
theorem tw_5_3 : (Jvm.Cond.code ({ cls := "java/lang/AbstractStringBuilde\x72", name := "newCapacity", desc := "(I)I" } : Jvm.MethodName) prog_12_method_10_code (6 : Nat) (Option.some Jvm.ClassFile.FieldType.int)) ∈ q_gw := q_gw_of (q_t5 (List.mem_of_getElem? (i := 3) rfl)) rfl
theorem tw_5_30 : (Jvm.Cond.selects "java/lang/StringBuilde\x72" ({ cls := "java/lang/AbstractStringBuilde\x72", name := "isLatin1", desc := "()Z" } : Jvm.MethodName) ({ cls := "java/lang/AbstractStringBuilde\x72", name := "isLatin1", desc := "()Z" } : Jvm.MethodName)) ∈ q_gw := q_gw_of (q_t5 (List.mem_of_getElem? (i := 30) rfl)) rfl
theorem tw_5_31 : (Jvm.Cond.code ({ cls := "java/lang/AbstractStringBuilde\x72", name := "isLatin1", desc := "()Z" } : Jvm.MethodName) prog_12_method_68_code (1 : Nat) (Option.some Jvm.ClassFile.FieldType.boolean)) ∈ q_gw := q_gw_of (q_t5 (List.mem_of_getElem? (i := 31) rfl)) rfl
theorem tw_5_32 : (Jvm.Cond.methodLink "java/lang/AbstractStringBuilde\x72" (191 : Nat) ({ cls := "java/lang/StringLatin1", name := "canEncode", desc := "(C)Z" } : Jvm.MethodName)) ∈ q_gw := q_gw_of (q_t5 (List.mem_of_getElem? (i := 32) rfl)) rfl
theorem tw_5_33 : (Jvm.Cond.static ({ cls := "java/lang/StringLatin1", name := "canEncode", desc := "(C)Z" } : Jvm.MethodName)) ∈ q_gw := q_gw_of (q_t5 (List.mem_of_getElem? (i := 33) rfl)) rfl
theorem tw_5_34 : (Jvm.Cond.code ({ cls := "java/lang/StringLatin1", name := "canEncode", desc := "(C)Z" } : Jvm.MethodName) prog_19_method_3_code (1 : Nat) (Option.some Jvm.ClassFile.FieldType.boolean)) ∈ q_gw := q_gw_of (q_t5 (List.mem_of_getElem? (i := 34) rfl)) rfl
theorem tw_5_35 : (Jvm.Cond.methodLink "java/lang/AbstractStringBuilde\x72" (195 : Nat) ({ cls := "java/lang/AbstractStringBuilde\x72", name := "inflate", desc := "()V" } : Jvm.MethodName)) ∈ q_gw := q_gw_of (q_t5 (List.mem_of_getElem? (i := 35) rfl)) rfl
theorem tw_5_36 : (Jvm.Cond.privateMethod ({ cls := "java/lang/AbstractStringBuilde\x72", name := "inflate", desc := "()V" } : Jvm.MethodName)) ∈ lw_tbl := List.mem_append_right _ (q_t5 (List.mem_of_getElem? (i := 36) rfl))
theorem tw_5_37 : (Jvm.Cond.instanceMethod ({ cls := "java/lang/AbstractStringBuilde\x72", name := "inflate", desc := "()V" } : Jvm.MethodName)) ∈ q_gw := q_gw_of (q_t5 (List.mem_of_getElem? (i := 37) rfl)) rfl
theorem tw_5_38 : (Jvm.Cond.code ({ cls := "java/lang/AbstractStringBuilde\x72", name := "inflate", desc := "()V" } : Jvm.MethodName) prog_12_method_11_code (2 : Nat) (Option.none : Option Jvm.ClassFile.FieldType)) ∈ q_gw := q_gw_of (q_t5 (List.mem_of_getElem? (i := 38) rfl)) rfl
theorem tw_5_39 : (Jvm.Cond.methodLink "java/lang/AbstractStringBuilde\x72" (125 : Nat) ({ cls := "java/lang/StringLatin1", name := "inflate", desc := "([BI[BII)V" } : Jvm.MethodName)) ∈ q_gw := q_gw_of (q_t5 (List.mem_of_getElem? (i := 39) rfl)) rfl
theorem tw_5_4 : (Jvm.Cond.methodLink "java/lang/AbstractStringBuilde\x72" (114 : Nat) ({ cls := "jdk/internal/util/ArraysSupport", name := "newLength", desc := "(III)I" } : Jvm.MethodName)) ∈ q_gw := q_gw_of (q_t5 (List.mem_of_getElem? (i := 4) rfl)) rfl
theorem tw_5_40 : (Jvm.Cond.static ({ cls := "java/lang/StringLatin1", name := "inflate", desc := "([BI[BII)V" } : Jvm.MethodName)) ∈ q_gw := q_gw_of (q_t5 (List.mem_of_getElem? (i := 40) rfl)) rfl
theorem tw_5_41 : (Jvm.Cond.code ({ cls := "java/lang/StringLatin1", name := "inflate", desc := "([BI[BII)V" } : Jvm.MethodName) prog_19_method_50_code (5 : Nat) (Option.none : Option Jvm.ClassFile.FieldType)) ∈ q_gw := q_gw_of (q_t5 (List.mem_of_getElem? (i := 41) rfl)) rfl
theorem tw_5_42 : (Jvm.Cond.methodLink "java/lang/StringLatin1" (240 : Nat) ({ cls := "java/lang/StringUTF16", name := "inflate", desc := "([BI[BII)V" } : Jvm.MethodName)) ∈ q_gw := q_gw_of (q_t5 (List.mem_of_getElem? (i := 42) rfl)) rfl
theorem tw_5_43 : (Jvm.Cond.static ({ cls := "java/lang/StringUTF16", name := "inflate", desc := "([BI[BII)V" } : Jvm.MethodName)) ∈ q_gw := q_gw_of (q_t5 (List.mem_of_getElem? (i := 43) rfl)) rfl
theorem tw_5_44 : (Jvm.Cond.code ({ cls := "java/lang/StringUTF16", name := "inflate", desc := "([BI[BII)V" } : Jvm.MethodName) prog_20_method_86_code (6 : Nat) (Option.none : Option Jvm.ClassFile.FieldType)) ∈ q_gw := q_gw_of (q_t5 (List.mem_of_getElem? (i := 44) rfl)) rfl
theorem tw_5_45 : (Jvm.Cond.methodLink "java/lang/StringUTF16" (173 : Nat) ({ cls := "java/lang/StringUTF16", name := "checkBoundsOffCount", desc := "(II[B)V" } : Jvm.MethodName)) ∈ q_gw := q_gw_of (q_t5 (List.mem_of_getElem? (i := 45) rfl)) rfl
theorem tw_5_46 : (Jvm.Cond.static ({ cls := "java/lang/StringUTF16", name := "checkBoundsOffCount", desc := "(II[B)V" } : Jvm.MethodName)) ∈ q_gw := q_gw_of (q_t5 (List.mem_of_getElem? (i := 46) rfl)) rfl
theorem tw_5_47 : (Jvm.Cond.code ({ cls := "java/lang/StringUTF16", name := "checkBoundsOffCount", desc := "(II[B)V" } : Jvm.MethodName) prog_20_method_94_code (3 : Nat) (Option.none : Option Jvm.ClassFile.FieldType)) ∈ q_gw := q_gw_of (q_t5 (List.mem_of_getElem? (i := 47) rfl)) rfl
theorem tw_5_48 : (Jvm.Cond.methodLink "java/lang/StringUTF16" (419 : Nat) ({ cls := "java/lang/String", name := "checkBoundsOffCount", desc := "(III)I" } : Jvm.MethodName)) ∈ q_gw := q_gw_of (q_t5 (List.mem_of_getElem? (i := 48) rfl)) rfl
theorem tw_5_49 : (Jvm.Cond.static ({ cls := "java/lang/String", name := "checkBoundsOffCount", desc := "(III)I" } : Jvm.MethodName)) ∈ q_gw := q_gw_of (q_t5 (List.mem_of_getElem? (i := 49) rfl)) rfl
theorem tw_5_5 : (Jvm.Cond.static ({ cls := "jdk/internal/util/ArraysSupport", name := "newLength", desc := "(III)I" } : Jvm.MethodName)) ∈ q_gw := q_gw_of (q_t5 (List.mem_of_getElem? (i := 5) rfl)) rfl
theorem tw_5_50 : (Jvm.Cond.code ({ cls := "java/lang/String", name := "checkBoundsOffCount", desc := "(III)I" } : Jvm.MethodName) prog_17_method_157_code (3 : Nat) (Option.some Jvm.ClassFile.FieldType.int)) ∈ q_gw := q_gw_of (q_t5 (List.mem_of_getElem? (i := 50) rfl)) rfl
theorem tw_5_51 : (Jvm.Cond.methodLink "java/lang/String" (1065 : Nat) ({ cls := "jdk/internal/util/Preconditions", name := "checkFromIndexSize", desc := "(IIILjava/util/function/BiFunction;)I" } : Jvm.MethodName)) ∈ q_gw := q_gw_of (q_t5 (List.mem_of_getElem? (i := 51) rfl)) rfl
theorem tw_5_52 : (Jvm.Cond.static ({ cls := "jdk/internal/util/Preconditions", name := "checkFromIndexSize", desc := "(IIILjava/util/function/BiFunction;)I" } : Jvm.MethodName)) ∈ q_gw := q_gw_of (q_t5 (List.mem_of_getElem? (i := 52) rfl)) rfl
theorem tw_5_53 : (Jvm.Cond.code ({ cls := "jdk/internal/util/Preconditions", name := "checkFromIndexSize", desc := "(IIILjava/util/function/BiFunction;)I" } : Jvm.MethodName) prog_24_method_13_code (4 : Nat) (Option.some Jvm.ClassFile.FieldType.int)) ∈ q_gw := q_gw_of (q_t5 (List.mem_of_getElem? (i := 53) rfl)) rfl
theorem tw_5_54 : (Jvm.Cond.methodLink "java/lang/StringUTF16" (111 : Nat) ({ cls := "java/lang/StringUTF16", name := "putCha\x72", desc := "([BII)V" } : Jvm.MethodName)) ∈ q_gw := q_gw_of (q_t5 (List.mem_of_getElem? (i := 54) rfl)) rfl
theorem tw_5_55 : (Jvm.Cond.static ({ cls := "java/lang/StringUTF16", name := "putCha\x72", desc := "([BII)V" } : Jvm.MethodName)) ∈ q_gw := q_gw_of (q_t5 (List.mem_of_getElem? (i := 55) rfl)) rfl
theorem tw_5_56 : (Jvm.Cond.code ({ cls := "java/lang/StringUTF16", name := "putCha\x72", desc := "([BII)V" } : Jvm.MethodName) prog_20_method_4_code (3 : Nat) (Option.none : Option Jvm.ClassFile.FieldType)) ∈ q_gw := q_gw_of (q_t5 (List.mem_of_getElem? (i := 56) rfl)) rfl
theorem tw_5_57 : (Jvm.Cond.methodLink "java/lang/AbstractStringBuilde\x72" (197 : Nat) ({ cls := "java/lang/StringUTF16", name := "putCharSB", desc := "([BII)V" } : Jvm.MethodName)) ∈ q_gw := q_gw_of (q_t5 (List.mem_of_getElem? (i := 57) rfl)) rfl
theorem tw_5_58 : (Jvm.Cond.static ({ cls := "java/lang/StringUTF16", name := "putCharSB", desc := "([BII)V" } : Jvm.MethodName)) ∈ q_gw := q_gw_of (q_t5 (List.mem_of_getElem? (i := 58) rfl)) rfl
theorem tw_5_59 : (Jvm.Cond.code ({ cls := "java/lang/StringUTF16", name := "putCharSB", desc := "([BII)V" } : Jvm.MethodName) prog_20_method_71_code (3 : Nat) (Option.none : Option Jvm.ClassFile.FieldType)) ∈ q_gw := q_gw_of (q_t5 (List.mem_of_getElem? (i := 59) rfl)) rfl
theorem tw_5_6 : (Jvm.Cond.code ({ cls := "jdk/internal/util/ArraysSupport", name := "newLength", desc := "(III)I" } : Jvm.MethodName) prog_23_method_27_code (4 : Nat) (Option.some Jvm.ClassFile.FieldType.int)) ∈ q_gw := q_gw_of (q_t5 (List.mem_of_getElem? (i := 6) rfl)) rfl
theorem tw_5_60 : (Jvm.Cond.methodLink "java/lang/StringUTF16" (67 : Nat) ({ cls := "java/lang/StringUTF16", name := "checkIndex", desc := "(I[B)V" } : Jvm.MethodName)) ∈ q_gw := q_gw_of (q_t5 (List.mem_of_getElem? (i := 60) rfl)) rfl
theorem tw_5_61 : (Jvm.Cond.static ({ cls := "java/lang/StringUTF16", name := "checkIndex", desc := "(I[B)V" } : Jvm.MethodName)) ∈ q_gw := q_gw_of (q_t5 (List.mem_of_getElem? (i := 61) rfl)) rfl
theorem tw_5_62 : (Jvm.Cond.code ({ cls := "java/lang/StringUTF16", name := "checkIndex", desc := "(I[B)V" } : Jvm.MethodName) prog_20_method_91_code (2 : Nat) (Option.none : Option Jvm.ClassFile.FieldType)) ∈ q_gw := q_gw_of (q_t5 (List.mem_of_getElem? (i := 62) rfl)) rfl
theorem tw_5_63 : (Jvm.Cond.methodLink "java/lang/StringUTF16" (414 : Nat) ({ cls := "java/lang/String", name := "checkIndex", desc := "(II)V" } : Jvm.MethodName)) ∈ q_gw := q_gw_of (q_t5 (List.mem_of_getElem? (i := 63) rfl)) rfl
theorem tw_5_64 : (Jvm.Cond.methodLink "CalendarReplicasLaw" (183 : Nat) ({ cls := "CalendarReplicas", name := "clearText", desc := "()I" } : Jvm.MethodName)) ∈ q_gw := q_gw_of (q_t5 (List.mem_of_getElem? (i := 64) rfl)) rfl
theorem tw_5_65 : (Jvm.Cond.instanceMethod ({ cls := "CalendarReplicas", name := "clearText", desc := "()I" } : Jvm.MethodName)) ∈ q_gw := q_gw_of (q_t5 (List.mem_of_getElem? (i := 65) rfl)) rfl
theorem tw_5_66 : (Jvm.Cond.selects "CalendarReplicas" ({ cls := "CalendarReplicas", name := "clearText", desc := "()I" } : Jvm.MethodName) ({ cls := "CalendarReplicas", name := "clearText", desc := "()I" } : Jvm.MethodName)) ∈ q_gw := q_gw_of (q_t5 (List.mem_of_getElem? (i := 66) rfl)) rfl
theorem tw_5_67 : (Jvm.Cond.code ({ cls := "CalendarReplicas", name := "clearText", desc := "()I" } : Jvm.MethodName) prog_1_method_53_code (2 : Nat) (Option.some Jvm.ClassFile.FieldType.int)) ∈ q_gw := q_gw_of (q_t5 (List.mem_of_getElem? (i := 67) rfl)) rfl
theorem tw_5_68 : (Jvm.Cond.methodLink "CalendarReplicas" (324 : Nat) ({ cls := "java/lang/StringBuilde\x72", name := "setLength", desc := "(I)V" } : Jvm.MethodName)) ∈ q_gw := q_gw_of (q_t5 (List.mem_of_getElem? (i := 68) rfl)) rfl
theorem tw_5_69 : (Jvm.Cond.instanceMethod ({ cls := "java/lang/StringBuilde\x72", name := "setLength", desc := "(I)V" } : Jvm.MethodName)) ∈ q_gw := q_gw_of (q_t5 (List.mem_of_getElem? (i := 69) rfl)) rfl
theorem tw_5_7 : (Jvm.Cond.methodLink "jdk/internal/util/ArraysSupport" (194 : Nat) ({ cls := "java/lang/Math", name := "max", desc := "(II)I" } : Jvm.MethodName)) ∈ q_gw := q_gw_of (q_t5 (List.mem_of_getElem? (i := 7) rfl)) rfl
theorem tw_5_70 : (Jvm.Cond.selects "java/lang/StringBuilde\x72" ({ cls := "java/lang/StringBuilde\x72", name := "setLength", desc := "(I)V" } : Jvm.MethodName) ({ cls := "java/lang/StringBuilde\x72", name := "setLength", desc := "(I)V" } : Jvm.MethodName)) ∈ q_gw := q_gw_of (q_t5 (List.mem_of_getElem? (i := 70) rfl)) rfl
theorem tw_5_71 : (Jvm.Cond.code ({ cls := "java/lang/StringBuilde\x72", name := "setLength", desc := "(I)V" } : Jvm.MethodName) prog_18_method_89_code (2 : Nat) (Option.none : Option Jvm.ClassFile.FieldType)) ∈ q_gw := q_gw_of (q_t5 (List.mem_of_getElem? (i := 71) rfl)) rfl
theorem tw_5_72 : (Jvm.Cond.methodLink "java/lang/StringBuilde\x72" (333 : Nat) ({ cls := "java/lang/AbstractStringBuilde\x72", name := "setLength", desc := "(I)V" } : Jvm.MethodName)) ∈ q_gw := q_gw_of (q_t5 (List.mem_of_getElem? (i := 72) rfl)) rfl
theorem tw_5_73 : (Jvm.Cond.instanceMethod ({ cls := "java/lang/AbstractStringBuilde\x72", name := "setLength", desc := "(I)V" } : Jvm.MethodName)) ∈ q_gw := q_gw_of (q_t5 (List.mem_of_getElem? (i := 73) rfl)) rfl
theorem tw_5_74 : (Jvm.Cond.code ({ cls := "java/lang/AbstractStringBuilde\x72", name := "setLength", desc := "(I)V" } : Jvm.MethodName) prog_12_method_13_code (2 : Nat) (Option.none : Option Jvm.ClassFile.FieldType)) ∈ q_gw := q_gw_of (q_t5 (List.mem_of_getElem? (i := 74) rfl)) rfl
theorem tw_5_75 : (Jvm.Cond.methodLink "java/lang/AbstractStringBuilde\x72" (133 : Nat) ({ cls := "java/lang/StringLatin1", name := "fillNull", desc := "([BII)V" } : Jvm.MethodName)) ∈ q_gw := q_gw_of (q_t5 (List.mem_of_getElem? (i := 75) rfl)) rfl
theorem tw_5_76 : (Jvm.Cond.static ({ cls := "java/lang/StringLatin1", name := "fillNull", desc := "([BII)V" } : Jvm.MethodName)) ∈ q_gw := q_gw_of (q_t5 (List.mem_of_getElem? (i := 76) rfl)) rfl
theorem tw_5_77 : (Jvm.Cond.code ({ cls := "java/lang/StringLatin1", name := "fillNull", desc := "([BII)V" } : Jvm.MethodName) prog_19_method_48_code (3 : Nat) (Option.none : Option Jvm.ClassFile.FieldType)) ∈ q_gw := q_gw_of (q_t5 (List.mem_of_getElem? (i := 77) rfl)) rfl
theorem tw_5_78 : (Jvm.Cond.methodLink "java/lang/StringLatin1" (236 : Nat) ({ cls := "java/util/Arrays", name := "fill", desc := "([BIIB)V" } : Jvm.MethodName)) ∈ q_gw := q_gw_of (q_t5 (List.mem_of_getElem? (i := 78) rfl)) rfl
theorem tw_5_79 : (Jvm.Cond.static ({ cls := "java/util/Arrays", name := "fill", desc := "([BIIB)V" } : Jvm.MethodName)) ∈ q_gw := q_gw_of (q_t5 (List.mem_of_getElem? (i := 79) rfl)) rfl
theorem tw_5_8 : (Jvm.Cond.constant "jdk/internal/util/ArraysSupport" (200 : Nat) (2147483639 : Int32)) ∈ q_gw := q_gw_of (q_t5 (List.mem_of_getElem? (i := 8) rfl)) rfl
theorem tw_5_80 : (Jvm.Cond.code ({ cls := "java/util/Arrays", name := "fill", desc := "([BIIB)V" } : Jvm.MethodName) prog_22_method_110_code (5 : Nat) (Option.none : Option Jvm.ClassFile.FieldType)) ∈ q_gw := q_gw_of (q_t5 (List.mem_of_getElem? (i := 80) rfl)) rfl
theorem tw_5_81 : (Jvm.Cond.methodLink "java/util/Arrays" (13 : Nat) ({ cls := "java/util/Arrays", name := "rangeCheck", desc := "(III)V" } : Jvm.MethodName)) ∈ q_gw := q_gw_of (q_t5 (List.mem_of_getElem? (i := 81) rfl)) rfl
theorem tw_5_82 : (Jvm.Cond.static ({ cls := "java/util/Arrays", name := "rangeCheck", desc := "(III)V" } : Jvm.MethodName)) ∈ q_gw := q_gw_of (q_t5 (List.mem_of_getElem? (i := 82) rfl)) rfl
theorem tw_5_83 : (Jvm.Cond.code ({ cls := "java/util/Arrays", name := "rangeCheck", desc := "(III)V" } : Jvm.MethodName) prog_22_method_30_code (3 : Nat) (Option.none : Option Jvm.ClassFile.FieldType)) ∈ q_gw := q_gw_of (q_t5 (List.mem_of_getElem? (i := 83) rfl)) rfl
theorem tw_5_84 : (Jvm.Cond.methodLink "java/lang/AbstractStringBuilde\x72" (137 : Nat) ({ cls := "java/lang/StringUTF16", name := "fillNull", desc := "([BII)V" } : Jvm.MethodName)) ∈ q_gw := q_gw_of (q_t5 (List.mem_of_getElem? (i := 84) rfl)) rfl
theorem tw_5_85 : (Jvm.Cond.static ({ cls := "java/lang/StringUTF16", name := "fillNull", desc := "([BII)V" } : Jvm.MethodName)) ∈ q_gw := q_gw_of (q_t5 (List.mem_of_getElem? (i := 85) rfl)) rfl
theorem tw_5_86 : (Jvm.Cond.code ({ cls := "java/lang/StringUTF16", name := "fillNull", desc := "([BII)V" } : Jvm.MethodName) prog_20_method_70_code (3 : Nat) (Option.none : Option Jvm.ClassFile.FieldType)) ∈ q_gw := q_gw_of (q_t5 (List.mem_of_getElem? (i := 86) rfl)) rfl
theorem tw_5_87 : (Jvm.Cond.methodLink "java/lang/StringUTF16" (380 : Nat) ({ cls := "java/util/Arrays", name := "fill", desc := "([BIIB)V" } : Jvm.MethodName)) ∈ q_gw := q_gw_of (q_t5 (List.mem_of_getElem? (i := 87) rfl)) rfl
theorem tw_5_88 : (Jvm.Cond.methodLink "CalendarReplicasLaw" (187 : Nat) ({ cls := "CalendarReplicas", name := "faultPosition", desc := "()I" } : Jvm.MethodName)) ∈ q_gw := q_gw_of (q_t5 (List.mem_of_getElem? (i := 88) rfl)) rfl
theorem tw_5_89 : (Jvm.Cond.instanceMethod ({ cls := "CalendarReplicas", name := "faultPosition", desc := "()I" } : Jvm.MethodName)) ∈ q_gw := q_gw_of (q_t5 (List.mem_of_getElem? (i := 89) rfl)) rfl
theorem tw_5_9 : (Jvm.Cond.methodLink "jdk/internal/util/ArraysSupport" (201 : Nat) ({ cls := "jdk/internal/util/ArraysSupport", name := "hugeLength", desc := "(II)I" } : Jvm.MethodName)) ∈ q_gw := q_gw_of (q_t5 (List.mem_of_getElem? (i := 9) rfl)) rfl
theorem tw_5_90 : (Jvm.Cond.selects "CalendarReplicas" ({ cls := "CalendarReplicas", name := "faultPosition", desc := "()I" } : Jvm.MethodName) ({ cls := "CalendarReplicas", name := "faultPosition", desc := "()I" } : Jvm.MethodName)) ∈ q_gw := q_gw_of (q_t5 (List.mem_of_getElem? (i := 90) rfl)) rfl
theorem tw_5_91 : (Jvm.Cond.code ({ cls := "CalendarReplicas", name := "faultPosition", desc := "()I" } : Jvm.MethodName) prog_1_method_54_code (1 : Nat) (Option.some Jvm.ClassFile.FieldType.int)) ∈ q_gw := q_gw_of (q_t5 (List.mem_of_getElem? (i := 91) rfl)) rfl
theorem tw_5_92 : (Jvm.Cond.methodLink "CalendarReplicasLaw" (191 : Nat) ({ cls := "CalendarReplicas", name := "print", desc := "(II)I" } : Jvm.MethodName)) ∈ q_gw := q_gw_of (q_t5 (List.mem_of_getElem? (i := 92) rfl)) rfl
theorem tw_5_93 : (Jvm.Cond.instanceMethod ({ cls := "CalendarReplicas", name := "print", desc := "(II)I" } : Jvm.MethodName)) ∈ q_gw := q_gw_of (q_t5 (List.mem_of_getElem? (i := 93) rfl)) rfl
theorem tw_5_94 : (Jvm.Cond.selects "CalendarReplicas" ({ cls := "CalendarReplicas", name := "print", desc := "(II)I" } : Jvm.MethodName) ({ cls := "CalendarReplicas", name := "print", desc := "(II)I" } : Jvm.MethodName)) ∈ q_gw := q_gw_of (q_t5 (List.mem_of_getElem? (i := 94) rfl)) rfl
theorem tw_5_95 : (Jvm.Cond.code ({ cls := "CalendarReplicas", name := "print", desc := "(II)I" } : Jvm.MethodName) prog_1_method_55_code (5 : Nat) (Option.some Jvm.ClassFile.FieldType.int)) ∈ q_gw := q_gw_of (q_t5 (List.mem_of_getElem? (i := 95) rfl)) rfl
theorem tw_5_96 : (Jvm.Cond.methodLink "CalendarReplicas" (327 : Nat) ({ cls := "java/lang/StringBuilde\x72", name := "append", desc := "(I)Ljava/lang/StringBuilder;" } : Jvm.MethodName)) ∈ q_gw := q_gw_of (q_t5 (List.mem_of_getElem? (i := 96) rfl)) rfl
theorem tw_5_97 : (Jvm.Cond.instanceMethod ({ cls := "java/lang/StringBuilde\x72", name := "append", desc := "(I)Ljava/lang/StringBuilder;" } : Jvm.MethodName)) ∈ q_gw := q_gw_of (q_t5 (List.mem_of_getElem? (i := 97) rfl)) rfl
theorem tw_5_98 : (Jvm.Cond.selects "java/lang/StringBuilde\x72" ({ cls := "java/lang/StringBuilde\x72", name := "append", desc := "(I)Ljava/lang/StringBuilder;" } : Jvm.MethodName) ({ cls := "java/lang/StringBuilde\x72", name := "append", desc := "(I)Ljava/lang/StringBuilder;" } : Jvm.MethodName)) ∈ q_gw := q_gw_of (q_t5 (List.mem_of_getElem? (i := 98) rfl)) rfl
theorem tw_5_99 : (Jvm.Cond.code ({ cls := "java/lang/StringBuilde\x72", name := "append", desc := "(I)Ljava/lang/StringBuilder;" } : Jvm.MethodName) prog_18_method_15_code (2 : Nat) (Option.some (Jvm.ClassFile.FieldType.object "java/lang/StringBuilde\x72"))) ∈ q_gw := q_gw_of (q_t5 (List.mem_of_getElem? (i := 99) rfl)) rfl
theorem tw_6_0 : (Jvm.Cond.soleField "CalendarReplicasModel" "text") ∈ q_gw := q_gw_of (q_t6 (List.mem_of_getElem? (i := 0) rfl)) rfl
theorem tw_6_1 : (Jvm.Cond.lays "CalendarReplicasModel" "CalendarReplicasModel" "length" "I") ∈ q_gw := q_gw_of (q_t6 (List.mem_of_getElem? (i := 1) rfl)) rfl
theorem tw_6_10 : (Jvm.Cond.soleField "CalendarReplicasModel" "m") ∈ q_gw := q_gw_of (q_t6 (List.mem_of_getElem? (i := 10) rfl)) rfl
theorem tw_6_100 : (Jvm.Cond.code ({ cls := "CalendarReplicasModel", name := "isWell", desc := "(I)Z" } : Jvm.MethodName) prog_11_method_15_code (6 : Nat) (Option.some Jvm.ClassFile.FieldType.boolean)) ∈ q_gw := q_gw_of (q_t6 (List.mem_of_getElem? (i := 100) rfl)) rfl
theorem tw_6_101 : (Jvm.Cond.methodLink "CalendarReplicasModel" (69 : Nat) ({ cls := "CalendarReplicasModel", name := "lastSlot", desc := "(I)I" } : Jvm.MethodName)) ∈ q_gw := q_gw_of (q_t6 (List.mem_of_getElem? (i := 101) rfl)) rfl
theorem tw_6_102 : (Jvm.Cond.privateMethod ({ cls := "CalendarReplicasModel", name := "lastSlot", desc := "(I)I" } : Jvm.MethodName)) ∈ lw_tbl := List.mem_append_right _ (q_t6 (List.mem_of_getElem? (i := 102) rfl))
theorem tw_6_103 : (Jvm.Cond.instanceMethod ({ cls := "CalendarReplicasModel", name := "lastSlot", desc := "(I)I" } : Jvm.MethodName)) ∈ q_gw := q_gw_of (q_t6 (List.mem_of_getElem? (i := 103) rfl)) rfl
theorem tw_6_104 : (Jvm.Cond.code ({ cls := "CalendarReplicasModel", name := "lastSlot", desc := "(I)I" } : Jvm.MethodName) prog_11_method_9_code (2 : Nat) (Option.some Jvm.ClassFile.FieldType.int)) ∈ q_gw := q_gw_of (q_t6 (List.mem_of_getElem? (i := 104) rfl)) rfl
theorem tw_6_105 : (Jvm.Cond.methodLink "CalendarReplicasModel" (72 : Nat) ({ cls := "CalendarReplicasModel", name := "bits", desc := "(I)I" } : Jvm.MethodName)) ∈ q_gw := q_gw_of (q_t6 (List.mem_of_getElem? (i := 105) rfl)) rfl
theorem tw_6_106 : (Jvm.Cond.static ({ cls := "CalendarReplicasModel", name := "bits", desc := "(I)I" } : Jvm.MethodName)) ∈ q_gw := q_gw_of (q_t6 (List.mem_of_getElem? (i := 106) rfl)) rfl
theorem tw_6_107 : (Jvm.Cond.code ({ cls := "CalendarReplicasModel", name := "bits", desc := "(I)I" } : Jvm.MethodName) prog_11_method_4_code (3 : Nat) (Option.some Jvm.ClassFile.FieldType.int)) ∈ q_gw := q_gw_of (q_t6 (List.mem_of_getElem? (i := 107) rfl)) rfl
theorem tw_6_108 : (Jvm.Cond.methodLink "CalendarReplicasModel" (75 : Nat) ({ cls := "CalendarReplicasModel", name := "findSlots", desc := "(I)V" } : Jvm.MethodName)) ∈ q_gw := q_gw_of (q_t6 (List.mem_of_getElem? (i := 108) rfl)) rfl
theorem tw_6_109 : (Jvm.Cond.privateMethod ({ cls := "CalendarReplicasModel", name := "findSlots", desc := "(I)V" } : Jvm.MethodName)) ∈ lw_tbl := List.mem_append_right _ (q_t6 (List.mem_of_getElem? (i := 109) rfl))
theorem tw_6_11 : (Jvm.Cond.laysFinal "CalendarReplicasModel" "CalendarReplicasModel" "low" "[J") ∈ q_gw := q_gw_of (q_t6 (List.mem_of_getElem? (i := 11) rfl)) rfl
theorem tw_6_110 : (Jvm.Cond.instanceMethod ({ cls := "CalendarReplicasModel", name := "findSlots", desc := "(I)V" } : Jvm.MethodName)) ∈ q_gw := q_gw_of (q_t6 (List.mem_of_getElem? (i := 110) rfl)) rfl
theorem tw_6_111 : (Jvm.Cond.code ({ cls := "CalendarReplicasModel", name := "findSlots", desc := "(I)V" } : Jvm.MethodName) prog_11_method_13_code (4 : Nat) (Option.none : Option Jvm.ClassFile.FieldType)) ∈ q_gw := q_gw_of (q_t6 (List.mem_of_getElem? (i := 111) rfl)) rfl
theorem tw_6_112 : (Jvm.Cond.methodLink "CalendarReplicasModel" (65 : Nat) ({ cls := "CalendarReplicasModel", name := "slots", desc := "(III)J" } : Jvm.MethodName)) ∈ q_gw := q_gw_of (q_t6 (List.mem_of_getElem? (i := 112) rfl)) rfl
theorem tw_6_113 : (Jvm.Cond.static ({ cls := "CalendarReplicasModel", name := "slots", desc := "(III)J" } : Jvm.MethodName)) ∈ q_gw := q_gw_of (q_t6 (List.mem_of_getElem? (i := 113) rfl)) rfl
theorem tw_6_114 : (Jvm.Cond.code ({ cls := "CalendarReplicasModel", name := "slots", desc := "(III)J" } : Jvm.MethodName) prog_11_method_12_code (5 : Nat) (Option.some Jvm.ClassFile.FieldType.long)) ∈ q_gw := q_gw_of (q_t6 (List.mem_of_getElem? (i := 114) rfl)) rfl
theorem tw_6_115 : (Jvm.Cond.methodLink "CalendarReplicasModel" (78 : Nat) ({ cls := "CalendarReplicasModel", name := "meets", desc := "(III)Z" } : Jvm.MethodName)) ∈ q_gw := q_gw_of (q_t6 (List.mem_of_getElem? (i := 115) rfl)) rfl
theorem tw_6_116 : (Jvm.Cond.privateMethod ({ cls := "CalendarReplicasModel", name := "meets", desc := "(III)Z" } : Jvm.MethodName)) ∈ lw_tbl := List.mem_append_right _ (q_t6 (List.mem_of_getElem? (i := 116) rfl))
theorem tw_6_117 : (Jvm.Cond.instanceMethod ({ cls := "CalendarReplicasModel", name := "meets", desc := "(III)Z" } : Jvm.MethodName)) ∈ q_gw := q_gw_of (q_t6 (List.mem_of_getElem? (i := 117) rfl)) rfl
theorem tw_6_118 : (Jvm.Cond.code ({ cls := "CalendarReplicasModel", name := "meets", desc := "(III)Z" } : Jvm.MethodName) prog_11_method_14_code (4 : Nat) (Option.some Jvm.ClassFile.FieldType.boolean)) ∈ q_gw := q_gw_of (q_t6 (List.mem_of_getElem? (i := 118) rfl)) rfl
theorem tw_6_119 : (Jvm.Cond.methodLink "CalendarReplicasLaw" (32 : Nat) ({ cls := "CalendarReplicasModel", name := "clearOrders", desc := "()I" } : Jvm.MethodName)) ∈ q_gw := q_gw_of (q_t6 (List.mem_of_getElem? (i := 119) rfl)) rfl
theorem tw_6_12 : (Jvm.Cond.soleField "CalendarReplicasModel" "low") ∈ q_gw := q_gw_of (q_t6 (List.mem_of_getElem? (i := 12) rfl)) rfl
theorem tw_6_120 : (Jvm.Cond.instanceMethod ({ cls := "CalendarReplicasModel", name := "clearOrders", desc := "()I" } : Jvm.MethodName)) ∈ q_gw := q_gw_of (q_t6 (List.mem_of_getElem? (i := 120) rfl)) rfl
theorem tw_6_121 : (Jvm.Cond.selects "CalendarReplicasModel" ({ cls := "CalendarReplicasModel", name := "clearOrders", desc := "()I" } : Jvm.MethodName) ({ cls := "CalendarReplicasModel", name := "clearOrders", desc := "()I" } : Jvm.MethodName)) ∈ q_gw := q_gw_of (q_t6 (List.mem_of_getElem? (i := 121) rfl)) rfl
theorem tw_6_122 : (Jvm.Cond.code ({ cls := "CalendarReplicasModel", name := "clearOrders", desc := "()I" } : Jvm.MethodName) prog_11_method_31_code (2 : Nat) (Option.some Jvm.ClassFile.FieldType.int)) ∈ q_gw := q_gw_of (q_t6 (List.mem_of_getElem? (i := 122) rfl)) rfl
theorem tw_6_123 : (Jvm.Cond.methodLink "CalendarReplicasLaw" (37 : Nat) ({ cls := "CalendarReplicasModel", name := "create", desc := "(IIIIII)I" } : Jvm.MethodName)) ∈ q_gw := q_gw_of (q_t6 (List.mem_of_getElem? (i := 123) rfl)) rfl
theorem tw_6_124 : (Jvm.Cond.instanceMethod ({ cls := "CalendarReplicasModel", name := "create", desc := "(IIIIII)I" } : Jvm.MethodName)) ∈ q_gw := q_gw_of (q_t6 (List.mem_of_getElem? (i := 124) rfl)) rfl
theorem tw_6_125 : (Jvm.Cond.selects "CalendarReplicasModel" ({ cls := "CalendarReplicasModel", name := "create", desc := "(IIIIII)I" } : Jvm.MethodName) ({ cls := "CalendarReplicasModel", name := "create", desc := "(IIIIII)I" } : Jvm.MethodName)) ∈ q_gw := q_gw_of (q_t6 (List.mem_of_getElem? (i := 125) rfl)) rfl
theorem tw_6_126 : (Jvm.Cond.code ({ cls := "CalendarReplicasModel", name := "create", desc := "(IIIIII)I" } : Jvm.MethodName) prog_11_method_34_code (8 : Nat) (Option.some Jvm.ClassFile.FieldType.int)) ∈ q_gw := q_gw_of (q_t6 (List.mem_of_getElem? (i := 126) rfl)) rfl
theorem tw_6_127 : (Jvm.Cond.methodLink "CalendarReplicasModel" (133 : Nat) ({ cls := "CalendarReplicasModel", name := "isReplica", desc := "(I)Z" } : Jvm.MethodName)) ∈ q_gw := q_gw_of (q_t6 (List.mem_of_getElem? (i := 127) rfl)) rfl
theorem tw_6_128 : (Jvm.Cond.static ({ cls := "CalendarReplicasModel", name := "isReplica", desc := "(I)Z" } : Jvm.MethodName)) ∈ q_gw := q_gw_of (q_t6 (List.mem_of_getElem? (i := 128) rfl)) rfl
theorem tw_6_129 : (Jvm.Cond.code ({ cls := "CalendarReplicasModel", name := "isReplica", desc := "(I)Z" } : Jvm.MethodName) prog_11_method_5_code (1 : Nat) (Option.some Jvm.ClassFile.FieldType.boolean)) ∈ q_gw := q_gw_of (q_t6 (List.mem_of_getElem? (i := 129) rfl)) rfl
theorem tw_6_13 : (Jvm.Cond.laysFinal "CalendarReplicasModel" "CalendarReplicasModel" "high" "[J") ∈ q_gw := q_gw_of (q_t6 (List.mem_of_getElem? (i := 13) rfl)) rfl
theorem tw_6_130 : (Jvm.Cond.methodLink "CalendarReplicasModel" (136 : Nat) ({ cls := "CalendarReplicasModel", name := "creates", desc := "(IIIIII)I" } : Jvm.MethodName)) ∈ q_gw := q_gw_of (q_t6 (List.mem_of_getElem? (i := 130) rfl)) rfl
theorem tw_6_131 : (Jvm.Cond.privateMethod ({ cls := "CalendarReplicasModel", name := "creates", desc := "(IIIIII)I" } : Jvm.MethodName)) ∈ lw_tbl := List.mem_append_right _ (q_t6 (List.mem_of_getElem? (i := 131) rfl))
theorem tw_6_132 : (Jvm.Cond.instanceMethod ({ cls := "CalendarReplicasModel", name := "creates", desc := "(IIIIII)I" } : Jvm.MethodName)) ∈ q_gw := q_gw_of (q_t6 (List.mem_of_getElem? (i := 132) rfl)) rfl
theorem tw_6_133 : (Jvm.Cond.code ({ cls := "CalendarReplicasModel", name := "creates", desc := "(IIIIII)I" } : Jvm.MethodName) prog_11_method_33_code (8 : Nat) (Option.some Jvm.ClassFile.FieldType.int)) ∈ q_gw := q_gw_of (q_t6 (List.mem_of_getElem? (i := 133) rfl)) rfl
theorem tw_6_134 : (Jvm.Cond.methodLink "CalendarReplicasModel" (129 : Nat) ({ cls := "CalendarReplicasModel", name := "makes", desc := "(IIIII)I" } : Jvm.MethodName)) ∈ q_gw := q_gw_of (q_t6 (List.mem_of_getElem? (i := 134) rfl)) rfl
theorem tw_6_135 : (Jvm.Cond.privateMethod ({ cls := "CalendarReplicasModel", name := "makes", desc := "(IIIII)I" } : Jvm.MethodName)) ∈ lw_tbl := List.mem_append_right _ (q_t6 (List.mem_of_getElem? (i := 135) rfl))
theorem tw_6_136 : (Jvm.Cond.instanceMethod ({ cls := "CalendarReplicasModel", name := "makes", desc := "(IIIII)I" } : Jvm.MethodName)) ∈ q_gw := q_gw_of (q_t6 (List.mem_of_getElem? (i := 136) rfl)) rfl
theorem tw_6_137 : (Jvm.Cond.code ({ cls := "CalendarReplicasModel", name := "makes", desc := "(IIIII)I" } : Jvm.MethodName) prog_11_method_32_code (9 : Nat) (Option.some Jvm.ClassFile.FieldType.int)) ∈ q_gw := q_gw_of (q_t6 (List.mem_of_getElem? (i := 137) rfl)) rfl
theorem tw_6_138 : (Jvm.Cond.methodLink "CalendarReplicasModel" (117 : Nat) ({ cls := "CalendarReplicasModel", name := "accepted", desc := "(I)I" } : Jvm.MethodName)) ∈ q_gw := q_gw_of (q_t6 (List.mem_of_getElem? (i := 138) rfl)) rfl
theorem tw_6_139 : (Jvm.Cond.privateMethod ({ cls := "CalendarReplicasModel", name := "accepted", desc := "(I)I" } : Jvm.MethodName)) ∈ lw_tbl := List.mem_append_right _ (q_t6 (List.mem_of_getElem? (i := 139) rfl))
theorem tw_6_14 : (Jvm.Cond.soleField "CalendarReplicasModel" "high") ∈ q_gw := q_gw_of (q_t6 (List.mem_of_getElem? (i := 14) rfl)) rfl
theorem tw_6_140 : (Jvm.Cond.instanceMethod ({ cls := "CalendarReplicasModel", name := "accepted", desc := "(I)I" } : Jvm.MethodName)) ∈ q_gw := q_gw_of (q_t6 (List.mem_of_getElem? (i := 140) rfl)) rfl
theorem tw_6_141 : (Jvm.Cond.code ({ cls := "CalendarReplicasModel", name := "accepted", desc := "(I)I" } : Jvm.MethodName) prog_11_method_25_code (2 : Nat) (Option.some Jvm.ClassFile.FieldType.int)) ∈ q_gw := q_gw_of (q_t6 (List.mem_of_getElem? (i := 141) rfl)) rfl
theorem tw_6_142 : (Jvm.Cond.methodLink "CalendarReplicasModel" (114 : Nat) ({ cls := "CalendarReplicasModel", name := "bestWith", desc := "(II)I" } : Jvm.MethodName)) ∈ q_gw := q_gw_of (q_t6 (List.mem_of_getElem? (i := 142) rfl)) rfl
theorem tw_6_143 : (Jvm.Cond.privateMethod ({ cls := "CalendarReplicasModel", name := "bestWith", desc := "(II)I" } : Jvm.MethodName)) ∈ lw_tbl := List.mem_append_right _ (q_t6 (List.mem_of_getElem? (i := 143) rfl))
theorem tw_6_144 : (Jvm.Cond.instanceMethod ({ cls := "CalendarReplicasModel", name := "bestWith", desc := "(II)I" } : Jvm.MethodName)) ∈ q_gw := q_gw_of (q_t6 (List.mem_of_getElem? (i := 144) rfl)) rfl
theorem tw_6_145 : (Jvm.Cond.code ({ cls := "CalendarReplicasModel", name := "bestWith", desc := "(II)I" } : Jvm.MethodName) prog_11_method_24_code (11 : Nat) (Option.some Jvm.ClassFile.FieldType.int)) ∈ q_gw := q_gw_of (q_t6 (List.mem_of_getElem? (i := 145) rfl)) rfl
theorem tw_6_146 : (Jvm.Cond.methodLink "CalendarReplicasModel" (105 : Nat) ({ cls := "CalendarReplicasModel", name := "usable", desc := "(I)I" } : Jvm.MethodName)) ∈ q_gw := q_gw_of (q_t6 (List.mem_of_getElem? (i := 146) rfl)) rfl
theorem tw_6_147 : (Jvm.Cond.privateMethod ({ cls := "CalendarReplicasModel", name := "usable", desc := "(I)I" } : Jvm.MethodName)) ∈ lw_tbl := List.mem_append_right _ (q_t6 (List.mem_of_getElem? (i := 147) rfl))
theorem tw_6_148 : (Jvm.Cond.instanceMethod ({ cls := "CalendarReplicasModel", name := "usable", desc := "(I)I" } : Jvm.MethodName)) ∈ q_gw := q_gw_of (q_t6 (List.mem_of_getElem? (i := 148) rfl)) rfl
theorem tw_6_149 : (Jvm.Cond.code ({ cls := "CalendarReplicasModel", name := "usable", desc := "(I)I" } : Jvm.MethodName) prog_11_method_23_code (5 : Nat) (Option.some Jvm.ClassFile.FieldType.int)) ∈ q_gw := q_gw_of (q_t6 (List.mem_of_getElem? (i := 149) rfl)) rfl
theorem tw_6_15 : (Jvm.Cond.lays "CalendarReplicasModel" "CalendarReplicasModel" "toldStart" "I") ∈ q_gw := q_gw_of (q_t6 (List.mem_of_getElem? (i := 15) rfl)) rfl
theorem tw_6_150 : (Jvm.Cond.methodLink "CalendarReplicasModel" (108 : Nat) ({ cls := "CalendarReplicasModel", name := "weight", desc := "(I)I" } : Jvm.MethodName)) ∈ q_gw := q_gw_of (q_t6 (List.mem_of_getElem? (i := 150) rfl)) rfl
theorem tw_6_151 : (Jvm.Cond.privateMethod ({ cls := "CalendarReplicasModel", name := "weight", desc := "(I)I" } : Jvm.MethodName)) ∈ lw_tbl := List.mem_append_right _ (q_t6 (List.mem_of_getElem? (i := 151) rfl))
theorem tw_6_152 : (Jvm.Cond.instanceMethod ({ cls := "CalendarReplicasModel", name := "weight", desc := "(I)I" } : Jvm.MethodName)) ∈ q_gw := q_gw_of (q_t6 (List.mem_of_getElem? (i := 152) rfl)) rfl
theorem tw_6_153 : (Jvm.Cond.code ({ cls := "CalendarReplicasModel", name := "weight", desc := "(I)I" } : Jvm.MethodName) prog_11_method_22_code (4 : Nat) (Option.some Jvm.ClassFile.FieldType.int)) ∈ q_gw := q_gw_of (q_t6 (List.mem_of_getElem? (i := 153) rfl)) rfl
theorem tw_6_154 : (Jvm.Cond.methodLink "CalendarReplicasLaw" (42 : Nat) ({ cls := "CalendarReplicasModel", name := "createFromText", desc := "(I)I" } : Jvm.MethodName)) ∈ q_gw := q_gw_of (q_t6 (List.mem_of_getElem? (i := 154) rfl)) rfl
theorem tw_6_155 : (Jvm.Cond.instanceMethod ({ cls := "CalendarReplicasModel", name := "createFromText", desc := "(I)I" } : Jvm.MethodName)) ∈ q_gw := q_gw_of (q_t6 (List.mem_of_getElem? (i := 155) rfl)) rfl
theorem tw_6_156 : (Jvm.Cond.selects "CalendarReplicasModel" ({ cls := "CalendarReplicasModel", name := "createFromText", desc := "(I)I" } : Jvm.MethodName) ({ cls := "CalendarReplicasModel", name := "createFromText", desc := "(I)I" } : Jvm.MethodName)) ∈ q_gw := q_gw_of (q_t6 (List.mem_of_getElem? (i := 156) rfl)) rfl
theorem tw_6_157 : (Jvm.Cond.code ({ cls := "CalendarReplicasModel", name := "createFromText", desc := "(I)I" } : Jvm.MethodName) prog_11_method_35_code (2 : Nat) (Option.some Jvm.ClassFile.FieldType.int)) ∈ q_gw := q_gw_of (q_t6 (List.mem_of_getElem? (i := 157) rfl)) rfl
theorem tw_6_158 : (Jvm.Cond.methodLink "CalendarReplicasModel" (140 : Nat) ({ cls := "CalendarReplicasModel", name := "isText", desc := "()Z" } : Jvm.MethodName)) ∈ q_gw := q_gw_of (q_t6 (List.mem_of_getElem? (i := 158) rfl)) rfl
theorem tw_6_159 : (Jvm.Cond.privateMethod ({ cls := "CalendarReplicasModel", name := "isText", desc := "()Z" } : Jvm.MethodName)) ∈ lw_tbl := List.mem_append_right _ (q_t6 (List.mem_of_getElem? (i := 159) rfl))
theorem tw_6_16 : (Jvm.Cond.soleField "CalendarReplicasModel" "toldStart") ∈ q_gw := q_gw_of (q_t6 (List.mem_of_getElem? (i := 16) rfl)) rfl
theorem tw_6_160 : (Jvm.Cond.instanceMethod ({ cls := "CalendarReplicasModel", name := "isText", desc := "()Z" } : Jvm.MethodName)) ∈ q_gw := q_gw_of (q_t6 (List.mem_of_getElem? (i := 160) rfl)) rfl
theorem tw_6_161 : (Jvm.Cond.code ({ cls := "CalendarReplicasModel", name := "isText", desc := "()Z" } : Jvm.MethodName) prog_11_method_87_code (1 : Nat) (Option.some Jvm.ClassFile.FieldType.boolean)) ∈ q_gw := q_gw_of (q_t6 (List.mem_of_getElem? (i := 161) rfl)) rfl
theorem tw_6_162 : (Jvm.Cond.methodLink "CalendarReplicasModel" (203 : Nat) ({ cls := "CalendarReplicasModel", name := "numbe\x72", desc := "()I" } : Jvm.MethodName)) ∈ q_gw := q_gw_of (q_t6 (List.mem_of_getElem? (i := 162) rfl)) rfl
theorem tw_6_163 : (Jvm.Cond.privateMethod ({ cls := "CalendarReplicasModel", name := "numbe\x72", desc := "()I" } : Jvm.MethodName)) ∈ lw_tbl := List.mem_append_right _ (q_t6 (List.mem_of_getElem? (i := 163) rfl))
theorem tw_6_164 : (Jvm.Cond.instanceMethod ({ cls := "CalendarReplicasModel", name := "numbe\x72", desc := "()I" } : Jvm.MethodName)) ∈ q_gw := q_gw_of (q_t6 (List.mem_of_getElem? (i := 164) rfl)) rfl
theorem tw_6_165 : (Jvm.Cond.code ({ cls := "CalendarReplicasModel", name := "numbe\x72", desc := "()I" } : Jvm.MethodName) prog_11_method_82_code (2 : Nat) (Option.some Jvm.ClassFile.FieldType.int)) ∈ q_gw := q_gw_of (q_t6 (List.mem_of_getElem? (i := 165) rfl)) rfl
theorem tw_6_166 : (Jvm.Cond.methodLink "CalendarReplicasModel" (193 : Nat) ({ cls := "CalendarReplicasModel", name := "here", desc := "()I" } : Jvm.MethodName)) ∈ q_gw := q_gw_of (q_t6 (List.mem_of_getElem? (i := 166) rfl)) rfl
theorem tw_6_167 : (Jvm.Cond.privateMethod ({ cls := "CalendarReplicasModel", name := "here", desc := "()I" } : Jvm.MethodName)) ∈ lw_tbl := List.mem_append_right _ (q_t6 (List.mem_of_getElem? (i := 167) rfl))
theorem tw_6_168 : (Jvm.Cond.instanceMethod ({ cls := "CalendarReplicasModel", name := "here", desc := "()I" } : Jvm.MethodName)) ∈ q_gw := q_gw_of (q_t6 (List.mem_of_getElem? (i := 168) rfl)) rfl
theorem tw_6_169 : (Jvm.Cond.code ({ cls := "CalendarReplicasModel", name := "here", desc := "()I" } : Jvm.MethodName) prog_11_method_80_code (1 : Nat) (Option.some Jvm.ClassFile.FieldType.int)) ∈ q_gw := q_gw_of (q_t6 (List.mem_of_getElem? (i := 169) rfl)) rfl
theorem tw_6_17 : (Jvm.Cond.lays "CalendarReplicasModel" "CalendarReplicasModel" "toldDuration" "I") ∈ q_gw := q_gw_of (q_t6 (List.mem_of_getElem? (i := 17) rfl)) rfl
theorem tw_6_170 : (Jvm.Cond.methodLink "CalendarReplicasModel" (197 : Nat) ({ cls := "CalendarReplicasModel", name := "isDigit", desc := "(I)Z" } : Jvm.MethodName)) ∈ q_gw := q_gw_of (q_t6 (List.mem_of_getElem? (i := 170) rfl)) rfl
theorem tw_6_171 : (Jvm.Cond.static ({ cls := "CalendarReplicasModel", name := "isDigit", desc := "(I)Z" } : Jvm.MethodName)) ∈ q_gw := q_gw_of (q_t6 (List.mem_of_getElem? (i := 171) rfl)) rfl
theorem tw_6_172 : (Jvm.Cond.code ({ cls := "CalendarReplicasModel", name := "isDigit", desc := "(I)Z" } : Jvm.MethodName) prog_11_method_81_code (1 : Nat) (Option.some Jvm.ClassFile.FieldType.boolean)) ∈ q_gw := q_gw_of (q_t6 (List.mem_of_getElem? (i := 172) rfl)) rfl
theorem tw_6_173 : (Jvm.Cond.methodLink "CalendarReplicasModel" (206 : Nat) ({ cls := "CalendarReplicasModel", name := "takes", desc := "(I)Z" } : Jvm.MethodName)) ∈ q_gw := q_gw_of (q_t6 (List.mem_of_getElem? (i := 173) rfl)) rfl
theorem tw_6_174 : (Jvm.Cond.privateMethod ({ cls := "CalendarReplicasModel", name := "takes", desc := "(I)Z" } : Jvm.MethodName)) ∈ lw_tbl := List.mem_append_right _ (q_t6 (List.mem_of_getElem? (i := 174) rfl))
theorem tw_6_175 : (Jvm.Cond.instanceMethod ({ cls := "CalendarReplicasModel", name := "takes", desc := "(I)Z" } : Jvm.MethodName)) ∈ q_gw := q_gw_of (q_t6 (List.mem_of_getElem? (i := 175) rfl)) rfl
theorem tw_6_176 : (Jvm.Cond.code ({ cls := "CalendarReplicasModel", name := "takes", desc := "(I)Z" } : Jvm.MethodName) prog_11_method_83_code (3 : Nat) (Option.some Jvm.ClassFile.FieldType.boolean)) ∈ q_gw := q_gw_of (q_t6 (List.mem_of_getElem? (i := 176) rfl)) rfl
theorem tw_6_177 : (Jvm.Cond.methodLink "CalendarReplicasModel" (212 : Nat) ({ cls := "CalendarReplicasModel", name := "areOptions", desc := "()Z" } : Jvm.MethodName)) ∈ q_gw := q_gw_of (q_t6 (List.mem_of_getElem? (i := 177) rfl)) rfl
theorem tw_6_178 : (Jvm.Cond.privateMethod ({ cls := "CalendarReplicasModel", name := "areOptions", desc := "()Z" } : Jvm.MethodName)) ∈ lw_tbl := List.mem_append_right _ (q_t6 (List.mem_of_getElem? (i := 178) rfl))
theorem tw_6_179 : (Jvm.Cond.instanceMethod ({ cls := "CalendarReplicasModel", name := "areOptions", desc := "()Z" } : Jvm.MethodName)) ∈ q_gw := q_gw_of (q_t6 (List.mem_of_getElem? (i := 179) rfl)) rfl
theorem tw_6_18 : (Jvm.Cond.soleField "CalendarReplicasModel" "toldDuration") ∈ q_gw := q_gw_of (q_t6 (List.mem_of_getElem? (i := 18) rfl)) rfl
theorem tw_6_180 : (Jvm.Cond.code ({ cls := "CalendarReplicasModel", name := "areOptions", desc := "()Z" } : Jvm.MethodName) prog_11_method_86_code (5 : Nat) (Option.some Jvm.ClassFile.FieldType.boolean)) ∈ q_gw := q_gw_of (q_t6 (List.mem_of_getElem? (i := 180) rfl)) rfl
theorem tw_6_181 : (Jvm.Cond.methodLink "CalendarReplicasModel" (209 : Nat) ({ cls := "CalendarReplicasModel", name := "isOption", desc := "(I)Z" } : Jvm.MethodName)) ∈ q_gw := q_gw_of (q_t6 (List.mem_of_getElem? (i := 181) rfl)) rfl
theorem tw_6_182 : (Jvm.Cond.privateMethod ({ cls := "CalendarReplicasModel", name := "isOption", desc := "(I)Z" } : Jvm.MethodName)) ∈ lw_tbl := List.mem_append_right _ (q_t6 (List.mem_of_getElem? (i := 182) rfl))
theorem tw_6_183 : (Jvm.Cond.instanceMethod ({ cls := "CalendarReplicasModel", name := "isOption", desc := "(I)Z" } : Jvm.MethodName)) ∈ q_gw := q_gw_of (q_t6 (List.mem_of_getElem? (i := 183) rfl)) rfl
theorem tw_6_184 : (Jvm.Cond.code ({ cls := "CalendarReplicasModel", name := "isOption", desc := "(I)Z" } : Jvm.MethodName) prog_11_method_85_code (2 : Nat) (Option.some Jvm.ClassFile.FieldType.boolean)) ∈ q_gw := q_gw_of (q_t6 (List.mem_of_getElem? (i := 184) rfl)) rfl
theorem tw_6_185 : (Jvm.Cond.methodLink "CalendarReplicasModel" (200 : Nat) ({ cls := "CalendarReplicasModel", name := "areToldPersons", desc := "()Z" } : Jvm.MethodName)) ∈ q_gw := q_gw_of (q_t6 (List.mem_of_getElem? (i := 185) rfl)) rfl
theorem tw_6_186 : (Jvm.Cond.privateMethod ({ cls := "CalendarReplicasModel", name := "areToldPersons", desc := "()Z" } : Jvm.MethodName)) ∈ lw_tbl := List.mem_append_right _ (q_t6 (List.mem_of_getElem? (i := 186) rfl))
theorem tw_6_187 : (Jvm.Cond.instanceMethod ({ cls := "CalendarReplicasModel", name := "areToldPersons", desc := "()Z" } : Jvm.MethodName)) ∈ q_gw := q_gw_of (q_t6 (List.mem_of_getElem? (i := 187) rfl)) rfl
theorem tw_6_188 : (Jvm.Cond.code ({ cls := "CalendarReplicasModel", name := "areToldPersons", desc := "()Z" } : Jvm.MethodName) prog_11_method_84_code (2 : Nat) (Option.some Jvm.ClassFile.FieldType.boolean)) ∈ q_gw := q_gw_of (q_t6 (List.mem_of_getElem? (i := 188) rfl)) rfl
theorem tw_6_189 : (Jvm.Cond.methodLink "CalendarReplicasLaw" (46 : Nat) ({ cls := "CalendarReplicasModel", name := "move", desc := "(IIII)I" } : Jvm.MethodName)) ∈ q_gw := q_gw_of (q_t6 (List.mem_of_getElem? (i := 189) rfl)) rfl
theorem tw_6_19 : (Jvm.Cond.lays "CalendarReplicasModel" "CalendarReplicasModel" "toldRoom" "I") ∈ q_gw := q_gw_of (q_t6 (List.mem_of_getElem? (i := 19) rfl)) rfl
theorem tw_6_190 : (Jvm.Cond.instanceMethod ({ cls := "CalendarReplicasModel", name := "move", desc := "(IIII)I" } : Jvm.MethodName)) ∈ q_gw := q_gw_of (q_t6 (List.mem_of_getElem? (i := 190) rfl)) rfl
theorem tw_6_191 : (Jvm.Cond.selects "CalendarReplicasModel" ({ cls := "CalendarReplicasModel", name := "move", desc := "(IIII)I" } : Jvm.MethodName) ({ cls := "CalendarReplicasModel", name := "move", desc := "(IIII)I" } : Jvm.MethodName)) ∈ q_gw := q_gw_of (q_t6 (List.mem_of_getElem? (i := 191) rfl)) rfl
theorem tw_6_192 : (Jvm.Cond.code ({ cls := "CalendarReplicasModel", name := "move", desc := "(IIII)I" } : Jvm.MethodName) prog_11_method_38_code (5 : Nat) (Option.some Jvm.ClassFile.FieldType.int)) ∈ q_gw := q_gw_of (q_t6 (List.mem_of_getElem? (i := 192) rfl)) rfl
theorem tw_6_193 : (Jvm.Cond.methodLink "CalendarReplicasModel" (164 : Nat) ({ cls := "CalendarReplicasModel", name := "changes", desc := "(IIIIII)I" } : Jvm.MethodName)) ∈ q_gw := q_gw_of (q_t6 (List.mem_of_getElem? (i := 193) rfl)) rfl
theorem tw_6_194 : (Jvm.Cond.privateMethod ({ cls := "CalendarReplicasModel", name := "changes", desc := "(IIIIII)I" } : Jvm.MethodName)) ∈ lw_tbl := List.mem_append_right _ (q_t6 (List.mem_of_getElem? (i := 194) rfl))
theorem tw_6_195 : (Jvm.Cond.instanceMethod ({ cls := "CalendarReplicasModel", name := "changes", desc := "(IIIIII)I" } : Jvm.MethodName)) ∈ q_gw := q_gw_of (q_t6 (List.mem_of_getElem? (i := 195) rfl)) rfl
theorem tw_6_196 : (Jvm.Cond.code ({ cls := "CalendarReplicasModel", name := "changes", desc := "(IIIIII)I" } : Jvm.MethodName) prog_11_method_37_code (8 : Nat) (Option.some Jvm.ClassFile.FieldType.int)) ∈ q_gw := q_gw_of (q_t6 (List.mem_of_getElem? (i := 196) rfl)) rfl
theorem tw_6_197 : (Jvm.Cond.methodLink "CalendarReplicasModel" (161 : Nat) ({ cls := "CalendarReplicasModel", name := "isThere", desc := "(II)Z" } : Jvm.MethodName)) ∈ q_gw := q_gw_of (q_t6 (List.mem_of_getElem? (i := 197) rfl)) rfl
theorem tw_6_198 : (Jvm.Cond.privateMethod ({ cls := "CalendarReplicasModel", name := "isThere", desc := "(II)Z" } : Jvm.MethodName)) ∈ lw_tbl := List.mem_append_right _ (q_t6 (List.mem_of_getElem? (i := 198) rfl))
theorem tw_6_199 : (Jvm.Cond.instanceMethod ({ cls := "CalendarReplicasModel", name := "isThere", desc := "(II)Z" } : Jvm.MethodName)) ∈ q_gw := q_gw_of (q_t6 (List.mem_of_getElem? (i := 199) rfl)) rfl
theorem tw_6_2 : (Jvm.Cond.soleField "CalendarReplicasModel" "length") ∈ q_gw := q_gw_of (q_t6 (List.mem_of_getElem? (i := 2) rfl)) rfl
theorem tw_6_20 : (Jvm.Cond.soleField "CalendarReplicasModel" "toldRoom") ∈ q_gw := q_gw_of (q_t6 (List.mem_of_getElem? (i := 20) rfl)) rfl
theorem tw_6_200 : (Jvm.Cond.code ({ cls := "CalendarReplicasModel", name := "isThere", desc := "(II)Z" } : Jvm.MethodName) prog_11_method_36_code (3 : Nat) (Option.some Jvm.ClassFile.FieldType.boolean)) ∈ q_gw := q_gw_of (q_t6 (List.mem_of_getElem? (i := 200) rfl)) rfl
theorem tw_6_201 : (Jvm.Cond.methodLink "CalendarReplicasModel" (158 : Nat) ({ cls := "CalendarReplicasModel", name := "shows", desc := "(I)V" } : Jvm.MethodName)) ∈ q_gw := q_gw_of (q_t6 (List.mem_of_getElem? (i := 201) rfl)) rfl
theorem tw_6_202 : (Jvm.Cond.privateMethod ({ cls := "CalendarReplicasModel", name := "shows", desc := "(I)V" } : Jvm.MethodName)) ∈ lw_tbl := List.mem_append_right _ (q_t6 (List.mem_of_getElem? (i := 202) rfl))
theorem tw_6_203 : (Jvm.Cond.instanceMethod ({ cls := "CalendarReplicasModel", name := "shows", desc := "(I)V" } : Jvm.MethodName)) ∈ q_gw := q_gw_of (q_t6 (List.mem_of_getElem? (i := 203) rfl)) rfl
theorem tw_6_204 : (Jvm.Cond.code ({ cls := "CalendarReplicasModel", name := "shows", desc := "(I)V" } : Jvm.MethodName) prog_11_method_26_code (2 : Nat) (Option.none : Option Jvm.ClassFile.FieldType)) ∈ q_gw := q_gw_of (q_t6 (List.mem_of_getElem? (i := 204) rfl)) rfl
theorem tw_6_205 : (Jvm.Cond.methodLink "CalendarReplicasLaw" (50 : Nat) ({ cls := "CalendarReplicasModel", name := "changeRoom", desc := "(IIII)I" } : Jvm.MethodName)) ∈ q_gw := q_gw_of (q_t6 (List.mem_of_getElem? (i := 205) rfl)) rfl
theorem tw_6_206 : (Jvm.Cond.instanceMethod ({ cls := "CalendarReplicasModel", name := "changeRoom", desc := "(IIII)I" } : Jvm.MethodName)) ∈ q_gw := q_gw_of (q_t6 (List.mem_of_getElem? (i := 206) rfl)) rfl
theorem tw_6_207 : (Jvm.Cond.selects "CalendarReplicasModel" ({ cls := "CalendarReplicasModel", name := "changeRoom", desc := "(IIII)I" } : Jvm.MethodName) ({ cls := "CalendarReplicasModel", name := "changeRoom", desc := "(IIII)I" } : Jvm.MethodName)) ∈ q_gw := q_gw_of (q_t6 (List.mem_of_getElem? (i := 207) rfl)) rfl
theorem tw_6_208 : (Jvm.Cond.code ({ cls := "CalendarReplicasModel", name := "changeRoom", desc := "(IIII)I" } : Jvm.MethodName) prog_11_method_39_code (5 : Nat) (Option.some Jvm.ClassFile.FieldType.int)) ∈ q_gw := q_gw_of (q_t6 (List.mem_of_getElem? (i := 208) rfl)) rfl
theorem tw_6_209 : (Jvm.Cond.methodLink "CalendarReplicasLaw" (54 : Nat) ({ cls := "CalendarReplicasModel", name := "resize", desc := "(IIII)I" } : Jvm.MethodName)) ∈ q_gw := q_gw_of (q_t6 (List.mem_of_getElem? (i := 209) rfl)) rfl
theorem tw_6_21 : (Jvm.Cond.lays "CalendarReplicasModel" "CalendarReplicasModel" "toldPersons" "I") ∈ q_gw := q_gw_of (q_t6 (List.mem_of_getElem? (i := 21) rfl)) rfl
theorem tw_6_210 : (Jvm.Cond.instanceMethod ({ cls := "CalendarReplicasModel", name := "resize", desc := "(IIII)I" } : Jvm.MethodName)) ∈ q_gw := q_gw_of (q_t6 (List.mem_of_getElem? (i := 210) rfl)) rfl
theorem tw_6_211 : (Jvm.Cond.selects "CalendarReplicasModel" ({ cls := "CalendarReplicasModel", name := "resize", desc := "(IIII)I" } : Jvm.MethodName) ({ cls := "CalendarReplicasModel", name := "resize", desc := "(IIII)I" } : Jvm.MethodName)) ∈ q_gw := q_gw_of (q_t6 (List.mem_of_getElem? (i := 211) rfl)) rfl
theorem tw_6_212 : (Jvm.Cond.code ({ cls := "CalendarReplicasModel", name := "resize", desc := "(IIII)I" } : Jvm.MethodName) prog_11_method_40_code (5 : Nat) (Option.some Jvm.ClassFile.FieldType.int)) ∈ q_gw := q_gw_of (q_t6 (List.mem_of_getElem? (i := 212) rfl)) rfl
theorem tw_6_213 : (Jvm.Cond.methodLink "CalendarReplicasLaw" (58 : Nat) ({ cls := "CalendarReplicasModel", name := "join", desc := "(IIII)I" } : Jvm.MethodName)) ∈ q_gw := q_gw_of (q_t6 (List.mem_of_getElem? (i := 213) rfl)) rfl
theorem tw_6_214 : (Jvm.Cond.instanceMethod ({ cls := "CalendarReplicasModel", name := "join", desc := "(IIII)I" } : Jvm.MethodName)) ∈ q_gw := q_gw_of (q_t6 (List.mem_of_getElem? (i := 214) rfl)) rfl
theorem tw_6_215 : (Jvm.Cond.selects "CalendarReplicasModel" ({ cls := "CalendarReplicasModel", name := "join", desc := "(IIII)I" } : Jvm.MethodName) ({ cls := "CalendarReplicasModel", name := "join", desc := "(IIII)I" } : Jvm.MethodName)) ∈ q_gw := q_gw_of (q_t6 (List.mem_of_getElem? (i := 215) rfl)) rfl
theorem tw_6_216 : (Jvm.Cond.code ({ cls := "CalendarReplicasModel", name := "join", desc := "(IIII)I" } : Jvm.MethodName) prog_11_method_41_code (5 : Nat) (Option.some Jvm.ClassFile.FieldType.int)) ∈ q_gw := q_gw_of (q_t6 (List.mem_of_getElem? (i := 216) rfl)) rfl
theorem tw_6_217 : (Jvm.Cond.methodLink "CalendarReplicasLaw" (62 : Nat) ({ cls := "CalendarReplicasModel", name := "leave", desc := "(IIII)I" } : Jvm.MethodName)) ∈ q_gw := q_gw_of (q_t6 (List.mem_of_getElem? (i := 217) rfl)) rfl
theorem tw_6_218 : (Jvm.Cond.instanceMethod ({ cls := "CalendarReplicasModel", name := "leave", desc := "(IIII)I" } : Jvm.MethodName)) ∈ q_gw := q_gw_of (q_t6 (List.mem_of_getElem? (i := 218) rfl)) rfl
theorem tw_6_219 : (Jvm.Cond.selects "CalendarReplicasModel" ({ cls := "CalendarReplicasModel", name := "leave", desc := "(IIII)I" } : Jvm.MethodName) ({ cls := "CalendarReplicasModel", name := "leave", desc := "(IIII)I" } : Jvm.MethodName)) ∈ q_gw := q_gw_of (q_t6 (List.mem_of_getElem? (i := 219) rfl)) rfl
theorem tw_6_22 : (Jvm.Cond.soleField "CalendarReplicasModel" "toldPersons") ∈ q_gw := q_gw_of (q_t6 (List.mem_of_getElem? (i := 22) rfl)) rfl
theorem tw_6_220 : (Jvm.Cond.code ({ cls := "CalendarReplicasModel", name := "leave", desc := "(IIII)I" } : Jvm.MethodName) prog_11_method_42_code (5 : Nat) (Option.some Jvm.ClassFile.FieldType.int)) ∈ q_gw := q_gw_of (q_t6 (List.mem_of_getElem? (i := 220) rfl)) rfl
theorem tw_6_221 : (Jvm.Cond.methodLink "CalendarReplicasLaw" (66 : Nat) ({ cls := "CalendarReplicasModel", name := "cancel", desc := "(III)I" } : Jvm.MethodName)) ∈ q_gw := q_gw_of (q_t6 (List.mem_of_getElem? (i := 221) rfl)) rfl
theorem tw_6_222 : (Jvm.Cond.instanceMethod ({ cls := "CalendarReplicasModel", name := "cancel", desc := "(III)I" } : Jvm.MethodName)) ∈ q_gw := q_gw_of (q_t6 (List.mem_of_getElem? (i := 222) rfl)) rfl
theorem tw_6_223 : (Jvm.Cond.selects "CalendarReplicasModel" ({ cls := "CalendarReplicasModel", name := "cancel", desc := "(III)I" } : Jvm.MethodName) ({ cls := "CalendarReplicasModel", name := "cancel", desc := "(III)I" } : Jvm.MethodName)) ∈ q_gw := q_gw_of (q_t6 (List.mem_of_getElem? (i := 223) rfl)) rfl
theorem tw_6_224 : (Jvm.Cond.code ({ cls := "CalendarReplicasModel", name := "cancel", desc := "(III)I" } : Jvm.MethodName) prog_11_method_43_code (4 : Nat) (Option.some Jvm.ClassFile.FieldType.int)) ∈ q_gw := q_gw_of (q_t6 (List.mem_of_getElem? (i := 224) rfl)) rfl
theorem tw_6_225 : (Jvm.Cond.methodLink "CalendarReplicasLaw" (70 : Nat) ({ cls := "CalendarReplicasModel", name := "send", desc := "(II)I" } : Jvm.MethodName)) ∈ q_gw := q_gw_of (q_t6 (List.mem_of_getElem? (i := 225) rfl)) rfl
theorem tw_6_226 : (Jvm.Cond.instanceMethod ({ cls := "CalendarReplicasModel", name := "send", desc := "(II)I" } : Jvm.MethodName)) ∈ q_gw := q_gw_of (q_t6 (List.mem_of_getElem? (i := 226) rfl)) rfl
theorem tw_6_227 : (Jvm.Cond.selects "CalendarReplicasModel" ({ cls := "CalendarReplicasModel", name := "send", desc := "(II)I" } : Jvm.MethodName) ({ cls := "CalendarReplicasModel", name := "send", desc := "(II)I" } : Jvm.MethodName)) ∈ q_gw := q_gw_of (q_t6 (List.mem_of_getElem? (i := 227) rfl)) rfl
theorem tw_6_228 : (Jvm.Cond.code ({ cls := "CalendarReplicasModel", name := "send", desc := "(II)I" } : Jvm.MethodName) prog_11_method_45_code (4 : Nat) (Option.some Jvm.ClassFile.FieldType.int)) ∈ q_gw := q_gw_of (q_t6 (List.mem_of_getElem? (i := 228) rfl)) rfl
theorem tw_6_229 : (Jvm.Cond.methodLink "CalendarReplicasLaw" (74 : Nat) ({ cls := "CalendarReplicasModel", name := "sendOne", desc := "(III)I" } : Jvm.MethodName)) ∈ q_gw := q_gw_of (q_t6 (List.mem_of_getElem? (i := 229) rfl)) rfl
theorem tw_6_23 : (Jvm.Cond.lays "CalendarReplicasModel" "CalendarReplicasModel" "toldWeight" "I") ∈ q_gw := q_gw_of (q_t6 (List.mem_of_getElem? (i := 23) rfl)) rfl
theorem tw_6_230 : (Jvm.Cond.instanceMethod ({ cls := "CalendarReplicasModel", name := "sendOne", desc := "(III)I" } : Jvm.MethodName)) ∈ q_gw := q_gw_of (q_t6 (List.mem_of_getElem? (i := 230) rfl)) rfl
theorem tw_6_231 : (Jvm.Cond.selects "CalendarReplicasModel" ({ cls := "CalendarReplicasModel", name := "sendOne", desc := "(III)I" } : Jvm.MethodName) ({ cls := "CalendarReplicasModel", name := "sendOne", desc := "(III)I" } : Jvm.MethodName)) ∈ q_gw := q_gw_of (q_t6 (List.mem_of_getElem? (i := 231) rfl)) rfl
theorem tw_6_232 : (Jvm.Cond.code ({ cls := "CalendarReplicasModel", name := "sendOne", desc := "(III)I" } : Jvm.MethodName) prog_11_method_46_code (6 : Nat) (Option.some Jvm.ClassFile.FieldType.int)) ∈ q_gw := q_gw_of (q_t6 (List.mem_of_getElem? (i := 232) rfl)) rfl
theorem tw_6_233 : (Jvm.Cond.methodLink "CalendarReplicasModel" (167 : Nat) ({ cls := "CalendarReplicasModel", name := "findEdit", desc := "(I)I" } : Jvm.MethodName)) ∈ q_gw := q_gw_of (q_t6 (List.mem_of_getElem? (i := 233) rfl)) rfl
theorem tw_6_234 : (Jvm.Cond.privateMethod ({ cls := "CalendarReplicasModel", name := "findEdit", desc := "(I)I" } : Jvm.MethodName)) ∈ lw_tbl := List.mem_append_right _ (q_t6 (List.mem_of_getElem? (i := 234) rfl))
theorem tw_6_235 : (Jvm.Cond.instanceMethod ({ cls := "CalendarReplicasModel", name := "findEdit", desc := "(I)I" } : Jvm.MethodName)) ∈ q_gw := q_gw_of (q_t6 (List.mem_of_getElem? (i := 235) rfl)) rfl
theorem tw_6_236 : (Jvm.Cond.code ({ cls := "CalendarReplicasModel", name := "findEdit", desc := "(I)I" } : Jvm.MethodName) prog_11_method_44_code (3 : Nat) (Option.some Jvm.ClassFile.FieldType.int)) ∈ q_gw := q_gw_of (q_t6 (List.mem_of_getElem? (i := 236) rfl)) rfl
theorem tw_6_237 : (Jvm.Cond.methodLink "CalendarReplicasLaw" (78 : Nat) ({ cls := "CalendarReplicasModel", name := "compact", desc := "()I" } : Jvm.MethodName)) ∈ q_gw := q_gw_of (q_t6 (List.mem_of_getElem? (i := 237) rfl)) rfl
theorem tw_6_238 : (Jvm.Cond.instanceMethod ({ cls := "CalendarReplicasModel", name := "compact", desc := "()I" } : Jvm.MethodName)) ∈ q_gw := q_gw_of (q_t6 (List.mem_of_getElem? (i := 238) rfl)) rfl
theorem tw_6_239 : (Jvm.Cond.selects "CalendarReplicasModel" ({ cls := "CalendarReplicasModel", name := "compact", desc := "()I" } : Jvm.MethodName) ({ cls := "CalendarReplicasModel", name := "compact", desc := "()I" } : Jvm.MethodName)) ∈ q_gw := q_gw_of (q_t6 (List.mem_of_getElem? (i := 239) rfl)) rfl
theorem tw_6_24 : (Jvm.Cond.soleField "CalendarReplicasModel" "toldWeight") ∈ q_gw := q_gw_of (q_t6 (List.mem_of_getElem? (i := 24) rfl)) rfl
theorem tw_6_25 : (Jvm.Cond.lays "CalendarReplicasModel" "CalendarReplicasModel" "toldPeriod" "I") ∈ q_gw := q_gw_of (q_t6 (List.mem_of_getElem? (i := 25) rfl)) rfl
theorem tw_6_26 : (Jvm.Cond.soleField "CalendarReplicasModel" "toldPeriod") ∈ q_gw := q_gw_of (q_t6 (List.mem_of_getElem? (i := 26) rfl)) rfl
theorem tw_6_27 : (Jvm.Cond.lays "CalendarReplicasModel" "CalendarReplicasModel" "toldCount" "I") ∈ q_gw := q_gw_of (q_t6 (List.mem_of_getElem? (i := 27) rfl)) rfl
theorem tw_6_28 : (Jvm.Cond.soleField "CalendarReplicasModel" "toldCount") ∈ q_gw := q_gw_of (q_t6 (List.mem_of_getElem? (i := 28) rfl)) rfl
theorem tw_6_29 : (Jvm.Cond.lays "CalendarReplicasModel" "CalendarReplicasModel" "place" "I") ∈ q_gw := q_gw_of (q_t6 (List.mem_of_getElem? (i := 29) rfl)) rfl
theorem tw_6_3 : (Jvm.Cond.laysFinal "CalendarReplicasModel" "CalendarReplicasModel" "pape\x72" "[I") ∈ q_gw := q_gw_of (q_t6 (List.mem_of_getElem? (i := 3) rfl)) rfl
theorem tw_6_30 : (Jvm.Cond.soleField "CalendarReplicasModel" "place") ∈ q_gw := q_gw_of (q_t6 (List.mem_of_getElem? (i := 30) rfl)) rfl
theorem tw_6_31 : (Jvm.Cond.laysFinal "CalendarReplicasModel" "CalendarReplicasModel" "taken" "[I") ∈ q_gw := q_gw_of (q_t6 (List.mem_of_getElem? (i := 31) rfl)) rfl
theorem tw_6_32 : (Jvm.Cond.soleField "CalendarReplicasModel" "taken") ∈ q_gw := q_gw_of (q_t6 (List.mem_of_getElem? (i := 32) rfl)) rfl
theorem tw_6_33 : (Jvm.Cond.laysFinal "CalendarReplicasModel" "CalendarReplicasModel" "used" "[I") ∈ q_gw := q_gw_of (q_t6 (List.mem_of_getElem? (i := 33) rfl)) rfl
theorem tw_6_34 : (Jvm.Cond.soleField "CalendarReplicasModel" "used") ∈ q_gw := q_gw_of (q_t6 (List.mem_of_getElem? (i := 34) rfl)) rfl
theorem tw_6_35 : (Jvm.Cond.superclass "CalendarReplicasModel" "java/lang/Object") ∈ q_gw := q_gw_of (q_t6 (List.mem_of_getElem? (i := 35) rfl)) rfl
theorem tw_6_36 : (Jvm.Cond.methodLink "CalendarReplicasLaw" (17 : Nat) ({ cls := "CalendarReplicasModel", name := "setRoom", desc := "(IIII)I" } : Jvm.MethodName)) ∈ q_gw := q_gw_of (q_t6 (List.mem_of_getElem? (i := 36) rfl)) rfl
theorem tw_6_37 : (Jvm.Cond.instanceMethod ({ cls := "CalendarReplicasModel", name := "setRoom", desc := "(IIII)I" } : Jvm.MethodName)) ∈ q_gw := q_gw_of (q_t6 (List.mem_of_getElem? (i := 37) rfl)) rfl
theorem tw_6_38 : (Jvm.Cond.selects "CalendarReplicasModel" ({ cls := "CalendarReplicasModel", name := "setRoom", desc := "(IIII)I" } : Jvm.MethodName) ({ cls := "CalendarReplicasModel", name := "setRoom", desc := "(IIII)I" } : Jvm.MethodName)) ∈ q_gw := q_gw_of (q_t6 (List.mem_of_getElem? (i := 38) rfl)) rfl
theorem tw_6_39 : (Jvm.Cond.code ({ cls := "CalendarReplicasModel", name := "setRoom", desc := "(IIII)I" } : Jvm.MethodName) prog_11_method_28_code (6 : Nat) (Option.some Jvm.ClassFile.FieldType.int)) ∈ q_gw := q_gw_of (q_t6 (List.mem_of_getElem? (i := 39) rfl)) rfl
theorem tw_6_4 : (Jvm.Cond.soleField "CalendarReplicasModel" "pape\x72") ∈ q_gw := q_gw_of (q_t6 (List.mem_of_getElem? (i := 4) rfl)) rfl
theorem tw_6_40 : (Jvm.Cond.methodLink "CalendarReplicasModel" (42 : Nat) ({ cls := "CalendarReplicasModel", name := "in", desc := "(III)Z" } : Jvm.MethodName)) ∈ q_gw := q_gw_of (q_t6 (List.mem_of_getElem? (i := 40) rfl)) rfl
theorem tw_6_41 : (Jvm.Cond.static ({ cls := "CalendarReplicasModel", name := "in", desc := "(III)Z" } : Jvm.MethodName)) ∈ q_gw := q_gw_of (q_t6 (List.mem_of_getElem? (i := 41) rfl)) rfl
theorem tw_6_42 : (Jvm.Cond.code ({ cls := "CalendarReplicasModel", name := "in", desc := "(III)Z" } : Jvm.MethodName) prog_11_method_3_code (3 : Nat) (Option.some Jvm.ClassFile.FieldType.boolean)) ∈ q_gw := q_gw_of (q_t6 (List.mem_of_getElem? (i := 42) rfl)) rfl
theorem tw_6_43 : (Jvm.Cond.methodLink "CalendarReplicasModel" (120 : Nat) ({ cls := "CalendarReplicasModel", name := "isBegun", desc := "()Z" } : Jvm.MethodName)) ∈ q_gw := q_gw_of (q_t6 (List.mem_of_getElem? (i := 43) rfl)) rfl
theorem tw_6_44 : (Jvm.Cond.privateMethod ({ cls := "CalendarReplicasModel", name := "isBegun", desc := "()Z" } : Jvm.MethodName)) ∈ lw_tbl := List.mem_append_right _ (q_t6 (List.mem_of_getElem? (i := 44) rfl))
theorem tw_6_45 : (Jvm.Cond.instanceMethod ({ cls := "CalendarReplicasModel", name := "isBegun", desc := "()Z" } : Jvm.MethodName)) ∈ q_gw := q_gw_of (q_t6 (List.mem_of_getElem? (i := 45) rfl)) rfl
theorem tw_6_46 : (Jvm.Cond.code ({ cls := "CalendarReplicasModel", name := "isBegun", desc := "()Z" } : Jvm.MethodName) prog_11_method_27_code (1 : Nat) (Option.some Jvm.ClassFile.FieldType.boolean)) ∈ q_gw := q_gw_of (q_t6 (List.mem_of_getElem? (i := 46) rfl)) rfl
theorem tw_6_47 : (Jvm.Cond.methodLink "CalendarReplicasLaw" (22 : Nat) ({ cls := "CalendarReplicasModel", name := "setAbsence", desc := "(III)I" } : Jvm.MethodName)) ∈ q_gw := q_gw_of (q_t6 (List.mem_of_getElem? (i := 47) rfl)) rfl
theorem tw_6_48 : (Jvm.Cond.instanceMethod ({ cls := "CalendarReplicasModel", name := "setAbsence", desc := "(III)I" } : Jvm.MethodName)) ∈ q_gw := q_gw_of (q_t6 (List.mem_of_getElem? (i := 48) rfl)) rfl
theorem tw_6_49 : (Jvm.Cond.selects "CalendarReplicasModel" ({ cls := "CalendarReplicasModel", name := "setAbsence", desc := "(III)I" } : Jvm.MethodName) ({ cls := "CalendarReplicasModel", name := "setAbsence", desc := "(III)I" } : Jvm.MethodName)) ∈ q_gw := q_gw_of (q_t6 (List.mem_of_getElem? (i := 49) rfl)) rfl
theorem tw_6_5 : (Jvm.Cond.lays "CalendarReplicasModel" "CalendarReplicasModel" "printed" "I") ∈ q_gw := q_gw_of (q_t6 (List.mem_of_getElem? (i := 5) rfl)) rfl
theorem tw_6_50 : (Jvm.Cond.code ({ cls := "CalendarReplicasModel", name := "setAbsence", desc := "(III)I" } : Jvm.MethodName) prog_11_method_29_code (5 : Nat) (Option.some Jvm.ClassFile.FieldType.int)) ∈ q_gw := q_gw_of (q_t6 (List.mem_of_getElem? (i := 50) rfl)) rfl
theorem tw_6_51 : (Jvm.Cond.methodLink "CalendarReplicasLaw" (27 : Nat) ({ cls := "CalendarReplicasModel", name := "addOrde\x72", desc := "(II)I" } : Jvm.MethodName)) ∈ q_gw := q_gw_of (q_t6 (List.mem_of_getElem? (i := 51) rfl)) rfl
theorem tw_6_52 : (Jvm.Cond.instanceMethod ({ cls := "CalendarReplicasModel", name := "addOrde\x72", desc := "(II)I" } : Jvm.MethodName)) ∈ q_gw := q_gw_of (q_t6 (List.mem_of_getElem? (i := 52) rfl)) rfl
theorem tw_6_53 : (Jvm.Cond.selects "CalendarReplicasModel" ({ cls := "CalendarReplicasModel", name := "addOrde\x72", desc := "(II)I" } : Jvm.MethodName) ({ cls := "CalendarReplicasModel", name := "addOrde\x72", desc := "(II)I" } : Jvm.MethodName)) ∈ q_gw := q_gw_of (q_t6 (List.mem_of_getElem? (i := 53) rfl)) rfl
theorem tw_6_54 : (Jvm.Cond.code ({ cls := "CalendarReplicasModel", name := "addOrde\x72", desc := "(II)I" } : Jvm.MethodName) prog_11_method_30_code (3 : Nat) (Option.some Jvm.ClassFile.FieldType.int)) ∈ q_gw := q_gw_of (q_t6 (List.mem_of_getElem? (i := 54) rfl)) rfl
theorem tw_6_55 : (Jvm.Cond.methodLink "CalendarReplicasModel" (111 : Nat) ({ cls := "CalendarReplicasModel", name := "isAdmissible", desc := "(I)Z" } : Jvm.MethodName)) ∈ q_gw := q_gw_of (q_t6 (List.mem_of_getElem? (i := 55) rfl)) rfl
theorem tw_6_56 : (Jvm.Cond.privateMethod ({ cls := "CalendarReplicasModel", name := "isAdmissible", desc := "(I)Z" } : Jvm.MethodName)) ∈ lw_tbl := List.mem_append_right _ (q_t6 (List.mem_of_getElem? (i := 56) rfl))
theorem tw_6_57 : (Jvm.Cond.instanceMethod ({ cls := "CalendarReplicasModel", name := "isAdmissible", desc := "(I)Z" } : Jvm.MethodName)) ∈ q_gw := q_gw_of (q_t6 (List.mem_of_getElem? (i := 57) rfl)) rfl
theorem tw_6_58 : (Jvm.Cond.code ({ cls := "CalendarReplicasModel", name := "isAdmissible", desc := "(I)Z" } : Jvm.MethodName) prog_11_method_21_code (5 : Nat) (Option.some Jvm.ClassFile.FieldType.boolean)) ∈ q_gw := q_gw_of (q_t6 (List.mem_of_getElem? (i := 58) rfl)) rfl
theorem tw_6_59 : (Jvm.Cond.methodLink "CalendarReplicasModel" (91 : Nat) ({ cls := "CalendarReplicasModel", name := "isFounded", desc := "(II)Z" } : Jvm.MethodName)) ∈ q_gw := q_gw_of (q_t6 (List.mem_of_getElem? (i := 59) rfl)) rfl
theorem tw_6_6 : (Jvm.Cond.soleField "CalendarReplicasModel" "printed") ∈ q_gw := q_gw_of (q_t6 (List.mem_of_getElem? (i := 6) rfl)) rfl
theorem tw_6_60 : (Jvm.Cond.privateMethod ({ cls := "CalendarReplicasModel", name := "isFounded", desc := "(II)Z" } : Jvm.MethodName)) ∈ lw_tbl := List.mem_append_right _ (q_t6 (List.mem_of_getElem? (i := 60) rfl))
theorem tw_6_61 : (Jvm.Cond.instanceMethod ({ cls := "CalendarReplicasModel", name := "isFounded", desc := "(II)Z" } : Jvm.MethodName)) ∈ q_gw := q_gw_of (q_t6 (List.mem_of_getElem? (i := 61) rfl)) rfl
theorem tw_6_62 : (Jvm.Cond.code ({ cls := "CalendarReplicasModel", name := "isFounded", desc := "(II)Z" } : Jvm.MethodName) prog_11_method_20_code (5 : Nat) (Option.some Jvm.ClassFile.FieldType.boolean)) ∈ q_gw := q_gw_of (q_t6 (List.mem_of_getElem? (i := 62) rfl)) rfl
theorem tw_6_63 : (Jvm.Cond.methodLink "CalendarReplicasModel" (54 : Nat) ({ cls := "CalendarReplicasModel", name := "edit", desc := "(II)I" } : Jvm.MethodName)) ∈ q_gw := q_gw_of (q_t6 (List.mem_of_getElem? (i := 63) rfl)) rfl
theorem tw_6_64 : (Jvm.Cond.static ({ cls := "CalendarReplicasModel", name := "edit", desc := "(II)I" } : Jvm.MethodName)) ∈ q_gw := q_gw_of (q_t6 (List.mem_of_getElem? (i := 64) rfl)) rfl
theorem tw_6_65 : (Jvm.Cond.code ({ cls := "CalendarReplicasModel", name := "edit", desc := "(II)I" } : Jvm.MethodName) prog_11_method_6_code (2 : Nat) (Option.some Jvm.ClassFile.FieldType.int)) ∈ q_gw := q_gw_of (q_t6 (List.mem_of_getElem? (i := 65) rfl)) rfl
theorem tw_6_66 : (Jvm.Cond.methodLink "CalendarReplicasModel" (88 : Nat) ({ cls := "CalendarReplicasModel", name := "isOfBase", desc := "(I)Z" } : Jvm.MethodName)) ∈ q_gw := q_gw_of (q_t6 (List.mem_of_getElem? (i := 66) rfl)) rfl
theorem tw_6_67 : (Jvm.Cond.privateMethod ({ cls := "CalendarReplicasModel", name := "isOfBase", desc := "(I)Z" } : Jvm.MethodName)) ∈ lw_tbl := List.mem_append_right _ (q_t6 (List.mem_of_getElem? (i := 67) rfl))
theorem tw_6_68 : (Jvm.Cond.instanceMethod ({ cls := "CalendarReplicasModel", name := "isOfBase", desc := "(I)Z" } : Jvm.MethodName)) ∈ q_gw := q_gw_of (q_t6 (List.mem_of_getElem? (i := 68) rfl)) rfl
theorem tw_6_69 : (Jvm.Cond.code ({ cls := "CalendarReplicasModel", name := "isOfBase", desc := "(I)Z" } : Jvm.MethodName) prog_11_method_19_code (4 : Nat) (Option.some Jvm.ClassFile.FieldType.boolean)) ∈ q_gw := q_gw_of (q_t6 (List.mem_of_getElem? (i := 69) rfl)) rfl
theorem tw_6_7 : (Jvm.Cond.lays "CalendarReplicasModel" "CalendarReplicasModel" "many" "I") ∈ q_gw := q_gw_of (q_t6 (List.mem_of_getElem? (i := 7) rfl)) rfl
theorem tw_6_70 : (Jvm.Cond.methodLink "CalendarReplicasModel" (95 : Nat) ({ cls := "CalendarReplicasModel", name := "clashes", desc := "(II)Z" } : Jvm.MethodName)) ∈ q_gw := q_gw_of (q_t6 (List.mem_of_getElem? (i := 70) rfl)) rfl
theorem tw_6_71 : (Jvm.Cond.privateMethod ({ cls := "CalendarReplicasModel", name := "clashes", desc := "(II)Z" } : Jvm.MethodName)) ∈ lw_tbl := List.mem_append_right _ (q_t6 (List.mem_of_getElem? (i := 71) rfl))
theorem tw_6_72 : (Jvm.Cond.instanceMethod ({ cls := "CalendarReplicasModel", name := "clashes", desc := "(II)Z" } : Jvm.MethodName)) ∈ q_gw := q_gw_of (q_t6 (List.mem_of_getElem? (i := 72) rfl)) rfl
theorem tw_6_73 : (Jvm.Cond.code ({ cls := "CalendarReplicasModel", name := "clashes", desc := "(II)Z" } : Jvm.MethodName) prog_11_method_18_code (7 : Nat) (Option.some Jvm.ClassFile.FieldType.boolean)) ∈ q_gw := q_gw_of (q_t6 (List.mem_of_getElem? (i := 73) rfl)) rfl
theorem tw_6_74 : (Jvm.Cond.methodLink "CalendarReplicasModel" (85 : Nat) ({ cls := "CalendarReplicasModel", name := "isOfPerson", desc := "(I)Z" } : Jvm.MethodName)) ∈ q_gw := q_gw_of (q_t6 (List.mem_of_getElem? (i := 74) rfl)) rfl
theorem tw_6_75 : (Jvm.Cond.privateMethod ({ cls := "CalendarReplicasModel", name := "isOfPerson", desc := "(I)Z" } : Jvm.MethodName)) ∈ lw_tbl := List.mem_append_right _ (q_t6 (List.mem_of_getElem? (i := 75) rfl))
theorem tw_6_76 : (Jvm.Cond.instanceMethod ({ cls := "CalendarReplicasModel", name := "isOfPerson", desc := "(I)Z" } : Jvm.MethodName)) ∈ q_gw := q_gw_of (q_t6 (List.mem_of_getElem? (i := 76) rfl)) rfl
theorem tw_6_77 : (Jvm.Cond.code ({ cls := "CalendarReplicasModel", name := "isOfPerson", desc := "(I)Z" } : Jvm.MethodName) prog_11_method_17_code (2 : Nat) (Option.some Jvm.ClassFile.FieldType.boolean)) ∈ q_gw := q_gw_of (q_t6 (List.mem_of_getElem? (i := 77) rfl)) rfl
theorem tw_6_78 : (Jvm.Cond.methodLink "CalendarReplicasModel" (98 : Nat) ({ cls := "CalendarReplicasModel", name := "forms", desc := "(I)V" } : Jvm.MethodName)) ∈ q_gw := q_gw_of (q_t6 (List.mem_of_getElem? (i := 78) rfl)) rfl
theorem tw_6_79 : (Jvm.Cond.privateMethod ({ cls := "CalendarReplicasModel", name := "forms", desc := "(I)V" } : Jvm.MethodName)) ∈ lw_tbl := List.mem_append_right _ (q_t6 (List.mem_of_getElem? (i := 79) rfl))
theorem tw_6_8 : (Jvm.Cond.soleField "CalendarReplicasModel" "many") ∈ q_gw := q_gw_of (q_t6 (List.mem_of_getElem? (i := 8) rfl)) rfl
theorem tw_6_80 : (Jvm.Cond.instanceMethod ({ cls := "CalendarReplicasModel", name := "forms", desc := "(I)V" } : Jvm.MethodName)) ∈ q_gw := q_gw_of (q_t6 (List.mem_of_getElem? (i := 80) rfl)) rfl
theorem tw_6_81 : (Jvm.Cond.code ({ cls := "CalendarReplicasModel", name := "forms", desc := "(I)V" } : Jvm.MethodName) prog_11_method_11_code (3 : Nat) (Option.none : Option Jvm.ClassFile.FieldType)) ∈ q_gw := q_gw_of (q_t6 (List.mem_of_getElem? (i := 81) rfl)) rfl
theorem tw_6_82 : (Jvm.Cond.methodLink "CalendarReplicasModel" (61 : Nat) ({ cls := "CalendarReplicasModel", name := "carriesOut", desc := "(I)V" } : Jvm.MethodName)) ∈ q_gw := q_gw_of (q_t6 (List.mem_of_getElem? (i := 82) rfl)) rfl
theorem tw_6_83 : (Jvm.Cond.privateMethod ({ cls := "CalendarReplicasModel", name := "carriesOut", desc := "(I)V" } : Jvm.MethodName)) ∈ lw_tbl := List.mem_append_right _ (q_t6 (List.mem_of_getElem? (i := 83) rfl))
theorem tw_6_84 : (Jvm.Cond.instanceMethod ({ cls := "CalendarReplicasModel", name := "carriesOut", desc := "(I)V" } : Jvm.MethodName)) ∈ q_gw := q_gw_of (q_t6 (List.mem_of_getElem? (i := 84) rfl)) rfl
theorem tw_6_85 : (Jvm.Cond.code ({ cls := "CalendarReplicasModel", name := "carriesOut", desc := "(I)V" } : Jvm.MethodName) prog_11_method_10_code (6 : Nat) (Option.none : Option Jvm.ClassFile.FieldType)) ∈ q_gw := q_gw_of (q_t6 (List.mem_of_getElem? (i := 85) rfl)) rfl
theorem tw_6_86 : (Jvm.Cond.methodLink "CalendarReplicasModel" (50 : Nat) ({ cls := "CalendarReplicasModel", name := "meeting", desc := "(II)I" } : Jvm.MethodName)) ∈ q_gw := q_gw_of (q_t6 (List.mem_of_getElem? (i := 86) rfl)) rfl
theorem tw_6_87 : (Jvm.Cond.static ({ cls := "CalendarReplicasModel", name := "meeting", desc := "(II)I" } : Jvm.MethodName)) ∈ q_gw := q_gw_of (q_t6 (List.mem_of_getElem? (i := 87) rfl)) rfl
theorem tw_6_88 : (Jvm.Cond.code ({ cls := "CalendarReplicasModel", name := "meeting", desc := "(II)I" } : Jvm.MethodName) prog_11_method_7_code (2 : Nat) (Option.some Jvm.ClassFile.FieldType.int)) ∈ q_gw := q_gw_of (q_t6 (List.mem_of_getElem? (i := 88) rfl)) rfl
theorem tw_6_89 : (Jvm.Cond.methodLink "CalendarReplicasModel" (57 : Nat) ({ cls := "CalendarReplicasModel", name := "find", desc := "(I)I" } : Jvm.MethodName)) ∈ q_gw := q_gw_of (q_t6 (List.mem_of_getElem? (i := 89) rfl)) rfl
theorem tw_6_9 : (Jvm.Cond.laysFinal "CalendarReplicasModel" "CalendarReplicasModel" "m" "[I") ∈ q_gw := q_gw_of (q_t6 (List.mem_of_getElem? (i := 9) rfl)) rfl
theorem tw_6_90 : (Jvm.Cond.privateMethod ({ cls := "CalendarReplicasModel", name := "find", desc := "(I)I" } : Jvm.MethodName)) ∈ lw_tbl := List.mem_append_right _ (q_t6 (List.mem_of_getElem? (i := 90) rfl))
theorem tw_6_91 : (Jvm.Cond.instanceMethod ({ cls := "CalendarReplicasModel", name := "find", desc := "(I)I" } : Jvm.MethodName)) ∈ q_gw := q_gw_of (q_t6 (List.mem_of_getElem? (i := 91) rfl)) rfl
theorem tw_6_92 : (Jvm.Cond.code ({ cls := "CalendarReplicasModel", name := "find", desc := "(I)I" } : Jvm.MethodName) prog_11_method_8_code (3 : Nat) (Option.some Jvm.ClassFile.FieldType.int)) ∈ q_gw := q_gw_of (q_t6 (List.mem_of_getElem? (i := 92) rfl)) rfl
theorem tw_6_93 : (Jvm.Cond.methodLink "CalendarReplicasModel" (101 : Nat) ({ cls := "CalendarReplicasModel", name := "isValid", desc := "()Z" } : Jvm.MethodName)) ∈ q_gw := q_gw_of (q_t6 (List.mem_of_getElem? (i := 93) rfl)) rfl
theorem tw_6_94 : (Jvm.Cond.privateMethod ({ cls := "CalendarReplicasModel", name := "isValid", desc := "()Z" } : Jvm.MethodName)) ∈ lw_tbl := List.mem_append_right _ (q_t6 (List.mem_of_getElem? (i := 94) rfl))
theorem tw_6_95 : (Jvm.Cond.instanceMethod ({ cls := "CalendarReplicasModel", name := "isValid", desc := "()Z" } : Jvm.MethodName)) ∈ q_gw := q_gw_of (q_t6 (List.mem_of_getElem? (i := 95) rfl)) rfl
theorem tw_6_96 : (Jvm.Cond.code ({ cls := "CalendarReplicasModel", name := "isValid", desc := "()Z" } : Jvm.MethodName) prog_11_method_16_code (5 : Nat) (Option.some Jvm.ClassFile.FieldType.boolean)) ∈ q_gw := q_gw_of (q_t6 (List.mem_of_getElem? (i := 96) rfl)) rfl
theorem tw_6_97 : (Jvm.Cond.methodLink "CalendarReplicasModel" (81 : Nat) ({ cls := "CalendarReplicasModel", name := "isWell", desc := "(I)Z" } : Jvm.MethodName)) ∈ q_gw := q_gw_of (q_t6 (List.mem_of_getElem? (i := 97) rfl)) rfl
theorem tw_6_98 : (Jvm.Cond.privateMethod ({ cls := "CalendarReplicasModel", name := "isWell", desc := "(I)Z" } : Jvm.MethodName)) ∈ lw_tbl := List.mem_append_right _ (q_t6 (List.mem_of_getElem? (i := 98) rfl))
theorem tw_6_99 : (Jvm.Cond.instanceMethod ({ cls := "CalendarReplicasModel", name := "isWell", desc := "(I)Z" } : Jvm.MethodName)) ∈ q_gw := q_gw_of (q_t6 (List.mem_of_getElem? (i := 99) rfl)) rfl
theorem tw_7_0 : (Jvm.Cond.code ({ cls := "CalendarReplicasModel", name := "compact", desc := "()I" } : Jvm.MethodName) prog_11_method_47_code (3 : Nat) (Option.some Jvm.ClassFile.FieldType.int)) ∈ q_gw := q_gw_of (q_t7 (List.mem_of_getElem? (i := 0) rfl)) rfl
theorem tw_7_1 : (Jvm.Cond.methodLink "CalendarReplicasLaw" (82 : Nat) ({ cls := "CalendarReplicasModel", name := "meetings", desc := "(I)I" } : Jvm.MethodName)) ∈ q_gw := q_gw_of (q_t7 (List.mem_of_getElem? (i := 1) rfl)) rfl
theorem tw_7_10 : (Jvm.Cond.privateMethod ({ cls := "CalendarReplicasModel", name := "indexOf", desc := "(I)I" } : Jvm.MethodName)) ∈ lw_tbl := List.mem_append_right _ (q_t7 (List.mem_of_getElem? (i := 10) rfl))
theorem tw_7_100 : (Jvm.Cond.code ({ cls := "CalendarReplicasModel", name := "obstacle", desc := "(II)I" } : Jvm.MethodName) prog_11_method_72_code (6 : Nat) (Option.some Jvm.ClassFile.FieldType.int)) ∈ q_gw := q_gw_of (q_t7 (List.mem_of_getElem? (i := 100) rfl)) rfl
theorem tw_7_101 : (Jvm.Cond.methodLink "CalendarReplicasLaw" (162 : Nat) ({ cls := "CalendarReplicasModel", name := "cost", desc := "(II)I" } : Jvm.MethodName)) ∈ q_gw := q_gw_of (q_t7 (List.mem_of_getElem? (i := 101) rfl)) rfl
theorem tw_7_102 : (Jvm.Cond.instanceMethod ({ cls := "CalendarReplicasModel", name := "cost", desc := "(II)I" } : Jvm.MethodName)) ∈ q_gw := q_gw_of (q_t7 (List.mem_of_getElem? (i := 102) rfl)) rfl
theorem tw_7_103 : (Jvm.Cond.selects "CalendarReplicasModel" ({ cls := "CalendarReplicasModel", name := "cost", desc := "(II)I" } : Jvm.MethodName) ({ cls := "CalendarReplicasModel", name := "cost", desc := "(II)I" } : Jvm.MethodName)) ∈ q_gw := q_gw_of (q_t7 (List.mem_of_getElem? (i := 103) rfl)) rfl
theorem tw_7_104 : (Jvm.Cond.code ({ cls := "CalendarReplicasModel", name := "cost", desc := "(II)I" } : Jvm.MethodName) prog_11_method_73_code (5 : Nat) (Option.some Jvm.ClassFile.FieldType.int)) ∈ q_gw := q_gw_of (q_t7 (List.mem_of_getElem? (i := 104) rfl)) rfl
theorem tw_7_105 : (Jvm.Cond.methodLink "CalendarReplicasLaw" (166 : Nat) ({ cls := "CalendarReplicasModel", name := "alternative", desc := "(II)I" } : Jvm.MethodName)) ∈ q_gw := q_gw_of (q_t7 (List.mem_of_getElem? (i := 105) rfl)) rfl
theorem tw_7_106 : (Jvm.Cond.instanceMethod ({ cls := "CalendarReplicasModel", name := "alternative", desc := "(II)I" } : Jvm.MethodName)) ∈ q_gw := q_gw_of (q_t7 (List.mem_of_getElem? (i := 106) rfl)) rfl
theorem tw_7_107 : (Jvm.Cond.selects "CalendarReplicasModel" ({ cls := "CalendarReplicasModel", name := "alternative", desc := "(II)I" } : Jvm.MethodName) ({ cls := "CalendarReplicasModel", name := "alternative", desc := "(II)I" } : Jvm.MethodName)) ∈ q_gw := q_gw_of (q_t7 (List.mem_of_getElem? (i := 107) rfl)) rfl
theorem tw_7_108 : (Jvm.Cond.code ({ cls := "CalendarReplicasModel", name := "alternative", desc := "(II)I" } : Jvm.MethodName) prog_11_method_74_code (11 : Nat) (Option.some Jvm.ClassFile.FieldType.int)) ∈ q_gw := q_gw_of (q_t7 (List.mem_of_getElem? (i := 108) rfl)) rfl
theorem tw_7_109 : (Jvm.Cond.methodLink "CalendarReplicasLaw" (170 : Nat) ({ cls := "CalendarReplicasModel", name := "freeStart", desc := "(IIII)I" } : Jvm.MethodName)) ∈ q_gw := q_gw_of (q_t7 (List.mem_of_getElem? (i := 109) rfl)) rfl
theorem tw_7_11 : (Jvm.Cond.instanceMethod ({ cls := "CalendarReplicasModel", name := "indexOf", desc := "(I)I" } : Jvm.MethodName)) ∈ q_gw := q_gw_of (q_t7 (List.mem_of_getElem? (i := 11) rfl)) rfl
theorem tw_7_110 : (Jvm.Cond.instanceMethod ({ cls := "CalendarReplicasModel", name := "freeStart", desc := "(IIII)I" } : Jvm.MethodName)) ∈ q_gw := q_gw_of (q_t7 (List.mem_of_getElem? (i := 110) rfl)) rfl
theorem tw_7_111 : (Jvm.Cond.selects "CalendarReplicasModel" ({ cls := "CalendarReplicasModel", name := "freeStart", desc := "(IIII)I" } : Jvm.MethodName) ({ cls := "CalendarReplicasModel", name := "freeStart", desc := "(IIII)I" } : Jvm.MethodName)) ∈ q_gw := q_gw_of (q_t7 (List.mem_of_getElem? (i := 111) rfl)) rfl
theorem tw_7_112 : (Jvm.Cond.code ({ cls := "CalendarReplicasModel", name := "freeStart", desc := "(IIII)I" } : Jvm.MethodName) prog_11_method_75_code (8 : Nat) (Option.some Jvm.ClassFile.FieldType.int)) ∈ q_gw := q_gw_of (q_t7 (List.mem_of_getElem? (i := 112) rfl)) rfl
theorem tw_7_113 : (Jvm.Cond.methodLink "CalendarReplicasLaw" (174 : Nat) ({ cls := "CalendarReplicasModel", name := "commonStart", desc := "(IIII)I" } : Jvm.MethodName)) ∈ q_gw := q_gw_of (q_t7 (List.mem_of_getElem? (i := 113) rfl)) rfl
theorem tw_7_114 : (Jvm.Cond.instanceMethod ({ cls := "CalendarReplicasModel", name := "commonStart", desc := "(IIII)I" } : Jvm.MethodName)) ∈ q_gw := q_gw_of (q_t7 (List.mem_of_getElem? (i := 114) rfl)) rfl
theorem tw_7_115 : (Jvm.Cond.selects "CalendarReplicasModel" ({ cls := "CalendarReplicasModel", name := "commonStart", desc := "(IIII)I" } : Jvm.MethodName) ({ cls := "CalendarReplicasModel", name := "commonStart", desc := "(IIII)I" } : Jvm.MethodName)) ∈ q_gw := q_gw_of (q_t7 (List.mem_of_getElem? (i := 115) rfl)) rfl
theorem tw_7_116 : (Jvm.Cond.code ({ cls := "CalendarReplicasModel", name := "commonStart", desc := "(IIII)I" } : Jvm.MethodName) prog_11_method_76_code (8 : Nat) (Option.some Jvm.ClassFile.FieldType.int)) ∈ q_gw := q_gw_of (q_t7 (List.mem_of_getElem? (i := 116) rfl)) rfl
theorem tw_7_117 : (Jvm.Cond.methodLink "CalendarReplicasLaw" (178 : Nat) ({ cls := "CalendarReplicasModel", name := "busySlots", desc := "(II)I" } : Jvm.MethodName)) ∈ q_gw := q_gw_of (q_t7 (List.mem_of_getElem? (i := 117) rfl)) rfl
theorem tw_7_118 : (Jvm.Cond.instanceMethod ({ cls := "CalendarReplicasModel", name := "busySlots", desc := "(II)I" } : Jvm.MethodName)) ∈ q_gw := q_gw_of (q_t7 (List.mem_of_getElem? (i := 118) rfl)) rfl
theorem tw_7_119 : (Jvm.Cond.selects "CalendarReplicasModel" ({ cls := "CalendarReplicasModel", name := "busySlots", desc := "(II)I" } : Jvm.MethodName) ({ cls := "CalendarReplicasModel", name := "busySlots", desc := "(II)I" } : Jvm.MethodName)) ∈ q_gw := q_gw_of (q_t7 (List.mem_of_getElem? (i := 119) rfl)) rfl
theorem tw_7_12 : (Jvm.Cond.code ({ cls := "CalendarReplicasModel", name := "indexOf", desc := "(I)I" } : Jvm.MethodName) prog_11_method_49_code (5 : Nat) (Option.some Jvm.ClassFile.FieldType.int)) ∈ q_gw := q_gw_of (q_t7 (List.mem_of_getElem? (i := 12) rfl)) rfl
theorem tw_7_120 : (Jvm.Cond.code ({ cls := "CalendarReplicasModel", name := "busySlots", desc := "(II)I" } : Jvm.MethodName) prog_11_method_77_code (6 : Nat) (Option.some Jvm.ClassFile.FieldType.int)) ∈ q_gw := q_gw_of (q_t7 (List.mem_of_getElem? (i := 120) rfl)) rfl
theorem tw_7_121 : (Jvm.Cond.methodLink "CalendarReplicasLaw" (182 : Nat) ({ cls := "CalendarReplicasModel", name := "append", desc := "(I)I" } : Jvm.MethodName)) ∈ q_gw := q_gw_of (q_t7 (List.mem_of_getElem? (i := 121) rfl)) rfl
theorem tw_7_122 : (Jvm.Cond.instanceMethod ({ cls := "CalendarReplicasModel", name := "append", desc := "(I)I" } : Jvm.MethodName)) ∈ q_gw := q_gw_of (q_t7 (List.mem_of_getElem? (i := 122) rfl)) rfl
theorem tw_7_123 : (Jvm.Cond.selects "CalendarReplicasModel" ({ cls := "CalendarReplicasModel", name := "append", desc := "(I)I" } : Jvm.MethodName) ({ cls := "CalendarReplicasModel", name := "append", desc := "(I)I" } : Jvm.MethodName)) ∈ q_gw := q_gw_of (q_t7 (List.mem_of_getElem? (i := 123) rfl)) rfl
theorem tw_7_124 : (Jvm.Cond.code ({ cls := "CalendarReplicasModel", name := "append", desc := "(I)I" } : Jvm.MethodName) prog_11_method_78_code (2 : Nat) (Option.some Jvm.ClassFile.FieldType.int)) ∈ q_gw := q_gw_of (q_t7 (List.mem_of_getElem? (i := 124) rfl)) rfl
theorem tw_7_125 : (Jvm.Cond.methodLink "CalendarReplicasLaw" (186 : Nat) ({ cls := "CalendarReplicasModel", name := "clearText", desc := "()I" } : Jvm.MethodName)) ∈ q_gw := q_gw_of (q_t7 (List.mem_of_getElem? (i := 125) rfl)) rfl
theorem tw_7_126 : (Jvm.Cond.instanceMethod ({ cls := "CalendarReplicasModel", name := "clearText", desc := "()I" } : Jvm.MethodName)) ∈ q_gw := q_gw_of (q_t7 (List.mem_of_getElem? (i := 126) rfl)) rfl
theorem tw_7_127 : (Jvm.Cond.selects "CalendarReplicasModel" ({ cls := "CalendarReplicasModel", name := "clearText", desc := "()I" } : Jvm.MethodName) ({ cls := "CalendarReplicasModel", name := "clearText", desc := "()I" } : Jvm.MethodName)) ∈ q_gw := q_gw_of (q_t7 (List.mem_of_getElem? (i := 127) rfl)) rfl
theorem tw_7_128 : (Jvm.Cond.code ({ cls := "CalendarReplicasModel", name := "clearText", desc := "()I" } : Jvm.MethodName) prog_11_method_79_code (2 : Nat) (Option.some Jvm.ClassFile.FieldType.int)) ∈ q_gw := q_gw_of (q_t7 (List.mem_of_getElem? (i := 128) rfl)) rfl
theorem tw_7_129 : (Jvm.Cond.methodLink "CalendarReplicasLaw" (190 : Nat) ({ cls := "CalendarReplicasModel", name := "faultPosition", desc := "()I" } : Jvm.MethodName)) ∈ q_gw := q_gw_of (q_t7 (List.mem_of_getElem? (i := 129) rfl)) rfl
theorem tw_7_13 : (Jvm.Cond.methodLink "CalendarReplicasLaw" (90 : Nat) ({ cls := "CalendarReplicasModel", name := "startOf", desc := "(II)I" } : Jvm.MethodName)) ∈ q_gw := q_gw_of (q_t7 (List.mem_of_getElem? (i := 13) rfl)) rfl
theorem tw_7_130 : (Jvm.Cond.instanceMethod ({ cls := "CalendarReplicasModel", name := "faultPosition", desc := "()I" } : Jvm.MethodName)) ∈ q_gw := q_gw_of (q_t7 (List.mem_of_getElem? (i := 130) rfl)) rfl
theorem tw_7_131 : (Jvm.Cond.selects "CalendarReplicasModel" ({ cls := "CalendarReplicasModel", name := "faultPosition", desc := "()I" } : Jvm.MethodName) ({ cls := "CalendarReplicasModel", name := "faultPosition", desc := "()I" } : Jvm.MethodName)) ∈ q_gw := q_gw_of (q_t7 (List.mem_of_getElem? (i := 131) rfl)) rfl
theorem tw_7_132 : (Jvm.Cond.code ({ cls := "CalendarReplicasModel", name := "faultPosition", desc := "()I" } : Jvm.MethodName) prog_11_method_88_code (1 : Nat) (Option.some Jvm.ClassFile.FieldType.int)) ∈ q_gw := q_gw_of (q_t7 (List.mem_of_getElem? (i := 132) rfl)) rfl
theorem tw_7_133 : (Jvm.Cond.methodLink "CalendarReplicasLaw" (194 : Nat) ({ cls := "CalendarReplicasModel", name := "print", desc := "(II)I" } : Jvm.MethodName)) ∈ q_gw := q_gw_of (q_t7 (List.mem_of_getElem? (i := 133) rfl)) rfl
theorem tw_7_134 : (Jvm.Cond.instanceMethod ({ cls := "CalendarReplicasModel", name := "print", desc := "(II)I" } : Jvm.MethodName)) ∈ q_gw := q_gw_of (q_t7 (List.mem_of_getElem? (i := 134) rfl)) rfl
theorem tw_7_135 : (Jvm.Cond.selects "CalendarReplicasModel" ({ cls := "CalendarReplicasModel", name := "print", desc := "(II)I" } : Jvm.MethodName) ({ cls := "CalendarReplicasModel", name := "print", desc := "(II)I" } : Jvm.MethodName)) ∈ q_gw := q_gw_of (q_t7 (List.mem_of_getElem? (i := 135) rfl)) rfl
theorem tw_7_136 : (Jvm.Cond.code ({ cls := "CalendarReplicasModel", name := "print", desc := "(II)I" } : Jvm.MethodName) prog_11_method_92_code (5 : Nat) (Option.some Jvm.ClassFile.FieldType.int)) ∈ q_gw := q_gw_of (q_t7 (List.mem_of_getElem? (i := 136) rfl)) rfl
theorem tw_7_137 : (Jvm.Cond.methodLink "CalendarReplicasModel" (221 : Nat) ({ cls := "CalendarReplicasModel", name := "decimal", desc := "(I)V" } : Jvm.MethodName)) ∈ q_gw := q_gw_of (q_t7 (List.mem_of_getElem? (i := 137) rfl)) rfl
theorem tw_7_138 : (Jvm.Cond.privateMethod ({ cls := "CalendarReplicasModel", name := "decimal", desc := "(I)V" } : Jvm.MethodName)) ∈ lw_tbl := List.mem_append_right _ (q_t7 (List.mem_of_getElem? (i := 138) rfl))
theorem tw_7_139 : (Jvm.Cond.instanceMethod ({ cls := "CalendarReplicasModel", name := "decimal", desc := "(I)V" } : Jvm.MethodName)) ∈ q_gw := q_gw_of (q_t7 (List.mem_of_getElem? (i := 139) rfl)) rfl
theorem tw_7_14 : (Jvm.Cond.instanceMethod ({ cls := "CalendarReplicasModel", name := "startOf", desc := "(II)I" } : Jvm.MethodName)) ∈ q_gw := q_gw_of (q_t7 (List.mem_of_getElem? (i := 14) rfl)) rfl
theorem tw_7_140 : (Jvm.Cond.code ({ cls := "CalendarReplicasModel", name := "decimal", desc := "(I)V" } : Jvm.MethodName) prog_11_method_90_code (2 : Nat) (Option.none : Option Jvm.ClassFile.FieldType)) ∈ q_gw := q_gw_of (q_t7 (List.mem_of_getElem? (i := 140) rfl)) rfl
theorem tw_7_141 : (Jvm.Cond.methodLink "CalendarReplicasModel" (218 : Nat) ({ cls := "CalendarReplicasModel", name := "sign", desc := "(I)V" } : Jvm.MethodName)) ∈ q_gw := q_gw_of (q_t7 (List.mem_of_getElem? (i := 141) rfl)) rfl
theorem tw_7_142 : (Jvm.Cond.privateMethod ({ cls := "CalendarReplicasModel", name := "sign", desc := "(I)V" } : Jvm.MethodName)) ∈ lw_tbl := List.mem_append_right _ (q_t7 (List.mem_of_getElem? (i := 142) rfl))
theorem tw_7_143 : (Jvm.Cond.instanceMethod ({ cls := "CalendarReplicasModel", name := "sign", desc := "(I)V" } : Jvm.MethodName)) ∈ q_gw := q_gw_of (q_t7 (List.mem_of_getElem? (i := 143) rfl)) rfl
theorem tw_7_144 : (Jvm.Cond.code ({ cls := "CalendarReplicasModel", name := "sign", desc := "(I)V" } : Jvm.MethodName) prog_11_method_89_code (2 : Nat) (Option.none : Option Jvm.ClassFile.FieldType)) ∈ q_gw := q_gw_of (q_t7 (List.mem_of_getElem? (i := 144) rfl)) rfl
theorem tw_7_145 : (Jvm.Cond.methodLink "CalendarReplicasModel" (224 : Nat) ({ cls := "CalendarReplicasModel", name := "option", desc := "(I)V" } : Jvm.MethodName)) ∈ q_gw := q_gw_of (q_t7 (List.mem_of_getElem? (i := 145) rfl)) rfl
theorem tw_7_146 : (Jvm.Cond.privateMethod ({ cls := "CalendarReplicasModel", name := "option", desc := "(I)V" } : Jvm.MethodName)) ∈ lw_tbl := List.mem_append_right _ (q_t7 (List.mem_of_getElem? (i := 146) rfl))
theorem tw_7_147 : (Jvm.Cond.instanceMethod ({ cls := "CalendarReplicasModel", name := "option", desc := "(I)V" } : Jvm.MethodName)) ∈ q_gw := q_gw_of (q_t7 (List.mem_of_getElem? (i := 147) rfl)) rfl
theorem tw_7_148 : (Jvm.Cond.code ({ cls := "CalendarReplicasModel", name := "option", desc := "(I)V" } : Jvm.MethodName) prog_11_method_91_code (2 : Nat) (Option.none : Option Jvm.ClassFile.FieldType)) ∈ q_gw := q_gw_of (q_t7 (List.mem_of_getElem? (i := 148) rfl)) rfl
theorem tw_7_149 : (Jvm.Cond.methodLink "CalendarReplicasLaw" (198 : Nat) ({ cls := "CalendarReplicasModel", name := "printed", desc := "(I)I" } : Jvm.MethodName)) ∈ q_gw := q_gw_of (q_t7 (List.mem_of_getElem? (i := 149) rfl)) rfl
theorem tw_7_15 : (Jvm.Cond.selects "CalendarReplicasModel" ({ cls := "CalendarReplicasModel", name := "startOf", desc := "(II)I" } : Jvm.MethodName) ({ cls := "CalendarReplicasModel", name := "startOf", desc := "(II)I" } : Jvm.MethodName)) ∈ q_gw := q_gw_of (q_t7 (List.mem_of_getElem? (i := 15) rfl)) rfl
theorem tw_7_150 : (Jvm.Cond.instanceMethod ({ cls := "CalendarReplicasModel", name := "printed", desc := "(I)I" } : Jvm.MethodName)) ∈ q_gw := q_gw_of (q_t7 (List.mem_of_getElem? (i := 150) rfl)) rfl
theorem tw_7_151 : (Jvm.Cond.selects "CalendarReplicasModel" ({ cls := "CalendarReplicasModel", name := "printed", desc := "(I)I" } : Jvm.MethodName) ({ cls := "CalendarReplicasModel", name := "printed", desc := "(I)I" } : Jvm.MethodName)) ∈ q_gw := q_gw_of (q_t7 (List.mem_of_getElem? (i := 151) rfl)) rfl
theorem tw_7_152 : (Jvm.Cond.code ({ cls := "CalendarReplicasModel", name := "printed", desc := "(I)I" } : Jvm.MethodName) prog_11_method_93_code (2 : Nat) (Option.some Jvm.ClassFile.FieldType.int)) ∈ q_gw := q_gw_of (q_t7 (List.mem_of_getElem? (i := 152) rfl)) rfl
theorem tw_7_153 : (Jvm.Cond.methodLink "CalendarReplicasLaw" (202 : Nat) ({ cls := "CalendarReplicasModel", name := "keep", desc := "(I)I" } : Jvm.MethodName)) ∈ q_gw := q_gw_of (q_t7 (List.mem_of_getElem? (i := 153) rfl)) rfl
theorem tw_7_154 : (Jvm.Cond.instanceMethod ({ cls := "CalendarReplicasModel", name := "keep", desc := "(I)I" } : Jvm.MethodName)) ∈ q_gw := q_gw_of (q_t7 (List.mem_of_getElem? (i := 154) rfl)) rfl
theorem tw_7_155 : (Jvm.Cond.selects "CalendarReplicasModel" ({ cls := "CalendarReplicasModel", name := "keep", desc := "(I)I" } : Jvm.MethodName) ({ cls := "CalendarReplicasModel", name := "keep", desc := "(I)I" } : Jvm.MethodName)) ∈ q_gw := q_gw_of (q_t7 (List.mem_of_getElem? (i := 155) rfl)) rfl
theorem tw_7_156 : (Jvm.Cond.code ({ cls := "CalendarReplicasModel", name := "keep", desc := "(I)I" } : Jvm.MethodName) prog_11_method_94_code (3 : Nat) (Option.some Jvm.ClassFile.FieldType.int)) ∈ q_gw := q_gw_of (q_t7 (List.mem_of_getElem? (i := 156) rfl)) rfl
theorem tw_7_157 : (Jvm.Cond.methodLink "CalendarReplicasLaw" (206 : Nat) ({ cls := "CalendarReplicasModel", name := "restore", desc := "(I)I" } : Jvm.MethodName)) ∈ q_gw := q_gw_of (q_t7 (List.mem_of_getElem? (i := 157) rfl)) rfl
theorem tw_7_158 : (Jvm.Cond.instanceMethod ({ cls := "CalendarReplicasModel", name := "restore", desc := "(I)I" } : Jvm.MethodName)) ∈ q_gw := q_gw_of (q_t7 (List.mem_of_getElem? (i := 158) rfl)) rfl
theorem tw_7_159 : (Jvm.Cond.selects "CalendarReplicasModel" ({ cls := "CalendarReplicasModel", name := "restore", desc := "(I)I" } : Jvm.MethodName) ({ cls := "CalendarReplicasModel", name := "restore", desc := "(I)I" } : Jvm.MethodName)) ∈ q_gw := q_gw_of (q_t7 (List.mem_of_getElem? (i := 159) rfl)) rfl
theorem tw_7_16 : (Jvm.Cond.code ({ cls := "CalendarReplicasModel", name := "startOf", desc := "(II)I" } : Jvm.MethodName) prog_11_method_52_code (3 : Nat) (Option.some Jvm.ClassFile.FieldType.int)) ∈ q_gw := q_gw_of (q_t7 (List.mem_of_getElem? (i := 16) rfl)) rfl
theorem tw_7_160 : (Jvm.Cond.code ({ cls := "CalendarReplicasModel", name := "restore", desc := "(I)I" } : Jvm.MethodName) prog_11_method_95_code (3 : Nat) (Option.some Jvm.ClassFile.FieldType.int)) ∈ q_gw := q_gw_of (q_t7 (List.mem_of_getElem? (i := 160) rfl)) rfl
theorem tw_7_161 : (Jvm.Cond.methodLink "CalendarReplicasLaw" (211 : Nat) ({ cls := "CalendarReplicasModel", name := "checksum", desc := "()J" } : Jvm.MethodName)) ∈ q_gw := q_gw_of (q_t7 (List.mem_of_getElem? (i := 161) rfl)) rfl
theorem tw_7_162 : (Jvm.Cond.instanceMethod ({ cls := "CalendarReplicasModel", name := "checksum", desc := "()J" } : Jvm.MethodName)) ∈ q_gw := q_gw_of (q_t7 (List.mem_of_getElem? (i := 162) rfl)) rfl
theorem tw_7_163 : (Jvm.Cond.selects "CalendarReplicasModel" ({ cls := "CalendarReplicasModel", name := "checksum", desc := "()J" } : Jvm.MethodName) ({ cls := "CalendarReplicasModel", name := "checksum", desc := "()J" } : Jvm.MethodName)) ∈ q_gw := q_gw_of (q_t7 (List.mem_of_getElem? (i := 163) rfl)) rfl
theorem tw_7_164 : (Jvm.Cond.code ({ cls := "CalendarReplicasModel", name := "checksum", desc := "()J" } : Jvm.MethodName) prog_11_method_99_code (4 : Nat) (Option.some Jvm.ClassFile.FieldType.long)) ∈ q_gw := q_gw_of (q_t7 (List.mem_of_getElem? (i := 164) rfl)) rfl
theorem tw_7_165 : (Jvm.Cond.constantLong "CalendarReplicasModel" (233 : Nat) (37 : Int64)) ∈ q_gw := q_gw_of (q_t7 (List.mem_of_getElem? (i := 165) rfl)) rfl
theorem tw_7_166 : (Jvm.Cond.methodLink "CalendarReplicasModel" (229 : Nat) ({ cls := "CalendarReplicasModel", name := "more", desc := "(JI)J" } : Jvm.MethodName)) ∈ q_gw := q_gw_of (q_t7 (List.mem_of_getElem? (i := 166) rfl)) rfl
theorem tw_7_167 : (Jvm.Cond.static ({ cls := "CalendarReplicasModel", name := "more", desc := "(JI)J" } : Jvm.MethodName)) ∈ q_gw := q_gw_of (q_t7 (List.mem_of_getElem? (i := 167) rfl)) rfl
theorem tw_7_168 : (Jvm.Cond.code ({ cls := "CalendarReplicasModel", name := "more", desc := "(JI)J" } : Jvm.MethodName) prog_11_method_96_code (3 : Nat) (Option.some Jvm.ClassFile.FieldType.long)) ∈ q_gw := q_gw_of (q_t7 (List.mem_of_getElem? (i := 168) rfl)) rfl
theorem tw_7_169 : (Jvm.Cond.constantLong "CalendarReplicasModel" (227 : Nat) (31 : Int64)) ∈ q_gw := q_gw_of (q_t7 (List.mem_of_getElem? (i := 169) rfl)) rfl
theorem tw_7_17 : (Jvm.Cond.methodLink "CalendarReplicasModel" (173 : Nat) ({ cls := "CalendarReplicasModel", name := "of", desc := "(III)I" } : Jvm.MethodName)) ∈ q_gw := q_gw_of (q_t7 (List.mem_of_getElem? (i := 17) rfl)) rfl
theorem tw_7_170 : (Jvm.Cond.methodLink "CalendarReplicasModel" (235 : Nat) ({ cls := "CalendarReplicasModel", name := "moreOfEdit", desc := "(JI)J" } : Jvm.MethodName)) ∈ q_gw := q_gw_of (q_t7 (List.mem_of_getElem? (i := 170) rfl)) rfl
theorem tw_7_171 : (Jvm.Cond.privateMethod ({ cls := "CalendarReplicasModel", name := "moreOfEdit", desc := "(JI)J" } : Jvm.MethodName)) ∈ lw_tbl := List.mem_append_right _ (q_t7 (List.mem_of_getElem? (i := 171) rfl))
theorem tw_7_172 : (Jvm.Cond.instanceMethod ({ cls := "CalendarReplicasModel", name := "moreOfEdit", desc := "(JI)J" } : Jvm.MethodName)) ∈ q_gw := q_gw_of (q_t7 (List.mem_of_getElem? (i := 172) rfl)) rfl
theorem tw_7_173 : (Jvm.Cond.code ({ cls := "CalendarReplicasModel", name := "moreOfEdit", desc := "(JI)J" } : Jvm.MethodName) prog_11_method_97_code (7 : Nat) (Option.some Jvm.ClassFile.FieldType.long)) ∈ q_gw := q_gw_of (q_t7 (List.mem_of_getElem? (i := 173) rfl)) rfl
theorem tw_7_174 : (Jvm.Cond.methodLink "CalendarReplicasModel" (238 : Nat) ({ cls := "CalendarReplicasModel", name := "moreOf", desc := "(JI)J" } : Jvm.MethodName)) ∈ q_gw := q_gw_of (q_t7 (List.mem_of_getElem? (i := 174) rfl)) rfl
theorem tw_7_175 : (Jvm.Cond.privateMethod ({ cls := "CalendarReplicasModel", name := "moreOf", desc := "(JI)J" } : Jvm.MethodName)) ∈ lw_tbl := List.mem_append_right _ (q_t7 (List.mem_of_getElem? (i := 175) rfl))
theorem tw_7_176 : (Jvm.Cond.instanceMethod ({ cls := "CalendarReplicasModel", name := "moreOf", desc := "(JI)J" } : Jvm.MethodName)) ∈ q_gw := q_gw_of (q_t7 (List.mem_of_getElem? (i := 176) rfl)) rfl
theorem tw_7_177 : (Jvm.Cond.code ({ cls := "CalendarReplicasModel", name := "moreOf", desc := "(JI)J" } : Jvm.MethodName) prog_11_method_98_code (9 : Nat) (Option.some Jvm.ClassFile.FieldType.long)) ∈ q_gw := q_gw_of (q_t7 (List.mem_of_getElem? (i := 177) rfl)) rfl
theorem tw_7_178 : (Jvm.Cond.sameMethod "java/lang/AbstractStringBuilde\x72" "java/lang/AbstractStringBuilde\x72" "length" "()I") ∈ q_gw := q_gw_of (q_t7 (List.mem_of_getElem? (i := 178) rfl)) rfl
theorem tw_7_179 : (Jvm.Cond.sameMethod "java/lang/AbstractStringBuilde\x72" "java/lang/AbstractStringBuilde\x72" "charAt" "(I)C") ∈ q_gw := q_gw_of (q_t7 (List.mem_of_getElem? (i := 179) rfl)) rfl
theorem tw_7_18 : (Jvm.Cond.privateMethod ({ cls := "CalendarReplicasModel", name := "of", desc := "(III)I" } : Jvm.MethodName)) ∈ lw_tbl := List.mem_append_right _ (q_t7 (List.mem_of_getElem? (i := 18) rfl))
theorem tw_7_180 : (Jvm.Cond.sameMethod "java/lang/AbstractStringBuilde\x72" "java/lang/AbstractStringBuilde\x72" "append" "(C)Ljava/lang/AbstractStringBuilder;") ∈ q_gw := q_gw_of (q_t7 (List.mem_of_getElem? (i := 180) rfl)) rfl
theorem tw_7_181 : (Jvm.Cond.sameMethod "java/lang/AbstractStringBuilde\x72" "java/lang/AbstractStringBuilde\x72" "ensureCapacityInternal" "(I)V") ∈ q_gw := q_gw_of (q_t7 (List.mem_of_getElem? (i := 181) rfl)) rfl
theorem tw_7_182 : (Jvm.Cond.sameMethod "java/lang/AbstractStringBuilde\x72" "java/lang/AbstractStringBuilde\x72" "newCapacity" "(I)I") ∈ q_gw := q_gw_of (q_t7 (List.mem_of_getElem? (i := 182) rfl)) rfl
theorem tw_7_183 : (Jvm.Cond.sameMethod "java/lang/AbstractStringBuilde\x72" "java/lang/AbstractStringBuilde\x72" "inflate" "()V") ∈ q_gw := q_gw_of (q_t7 (List.mem_of_getElem? (i := 183) rfl)) rfl
theorem tw_7_184 : (Jvm.Cond.sameMethod "java/lang/AbstractStringBuilde\x72" "java/lang/AbstractStringBuilde\x72" "setLength" "(I)V") ∈ q_gw := q_gw_of (q_t7 (List.mem_of_getElem? (i := 184) rfl)) rfl
theorem tw_7_185 : (Jvm.Cond.sameMethod "java/lang/AbstractStringBuilde\x72" "java/lang/AbstractStringBuilde\x72" "append" "(I)Ljava/lang/AbstractStringBuilder;") ∈ q_gw := q_gw_of (q_t7 (List.mem_of_getElem? (i := 185) rfl)) rfl
theorem tw_7_186 : (Jvm.Cond.sameMethod "java/lang/AbstractStringBuilde\x72" "java/lang/AbstractStringBuilde\x72" "append" "(Ljava/lang/String;)Ljava/lang/AbstractStringBuilder;") ∈ q_gw := q_gw_of (q_t7 (List.mem_of_getElem? (i := 186) rfl)) rfl
theorem tw_7_187 : (Jvm.Cond.sameMethod "java/lang/AbstractStringBuilde\x72" "java/lang/AbstractStringBuilde\x72" "appendNull" "()Ljava/lang/AbstractStringBuilder;") ∈ q_gw := q_gw_of (q_t7 (List.mem_of_getElem? (i := 187) rfl)) rfl
theorem tw_7_188 : (Jvm.Cond.sameMethod "java/lang/AbstractStringBuilde\x72" "java/lang/AbstractStringBuilde\x72" "putStringAt" "(ILjava/lang/String;)V") ∈ q_gw := q_gw_of (q_t7 (List.mem_of_getElem? (i := 188) rfl)) rfl
theorem tw_7_189 : (Jvm.Cond.sameMethod "java/lang/AbstractStringBuilde\x72" "java/lang/AbstractStringBuilde\x72" "inflateIfNeededFo\x72" "(Ljava/lang/String;)V") ∈ q_gw := q_gw_of (q_t7 (List.mem_of_getElem? (i := 189) rfl)) rfl
theorem tw_7_19 : (Jvm.Cond.instanceMethod ({ cls := "CalendarReplicasModel", name := "of", desc := "(III)I" } : Jvm.MethodName)) ∈ q_gw := q_gw_of (q_t7 (List.mem_of_getElem? (i := 19) rfl)) rfl
theorem tw_7_190 : (Jvm.Cond.fieldLink "java/lang/String" (9 : Nat) "java/lang/String" "value" "[B") ∈ q_gw := q_gw_of (q_t7 (List.mem_of_getElem? (i := 190) rfl)) rfl
theorem tw_7_191 : (Jvm.Cond.fieldLink "java/lang/String" (15 : Nat) "java/lang/String" "code\x72" "B") ∈ q_gw := q_gw_of (q_t7 (List.mem_of_getElem? (i := 191) rfl)) rfl
theorem tw_7_2 : (Jvm.Cond.instanceMethod ({ cls := "CalendarReplicasModel", name := "meetings", desc := "(I)I" } : Jvm.MethodName)) ∈ q_gw := q_gw_of (q_t7 (List.mem_of_getElem? (i := 2) rfl)) rfl
theorem tw_7_20 : (Jvm.Cond.code ({ cls := "CalendarReplicasModel", name := "of", desc := "(III)I" } : Jvm.MethodName) prog_11_method_51_code (4 : Nat) (Option.some Jvm.ClassFile.FieldType.int)) ∈ q_gw := q_gw_of (q_t7 (List.mem_of_getElem? (i := 20) rfl)) rfl
theorem tw_7_21 : (Jvm.Cond.methodLink "CalendarReplicasLaw" (94 : Nat) ({ cls := "CalendarReplicasModel", name := "durationOf", desc := "(II)I" } : Jvm.MethodName)) ∈ q_gw := q_gw_of (q_t7 (List.mem_of_getElem? (i := 21) rfl)) rfl
theorem tw_7_22 : (Jvm.Cond.instanceMethod ({ cls := "CalendarReplicasModel", name := "durationOf", desc := "(II)I" } : Jvm.MethodName)) ∈ q_gw := q_gw_of (q_t7 (List.mem_of_getElem? (i := 22) rfl)) rfl
theorem tw_7_23 : (Jvm.Cond.selects "CalendarReplicasModel" ({ cls := "CalendarReplicasModel", name := "durationOf", desc := "(II)I" } : Jvm.MethodName) ({ cls := "CalendarReplicasModel", name := "durationOf", desc := "(II)I" } : Jvm.MethodName)) ∈ q_gw := q_gw_of (q_t7 (List.mem_of_getElem? (i := 23) rfl)) rfl
theorem tw_7_24 : (Jvm.Cond.code ({ cls := "CalendarReplicasModel", name := "durationOf", desc := "(II)I" } : Jvm.MethodName) prog_11_method_53_code (3 : Nat) (Option.some Jvm.ClassFile.FieldType.int)) ∈ q_gw := q_gw_of (q_t7 (List.mem_of_getElem? (i := 24) rfl)) rfl
theorem tw_7_25 : (Jvm.Cond.methodLink "CalendarReplicasLaw" (98 : Nat) ({ cls := "CalendarReplicasModel", name := "roomOf", desc := "(II)I" } : Jvm.MethodName)) ∈ q_gw := q_gw_of (q_t7 (List.mem_of_getElem? (i := 25) rfl)) rfl
theorem tw_7_26 : (Jvm.Cond.instanceMethod ({ cls := "CalendarReplicasModel", name := "roomOf", desc := "(II)I" } : Jvm.MethodName)) ∈ q_gw := q_gw_of (q_t7 (List.mem_of_getElem? (i := 26) rfl)) rfl
theorem tw_7_27 : (Jvm.Cond.selects "CalendarReplicasModel" ({ cls := "CalendarReplicasModel", name := "roomOf", desc := "(II)I" } : Jvm.MethodName) ({ cls := "CalendarReplicasModel", name := "roomOf", desc := "(II)I" } : Jvm.MethodName)) ∈ q_gw := q_gw_of (q_t7 (List.mem_of_getElem? (i := 27) rfl)) rfl
theorem tw_7_28 : (Jvm.Cond.code ({ cls := "CalendarReplicasModel", name := "roomOf", desc := "(II)I" } : Jvm.MethodName) prog_11_method_54_code (3 : Nat) (Option.some Jvm.ClassFile.FieldType.int)) ∈ q_gw := q_gw_of (q_t7 (List.mem_of_getElem? (i := 28) rfl)) rfl
theorem tw_7_29 : (Jvm.Cond.methodLink "CalendarReplicasLaw" (102 : Nat) ({ cls := "CalendarReplicasModel", name := "personsOf", desc := "(II)I" } : Jvm.MethodName)) ∈ q_gw := q_gw_of (q_t7 (List.mem_of_getElem? (i := 29) rfl)) rfl
theorem tw_7_3 : (Jvm.Cond.selects "CalendarReplicasModel" ({ cls := "CalendarReplicasModel", name := "meetings", desc := "(I)I" } : Jvm.MethodName) ({ cls := "CalendarReplicasModel", name := "meetings", desc := "(I)I" } : Jvm.MethodName)) ∈ q_gw := q_gw_of (q_t7 (List.mem_of_getElem? (i := 3) rfl)) rfl
theorem tw_7_30 : (Jvm.Cond.instanceMethod ({ cls := "CalendarReplicasModel", name := "personsOf", desc := "(II)I" } : Jvm.MethodName)) ∈ q_gw := q_gw_of (q_t7 (List.mem_of_getElem? (i := 30) rfl)) rfl
theorem tw_7_31 : (Jvm.Cond.selects "CalendarReplicasModel" ({ cls := "CalendarReplicasModel", name := "personsOf", desc := "(II)I" } : Jvm.MethodName) ({ cls := "CalendarReplicasModel", name := "personsOf", desc := "(II)I" } : Jvm.MethodName)) ∈ q_gw := q_gw_of (q_t7 (List.mem_of_getElem? (i := 31) rfl)) rfl
theorem tw_7_32 : (Jvm.Cond.code ({ cls := "CalendarReplicasModel", name := "personsOf", desc := "(II)I" } : Jvm.MethodName) prog_11_method_55_code (3 : Nat) (Option.some Jvm.ClassFile.FieldType.int)) ∈ q_gw := q_gw_of (q_t7 (List.mem_of_getElem? (i := 32) rfl)) rfl
theorem tw_7_33 : (Jvm.Cond.methodLink "CalendarReplicasLaw" (106 : Nat) ({ cls := "CalendarReplicasModel", name := "periodOf", desc := "(II)I" } : Jvm.MethodName)) ∈ q_gw := q_gw_of (q_t7 (List.mem_of_getElem? (i := 33) rfl)) rfl
theorem tw_7_34 : (Jvm.Cond.instanceMethod ({ cls := "CalendarReplicasModel", name := "periodOf", desc := "(II)I" } : Jvm.MethodName)) ∈ q_gw := q_gw_of (q_t7 (List.mem_of_getElem? (i := 34) rfl)) rfl
theorem tw_7_35 : (Jvm.Cond.selects "CalendarReplicasModel" ({ cls := "CalendarReplicasModel", name := "periodOf", desc := "(II)I" } : Jvm.MethodName) ({ cls := "CalendarReplicasModel", name := "periodOf", desc := "(II)I" } : Jvm.MethodName)) ∈ q_gw := q_gw_of (q_t7 (List.mem_of_getElem? (i := 35) rfl)) rfl
theorem tw_7_36 : (Jvm.Cond.code ({ cls := "CalendarReplicasModel", name := "periodOf", desc := "(II)I" } : Jvm.MethodName) prog_11_method_56_code (3 : Nat) (Option.some Jvm.ClassFile.FieldType.int)) ∈ q_gw := q_gw_of (q_t7 (List.mem_of_getElem? (i := 36) rfl)) rfl
theorem tw_7_37 : (Jvm.Cond.methodLink "CalendarReplicasLaw" (110 : Nat) ({ cls := "CalendarReplicasModel", name := "countOf", desc := "(II)I" } : Jvm.MethodName)) ∈ q_gw := q_gw_of (q_t7 (List.mem_of_getElem? (i := 37) rfl)) rfl
theorem tw_7_38 : (Jvm.Cond.instanceMethod ({ cls := "CalendarReplicasModel", name := "countOf", desc := "(II)I" } : Jvm.MethodName)) ∈ q_gw := q_gw_of (q_t7 (List.mem_of_getElem? (i := 38) rfl)) rfl
theorem tw_7_39 : (Jvm.Cond.selects "CalendarReplicasModel" ({ cls := "CalendarReplicasModel", name := "countOf", desc := "(II)I" } : Jvm.MethodName) ({ cls := "CalendarReplicasModel", name := "countOf", desc := "(II)I" } : Jvm.MethodName)) ∈ q_gw := q_gw_of (q_t7 (List.mem_of_getElem? (i := 39) rfl)) rfl
theorem tw_7_4 : (Jvm.Cond.code ({ cls := "CalendarReplicasModel", name := "meetings", desc := "(I)I" } : Jvm.MethodName) prog_11_method_48_code (2 : Nat) (Option.some Jvm.ClassFile.FieldType.int)) ∈ q_gw := q_gw_of (q_t7 (List.mem_of_getElem? (i := 4) rfl)) rfl
theorem tw_7_40 : (Jvm.Cond.code ({ cls := "CalendarReplicasModel", name := "countOf", desc := "(II)I" } : Jvm.MethodName) prog_11_method_57_code (3 : Nat) (Option.some Jvm.ClassFile.FieldType.int)) ∈ q_gw := q_gw_of (q_t7 (List.mem_of_getElem? (i := 40) rfl)) rfl
theorem tw_7_41 : (Jvm.Cond.methodLink "CalendarReplicasLaw" (114 : Nat) ({ cls := "CalendarReplicasModel", name := "edits", desc := "()I" } : Jvm.MethodName)) ∈ q_gw := q_gw_of (q_t7 (List.mem_of_getElem? (i := 41) rfl)) rfl
theorem tw_7_42 : (Jvm.Cond.instanceMethod ({ cls := "CalendarReplicasModel", name := "edits", desc := "()I" } : Jvm.MethodName)) ∈ q_gw := q_gw_of (q_t7 (List.mem_of_getElem? (i := 42) rfl)) rfl
theorem tw_7_43 : (Jvm.Cond.selects "CalendarReplicasModel" ({ cls := "CalendarReplicasModel", name := "edits", desc := "()I" } : Jvm.MethodName) ({ cls := "CalendarReplicasModel", name := "edits", desc := "()I" } : Jvm.MethodName)) ∈ q_gw := q_gw_of (q_t7 (List.mem_of_getElem? (i := 43) rfl)) rfl
theorem tw_7_44 : (Jvm.Cond.code ({ cls := "CalendarReplicasModel", name := "edits", desc := "()I" } : Jvm.MethodName) prog_11_method_58_code (1 : Nat) (Option.some Jvm.ClassFile.FieldType.int)) ∈ q_gw := q_gw_of (q_t7 (List.mem_of_getElem? (i := 44) rfl)) rfl
theorem tw_7_45 : (Jvm.Cond.methodLink "CalendarReplicasLaw" (118 : Nat) ({ cls := "CalendarReplicasModel", name := "editAt", desc := "(I)I" } : Jvm.MethodName)) ∈ q_gw := q_gw_of (q_t7 (List.mem_of_getElem? (i := 45) rfl)) rfl
theorem tw_7_46 : (Jvm.Cond.instanceMethod ({ cls := "CalendarReplicasModel", name := "editAt", desc := "(I)I" } : Jvm.MethodName)) ∈ q_gw := q_gw_of (q_t7 (List.mem_of_getElem? (i := 46) rfl)) rfl
theorem tw_7_47 : (Jvm.Cond.selects "CalendarReplicasModel" ({ cls := "CalendarReplicasModel", name := "editAt", desc := "(I)I" } : Jvm.MethodName) ({ cls := "CalendarReplicasModel", name := "editAt", desc := "(I)I" } : Jvm.MethodName)) ∈ q_gw := q_gw_of (q_t7 (List.mem_of_getElem? (i := 47) rfl)) rfl
theorem tw_7_48 : (Jvm.Cond.code ({ cls := "CalendarReplicasModel", name := "editAt", desc := "(I)I" } : Jvm.MethodName) prog_11_method_59_code (2 : Nat) (Option.some Jvm.ClassFile.FieldType.int)) ∈ q_gw := q_gw_of (q_t7 (List.mem_of_getElem? (i := 48) rfl)) rfl
theorem tw_7_49 : (Jvm.Cond.methodLink "CalendarReplicasLaw" (122 : Nat) ({ cls := "CalendarReplicasModel", name := "kindOf", desc := "(I)I" } : Jvm.MethodName)) ∈ q_gw := q_gw_of (q_t7 (List.mem_of_getElem? (i := 49) rfl)) rfl
theorem tw_7_5 : (Jvm.Cond.methodLink "CalendarReplicasLaw" (86 : Nat) ({ cls := "CalendarReplicasModel", name := "meetingAt", desc := "(II)I" } : Jvm.MethodName)) ∈ q_gw := q_gw_of (q_t7 (List.mem_of_getElem? (i := 5) rfl)) rfl
theorem tw_7_50 : (Jvm.Cond.instanceMethod ({ cls := "CalendarReplicasModel", name := "kindOf", desc := "(I)I" } : Jvm.MethodName)) ∈ q_gw := q_gw_of (q_t7 (List.mem_of_getElem? (i := 50) rfl)) rfl
theorem tw_7_51 : (Jvm.Cond.selects "CalendarReplicasModel" ({ cls := "CalendarReplicasModel", name := "kindOf", desc := "(I)I" } : Jvm.MethodName) ({ cls := "CalendarReplicasModel", name := "kindOf", desc := "(I)I" } : Jvm.MethodName)) ∈ q_gw := q_gw_of (q_t7 (List.mem_of_getElem? (i := 51) rfl)) rfl
theorem tw_7_52 : (Jvm.Cond.code ({ cls := "CalendarReplicasModel", name := "kindOf", desc := "(I)I" } : Jvm.MethodName) prog_11_method_61_code (2 : Nat) (Option.some Jvm.ClassFile.FieldType.int)) ∈ q_gw := q_gw_of (q_t7 (List.mem_of_getElem? (i := 52) rfl)) rfl
theorem tw_7_53 : (Jvm.Cond.methodLink "CalendarReplicasModel" (177 : Nat) ({ cls := "CalendarReplicasModel", name := "ofEdit", desc := "(II)I" } : Jvm.MethodName)) ∈ q_gw := q_gw_of (q_t7 (List.mem_of_getElem? (i := 53) rfl)) rfl
theorem tw_7_54 : (Jvm.Cond.privateMethod ({ cls := "CalendarReplicasModel", name := "ofEdit", desc := "(II)I" } : Jvm.MethodName)) ∈ lw_tbl := List.mem_append_right _ (q_t7 (List.mem_of_getElem? (i := 54) rfl))
theorem tw_7_55 : (Jvm.Cond.instanceMethod ({ cls := "CalendarReplicasModel", name := "ofEdit", desc := "(II)I" } : Jvm.MethodName)) ∈ q_gw := q_gw_of (q_t7 (List.mem_of_getElem? (i := 55) rfl)) rfl
theorem tw_7_56 : (Jvm.Cond.code ({ cls := "CalendarReplicasModel", name := "ofEdit", desc := "(II)I" } : Jvm.MethodName) prog_11_method_60_code (4 : Nat) (Option.some Jvm.ClassFile.FieldType.int)) ∈ q_gw := q_gw_of (q_t7 (List.mem_of_getElem? (i := 56) rfl)) rfl
theorem tw_7_57 : (Jvm.Cond.methodLink "CalendarReplicasLaw" (126 : Nat) ({ cls := "CalendarReplicasModel", name := "meetingOf", desc := "(I)I" } : Jvm.MethodName)) ∈ q_gw := q_gw_of (q_t7 (List.mem_of_getElem? (i := 57) rfl)) rfl
theorem tw_7_58 : (Jvm.Cond.instanceMethod ({ cls := "CalendarReplicasModel", name := "meetingOf", desc := "(I)I" } : Jvm.MethodName)) ∈ q_gw := q_gw_of (q_t7 (List.mem_of_getElem? (i := 58) rfl)) rfl
theorem tw_7_59 : (Jvm.Cond.selects "CalendarReplicasModel" ({ cls := "CalendarReplicasModel", name := "meetingOf", desc := "(I)I" } : Jvm.MethodName) ({ cls := "CalendarReplicasModel", name := "meetingOf", desc := "(I)I" } : Jvm.MethodName)) ∈ q_gw := q_gw_of (q_t7 (List.mem_of_getElem? (i := 59) rfl)) rfl
theorem tw_7_6 : (Jvm.Cond.instanceMethod ({ cls := "CalendarReplicasModel", name := "meetingAt", desc := "(II)I" } : Jvm.MethodName)) ∈ q_gw := q_gw_of (q_t7 (List.mem_of_getElem? (i := 6) rfl)) rfl
theorem tw_7_60 : (Jvm.Cond.code ({ cls := "CalendarReplicasModel", name := "meetingOf", desc := "(I)I" } : Jvm.MethodName) prog_11_method_62_code (2 : Nat) (Option.some Jvm.ClassFile.FieldType.int)) ∈ q_gw := q_gw_of (q_t7 (List.mem_of_getElem? (i := 60) rfl)) rfl
theorem tw_7_61 : (Jvm.Cond.methodLink "CalendarReplicasLaw" (130 : Nat) ({ cls := "CalendarReplicasModel", name := "authorOf", desc := "(I)I" } : Jvm.MethodName)) ∈ q_gw := q_gw_of (q_t7 (List.mem_of_getElem? (i := 61) rfl)) rfl
theorem tw_7_62 : (Jvm.Cond.instanceMethod ({ cls := "CalendarReplicasModel", name := "authorOf", desc := "(I)I" } : Jvm.MethodName)) ∈ q_gw := q_gw_of (q_t7 (List.mem_of_getElem? (i := 62) rfl)) rfl
theorem tw_7_63 : (Jvm.Cond.selects "CalendarReplicasModel" ({ cls := "CalendarReplicasModel", name := "authorOf", desc := "(I)I" } : Jvm.MethodName) ({ cls := "CalendarReplicasModel", name := "authorOf", desc := "(I)I" } : Jvm.MethodName)) ∈ q_gw := q_gw_of (q_t7 (List.mem_of_getElem? (i := 63) rfl)) rfl
theorem tw_7_64 : (Jvm.Cond.code ({ cls := "CalendarReplicasModel", name := "authorOf", desc := "(I)I" } : Jvm.MethodName) prog_11_method_63_code (2 : Nat) (Option.some Jvm.ClassFile.FieldType.int)) ∈ q_gw := q_gw_of (q_t7 (List.mem_of_getElem? (i := 64) rfl)) rfl
theorem tw_7_65 : (Jvm.Cond.methodLink "CalendarReplicasLaw" (134 : Nat) ({ cls := "CalendarReplicasModel", name := "weightOf", desc := "(I)I" } : Jvm.MethodName)) ∈ q_gw := q_gw_of (q_t7 (List.mem_of_getElem? (i := 65) rfl)) rfl
theorem tw_7_66 : (Jvm.Cond.instanceMethod ({ cls := "CalendarReplicasModel", name := "weightOf", desc := "(I)I" } : Jvm.MethodName)) ∈ q_gw := q_gw_of (q_t7 (List.mem_of_getElem? (i := 66) rfl)) rfl
theorem tw_7_67 : (Jvm.Cond.selects "CalendarReplicasModel" ({ cls := "CalendarReplicasModel", name := "weightOf", desc := "(I)I" } : Jvm.MethodName) ({ cls := "CalendarReplicasModel", name := "weightOf", desc := "(I)I" } : Jvm.MethodName)) ∈ q_gw := q_gw_of (q_t7 (List.mem_of_getElem? (i := 67) rfl)) rfl
theorem tw_7_68 : (Jvm.Cond.code ({ cls := "CalendarReplicasModel", name := "weightOf", desc := "(I)I" } : Jvm.MethodName) prog_11_method_64_code (2 : Nat) (Option.some Jvm.ClassFile.FieldType.int)) ∈ q_gw := q_gw_of (q_t7 (List.mem_of_getElem? (i := 68) rfl)) rfl
theorem tw_7_69 : (Jvm.Cond.methodLink "CalendarReplicasLaw" (138 : Nat) ({ cls := "CalendarReplicasModel", name := "clash", desc := "(II)I" } : Jvm.MethodName)) ∈ q_gw := q_gw_of (q_t7 (List.mem_of_getElem? (i := 69) rfl)) rfl
theorem tw_7_7 : (Jvm.Cond.selects "CalendarReplicasModel" ({ cls := "CalendarReplicasModel", name := "meetingAt", desc := "(II)I" } : Jvm.MethodName) ({ cls := "CalendarReplicasModel", name := "meetingAt", desc := "(II)I" } : Jvm.MethodName)) ∈ q_gw := q_gw_of (q_t7 (List.mem_of_getElem? (i := 7) rfl)) rfl
theorem tw_7_70 : (Jvm.Cond.instanceMethod ({ cls := "CalendarReplicasModel", name := "clash", desc := "(II)I" } : Jvm.MethodName)) ∈ q_gw := q_gw_of (q_t7 (List.mem_of_getElem? (i := 70) rfl)) rfl
theorem tw_7_71 : (Jvm.Cond.selects "CalendarReplicasModel" ({ cls := "CalendarReplicasModel", name := "clash", desc := "(II)I" } : Jvm.MethodName) ({ cls := "CalendarReplicasModel", name := "clash", desc := "(II)I" } : Jvm.MethodName)) ∈ q_gw := q_gw_of (q_t7 (List.mem_of_getElem? (i := 71) rfl)) rfl
theorem tw_7_72 : (Jvm.Cond.code ({ cls := "CalendarReplicasModel", name := "clash", desc := "(II)I" } : Jvm.MethodName) prog_11_method_65_code (5 : Nat) (Option.some Jvm.ClassFile.FieldType.int)) ∈ q_gw := q_gw_of (q_t7 (List.mem_of_getElem? (i := 72) rfl)) rfl
theorem tw_7_73 : (Jvm.Cond.methodLink "CalendarReplicasLaw" (142 : Nat) ({ cls := "CalendarReplicasModel", name := "state", desc := "(II)I" } : Jvm.MethodName)) ∈ q_gw := q_gw_of (q_t7 (List.mem_of_getElem? (i := 73) rfl)) rfl
theorem tw_7_74 : (Jvm.Cond.instanceMethod ({ cls := "CalendarReplicasModel", name := "state", desc := "(II)I" } : Jvm.MethodName)) ∈ q_gw := q_gw_of (q_t7 (List.mem_of_getElem? (i := 74) rfl)) rfl
theorem tw_7_75 : (Jvm.Cond.selects "CalendarReplicasModel" ({ cls := "CalendarReplicasModel", name := "state", desc := "(II)I" } : Jvm.MethodName) ({ cls := "CalendarReplicasModel", name := "state", desc := "(II)I" } : Jvm.MethodName)) ∈ q_gw := q_gw_of (q_t7 (List.mem_of_getElem? (i := 75) rfl)) rfl
theorem tw_7_76 : (Jvm.Cond.code ({ cls := "CalendarReplicasModel", name := "state", desc := "(II)I" } : Jvm.MethodName) prog_11_method_68_code (4 : Nat) (Option.some Jvm.ClassFile.FieldType.int)) ∈ q_gw := q_gw_of (q_t7 (List.mem_of_getElem? (i := 76) rfl)) rfl
theorem tw_7_77 : (Jvm.Cond.methodLink "CalendarReplicasModel" (184 : Nat) ({ cls := "CalendarReplicasModel", name := "stateOf", desc := "(II)I" } : Jvm.MethodName)) ∈ q_gw := q_gw_of (q_t7 (List.mem_of_getElem? (i := 77) rfl)) rfl
theorem tw_7_78 : (Jvm.Cond.privateMethod ({ cls := "CalendarReplicasModel", name := "stateOf", desc := "(II)I" } : Jvm.MethodName)) ∈ lw_tbl := List.mem_append_right _ (q_t7 (List.mem_of_getElem? (i := 78) rfl))
theorem tw_7_79 : (Jvm.Cond.instanceMethod ({ cls := "CalendarReplicasModel", name := "stateOf", desc := "(II)I" } : Jvm.MethodName)) ∈ q_gw := q_gw_of (q_t7 (List.mem_of_getElem? (i := 79) rfl)) rfl
theorem tw_7_8 : (Jvm.Cond.code ({ cls := "CalendarReplicasModel", name := "meetingAt", desc := "(II)I" } : Jvm.MethodName) prog_11_method_50_code (4 : Nat) (Option.some Jvm.ClassFile.FieldType.int)) ∈ q_gw := q_gw_of (q_t7 (List.mem_of_getElem? (i := 8) rfl)) rfl
theorem tw_7_80 : (Jvm.Cond.code ({ cls := "CalendarReplicasModel", name := "stateOf", desc := "(II)I" } : Jvm.MethodName) prog_11_method_67_code (3 : Nat) (Option.some Jvm.ClassFile.FieldType.int)) ∈ q_gw := q_gw_of (q_t7 (List.mem_of_getElem? (i := 80) rfl)) rfl
theorem tw_7_81 : (Jvm.Cond.methodLink "CalendarReplicasModel" (180 : Nat) ({ cls := "CalendarReplicasModel", name := "stateBy", desc := "(IIII)I" } : Jvm.MethodName)) ∈ q_gw := q_gw_of (q_t7 (List.mem_of_getElem? (i := 81) rfl)) rfl
theorem tw_7_82 : (Jvm.Cond.privateMethod ({ cls := "CalendarReplicasModel", name := "stateBy", desc := "(IIII)I" } : Jvm.MethodName)) ∈ lw_tbl := List.mem_append_right _ (q_t7 (List.mem_of_getElem? (i := 82) rfl))
theorem tw_7_83 : (Jvm.Cond.instanceMethod ({ cls := "CalendarReplicasModel", name := "stateBy", desc := "(IIII)I" } : Jvm.MethodName)) ∈ q_gw := q_gw_of (q_t7 (List.mem_of_getElem? (i := 83) rfl)) rfl
theorem tw_7_84 : (Jvm.Cond.code ({ cls := "CalendarReplicasModel", name := "stateBy", desc := "(IIII)I" } : Jvm.MethodName) prog_11_method_66_code (5 : Nat) (Option.some Jvm.ClassFile.FieldType.int)) ∈ q_gw := q_gw_of (q_t7 (List.mem_of_getElem? (i := 84) rfl)) rfl
theorem tw_7_85 : (Jvm.Cond.methodLink "CalendarReplicasLaw" (146 : Nat) ({ cls := "CalendarReplicasModel", name := "acceptedWeight", desc := "(I)I" } : Jvm.MethodName)) ∈ q_gw := q_gw_of (q_t7 (List.mem_of_getElem? (i := 85) rfl)) rfl
theorem tw_7_86 : (Jvm.Cond.instanceMethod ({ cls := "CalendarReplicasModel", name := "acceptedWeight", desc := "(I)I" } : Jvm.MethodName)) ∈ q_gw := q_gw_of (q_t7 (List.mem_of_getElem? (i := 86) rfl)) rfl
theorem tw_7_87 : (Jvm.Cond.selects "CalendarReplicasModel" ({ cls := "CalendarReplicasModel", name := "acceptedWeight", desc := "(I)I" } : Jvm.MethodName) ({ cls := "CalendarReplicasModel", name := "acceptedWeight", desc := "(I)I" } : Jvm.MethodName)) ∈ q_gw := q_gw_of (q_t7 (List.mem_of_getElem? (i := 87) rfl)) rfl
theorem tw_7_88 : (Jvm.Cond.code ({ cls := "CalendarReplicasModel", name := "acceptedWeight", desc := "(I)I" } : Jvm.MethodName) prog_11_method_69_code (2 : Nat) (Option.some Jvm.ClassFile.FieldType.int)) ∈ q_gw := q_gw_of (q_t7 (List.mem_of_getElem? (i := 88) rfl)) rfl
theorem tw_7_89 : (Jvm.Cond.methodLink "CalendarReplicasLaw" (150 : Nat) ({ cls := "CalendarReplicasModel", name := "rejectedWeight", desc := "(I)I" } : Jvm.MethodName)) ∈ q_gw := q_gw_of (q_t7 (List.mem_of_getElem? (i := 89) rfl)) rfl
theorem tw_7_9 : (Jvm.Cond.methodLink "CalendarReplicasModel" (170 : Nat) ({ cls := "CalendarReplicasModel", name := "indexOf", desc := "(I)I" } : Jvm.MethodName)) ∈ q_gw := q_gw_of (q_t7 (List.mem_of_getElem? (i := 9) rfl)) rfl
theorem tw_7_90 : (Jvm.Cond.instanceMethod ({ cls := "CalendarReplicasModel", name := "rejectedWeight", desc := "(I)I" } : Jvm.MethodName)) ∈ q_gw := q_gw_of (q_t7 (List.mem_of_getElem? (i := 90) rfl)) rfl
theorem tw_7_91 : (Jvm.Cond.selects "CalendarReplicasModel" ({ cls := "CalendarReplicasModel", name := "rejectedWeight", desc := "(I)I" } : Jvm.MethodName) ({ cls := "CalendarReplicasModel", name := "rejectedWeight", desc := "(I)I" } : Jvm.MethodName)) ∈ q_gw := q_gw_of (q_t7 (List.mem_of_getElem? (i := 91) rfl)) rfl
theorem tw_7_92 : (Jvm.Cond.code ({ cls := "CalendarReplicasModel", name := "rejectedWeight", desc := "(I)I" } : Jvm.MethodName) prog_11_method_70_code (2 : Nat) (Option.some Jvm.ClassFile.FieldType.int)) ∈ q_gw := q_gw_of (q_t7 (List.mem_of_getElem? (i := 92) rfl)) rfl
theorem tw_7_93 : (Jvm.Cond.methodLink "CalendarReplicasLaw" (154 : Nat) ({ cls := "CalendarReplicasModel", name := "agree", desc := "(II)I" } : Jvm.MethodName)) ∈ q_gw := q_gw_of (q_t7 (List.mem_of_getElem? (i := 93) rfl)) rfl
theorem tw_7_94 : (Jvm.Cond.instanceMethod ({ cls := "CalendarReplicasModel", name := "agree", desc := "(II)I" } : Jvm.MethodName)) ∈ q_gw := q_gw_of (q_t7 (List.mem_of_getElem? (i := 94) rfl)) rfl
theorem tw_7_95 : (Jvm.Cond.selects "CalendarReplicasModel" ({ cls := "CalendarReplicasModel", name := "agree", desc := "(II)I" } : Jvm.MethodName) ({ cls := "CalendarReplicasModel", name := "agree", desc := "(II)I" } : Jvm.MethodName)) ∈ q_gw := q_gw_of (q_t7 (List.mem_of_getElem? (i := 95) rfl)) rfl
theorem tw_7_96 : (Jvm.Cond.code ({ cls := "CalendarReplicasModel", name := "agree", desc := "(II)I" } : Jvm.MethodName) prog_11_method_71_code (3 : Nat) (Option.some Jvm.ClassFile.FieldType.int)) ∈ q_gw := q_gw_of (q_t7 (List.mem_of_getElem? (i := 96) rfl)) rfl
theorem tw_7_97 : (Jvm.Cond.methodLink "CalendarReplicasLaw" (158 : Nat) ({ cls := "CalendarReplicasModel", name := "obstacle", desc := "(II)I" } : Jvm.MethodName)) ∈ q_gw := q_gw_of (q_t7 (List.mem_of_getElem? (i := 97) rfl)) rfl
theorem tw_7_98 : (Jvm.Cond.instanceMethod ({ cls := "CalendarReplicasModel", name := "obstacle", desc := "(II)I" } : Jvm.MethodName)) ∈ q_gw := q_gw_of (q_t7 (List.mem_of_getElem? (i := 98) rfl)) rfl
theorem tw_7_99 : (Jvm.Cond.selects "CalendarReplicasModel" ({ cls := "CalendarReplicasModel", name := "obstacle", desc := "(II)I" } : Jvm.MethodName) ({ cls := "CalendarReplicasModel", name := "obstacle", desc := "(II)I" } : Jvm.MethodName)) ∈ q_gw := q_gw_of (q_t7 (List.mem_of_getElem? (i := 99) rfl)) rfl
end
section
/-! A world: cells at x0, x0 + 1, .., of kinds that do not change; its state is three tables: ints, longs, places of references. -/
abbrev q_I : Type := Nat → Nat → Int32
abbrev q_J : Type := Nat → Nat → Int64
abbrev q_P : Type := Nat → Nat → Nat
abbrev q_S : Type := q_I × q_J × q_P
/-- a kind: 1 object (class, fields), 2 array of ints and their like (length, type), 3 of longs, 4 of references that stay (length, type, first, step), 5 of references that move (length, type, first), 6 a text buffer, 7 its bytes -/
abbrev q_K : Type := Nat × Nat × Nat × Nat × Nat
/-- D, classes of arrays, x0, A, y, types of arrays, classes, how many cells, kinds, kinds of fields -/
abbrev q_G : Type := va_G × (Nat → ClassId) × Nat × (Nat → Prop) × Nat × List FieldType × List vw_C × Nat × (Nat → q_K) × (Nat → Nat → Nat)
abbrev q_D (G : q_G) : va_G := G.1
abbrev q_tc (G : q_G) : Nat → ClassId := G.2.1
abbrev q_x (G : q_G) : Nat := G.2.2.1
abbrev q_A (G : q_G) : Nat → Prop := G.2.2.2.1
abbrev q_y (G : q_G) : Nat := G.2.2.2.2.1
abbrev q_tl (G : q_G) : List FieldType := G.2.2.2.2.2.1
abbrev q_cl (G : q_G) : List vw_C := G.2.2.2.2.2.2.1
abbrev q_N (G : q_G) : Nat := G.2.2.2.2.2.2.2.1
abbrev q_kd (G : q_G) : Nat → q_K := G.2.2.2.2.2.2.2.2.1
abbrev q_fd (G : q_G) : Nat → Nat → Nat := G.2.2.2.2.2.2.2.2.2
def q_tys (G : q_G) : List (ClassId × FieldType) := (q_tl G).zipIdx.map (fun t => (q_tc G t.2, t.1))
theorem q_tys_at {G : q_G} {t : Nat} {ty : FieldType} (h : (q_tl G)[t]? = some ty) : (q_tys G)[t]? = some (q_tc G t, ty) := by
  simp [q_tys, h]
-- changes of a state
def q_ui (I : q_I) (o k : Nat) (v : Int32) : q_I := fun a => if a = o then upd (I o) k v else I a
def q_uj (J : q_J) (o k : Nat) (v : Int64) : q_J := fun a => if a = o then vp_updL (J o) k v else J a
def q_up (P : q_P) (o k : Nat) (v : Nat) : q_P := fun a => if a = o then va_up (P o) k v else P a
def q_uI (I : q_I) (o : Nat) (f : Nat → Int32) : q_I := fun a => if a = o then f else I a
def q_fv (G : q_G) (hd : Nat → Nat) (o ci : Nat) (f : Nat → Int32) (k : Nat) : Value := match q_fd G ci k with
  | 0 => .int (f k)
  | d + 1 => .ref (q_x G + (o + d))
def q_ad (G : q_G) (hd : Nat → Nat) (o : Nat) : Nat := if (q_kd G o).1 = 7 then hd (q_kd G o).2.1 else q_x G + o
def q_cell (G : q_G) (hd : Nat → Nat) (o : Nat) (f : Nat → Int32) (g : Nat → Int64) (r : Nat → Nat) : va_E := match q_kd G o with
  | (1, ci, n, _, _) => .inr (ci, (List.range n).map (q_fv G hd o ci f))
  | (2, n, t, _, _) => .inl (q_tc G t, n, .inl f)
  | (3, n, t, _, _) => .inl (q_tc G t, n, .inr (.inl g))
  | (4, n, t, c, d) => .inl (q_tc G t, n, .inr (.inr (.inr (.inr (fun i => some (q_x G + (c + d * i)))))))
  | (5, n, t, c, _) => .inl (q_tc G t, n, .inr (.inr (.inr (.inr (fun i => some (q_x G + (c + r i)))))))
  | (6, ci, _, _, _) => .inr (ci, [.ref (hd o), .int 0, .int (f 1), .int (f 0)])
  | (7, s, t, _, _) => .inl (q_tc G t, hd (s + 1000), .inl f)
  | _ => .inr (1000, [])
def q_wl (G : q_G) (hd : Nat → Nat) (S : q_S) : va_W := (List.range (q_N G)).map (fun o => (q_ad G hd o, q_cell G hd o (S.1 o) (S.2.1 o) (S.2.2 o)))
theorem q_wl_get {G : q_G} {hd : Nat → Nat} {S : q_S} {o : Nat} (h : o < q_N G) : (q_wl G hd S)[o]? = some (q_ad G hd o, q_cell G hd o (S.1 o) (S.2.1 o) (S.2.2 o)) := by
  simp [q_wl, h]
theorem q_wl_set {G : q_G} {hd : Nat → Nat} {S S' : q_S} {o : Nat} {e : va_E} (he : q_cell G hd o (S'.1 o) (S'.2.1 o) (S'.2.2 o) = e) (h1 : ∀ a, a ≠ o → S'.1 a = S.1 a) (h2 : ∀ a, a ≠ o → S'.2.1 a = S.2.1 a) (h3 : ∀ a, a ≠ o → S'.2.2 a = S.2.2 a) : (q_wl G hd S).set o (q_ad G hd o, e) = q_wl G hd S' := by
  apply List.ext_getElem?
  intro i
  rw [List.getElem?_set]
  by_cases hio : o = i
  · subst hio
    rw [if_pos rfl]
    by_cases hl : o < q_N G
    · rw [if_pos (by simpa [q_wl] using hl), q_wl_get hl, he]
    · rw [if_neg (by simpa [q_wl] using hl)]
      simp [q_wl, hl]
  · rw [if_neg hio]
    simp only [q_wl, List.getElem?_map]
    cases hr : (List.range (q_N G))[i]? with
    | none => rfl
    | some j =>
      have hj : j = i := by
        have := (List.getElem?_eq_some_iff.mp hr).2
        simpa using this.symm
      subst hj
      simp only [Option.map_some]
      rw [h1 _ (Ne.symm hio), h2 _ (Ne.symm hio), h3 _ (Ne.symm hio)]
/-- where references that move may point -/
def q_pb (G : q_G) (P : q_P) : Prop := ∀ o n t c d, q_kd G o = (5, n, t, c, d) → ∀ i, i < n → P o i < n
/-- a text buffer holds no more than its bytes have room for -/
def q_sb (G : q_G) (I : q_I) (hd : Nat → Nat) : Prop := ∀ o a b c d, q_kd G o = (6, a, b, c, d) → ∃ n, I o 0 = nI n ∧ n ≤ hd (o + 1000) ∧ hd (o + 1000) ≤ 200
def q_W (G : q_G) (S : q_S) (H : Heap) : Prop := q_pb G S.2.2 ∧ ∃ hd : Nat → Nat, va_P (q_D G) (q_cl G) (q_wl G hd S) H ∧ va_D (q_A G) (q_wl G hd S) ∧ q_sb G S.1 hd
/-- what holds of the machine's tables, whatever the heap is -/
def q_KK (G : q_G) (U : State) : Prop := va_K (q_D G) (q_cl G) (q_tys G) U ∧ (∀ a i y h, Cond.methodLinkNest a i y h ∈ lw_tbl → va_Nw (.methodLinkNest a i y h) U)
theorem q_KK.moved {G : q_G} {s U : State} (hW : s.WarmedH U.vm) (h : q_KK G s) : q_KK G U := ⟨va_K.moved hW.alike h.1, fun a i y hh hm => (h.2 a i y hh hm).warmM hW⟩
/-- a class: its number, its fields -/
def q_C (G : q_G) (ci : Nat) (C : String) (T : u_T) (N : Nat) (ty : Nat → FieldType) : Prop := (q_cl G)[ci]? = some (C, T, N) ∧ (∀ w ∈ u_ws C T N, w ∈ q_gw) ∧ (∀ k, k < N → parseFieldDescriptor (T k).2.2.1 = some (ty k)) ∧ (∀ a, a < N → ∀ b, b < N → a ≠ b → (T a).2.1 ≠ (T b).2.1)
/-- the machine around a method: launch, program, .., code -/
abbrev q_X : Type := Launch × Program × Env × State × MethodId × Array Value × List Frame × Method × Code
/-- a method: bytes, locals, own class, room, what it returns -/
abbrev q_M : Type := ByteArray × Nat × String × Room × Option FieldType
/-- every kind but 0 is in the world -/
def q_in (G : q_G) : Prop := ∀ o, (q_kd G o).1 ≠ 0 → o < q_N G
def q_ok (G : q_G) (M : q_M) (X : q_X) : Prop := X.2.1.tables.exec = Jvm.exec ∧ X.2.2.2.2.2.2.2.2.code = M.1 ∧ X.2.2.2.2.2.2.2.2.maxLocals = M.2.1 ∧ X.2.2.2.1.vm.findClass M.2.2.1 = some X.2.2.2.2.1.cls ∧ (∀ w ∈ q_gw, w.before X.2.2.2.2.2.1 X.2.2.2.1 = true) ∧ q_KK G X.2.2.2.1 ∧ X.2.2.2.2.2.2.2.1.sig.returnType = M.2.2.2.2 ∧ X.2.2.2.2.2.2.2.1.locks = false ∧ q_in G ∧ q_y G ≤ X.2.2.2.1.heap.size
def q_Q (G : q_G) (r : Option Value × q_S) : Array Value → State → Outcome → State → Prop := fun _ s0 oc t => oc = .returned r.1 ∧ q_W G r.2 t.heap ∧ va_F (q_A G) s0 t
/-- the machine, at pc with locals L and stack st over the state I, J, P, computes o (if o is an answer: it comes to it) -/
def q_V {ρ : Type} (G : q_G) (M : q_M) (X : q_X) (em : ρ → Option Value × q_S) (k n pc : Nat) (L : List (Nat × Value)) (st : List Value) (I : q_I) (J : q_J) (P : q_P) (o : Option ρ) : Prop :=
  q_ok G M X → ∀ r, o = some r → ∀ (H : Heap) (locs : List Loc) (ls : Array Slot), q_W G (I, J, P) H → va_S (q_A G) X.2.2.2.1.heap H locs → lv_has ls M.2.1 L → W X.2.1 X.1 X.2.2.1 M.2.2.2.1 X.2.2.2.1 X.2.2.2.2.1 X.2.2.2.2.2.1 X.2.2.2.2.2.2.1 X.2.2.2.2.2.2.2.1 X.2.2.2.2.2.2.2.2 H locs k n (MQ X.2.2.2.2.2.2.1 (q_Q G (em r)) X.2.2.2.2.2.1 X.2.2.2.1 M.2.2.2.1.cells M.2.2.2.1.slots (q_A G)) (F0 X.2.2.2.2.1 pc ls st)
abbrev q_r (G : q_G) (o : Nat) : Value := .ref (q_x G + o)
def q_rn (G : q_G) (r : Option Nat) : Value := match r with
  | none => .null
  | some o => q_r G o
/-- an index -/
def q_ix {ρ : Type} (i : Int32) (n : Nat) (K : Nat → Option ρ) : Option ρ := if i < 0 ∨ n ≤ i.toNatClampNeg then none else K i.toNatClampNeg
def q_b1 {α ρ : Type} (o : Option α) (K : α → Option ρ) : Option ρ := o.bind K
def q_b2 {α β ρ : Type} (o : Option (α × β)) (K : α → β → Option ρ) : Option ρ := o.bind (fun r => K r.1 r.2)
def q_b3 {α β γ ρ : Type} (o : Option (α × β × γ)) (K : α → β → γ → Option ρ) : Option ρ := o.bind (fun r => K r.1 r.2.1 r.2.2)
def q_b4 {α β γ δ ρ : Type} (o : Option (α × β × γ × δ)) (K : α → β → γ → δ → Option ρ) : Option ρ := o.bind (fun r => K r.1 r.2.1 r.2.2.1 r.2.2.2)
/-- a contract: from a world in the state I, J, P, where o is an answer, the method y with the arguments av returns it -/
def q_wsM (y : MethodName) (M : q_M) : List Cond := .code y M.1 M.2.1 M.2.2.2.2 :: q_gw
def q_Ct (l : Launch) (G : q_G) {ρ : Type} (y : MethodName) (M : q_M) (av : List Value) (S : q_S) (o : Option ρ) (em : ρ → Option Value × q_S) : Prop := ∀ r, o = some r → Met l y (q_wsM y M) M.2.2.2.1 (va_Pc av (fun U => q_W G S U.heap ∧ q_KK G U ∧ q_y G ≤ U.heap.size)) (q_Q G (em r)) M.2.2.2.1.cells M.2.2.2.1.slots (q_A G)
theorem q_Ct_of {l : Launch} {G : q_G} {ρ : Type} {y : MethodName} {M : q_M} {av : List Value} {I : q_I} {J : q_J} {P : q_P} {o : Option ρ} {em : ρ → Option Value × q_S} {L : List (Nat × Value)} (hin : q_in G) (hy : plainName y.cls = true) (hown : y.cls = M.2.2.1) (hn : (lg_sl av).length ≤ M.2.1) (hL : lv_args 0 av = L)
    (body : ∀ X : q_X, X.1 = l → q_V G M X em 0 0 0 L [] I J P o) : q_Ct l G y M av (I, J, P) o em := by
  intro r hr
  refine Met.ofW (cc := M.1) (maxL := M.2.1) (ret := M.2.2.2.2) hy rfl ?_
  intro p e s m args below meth c s₁ B hml hv
  obtain ⟨rfl, hW, hK, hy0⟩ := hv
  have hts := atoms_spec (ws := q_wsM y M) B.pre
  have hV := body (l, p, e, s, m, av.toArray, below, meth, c) rfl ⟨B.exec, B.bytes, hml, by rw [← hown]; exact findClass_of_methodNamed B.named, fun w hw => hts w (List.mem_cons_of_mem _ hw), hK, B.returns, B.notSynchronized, hin, hy0⟩ r hr s.heap [] _ hW va_S.rf (by rw [← hL]; exact lv_entry av hn)
  rw [lg_entry_eq]
  exact hV
end
section
section QR
variable {ρ : Type} {G : q_G} {M : q_M} {X : q_X} {em : ρ → Option Value × q_S} {k n pc : Nat} {L : List (Nat × Value)} {st : List Value} {I : q_I} {J : q_J} {P : q_P}
theorem q_none : q_V G M X em k n pc L st I J P (none : Option ρ) := fun _ _ h => by cases h
theorem q_widen {O : Option ρ} {k' n' : Nat} (h1 : k ≤ k') (h2 : n ≤ n') (kk : q_V G M X em k' n' pc L st I J P O) : q_V G M X em k n pc L st I J P O := fun K r hr H locs ls hW hS hl => W.widen h1 h2 (kk K r hr H locs ls hW hS hl)
theorem q_sub {O : Option ρ} {L' : List (Nat × Value)} (ks : List Nat) (hl : lv_pick L ks = L') (kk : q_V G M X em k n pc L' st I J P O) : q_V G M X em k n pc L st I J P O := fun K r hr H locs ls hW hS h => kk K r hr H locs ls hW hS (lv_sub h ks hl)

theorem q_iadd {O : Option ρ} {x y : Int32} (q : Nat) (e : pc + 1 = q) (d : decode M.1 pc = .ok (.iadd, 1)) (kk : q_V G M X em k n q L (.int (x + y) :: st) I J P O) : q_V G M X em k n pc L (.int y :: .int x :: st) I J P O := by
  subst e
  intro K r hr H locs ls hW hS hl
  exact lv_iadd K.1 K.2.1 d (kk K r hr H locs ls hW hS hl)
theorem q_isub {O : Option ρ} {x y : Int32} (q : Nat) (e : pc + 1 = q) (d : decode M.1 pc = .ok (.isub, 1)) (kk : q_V G M X em k n q L (.int (x - y) :: st) I J P O) : q_V G M X em k n pc L (.int y :: .int x :: st) I J P O := by
  subst e
  intro K r hr H locs ls hW hS hl
  exact lv_isub K.1 K.2.1 d (kk K r hr H locs ls hW hS hl)
theorem q_imul {O : Option ρ} {x y : Int32} (q : Nat) (e : pc + 1 = q) (d : decode M.1 pc = .ok (.imul, 1)) (kk : q_V G M X em k n q L (.int (x * y) :: st) I J P O) : q_V G M X em k n pc L (.int y :: .int x :: st) I J P O := by
  subst e
  intro K r hr H locs ls hW hS hl
  exact lv_imul K.1 K.2.1 d (kk K r hr H locs ls hW hS hl)
theorem q_iand {O : Option ρ} {x y : Int32} (q : Nat) (e : pc + 1 = q) (d : decode M.1 pc = .ok (.iand, 1)) (kk : q_V G M X em k n q L (.int (x &&& y) :: st) I J P O) : q_V G M X em k n pc L (.int y :: .int x :: st) I J P O := by
  subst e
  intro K r hr H locs ls hW hS hl
  exact lv_iand K.1 K.2.1 d (kk K r hr H locs ls hW hS hl)
theorem q_ior {O : Option ρ} {x y : Int32} (q : Nat) (e : pc + 1 = q) (d : decode M.1 pc = .ok (.ior, 1)) (kk : q_V G M X em k n q L (.int (x ||| y) :: st) I J P O) : q_V G M X em k n pc L (.int y :: .int x :: st) I J P O := by
  subst e
  intro K r hr H locs ls hW hS hl
  exact lv_ior K.1 K.2.1 d (kk K r hr H locs ls hW hS hl)
theorem q_ixor {O : Option ρ} {x y : Int32} (q : Nat) (e : pc + 1 = q) (d : decode M.1 pc = .ok (.ixor, 1)) (kk : q_V G M X em k n q L (.int (x ^^^ y) :: st) I J P O) : q_V G M X em k n pc L (.int y :: .int x :: st) I J P O := by
  subst e
  intro K r hr H locs ls hW hS hl
  exact lv_ixor K.1 K.2.1 d (kk K r hr H locs ls hW hS hl)
theorem q_ishl {O : Option ρ} {x y : Int32} (q : Nat) (e : pc + 1 = q) (d : decode M.1 pc = .ok (.ishl, 1)) (kk : q_V G M X em k n q L (.int (x <<< (y &&& 31)) :: st) I J P O) : q_V G M X em k n pc L (.int y :: .int x :: st) I J P O := by
  subst e
  intro K r hr H locs ls hW hS hl
  exact lv_ishl K.1 K.2.1 d (kk K r hr H locs ls hW hS hl)
theorem q_ishr {O : Option ρ} {x y : Int32} (q : Nat) (e : pc + 1 = q) (d : decode M.1 pc = .ok (.ishr, 1)) (kk : q_V G M X em k n q L (.int (x >>> (y &&& 31)) :: st) I J P O) : q_V G M X em k n pc L (.int y :: .int x :: st) I J P O := by
  subst e
  intro K r hr H locs ls hW hS hl
  exact lv_ishr K.1 K.2.1 d (kk K r hr H locs ls hW hS hl)
theorem q_ladd {O : Option ρ} {x y : Int64} (q : Nat) (e : pc + 1 = q) (d : decode M.1 pc = .ok (.ladd, 1)) (kk : q_V G M X em k n q L (.long (x + y) :: st) I J P O) : q_V G M X em k n pc L (.long y :: .long x :: st) I J P O := by
  subst e
  intro K r hr H locs ls hW hS hl
  exact lv_ladd K.1 K.2.1 d (kk K r hr H locs ls hW hS hl)
theorem q_lsub {O : Option ρ} {x y : Int64} (q : Nat) (e : pc + 1 = q) (d : decode M.1 pc = .ok (.lsub, 1)) (kk : q_V G M X em k n q L (.long (x - y) :: st) I J P O) : q_V G M X em k n pc L (.long y :: .long x :: st) I J P O := by
  subst e
  intro K r hr H locs ls hW hS hl
  exact lv_lsub K.1 K.2.1 d (kk K r hr H locs ls hW hS hl)
theorem q_lmul {O : Option ρ} {x y : Int64} (q : Nat) (e : pc + 1 = q) (d : decode M.1 pc = .ok (.lmul, 1)) (kk : q_V G M X em k n q L (.long (x * y) :: st) I J P O) : q_V G M X em k n pc L (.long y :: .long x :: st) I J P O := by
  subst e
  intro K r hr H locs ls hW hS hl
  exact lv_lmul K.1 K.2.1 d (kk K r hr H locs ls hW hS hl)
theorem q_land {O : Option ρ} {x y : Int64} (q : Nat) (e : pc + 1 = q) (d : decode M.1 pc = .ok (.land, 1)) (kk : q_V G M X em k n q L (.long (x &&& y) :: st) I J P O) : q_V G M X em k n pc L (.long y :: .long x :: st) I J P O := by
  subst e
  intro K r hr H locs ls hW hS hl
  exact lv_land K.1 K.2.1 d (kk K r hr H locs ls hW hS hl)
theorem q_lor {O : Option ρ} {x y : Int64} (q : Nat) (e : pc + 1 = q) (d : decode M.1 pc = .ok (.lor, 1)) (kk : q_V G M X em k n q L (.long (x ||| y) :: st) I J P O) : q_V G M X em k n pc L (.long y :: .long x :: st) I J P O := by
  subst e
  intro K r hr H locs ls hW hS hl
  exact lv_lor K.1 K.2.1 d (kk K r hr H locs ls hW hS hl)
theorem q_lxor {O : Option ρ} {x y : Int64} (q : Nat) (e : pc + 1 = q) (d : decode M.1 pc = .ok (.lxor, 1)) (kk : q_V G M X em k n q L (.long (x ^^^ y) :: st) I J P O) : q_V G M X em k n pc L (.long y :: .long x :: st) I J P O := by
  subst e
  intro K r hr H locs ls hW hS hl
  exact lv_lxor K.1 K.2.1 d (kk K r hr H locs ls hW hS hl)
theorem q_iushr {O : Option ρ} {x y : Int32} (q : Nat) (e : pc + 1 = q) (d : decode M.1 pc = .ok (.iushr, 1)) (kk : q_V G M X em k n q L (.int ((x.toUInt32 >>> (y.toUInt32 &&& Int32.toUInt32 31)).toInt32) :: st) I J P O) : q_V G M X em k n pc L (.int y :: .int x :: st) I J P O := by
  subst e
  intro K r hr H locs ls hW hS hl
  exact lv_iushr K.1 K.2.1 d rfl (kk K r hr H locs ls hW hS hl)
theorem q_idiv {O : Option ρ} {x y : Int32} (q : Nat) (e : pc + 1 = q) (d : decode M.1 pc = .ok (.idiv, 1)) (h : ¬ y = 0) (kk : q_V G M X em k n q L (.int (x / y) :: st) I J P O) : q_V G M X em k n pc L (.int y :: .int x :: st) I J P O := by
  subst e
  intro K r hr H locs ls hW hS hl
  exact lv_idiv K.1 K.2.1 d h (kk K r hr H locs ls hW hS hl)
theorem q_irem {O : Option ρ} {x y : Int32} (q : Nat) (e : pc + 1 = q) (d : decode M.1 pc = .ok (.irem, 1)) (h : ¬ y = 0) (kk : q_V G M X em k n q L (.int (x - x / y * y) :: st) I J P O) : q_V G M X em k n pc L (.int y :: .int x :: st) I J P O := by
  subst e
  intro K r hr H locs ls hW hS hl
  exact lv_irem K.1 K.2.1 d h (kk K r hr H locs ls hW hS hl)
theorem q_ineg {O : Option ρ} {x : Int32} (q : Nat) (e : pc + 1 = q) (d : decode M.1 pc = .ok (.ineg, 1)) (kk : q_V G M X em k n q L (.int (-x) :: st) I J P O) : q_V G M X em k n pc L (.int x :: st) I J P O := by
  subst e
  intro K r hr H locs ls hW hS hl
  exact lv_ineg K.1 K.2.1 d (kk K r hr H locs ls hW hS hl)
theorem q_i2l {O : Option ρ} {x : Int32} (q : Nat) (e : pc + 1 = q) (d : decode M.1 pc = .ok (.i2l, 1)) (kk : q_V G M X em k n q L (.long x.toInt64 :: st) I J P O) : q_V G M X em k n pc L (.int x :: st) I J P O := by
  subst e
  intro K r hr H locs ls hW hS hl
  exact lv_i2l K.1 K.2.1 d rfl (kk K r hr H locs ls hW hS hl)
theorem q_i2c {O : Option ρ} {x : Int32} (q : Nat) (e : pc + 1 = q) (d : decode M.1 pc = .ok (.i2c, 1)) (kk : q_V G M X em k n q L (.int ((x.toUInt32 % 65536).toInt32) :: st) I J P O) : q_V G M X em k n pc L (.int x :: st) I J P O := by
  subst e
  intro K r hr H locs ls hW hS hl
  exact lv_i2c K.1 K.2.1 d rfl (kk K r hr H locs ls hW hS hl)
theorem q_i2b {O : Option ρ} {x : Int32} (q : Nat) (e : pc + 1 = q) (d : decode M.1 pc = .ok (.i2b, 1)) (kk : q_V G M X em k n q L (.int (x.toInt8.toInt32) :: st) I J P O) : q_V G M X em k n pc L (.int x :: st) I J P O := by
  subst e
  intro K r hr H locs ls hW hS hl
  exact lv_i2b K.1 K.2.1 d rfl (kk K r hr H locs ls hW hS hl)
theorem q_lshl {O : Option ρ} {x : Int64} {y : Int32} (q : Nat) (e : pc + 1 = q) (d : decode M.1 pc = .ok (.lshl, 1)) (kk : q_V G M X em k n q L (.long (x <<< (y.toInt64 &&& 63)) :: st) I J P O) : q_V G M X em k n pc L (.int y :: .long x :: st) I J P O := by
  subst e
  intro K r hr H locs ls hW hS hl
  exact lv_lshl K.1 K.2.1 d rfl (kk K r hr H locs ls hW hS hl)
theorem q_lcmp {O : Option ρ} {x y : Int64} (q : Nat) (e : pc + 1 = q) (d : decode M.1 pc = .ok (.lcmp, 1)) (kk : q_V G M X em k n q L (.int (lg_cmp x y) :: st) I J P O) : q_V G M X em k n pc L (.long y :: .long x :: st) I J P O := by
  subst e
  intro K r hr H locs ls hW hS hl
  exact W.lcmp K.1 K.2.1 d (kk K r hr H locs ls hW hS hl)
theorem q_iconst {O : Option ρ} (v : Int32) {c : Int} (q : Nat) (e : pc + 1 = q) (d : decode M.1 pc = .ok (.iconst c, 1)) (h : Int32.ofInt c = v) (kk : q_V G M X em k n q L (.int v :: st) I J P O) : q_V G M X em k n pc L (st) I J P O := by
  subst e
  intro K r hr H locs ls hW hS hl
  exact lv_iconst K.1 K.2.1 d h (kk K r hr H locs ls hW hS hl)
theorem q_bipush {O : Option ρ} (v : Int32) {c : Int} (q : Nat) (e : pc + 2 = q) (d : decode M.1 pc = .ok (.bipush c, 2)) (h : (Int8.ofInt c).toInt32 = v) (kk : q_V G M X em k n q L (.int v :: st) I J P O) : q_V G M X em k n pc L (st) I J P O := by
  subst e
  intro K r hr H locs ls hW hS hl
  exact lv_bipush K.1 K.2.1 d h (kk K r hr H locs ls hW hS hl)
theorem q_sipush {O : Option ρ} (v : Int32) {c : Int} (q : Nat) (e : pc + 3 = q) (d : decode M.1 pc = .ok (.sipush c, 3)) (h : (Int16.ofInt c).toInt32 = v) (kk : q_V G M X em k n q L (.int v :: st) I J P O) : q_V G M X em k n pc L (st) I J P O := by
  subst e
  intro K r hr H locs ls hW hS hl
  exact lv_sipush K.1 K.2.1 d h (kk K r hr H locs ls hW hS hl)
theorem q_lconst {O : Option ρ} (v : Int64) {c : Fin 2} (q : Nat) (e : pc + 1 = q) (d : decode M.1 pc = .ok (.lconst c, 1)) (h : Int64.ofNat (c : Nat) = v) (kk : q_V G M X em k n q L (.long v :: st) I J P O) : q_V G M X em k n pc L (st) I J P O := by
  subst e
  intro K r hr H locs ls hW hS hl
  exact lv_lconst K.1 K.2.1 d h (kk K r hr H locs ls hW hS hl)
theorem q_null {O : Option ρ}  (q : Nat) (e : pc + 1 = q) (d : decode M.1 pc = .ok (.aconst_null, 1)) (kk : q_V G M X em k n q L (.null :: st) I J P O) : q_V G M X em k n pc L (st) I J P O := by
  subst e
  intro K r hr H locs ls hW hS hl
  exact lv_null K.1 K.2.1 d (kk K r hr H locs ls hW hS hl)
theorem q_ldc {O : Option ρ} {v : Int32} {i : Nat} (q : Nat) (e : pc + 2 = q) (d : decode M.1 pc = .ok (.ldc i, 2)) (h : Cond.constant M.2.2.1 i v ∈ q_gw) (kk : q_V G M X em k n q L (.int v :: st) I J P O) : q_V G M X em k n pc L (st) I J P O := by
  subst e
  intro K r hr H locs ls hW hS hl
  exact lv_ldc K.1 K.2.1 K.2.2.2.1 (K.2.2.2.2.1 _ h) d (kk K r hr H locs ls hW hS hl)
theorem q_ldc2 {O : Option ρ} {v : Int64} {i : Nat} (q : Nat) (e : pc + 3 = q) (d : decode M.1 pc = .ok (.ldc2_w i, 3)) (h : Cond.constantLong M.2.2.1 i v ∈ q_gw) (kk : q_V G M X em k n q L (.long v :: st) I J P O) : q_V G M X em k n pc L (st) I J P O := by
  subst e
  intro K r hr H locs ls hW hS hl
  exact lv_ldc2 K.1 K.2.1 K.2.2.2.1 (K.2.2.2.2.1 _ h) d (kk K r hr H locs ls hW hS hl)
theorem q_iload_n {O : Option ρ} {x : Int32} (t : Nat) (j : Fin 4) (q : Nat) (e : pc + 1 = q) (d : decode M.1 pc = .ok (.iload_n j, 1)) (hl0 : L[t]? = some ((j : Nat), .int x)) (kk : q_V G M X em k n q L (.int x :: st) I J P O) : q_V G M X em k n pc L (st) I J P O := by
  subst e
  intro K r hr H locs ls hW hS hl
  exact lv_iload_n K.1 K.2.1 d rfl (lv_at hl t hl0) (kk K r hr H locs ls hW hS hl)
theorem q_iload {O : Option ρ} {x : Int32} (t i : Nat) (q : Nat) (e : pc + 2 = q) (d : decode M.1 pc = .ok (.iload i, 2)) (hl0 : L[t]? = some (i, .int x)) (kk : q_V G M X em k n q L (.int x :: st) I J P O) : q_V G M X em k n pc L (st) I J P O := by
  subst e
  intro K r hr H locs ls hW hS hl
  exact lv_iload K.1 K.2.1 d (lv_at hl t hl0) (kk K r hr H locs ls hW hS hl)
theorem q_istore_n {O : Option ρ} {x : Int32} (i : Nat) (j : Fin 4) (q : Nat) (e : pc + 1 = q) (L' : List (Nat × Value)) (d : decode M.1 pc = .ok (.istore_n j, 1)) (hj : (j : Nat) = i) (hn : i < M.2.1) (hl0 : (i, Value.int x) :: L.filter (fun q => !(q.1 == i) && !(q.1 + 1 == i && q.2.category == 2)) = L') (kk : q_V G M X em k n q L' st I J P O) : q_V G M X em k n pc L (.int x :: st) I J P O := by
  subst e
  intro K r hr H locs ls hW hS hl
  exact lv_istore_n K.1 K.2.1 d hj hl hn hl0 (fun ls' hl' => kk K r hr H locs ls' hW hS hl')
theorem q_istore {O : Option ρ} {x : Int32} (i : Nat)  (q : Nat) (e : pc + 2 = q) (L' : List (Nat × Value)) (d : decode M.1 pc = .ok (.istore i, 2)) (hn : i < M.2.1) (hl0 : (i, Value.int x) :: L.filter (fun q => !(q.1 == i) && !(q.1 + 1 == i && q.2.category == 2)) = L') (kk : q_V G M X em k n q L' st I J P O) : q_V G M X em k n pc L (.int x :: st) I J P O := by
  subst e
  intro K r hr H locs ls hW hS hl
  exact lv_istore K.1 K.2.1 d hl hn hl0 (fun ls' hl' => kk K r hr H locs ls' hW hS hl')
theorem q_lload_n {O : Option ρ} {x : Int64} (t : Nat) (j : Fin 4) (q : Nat) (e : pc + 1 = q) (d : decode M.1 pc = .ok (.lload_n j, 1)) (hl0 : L[t]? = some ((j : Nat), .long x)) (kk : q_V G M X em k n q L (.long x :: st) I J P O) : q_V G M X em k n pc L (st) I J P O := by
  subst e
  intro K r hr H locs ls hW hS hl
  exact lv_lload_n K.1 K.2.1 d rfl (lv_at hl t hl0) (kk K r hr H locs ls hW hS hl)
theorem q_lload {O : Option ρ} {x : Int64} (t i : Nat) (q : Nat) (e : pc + 2 = q) (d : decode M.1 pc = .ok (.lload i, 2)) (hl0 : L[t]? = some (i, .long x)) (kk : q_V G M X em k n q L (.long x :: st) I J P O) : q_V G M X em k n pc L (st) I J P O := by
  subst e
  intro K r hr H locs ls hW hS hl
  exact lv_lload K.1 K.2.1 d (lv_at hl t hl0) (kk K r hr H locs ls hW hS hl)
theorem q_lstore_n {O : Option ρ} {x : Int64} (i : Nat) (j : Fin 4) (q : Nat) (e : pc + 1 = q) (L' : List (Nat × Value)) (d : decode M.1 pc = .ok (.lstore_n j, 1)) (hj : (j : Nat) = i) (hn : i + 1 < M.2.1) (hl0 : (i, Value.long x) :: L.filter (fun q => !(q.1 == i) && (!(q.1 == i + 1) && !(q.1 + 1 == i && q.2.category == 2))) = L') (kk : q_V G M X em k n q L' st I J P O) : q_V G M X em k n pc L (.long x :: st) I J P O := by
  subst e
  intro K r hr H locs ls hW hS hl
  exact lv_lstore_n K.1 K.2.1 d hj hl hn hl0 (fun ls' hl' => kk K r hr H locs ls' hW hS hl')
theorem q_lstore {O : Option ρ} {x : Int64} (i : Nat)  (q : Nat) (e : pc + 2 = q) (L' : List (Nat × Value)) (d : decode M.1 pc = .ok (.lstore i, 2)) (hn : i + 1 < M.2.1) (hl0 : (i, Value.long x) :: L.filter (fun q => !(q.1 == i) && (!(q.1 == i + 1) && !(q.1 + 1 == i && q.2.category == 2))) = L') (kk : q_V G M X em k n q L' st I J P O) : q_V G M X em k n pc L (.long x :: st) I J P O := by
  subst e
  intro K r hr H locs ls hW hS hl
  exact lv_lstore K.1 K.2.1 d hl hn hl0 (fun ls' hl' => kk K r hr H locs ls' hW hS hl')
theorem q_aload_n {O : Option ρ} {x : Nat} (t : Nat) (j : Fin 4) (q : Nat) (e : pc + 1 = q) (d : decode M.1 pc = .ok (.aload_n j, 1)) (hl0 : L[t]? = some ((j : Nat), .ref x)) (kk : q_V G M X em k n q L (.ref x :: st) I J P O) : q_V G M X em k n pc L (st) I J P O := by
  subst e
  intro K r hr H locs ls hW hS hl
  exact lv_aload_n K.1 K.2.1 d rfl (lv_at hl t hl0) (kk K r hr H locs ls hW hS hl)
theorem q_aload {O : Option ρ} {x : Nat} (t i : Nat) (q : Nat) (e : pc + 2 = q) (d : decode M.1 pc = .ok (.aload i, 2)) (hl0 : L[t]? = some (i, .ref x)) (kk : q_V G M X em k n q L (.ref x :: st) I J P O) : q_V G M X em k n pc L (st) I J P O := by
  subst e
  intro K r hr H locs ls hW hS hl
  exact lv_aload K.1 K.2.1 d (lv_at hl t hl0) (kk K r hr H locs ls hW hS hl)
theorem q_astore_n {O : Option ρ} {x : Nat} (i : Nat) (j : Fin 4) (q : Nat) (e : pc + 1 = q) (L' : List (Nat × Value)) (d : decode M.1 pc = .ok (.astore_n j, 1)) (hj : (j : Nat) = i) (hn : i < M.2.1) (hl0 : (i, Value.ref x) :: L.filter (fun q => !(q.1 == i) && !(q.1 + 1 == i && q.2.category == 2)) = L') (kk : q_V G M X em k n q L' st I J P O) : q_V G M X em k n pc L (.ref x :: st) I J P O := by
  subst e
  intro K r hr H locs ls hW hS hl
  exact lv_astore_n K.1 K.2.1 d hj hl hn hl0 (fun ls' hl' => kk K r hr H locs ls' hW hS hl')
theorem q_astore {O : Option ρ} {x : Nat} (i : Nat)  (q : Nat) (e : pc + 2 = q) (L' : List (Nat × Value)) (d : decode M.1 pc = .ok (.astore i, 2)) (hn : i < M.2.1) (hl0 : (i, Value.ref x) :: L.filter (fun q => !(q.1 == i) && !(q.1 + 1 == i && q.2.category == 2)) = L') (kk : q_V G M X em k n q L' st I J P O) : q_V G M X em k n pc L (.ref x :: st) I J P O := by
  subst e
  intro K r hr H locs ls hW hS hl
  exact lv_astore K.1 K.2.1 d hl hn hl0 (fun ls' hl' => kk K r hr H locs ls' hW hS hl')
theorem q_iinc {O : Option ρ} {x : Int32} (v : Int32) {c : Int} (i t : Nat) (q : Nat) (e : pc + 3 = q) (L' : List (Nat × Value)) (d : decode M.1 pc = .ok (.iinc i c, 3)) (ht : L[t]? = some (i, .int x)) (hv : x + Int32.ofInt c = v) (hn : i < M.2.1) (hl0 : (i, Value.int v) :: L.filter (fun q => !(q.1 == i) && !(q.1 + 1 == i && q.2.category == 2)) = L') (kk : q_V G M X em k n q L' st I J P O) : q_V G M X em k n pc L st I J P O := by
  subst e
  intro K r hr H locs ls hW hS hl
  exact lv_iinc K.1 K.2.1 d hl ht hv hn hl0 (fun ls' hl' => kk K r hr H locs ls' hW hS hl')
theorem q_aloadq_n {O : Option ρ} {x : Option Nat} (t : Nat) (j : Fin 4) (q : Nat) (e : pc + 1 = q) (d : decode M.1 pc = .ok (.aload_n j, 1)) (hl0 : L[t]? = some ((j : Nat), q_rn G x)) (kk : q_V G M X em k n q L (q_rn G x :: st) I J P O) : q_V G M X em k n pc L st I J P O := by
  subst e
  intro K r hr H locs ls hW hS hl
  cases x with
  | none => exact lv_aload_nN K.1 K.2.1 d rfl (lv_at hl t hl0) (kk K r hr H locs ls hW hS hl)
  | some a => exact lv_aload_n K.1 K.2.1 d rfl (lv_at hl t hl0) (kk K r hr H locs ls hW hS hl)
theorem q_aloadq {O : Option ρ} {x : Option Nat} (t i : Nat) (q : Nat) (e : pc + 2 = q) (d : decode M.1 pc = .ok (.aload i, 2)) (hl0 : L[t]? = some (i, q_rn G x)) (kk : q_V G M X em k n q L (q_rn G x :: st) I J P O) : q_V G M X em k n pc L st I J P O := by
  subst e
  intro K r hr H locs ls hW hS hl
  cases x with
  | none => exact lv_aloadN K.1 K.2.1 d (lv_at hl t hl0) (kk K r hr H locs ls hW hS hl)
  | some a => exact lv_aload K.1 K.2.1 d (lv_at hl t hl0) (kk K r hr H locs ls hW hS hl)
theorem q_astoreq_n {O : Option ρ} {x : Option Nat} (i : Nat) (j : Fin 4) (q : Nat) (e : pc + 1 = q) (L' : List (Nat × Value)) (d : decode M.1 pc = .ok (.astore_n j, 1)) (hj : (j : Nat) = i) (hn : i < M.2.1) (hl0 : (i, q_rn G x) :: L.filter (fun q => !(q.1 == i) && !(q.1 + 1 == i && q.2.category == 2)) = L') (kk : q_V G M X em k n q L' st I J P O) : q_V G M X em k n pc L (q_rn G x :: st) I J P O := by
  subst e
  intro K r hr H locs ls hW hS hl
  cases x with
  | none => exact lv_astore_nN K.1 K.2.1 d hj hl hn hl0 (fun ls' hl' => kk K r hr H locs ls' hW hS hl')
  | some a => exact lv_astore_n K.1 K.2.1 d hj hl hn hl0 (fun ls' hl' => kk K r hr H locs ls' hW hS hl')
theorem q_astoreq {O : Option ρ} {x : Option Nat} (i : Nat) (q : Nat) (e : pc + 2 = q) (L' : List (Nat × Value)) (d : decode M.1 pc = .ok (.astore i, 2)) (hn : i < M.2.1) (hl0 : (i, q_rn G x) :: L.filter (fun q => !(q.1 == i) && !(q.1 + 1 == i && q.2.category == 2)) = L') (kk : q_V G M X em k n q L' st I J P O) : q_V G M X em k n pc L (q_rn G x :: st) I J P O := by
  subst e
  intro K r hr H locs ls hW hS hl
  cases x with
  | none => exact lv_astoreN K.1 K.2.1 d hl hn hl0 (fun ls' hl' => kk K r hr H locs ls' hW hS hl')
  | some a => exact lv_astore K.1 K.2.1 d hl hn hl0 (fun ls' hl' => kk K r hr H locs ls' hW hS hl')
theorem q_ifnull {B : Nat → Option ρ} {A : Option ρ} {x : Option Nat} {off : Int} (q : Nat) (e : pc + 3 = q) (tgt : Nat) (d : decode M.1 pc = .ok (.ifnull off, 3)) (ht : (pc : Int) + off = (tgt : Int)) (kn : x = none → q_V G M X em k n tgt L st I J P A) (ks : ∀ a, x = some a → q_V G M X em k n q L st I J P (B a)) : q_V G M X em k n pc L (q_rn G x :: st) I J P (x.elim A B) := by
  subst e
  intro K r hr H locs ls hW hS hl
  cases x with
  | none => exact lv_ifnullN K.1 K.2.1 d ht (kn rfl K r hr H locs ls hW hS hl)
  | some a => exact lv_ifnull K.1 K.2.1 d (ks a rfl K r hr H locs ls hW hS hl)
theorem q_ifnonnull {B : Nat → Option ρ} {A : Option ρ} {x : Option Nat} {off : Int} (q : Nat) (e : pc + 3 = q) (tgt : Nat) (d : decode M.1 pc = .ok (.ifnonnull off, 3)) (ht : (pc : Int) + off = (tgt : Int)) (kn : x = none → q_V G M X em k n q L st I J P A) (ks : ∀ a, x = some a → q_V G M X em k n tgt L st I J P (B a)) : q_V G M X em k n pc L (q_rn G x :: st) I J P (x.elim A B) := by
  subst e
  intro K r hr H locs ls hW hS hl
  cases x with
  | none => exact lv_ifnonnullN K.1 K.2.1 d (kn rfl K r hr H locs ls hW hS hl)
  | some a => exact lv_ifnonnull K.1 K.2.1 d ht (ks a rfl K r hr H locs ls hW hS hl)
theorem q_dup {O : Option ρ} {va : Value} (q : Nat) (e : pc + 1 = q) (d : decode M.1 pc = .ok (.dup, 1)) (ha : va.category = 1) (kk : q_V G M X em k n q L (va :: va :: st) I J P O) : q_V G M X em k n pc L (va :: st) I J P O := by
  subst e
  intro K r hr H locs ls hW hS hl
  exact lv_dup K.1 K.2.1 d ha (kk K r hr H locs ls hW hS hl)
theorem q_pop {O : Option ρ} {va : Value} (q : Nat) (e : pc + 1 = q) (d : decode M.1 pc = .ok (.pop, 1)) (ha : va.category = 1) (kk : q_V G M X em k n q L (st) I J P O) : q_V G M X em k n pc L (va :: st) I J P O := by
  subst e
  intro K r hr H locs ls hW hS hl
  exact lv_pop K.1 K.2.1 d ha (kk K r hr H locs ls hW hS hl)
theorem q_pop2 {O : Option ρ} {va : Value} (q : Nat) (e : pc + 1 = q) (d : decode M.1 pc = .ok (.pop2, 1)) (ha : va.category = 2) (kk : q_V G M X em k n q L (st) I J P O) : q_V G M X em k n pc L (va :: st) I J P O := by
  subst e
  intro K r hr H locs ls hW hS hl
  exact lv_pop2_2 K.1 K.2.1 d ha (kk K r hr H locs ls hW hS hl)
theorem q_dup_x1 {O : Option ρ} {va vb : Value} (q : Nat) (e : pc + 1 = q) (d : decode M.1 pc = .ok (.dup_x1, 1)) (ha : va.category = 1) (hb : vb.category = 1) (kk : q_V G M X em k n q L (va :: vb :: va :: st) I J P O) : q_V G M X em k n pc L (va :: vb :: st) I J P O := by
  subst e
  intro K r hr H locs ls hW hS hl
  exact lv_dup_x1 K.1 K.2.1 d ha hb (kk K r hr H locs ls hW hS hl)
theorem q_dup_x2 {O : Option ρ} {va vb vc : Value} (q : Nat) (e : pc + 1 = q) (d : decode M.1 pc = .ok (.dup_x2, 1)) (ha : va.category = 1) (hb : vb.category = 1) (hc : vc.category = 1) (kk : q_V G M X em k n q L (va :: vb :: vc :: va :: st) I J P O) : q_V G M X em k n pc L (va :: vb :: vc :: st) I J P O := by
  subst e
  intro K r hr H locs ls hW hS hl
  exact lv_dup_x2 K.1 K.2.1 d ha hb hc (kk K r hr H locs ls hW hS hl)
theorem q_dup2 {O : Option ρ} {va vb : Value} (q : Nat) (e : pc + 1 = q) (d : decode M.1 pc = .ok (.dup2, 1)) (ha : va.category = 1) (hb : vb.category = 1) (kk : q_V G M X em k n q L (va :: vb :: va :: vb :: st) I J P O) : q_V G M X em k n pc L (va :: vb :: st) I J P O := by
  subst e
  intro K r hr H locs ls hW hS hl
  exact lv_dup2_11 K.1 K.2.1 d ha hb (kk K r hr H locs ls hW hS hl)
theorem q_if_eq {A B : Option ρ} {x : Int32} {off : Int} (q : Nat) (e : pc + 3 = q) (tgt : Nat) (d : decode M.1 pc = .ok (.ifCond .eq off, 3)) (ht : (pc : Int) + off = (tgt : Int)) (kt : x = 0 → q_V G M X em k n tgt L st I J P A) (kf : ¬ x = 0 → q_V G M X em k n q L st I J P B) : q_V G M X em k n pc L (.int x :: st) I J P (if x = 0 then A else B) := by
  subst e
  intro K r hr H locs ls hW hS hl
  exact lv_if_eq K.1 K.2.1 d ht (fun h => kt h K r (by rw [if_pos h] at hr; exact hr) H locs ls hW hS hl) (fun h => kf h K r (by rw [if_neg h] at hr; exact hr) H locs ls hW hS hl)
theorem q_icmp_eq {A B : Option ρ} {x y : Int32} {off : Int} (q : Nat) (e : pc + 3 = q) (tgt : Nat) (d : decode M.1 pc = .ok (.if_icmp .eq off, 3)) (ht : (pc : Int) + off = (tgt : Int)) (kt : x = y → q_V G M X em k n tgt L st I J P A) (kf : ¬ x = y → q_V G M X em k n q L st I J P B) : q_V G M X em k n pc L (.int y :: .int x :: st) I J P (if x = y then A else B) := by
  subst e
  intro K r hr H locs ls hW hS hl
  exact lv_icmp_eq K.1 K.2.1 d ht (fun h => kt h K r (by rw [if_pos h] at hr; exact hr) H locs ls hW hS hl) (fun h => kf h K r (by rw [if_neg h] at hr; exact hr) H locs ls hW hS hl)
theorem q_if_ne {A B : Option ρ} {x : Int32} {off : Int} (q : Nat) (e : pc + 3 = q) (tgt : Nat) (d : decode M.1 pc = .ok (.ifCond .ne off, 3)) (ht : (pc : Int) + off = (tgt : Int)) (kt : ¬ x = 0 → q_V G M X em k n tgt L st I J P A) (kf : x = 0 → q_V G M X em k n q L st I J P B) : q_V G M X em k n pc L (.int x :: st) I J P (if x = 0 then B else A) := by
  subst e
  intro K r hr H locs ls hW hS hl
  exact lv_if_ne K.1 K.2.1 d ht (fun h => kt h K r (by rw [if_neg h] at hr; exact hr) H locs ls hW hS hl) (fun h => kf h K r (by rw [if_pos h] at hr; exact hr) H locs ls hW hS hl)
theorem q_icmp_ne {A B : Option ρ} {x y : Int32} {off : Int} (q : Nat) (e : pc + 3 = q) (tgt : Nat) (d : decode M.1 pc = .ok (.if_icmp .ne off, 3)) (ht : (pc : Int) + off = (tgt : Int)) (kt : ¬ x = y → q_V G M X em k n tgt L st I J P A) (kf : x = y → q_V G M X em k n q L st I J P B) : q_V G M X em k n pc L (.int y :: .int x :: st) I J P (if x = y then B else A) := by
  subst e
  intro K r hr H locs ls hW hS hl
  exact lv_icmp_ne K.1 K.2.1 d ht (fun h => kt h K r (by rw [if_neg h] at hr; exact hr) H locs ls hW hS hl) (fun h => kf h K r (by rw [if_pos h] at hr; exact hr) H locs ls hW hS hl)
theorem q_if_lt {A B : Option ρ} {x : Int32} {off : Int} (q : Nat) (e : pc + 3 = q) (tgt : Nat) (d : decode M.1 pc = .ok (.ifCond .lt off, 3)) (ht : (pc : Int) + off = (tgt : Int)) (kt : x < 0 → q_V G M X em k n tgt L st I J P A) (kf : ¬ x < 0 → q_V G M X em k n q L st I J P B) : q_V G M X em k n pc L (.int x :: st) I J P (if x < 0 then A else B) := by
  subst e
  intro K r hr H locs ls hW hS hl
  exact lv_if_lt K.1 K.2.1 d ht (fun h => kt h K r (by rw [if_pos h] at hr; exact hr) H locs ls hW hS hl) (fun h => kf h K r (by rw [if_neg h] at hr; exact hr) H locs ls hW hS hl)
theorem q_icmp_lt {A B : Option ρ} {x y : Int32} {off : Int} (q : Nat) (e : pc + 3 = q) (tgt : Nat) (d : decode M.1 pc = .ok (.if_icmp .lt off, 3)) (ht : (pc : Int) + off = (tgt : Int)) (kt : x < y → q_V G M X em k n tgt L st I J P A) (kf : ¬ x < y → q_V G M X em k n q L st I J P B) : q_V G M X em k n pc L (.int y :: .int x :: st) I J P (if x < y then A else B) := by
  subst e
  intro K r hr H locs ls hW hS hl
  exact lv_icmp_lt K.1 K.2.1 d ht (fun h => kt h K r (by rw [if_pos h] at hr; exact hr) H locs ls hW hS hl) (fun h => kf h K r (by rw [if_neg h] at hr; exact hr) H locs ls hW hS hl)
theorem q_if_ge {A B : Option ρ} {x : Int32} {off : Int} (q : Nat) (e : pc + 3 = q) (tgt : Nat) (d : decode M.1 pc = .ok (.ifCond .ge off, 3)) (ht : (pc : Int) + off = (tgt : Int)) (kt : 0 ≤ x → q_V G M X em k n tgt L st I J P A) (kf : ¬ 0 ≤ x → q_V G M X em k n q L st I J P B) : q_V G M X em k n pc L (.int x :: st) I J P (if 0 ≤ x then A else B) := by
  subst e
  intro K r hr H locs ls hW hS hl
  exact lv_if_ge K.1 K.2.1 d ht (fun h => kt h K r (by rw [if_pos h] at hr; exact hr) H locs ls hW hS hl) (fun h => kf h K r (by rw [if_neg h] at hr; exact hr) H locs ls hW hS hl)
theorem q_icmp_ge {A B : Option ρ} {x y : Int32} {off : Int} (q : Nat) (e : pc + 3 = q) (tgt : Nat) (d : decode M.1 pc = .ok (.if_icmp .ge off, 3)) (ht : (pc : Int) + off = (tgt : Int)) (kt : y ≤ x → q_V G M X em k n tgt L st I J P A) (kf : ¬ y ≤ x → q_V G M X em k n q L st I J P B) : q_V G M X em k n pc L (.int y :: .int x :: st) I J P (if y ≤ x then A else B) := by
  subst e
  intro K r hr H locs ls hW hS hl
  exact lv_icmp_ge K.1 K.2.1 d ht (fun h => kt h K r (by rw [if_pos h] at hr; exact hr) H locs ls hW hS hl) (fun h => kf h K r (by rw [if_neg h] at hr; exact hr) H locs ls hW hS hl)
theorem q_if_gt {A B : Option ρ} {x : Int32} {off : Int} (q : Nat) (e : pc + 3 = q) (tgt : Nat) (d : decode M.1 pc = .ok (.ifCond .gt off, 3)) (ht : (pc : Int) + off = (tgt : Int)) (kt : 0 < x → q_V G M X em k n tgt L st I J P A) (kf : ¬ 0 < x → q_V G M X em k n q L st I J P B) : q_V G M X em k n pc L (.int x :: st) I J P (if 0 < x then A else B) := by
  subst e
  intro K r hr H locs ls hW hS hl
  exact lv_if_gt K.1 K.2.1 d ht (fun h => kt h K r (by rw [if_pos h] at hr; exact hr) H locs ls hW hS hl) (fun h => kf h K r (by rw [if_neg h] at hr; exact hr) H locs ls hW hS hl)
theorem q_icmp_gt {A B : Option ρ} {x y : Int32} {off : Int} (q : Nat) (e : pc + 3 = q) (tgt : Nat) (d : decode M.1 pc = .ok (.if_icmp .gt off, 3)) (ht : (pc : Int) + off = (tgt : Int)) (kt : y < x → q_V G M X em k n tgt L st I J P A) (kf : ¬ y < x → q_V G M X em k n q L st I J P B) : q_V G M X em k n pc L (.int y :: .int x :: st) I J P (if y < x then A else B) := by
  subst e
  intro K r hr H locs ls hW hS hl
  exact lv_icmp_gt K.1 K.2.1 d ht (fun h => kt h K r (by rw [if_pos h] at hr; exact hr) H locs ls hW hS hl) (fun h => kf h K r (by rw [if_neg h] at hr; exact hr) H locs ls hW hS hl)
theorem q_if_le {A B : Option ρ} {x : Int32} {off : Int} (q : Nat) (e : pc + 3 = q) (tgt : Nat) (d : decode M.1 pc = .ok (.ifCond .le off, 3)) (ht : (pc : Int) + off = (tgt : Int)) (kt : x ≤ 0 → q_V G M X em k n tgt L st I J P A) (kf : ¬ x ≤ 0 → q_V G M X em k n q L st I J P B) : q_V G M X em k n pc L (.int x :: st) I J P (if x ≤ 0 then A else B) := by
  subst e
  intro K r hr H locs ls hW hS hl
  exact lv_if_le K.1 K.2.1 d ht (fun h => kt h K r (by rw [if_pos h] at hr; exact hr) H locs ls hW hS hl) (fun h => kf h K r (by rw [if_neg h] at hr; exact hr) H locs ls hW hS hl)
theorem q_icmp_le {A B : Option ρ} {x y : Int32} {off : Int} (q : Nat) (e : pc + 3 = q) (tgt : Nat) (d : decode M.1 pc = .ok (.if_icmp .le off, 3)) (ht : (pc : Int) + off = (tgt : Int)) (kt : x ≤ y → q_V G M X em k n tgt L st I J P A) (kf : ¬ x ≤ y → q_V G M X em k n q L st I J P B) : q_V G M X em k n pc L (.int y :: .int x :: st) I J P (if x ≤ y then A else B) := by
  subst e
  intro K r hr H locs ls hW hS hl
  exact lv_icmp_le K.1 K.2.1 d ht (fun h => kt h K r (by rw [if_pos h] at hr; exact hr) H locs ls hW hS hl) (fun h => kf h K r (by rw [if_neg h] at hr; exact hr) H locs ls hW hS hl)
theorem q_goto {O : Option ρ} {off : Int} (tgt : Nat) (d : decode M.1 pc = .ok (.goto off, 3)) (ht : (pc : Int) + off = (tgt : Int)) (kk : q_V G M X em k n tgt L st I J P O) : q_V G M X em k n pc L st I J P O := by
  intro K r hr H locs ls hW hS hl
  exact lv_goto K.1 K.2.1 d ht (kk K r hr H locs ls hW hS hl)
/-- a switch by cases: one of its rows, or none -/
theorem q_tableIn {O : Option ρ} {dflt lo hi : Int} {offs : Array Int} {len : Nat} {x : Int32} {off : Int} (tgt : Nat) (d : decode M.1 pc = .ok (.tableswitch dflt lo hi offs, len)) (h1 : ¬ x.toInt < lo) (h2 : ¬ hi < x.toInt) (ho : offs[(x.toInt - lo).toNat]? = some off) (ht : (pc : Int) + off = (tgt : Int)) (kk : q_V G M X em k n tgt L st I J P O) : q_V G M X em k n pc L (.int x :: st) I J P O := by
  intro K r hr H locs ls hW hS hl
  exact lv_tableIn K.1 K.2.1 d h1 h2 ho ht (kk K r hr H locs ls hW hS hl)
theorem q_tableOut {O : Option ρ} {dflt lo hi : Int} {offs : Array Int} {len : Nat} {x : Int32} (tgt : Nat) (d : decode M.1 pc = .ok (.tableswitch dflt lo hi offs, len)) (h : x.toInt < lo ∨ hi < x.toInt) (ht : (pc : Int) + dflt = (tgt : Int)) (kk : q_V G M X em k n tgt L st I J P O) : q_V G M X em k n pc L (.int x :: st) I J P O := by
  intro K r hr H locs ls hW hS hl
  exact lv_tableOut K.1 K.2.1 d h ht (kk K r hr H locs ls hW hS hl)
theorem q_lookup {O : Option ρ} {dflt : Int} {ps : Array (Int × Int)} {len : Nat} {x : Int32} {off : Int} (tgt : Nat) (d : decode M.1 pc = .ok (.lookupswitch dflt ps, len)) (hp : (ps.toList.zip (ps.toList.drop 1)).all (fun (a, next) => a.1 < next.1) = true) (ho : Op.lookupswitch.offset ps.toList dflt x.toInt = off) (ht : (pc : Int) + off = (tgt : Int)) (kk : q_V G M X em k n tgt L st I J P O) : q_V G M X em k n pc L (.int x :: st) I J P O := by
  intro K r hr H locs ls hW hS hl
  exact lv_lookup K.1 K.2.1 d hp ho ht (kk K r hr H locs ls hW hS hl)

theorem q_iret {v : Int32} {r0 : ρ} (d : decode M.1 pc = .ok (.ireturn, 1)) (hr0 : M.2.2.2.2 = some .int) (he : em r0 = (some (.int v), (I, J, P))) (hk : k ≤ M.2.2.2.1.cells) (hn : n ≤ M.2.2.2.1.slots) : q_V G M X em k n pc L [.int v] I J P (some r0) := by
  intro K r hr H locs ls hW hS hl
  cases hr
  rw [he]
  refine W.widen hk hn ?_
  exact W.iret (v := v) (hlocks := K.2.2.2.2.2.2.2.1) K.1 K.2.1 (K.2.2.2.2.2.2.1.trans hr0) (fun t ht hw => ⟨rfl, by rw [ht]; exact hW, hS.F ht⟩) hS.2.2 d
theorem q_lret {v : Int64} {r0 : ρ} (d : decode M.1 pc = .ok (.lreturn, 1)) (hr0 : M.2.2.2.2 = some .long) (he : em r0 = (some (.long v), (I, J, P))) (hk : k ≤ M.2.2.2.1.cells) (hn : n ≤ M.2.2.2.1.slots) : q_V G M X em k n pc L [.long v] I J P (some r0) := by
  intro K r hr H locs ls hW hS hl
  cases hr
  rw [he]
  refine W.widen hk hn ?_
  exact W.lret (v := v) (hlocks := K.2.2.2.2.2.2.2.1) K.1 K.2.1 (K.2.2.2.2.2.2.1.trans hr0) (fun t ht hw => ⟨rfl, by rw [ht]; exact hW, hS.F ht⟩) hS.2.2 d
/-- an answer of a type narrower than int -/
theorem q_zret0 {p : Program} {l : Launch} {e : Env} {R : Room} {s : State} {m : MethodId} {args : Array Value} {below : List Frame} {meth : Method} {c : Code} {H : Heap} {locs : List Loc} {cells slots : Nat} {cc : ByteArray} {Qc : Array Value → State → Outcome → State → Prop} {free : Addr → Prop} {v w : Int32} {ty : FieldType} (hexec : p.tables.exec = Jvm.exec) (hb : c.code = cc) (hr : meth.sig.returnType = some ty) (hn : narrow ty (.int v) = .int w)
    (hq : ∀ t : State, t.heap = H → s.WarmedH t.vm → Qc args s (.returned (some (.int w))) t) (hf : ∀ q ∈ locs, free q.base)
    {pc : Nat} {ls : Array Slot} (hdg : decode cc pc = .ok (.ireturn, 1)) (hlocks : meth.locks = false) : W p l e R s m args below meth c H locs cells slots (MQ below Qc args s cells slots free) (F0 m pc ls [.int v]) := by
  intro T hT X
  obtain ⟨fs, hret, hrun, hended, hW, hframe⟩ := X.leave (v := some (.int w)) (fun h => by rw [hr] at h; cases h)
  have hmeth' : T.vm.method? m = some meth := X.method'
  refine ⟨T.setFrames fs, ?_, .returned (some (.int w)), hrun, hended, hq _ hT hW, locs, ⟨⟨_, rfl⟩, hW, hframe⟩, hf⟩
  jvm_step X.here [X.here.top, hexec, hb, hdg, hmeth', hr, hn]
  (try refine ⟨rfl, ?_⟩); (try refine ⟨rfl, ?_⟩)
  first | (intro acts; rw [hret _ acts rfl rfl rfl]) | rw [hret _ _ rfl rfl rfl]
  exact Steps.refl _
theorem q_zret {v w : Int32} {r0 : ρ} {ty : FieldType} (d : decode M.1 pc = .ok (.ireturn, 1)) (hr0 : M.2.2.2.2 = some ty) (hnw : narrow ty (.int v) = .int w) (he : em r0 = (some (.int w), (I, J, P))) (hk : k ≤ M.2.2.2.1.cells) (hn : n ≤ M.2.2.2.1.slots) : q_V G M X em k n pc L [.int v] I J P (some r0) := by
  intro K r hr H locs ls hW hS hl
  cases hr
  rw [he]
  refine W.widen hk hn ?_
  exact q_zret0 (w := w) K.1 K.2.1 (K.2.2.2.2.2.2.1.trans hr0) hnw (fun t ht hw => ⟨rfl, by rw [ht]; exact hW, hS.F ht⟩) hS.2.2 d K.2.2.2.2.2.2.2.1
theorem q_vret {r0 : ρ} (d : decode M.1 pc = .ok (.return_, 1)) (hr0 : M.2.2.2.2 = none) (he : em r0 = (none, (I, J, P))) (hk : k ≤ M.2.2.2.1.cells) (hn : n ≤ M.2.2.2.1.slots) : q_V G M X em k n pc L [] I J P (some r0) := by
  intro K r hr H locs ls hW hS hl
  cases hr
  rw [he]
  refine W.widen hk hn ?_
  exact W.vret (hlocks := K.2.2.2.2.2.2.2.1) K.1 K.2.1 (K.2.2.2.2.2.2.1.trans hr0) (fun t ht hw => ⟨rfl, by rw [ht]; exact hW, hS.F ht⟩) hS.2.2 d
theorem q_aret {x : Option Nat} {r0 : ρ} {C : String} (d : decode M.1 pc = .ok (.areturn, 1)) (hr0 : M.2.2.2.2 = some (.object C)) (he : em r0 = (some (q_rn G x), (I, J, P))) (hk : k ≤ M.2.2.2.1.cells) (hn : n ≤ M.2.2.2.1.slots) : q_V G M X em k n pc L [q_rn G x] I J P (some r0) := by
  intro K r hr H locs ls hW hS hl
  cases hr
  rw [he]
  refine W.widen hk hn ?_
  exact W.aret (hlocks := K.2.2.2.2.2.2.2.1) (v := q_rn G x) K.1 K.2.1 (K.2.2.2.2.2.2.1.trans hr0) (Or.inl ⟨_, rfl⟩) (by cases x; exact Or.inl rfl; exact Or.inr ⟨_, rfl⟩) (fun t ht hw => ⟨rfl, by rw [ht]; exact hW, hS.F ht⟩) hS.2.2 d
theorem q_ad_x {G : q_G} {hd : Nat → Nat} {o : Nat} {a : q_K} (h : q_kd G o = a) (h7 : a.1 ≠ 7) : q_ad G hd o = q_x G + o := by
  subst h; exact if_neg h7
theorem q_lt {G : q_G} (hi : q_in G) {o : Nat} {a : q_K} (h : q_kd G o = a) (h0 : a.1 ≠ 0) : o < q_N G := hi o (by rw [h]; exact h0)
theorem q_at {G : q_G} {hd : Nat → Nat} {I : q_I} {J : q_J} {P : q_P} {o : Nat} {a : q_K} {e : va_E} (hi : q_in G) (h : q_kd G o = a) (h0 : a.1 ≠ 0) (h7 : a.1 ≠ 7) (he : q_cell G hd o (I o) (J o) (P o) = e) : (q_wl G hd (I, J, P))[o]? = some (q_x G + o, e) := by
  rw [q_wl_get (q_lt hi h h0), q_ad_x h h7, ← he]
theorem q_geti {O : Option ρ} {idx o ci f N : Nat} {C : String} {T : u_T} {ty : Nat → FieldType} (q : Nat) (e : pc + 3 = q) (d : decode M.1 pc = .ok (.getfield idx, 3)) (hc : q_C G ci C T N ty) (hk : q_kd G o = (1, ci, N, 0, 0)) (hf : f < N) (hfd : q_fd G ci f = 0) (hw : Cond.fieldLink M.2.2.1 idx (T f).1 (T f).2.1 (T f).2.2.1 ∈ q_gw) (kk : q_V G M X em k n q L (.int (I o f) :: st) I J P O) : q_V G M X em k n pc L (q_r G o :: st) I J P O := by
  subst e
  intro K r hr H locs ls hW hS hl
  have hW0 := hW
  obtain ⟨-, hd, hP, -, -⟩ := hW0
  refine va_get (D := q_D G) (cl := q_cl G) (ci := ci) (v := .int (I o f)) (fs := (List.range N).map (q_fv G hd o ci (I o))) (C := C) (T := T) (N := N) K.1 K.2.1 K.2.2.2.2.1 hc.2.1 K.2.2.2.1 K.2.2.2.2.2.1.1 hP o (q_at K.2.2.2.2.2.2.2.2.1 hk (by simp) (by simp) (by simp only [q_cell, hk])) hc.1 f hf (K.2.2.2.2.1 _ hw) (fun _ h => h) (by simp [hf, q_fv, hfd]) d (kk K r hr H locs ls hW hS hl)
theorem q_getr {O : Option ρ} {idx o ci f N dd : Nat} {C : String} {T : u_T} {ty : Nat → FieldType} (o' : Nat) (q : Nat) (e : pc + 3 = q) (d : decode M.1 pc = .ok (.getfield idx, 3)) (hc : q_C G ci C T N ty) (hk : q_kd G o = (1, ci, N, 0, 0)) (hf : f < N) (hfd : q_fd G ci f = dd + 1) (ho : o + dd = o') (hw : Cond.fieldLink M.2.2.1 idx (T f).1 (T f).2.1 (T f).2.2.1 ∈ q_gw) (kk : q_V G M X em k n q L (q_r G o' :: st) I J P O) : q_V G M X em k n pc L (q_r G o :: st) I J P O := by
  subst e
  subst ho
  intro K r hr H locs ls hW hS hl
  have hW0 := hW
  obtain ⟨-, hd, hP, -, -⟩ := hW0
  refine va_get (D := q_D G) (cl := q_cl G) (ci := ci) (v := q_r G (o + dd)) (fs := (List.range N).map (q_fv G hd o ci (I o))) (C := C) (T := T) (N := N) K.1 K.2.1 K.2.2.2.2.1 hc.2.1 K.2.2.2.1 K.2.2.2.2.2.1.1 hP o (q_at K.2.2.2.2.2.2.2.2.1 hk (by simp) (by simp) (by simp only [q_cell, hk])) hc.1 f hf (K.2.2.2.2.1 _ hw) (fun _ h => h) (by simp [hf, q_fv, hfd]) d (kk K r hr H locs ls hW hS hl)
theorem q_sb_keep {G : q_G} {I I' : q_I} {hd : Nat → Nat} (h : q_sb G I hd) (hx : ∀ a, (q_kd G a).1 = 6 → I' a = I a) : q_sb G I' hd := by
  intro o a b c d hk
  obtain ⟨m, h1, h2⟩ := h o a b c d hk
  exact ⟨m, by rw [hx o (by rw [hk])]; exact h1, h2⟩
theorem q_puti {O : Option ρ} {idx o ci f N : Nat} {C : String} {T : u_T} {ty : Nat → FieldType} {v : Int32} (q : Nat) (e : pc + 3 = q) (d : decode M.1 pc = .ok (.putfield idx, 3)) (hc : q_C G ci C T N ty) (hk : q_kd G o = (1, ci, N, 0, 0)) (hf : f < N) (hfd : q_fd G ci f = 0) (hty : ty f = .int) (hfin : (T f).2.2.2 = false) (hw : Cond.fieldLink M.2.2.1 idx (T f).1 (T f).2.1 (T f).2.2.1 ∈ q_gw) (kk : q_V G M X em k n q L st (q_ui I o f v) J P O) : q_V G M X em k n pc L (.int v :: q_r G o :: st) I J P O := by
  subst e
  intro K r hr H locs ls hW hS hl
  obtain ⟨hpb, hd, hP, hD, hsb⟩ := hW
  have hat := q_at (hd := hd) (I := I) (J := J) (P := P) K.2.2.2.2.2.2.2.2.1 hk (by simp) (by simp) rfl
  have hat' : (q_wl G hd (I, J, P))[o]? = some (q_x G + o, .inr (ci, (List.range N).map (q_fv G hd o ci (I o)))) := by rw [hat]; simp only [q_cell, hk]
  refine va_put (D := q_D G) (cl := q_cl G) (ci := ci) (v := .int v) (ty := .int) (C := C) (T := T) (N := N) K.1 K.2.1 K.2.2.2.2.1 hc.2.1 ty hc.2.2.1 hc.2.2.2 K.2.2.2.1 K.2.2.2.2.2.1.1 hP hD hS o hat' hc.1 f hf (K.2.2.2.2.1 _ hw) (fun _ h => h) hfin (by rw [hc.2.2.1 f hf, hty]) rfl rfl (by simpa using hf) d (fun H1 locs1 hP1 hD1 hS1 => ?_)
  have e1 : (q_wl G hd (I, J, P)).set o (q_x G + o, .inr (ci, ((List.range N).map (q_fv G hd o ci (I o))).set f (.int v))) = q_wl G hd (q_ui I o f v, J, P) := by
    rw [← q_ad_x (hd := hd) hk (by simp)]
    refine q_wl_set ?_ (fun a ha => if_neg ha) (fun _ _ => rfl) (fun _ _ => rfl)
    simp only [q_cell, hk, q_ui, if_true]
    congr 2
    apply List.ext_getElem?
    intro i
    rw [List.getElem?_set]
    by_cases hi : f = i
    · subst hi
      simp [hf, q_fv, hfd, upd]
    · rw [if_neg hi]
      simp only [List.getElem?_map]
      cases hr2 : (List.range N)[i]? with
      | none => rfl
      | some j =>
        have hj : j = i := by
          have := (List.getElem?_eq_some_iff.mp hr2).2
          simpa using this.symm
        subst hj
        simp only [Option.map_some, q_fv, upd, if_neg (Ne.symm hi)]
  rw [e1] at hP1 hD1
  exact kk K r hr H1 locs1 ls ⟨hpb, hd, hP1, hD1, q_sb_keep hsb (fun a ha => if_neg (fun e => by rw [e, hk] at ha; simp at ha))⟩ hS1 hl

end QR
end
section
section QA
variable {ρ : Type} {G : q_G} {M : q_M} {X : q_X} {em : ρ → Option Value × q_S} {k n pc : Nat} {L : List (Nat × Value)} {st : List Value} {I : q_I} {J : q_J} {P : q_P}
theorem q_ix_some {i : Int32} {N : Nat} {K : Nat → Option ρ} {r : ρ} (h : q_ix i N K = some r) : vp_in i N ∧ i.toNatClampNeg < N ∧ K i.toNatClampNeg = some r := by
  unfold q_ix at h
  split at h
  · cases h
  · next hn => exact ⟨hn, Nat.not_le.mp (fun q => hn (Or.inr q)), h⟩

theorem q_iald {B : Nat → Option ρ} {o N t : Nat} {i : Int32} (q : Nat) (e : pc + 1 = q) (d : decode M.1 pc = .ok (.iaload, 1)) (hk : q_kd G o = (2, N, t, 0, 0)) (ht : (q_tl G)[t]? = some .int) (kk : ∀ j, j < N → q_V G M X em k n q L (.int (I o j) :: st) I J P (B j)) : q_V G M X em k n pc L (.int i :: q_r G o :: st) I J P (q_ix i N B) := by
  subst e
  intro K r hr H locs ls hW hS hl
  obtain ⟨hin, hlt, hr⟩ := q_ix_some hr
  have hW0 := hW
  obtain ⟨-, hd, hP, -, -⟩ := hW0
  have hat : (q_wl G hd (I, J, P))[o]? = some (q_x G + o, .inl (q_tc G t, N, .inl (I o))) := q_at K.2.2.2.2.2.2.2.2.1 hk (by simp) (by simp) (by simp only [q_cell, hk])
  exact va_iald K.1 K.2.1 K.2.2.2.2.2.1.1 hP o t hat (q_tys_at ht) hin d (kk _ hlt K r hr H locs ls hW hS hl)
theorem q_zald {B : Nat → Option ρ} {o N t : Nat} {i : Int32} (q : Nat) (e : pc + 1 = q) (d : decode M.1 pc = .ok (.baload, 1)) (hk : q_kd G o = (2, N, t, 0, 0)) (ht : (q_tl G)[t]? = some .boolean) (kk : ∀ j, j < N → q_V G M X em k n q L (.int (I o j) :: st) I J P (B j)) : q_V G M X em k n pc L (.int i :: q_r G o :: st) I J P (q_ix i N B) := by
  subst e
  intro K r hr H locs ls hW hS hl
  obtain ⟨hin, hlt, hr⟩ := q_ix_some hr
  have hW0 := hW
  obtain ⟨-, hd, hP, -, -⟩ := hW0
  have hat : (q_wl G hd (I, J, P))[o]? = some (q_x G + o, .inl (q_tc G t, N, .inl (I o))) := q_at K.2.2.2.2.2.2.2.2.1 hk (by simp) (by simp) (by simp only [q_cell, hk])
  exact va_zald K.1 K.2.1 K.2.2.2.2.2.1.1 hP o t hat (q_tys_at ht) hin d (kk _ hlt K r hr H locs ls hW hS hl)
theorem q_lald {B : Nat → Option ρ} {o N t : Nat} {i : Int32} (q : Nat) (e : pc + 1 = q) (d : decode M.1 pc = .ok (.laload, 1)) (hk : q_kd G o = (3, N, t, 0, 0)) (ht : (q_tl G)[t]? = some .long) (kk : ∀ j, j < N → q_V G M X em k n q L (.long (J o j) :: st) I J P (B j)) : q_V G M X em k n pc L (.int i :: q_r G o :: st) I J P (q_ix i N B) := by
  subst e
  intro K r hr H locs ls hW hS hl
  obtain ⟨hin, hlt, hr⟩ := q_ix_some hr
  have hW0 := hW
  obtain ⟨-, hd, hP, -, -⟩ := hW0
  have hat : (q_wl G hd (I, J, P))[o]? = some (q_x G + o, .inl (q_tc G t, N, .inr (.inl (J o)))) := q_at K.2.2.2.2.2.2.2.2.1 hk (by simp) (by simp) (by simp only [q_cell, hk])
  exact va_lald K.1 K.2.1 K.2.2.2.2.2.1.1 hP o t hat (q_tys_at ht) hin d (kk _ hlt K r hr H locs ls hW hS hl)
theorem q_iast {B : Nat → Option ρ} {o N t : Nat} {i : Int32} {x : Int32} (q : Nat) (e : pc + 1 = q) (d : decode M.1 pc = .ok (.iastore, 1)) (hk : q_kd G o = (2, N, t, 0, 0)) (ht : (q_tl G)[t]? = some .int) (kk : ∀ j, j < N → q_V G M X em k n q L st (q_ui I o j x) J P (B j)) : q_V G M X em k n pc L (.int x :: .int i :: q_r G o :: st) I J P (q_ix i N B) := by
  subst e
  intro K r hr H locs ls hW hS hl
  obtain ⟨hin, hlt, hr⟩ := q_ix_some hr
  obtain ⟨hpb, hd, hP, hD, hsb⟩ := hW
  have hat : (q_wl G hd (I, J, P))[o]? = some (q_x G + o, .inl (q_tc G t, N, .inl (I o))) := q_at K.2.2.2.2.2.2.2.2.1 hk (by simp) (by simp) (by simp only [q_cell, hk])
  refine va_iast K.1 K.2.1 K.2.2.2.2.2.1.1 hP hD hS o t hat (q_tys_at ht) hin d (fun H1 locs1 hP1 hD1 hS1 => ?_)
  have e1 : (q_wl G hd (I, J, P)).set o (q_x G + o, .inl (q_tc G t, N, .inl (upd (I o) i.toNatClampNeg x))) = q_wl G hd (q_ui I o i.toNatClampNeg x, J, P) := by
    rw [← q_ad_x (hd := hd) hk (by simp)]
    refine q_wl_set ?_ (fun a ha => if_neg ha) (fun _ _ => rfl) (fun _ _ => rfl)
    simp only [q_cell, hk, q_ui, if_true]
  rw [e1] at hP1 hD1
  exact kk _ hlt K r hr H1 locs1 ls ⟨hpb, hd, hP1, hD1, q_sb_keep hsb (fun a ha => if_neg (fun e => by rw [e, hk] at ha; simp at ha))⟩ hS1 hl
theorem q_zast {B : Nat → Option ρ} {o N t : Nat} {i : Int32} {x : Int32} (q : Nat) (e : pc + 1 = q) (d : decode M.1 pc = .ok (.bastore, 1)) (hk : q_kd G o = (2, N, t, 0, 0)) (ht : (q_tl G)[t]? = some .boolean) (kk : ∀ j, j < N → q_V G M X em k n q L st (q_ui I o j (vp_nar .boolean x)) J P (B j)) : q_V G M X em k n pc L (.int x :: .int i :: q_r G o :: st) I J P (q_ix i N B) := by
  subst e
  intro K r hr H locs ls hW hS hl
  obtain ⟨hin, hlt, hr⟩ := q_ix_some hr
  obtain ⟨hpb, hd, hP, hD, hsb⟩ := hW
  have hat : (q_wl G hd (I, J, P))[o]? = some (q_x G + o, .inl (q_tc G t, N, .inl (I o))) := q_at K.2.2.2.2.2.2.2.2.1 hk (by simp) (by simp) (by simp only [q_cell, hk])
  refine va_zast K.1 K.2.1 K.2.2.2.2.2.1.1 hP hD hS o t hat (q_tys_at ht) hin d (fun H1 locs1 hP1 hD1 hS1 => ?_)
  have e1 : (q_wl G hd (I, J, P)).set o (q_x G + o, .inl (q_tc G t, N, .inl (upd (I o) i.toNatClampNeg (vp_nar .boolean x)))) = q_wl G hd (q_ui I o i.toNatClampNeg (vp_nar .boolean x), J, P) := by
    rw [← q_ad_x (hd := hd) hk (by simp)]
    refine q_wl_set ?_ (fun a ha => if_neg ha) (fun _ _ => rfl) (fun _ _ => rfl)
    simp only [q_cell, hk, q_ui, if_true]
  rw [e1] at hP1 hD1
  exact kk _ hlt K r hr H1 locs1 ls ⟨hpb, hd, hP1, hD1, q_sb_keep hsb (fun a ha => if_neg (fun e => by rw [e, hk] at ha; simp at ha))⟩ hS1 hl
theorem q_last {B : Nat → Option ρ} {o N t : Nat} {i : Int32} {x : Int64} (q : Nat) (e : pc + 1 = q) (d : decode M.1 pc = .ok (.lastore, 1)) (hk : q_kd G o = (3, N, t, 0, 0)) (ht : (q_tl G)[t]? = some .long) (kk : ∀ j, j < N → q_V G M X em k n q L st I (q_uj J o j x) P (B j)) : q_V G M X em k n pc L (.long x :: .int i :: q_r G o :: st) I J P (q_ix i N B) := by
  subst e
  intro K r hr H locs ls hW hS hl
  obtain ⟨hin, hlt, hr⟩ := q_ix_some hr
  obtain ⟨hpb, hd, hP, hD, hsb⟩ := hW
  have hat : (q_wl G hd (I, J, P))[o]? = some (q_x G + o, .inl (q_tc G t, N, .inr (.inl (J o)))) := q_at K.2.2.2.2.2.2.2.2.1 hk (by simp) (by simp) (by simp only [q_cell, hk])
  refine va_last K.1 K.2.1 K.2.2.2.2.2.1.1 hP hD hS o t hat (q_tys_at ht) hin d (fun H1 locs1 hP1 hD1 hS1 => ?_)
  have e1 : (q_wl G hd (I, J, P)).set o (q_x G + o, .inl (q_tc G t, N, .inr (.inl (vp_updL (J o) i.toNatClampNeg x)))) = q_wl G hd (I, q_uj J o i.toNatClampNeg x, P) := by
    rw [← q_ad_x (hd := hd) hk (by simp)]
    refine q_wl_set ?_ (fun _ _ => rfl) (fun a ha => if_neg ha) (fun _ _ => rfl)
    simp only [q_cell, hk, q_uj, if_true]
  rw [e1] at hP1 hD1
  exact kk _ hlt K r hr H1 locs1 ls ⟨hpb, hd, hP1, hD1, hsb⟩ hS1 hl
theorem q_aldc {B : Nat → Option ρ} {o N t c s : Nat} {i : Int32} {C : String} (q : Nat) (e : pc + 1 = q) (d : decode M.1 pc = .ok (.aaload, 1)) (hk : q_kd G o = (4, N, t, c, s)) (ht : (q_tl G)[t]? = some (.object C)) (kk : ∀ j, j < N → q_V G M X em k n q L (q_r G (c + s * j) :: st) I J P (B j)) : q_V G M X em k n pc L (.int i :: q_r G o :: st) I J P (q_ix i N B) := by
  subst e
  intro K r hr H locs ls hW hS hl
  obtain ⟨hin, hlt, hr⟩ := q_ix_some hr
  have hW0 := hW
  obtain ⟨-, hd, hP, -, -⟩ := hW0
  have hat : (q_wl G hd (I, J, P))[o]? = some (q_x G + o, .inl (q_tc G t, N, .inr (.inr (.inr (.inr (fun i => some (q_x G + (c + s * i)))))))) := q_at K.2.2.2.2.2.2.2.2.1 hk (by simp) (by simp) (by simp only [q_cell, hk])
  exact va_aldq K.1 K.2.1 K.2.2.2.2.2.1.1 hP o t hat (q_tys_at ht) hin d (kk _ hlt K r hr H locs ls hW hS hl)
theorem q_aldp {B : Nat → Option ρ} {o N t c : Nat} {i : Int32} {C : String} (q : Nat) (e : pc + 1 = q) (d : decode M.1 pc = .ok (.aaload, 1)) (hk : q_kd G o = (5, N, t, c, 0)) (ht : (q_tl G)[t]? = some (.object C)) (kk : ∀ j, j < N → P o j < N → q_V G M X em k n q L (q_r G (c + P o j) :: st) I J P (B j)) : q_V G M X em k n pc L (.int i :: q_r G o :: st) I J P (q_ix i N B) := by
  subst e
  intro K r hr H locs ls hW hS hl
  obtain ⟨hin, hlt, hr⟩ := q_ix_some hr
  have hW0 := hW
  obtain ⟨hpb, hd, hP, -, -⟩ := hW0
  have hat : (q_wl G hd (I, J, P))[o]? = some (q_x G + o, .inl (q_tc G t, N, .inr (.inr (.inr (.inr (fun i => some (q_x G + (c + P o i)))))))) := q_at K.2.2.2.2.2.2.2.2.1 hk (by simp) (by simp) (by simp only [q_cell, hk])
  exact va_aldq K.1 K.2.1 K.2.2.2.2.2.1.1 hP o t hat (q_tys_at ht) hin d (kk _ hlt (hpb o N t c 0 hk _ hlt) K r hr H locs ls hW hS hl)
theorem q_astp {B : Nat → Option ρ} {o N t c ci NN v : Nat} {i : Int32} {C : String} {T : u_T} {ty : Nat → FieldType} (q : Nat) (e : pc + 1 = q) (d : decode M.1 pc = .ok (.aastore, 1)) (hk : q_kd G o = (5, N, t, c, 0)) (ht : (q_tl G)[t]? = some (.object C)) (hc : q_C G ci C T NN ty) (hv : v < N) (hkv : q_kd G (c + v) = (1, ci, NN, 0, 0)) (kk : ∀ j, j < N → q_V G M X em k n q L st I J (q_up P o j v) (B j)) : q_V G M X em k n pc L (q_r G (c + v) :: .int i :: q_r G o :: st) I J P (q_ix i N B) := by
  subst e
  intro K r hr H locs ls hW hS hl
  obtain ⟨hin, hlt, hr⟩ := q_ix_some hr
  obtain ⟨hpb, hd, hP, hD, hsb⟩ := hW
  have hat : (q_wl G hd (I, J, P))[o]? = some (q_x G + o, .inl (q_tc G t, N, .inr (.inr (.inr (.inr (fun i => some (q_x G + (c + P o i)))))))) := q_at K.2.2.2.2.2.2.2.2.1 hk (by simp) (by simp) (by simp only [q_cell, hk])
  have hatv : (q_wl G hd (I, J, P))[c + v]? = some (q_x G + (c + v), .inr (ci, (List.range NN).map (q_fv G hd (c + v) ci (I (c + v))))) := q_at K.2.2.2.2.2.2.2.2.1 hkv (by simp) (by simp) (by simp only [q_cell, hkv])
  refine va_astq K.1 K.2.1 K.2.2.2.2.2.1.1 hP hD hS o t (c + v) ci hat (q_tys_at ht) hatv hc.1 hin d (fun H1 locs1 hP1 hD1 hS1 => ?_)
  have e1 : (q_wl G hd (I, J, P)).set o (q_x G + o, .inl (q_tc G t, N, .inr (.inr (.inr (.inr (va_up (fun i => some (q_x G + (c + P o i))) i.toNatClampNeg (some (q_x G + (c + v)))))))) ) = q_wl G hd (I, J, q_up P o i.toNatClampNeg v) := by
    rw [← q_ad_x (hd := hd) hk (by simp)]
    refine q_wl_set ?_ (fun _ _ => rfl) (fun _ _ => rfl) (fun a ha => if_neg ha)
    simp only [q_cell, hk, q_up, if_true]
    congr 7
    funext z
    simp only [va_up]
    split <;> rfl
  rw [e1] at hP1 hD1
  refine kk _ hlt K r hr H1 locs1 ls ⟨?_, hd, hP1, hD1, hsb⟩ hS1 hl
  intro o2 n2 t2 c2 d2 hk2 i2 hi2
  show q_up P o i.toNatClampNeg v o2 i2 < n2
  unfold q_up
  split
  · next he =>
    subst he
    rw [hk] at hk2
    cases hk2
    unfold va_up
    split
    · exact hv
    · exact hpb _ _ _ _ _ hk _ hi2
  · exact hpb _ _ _ _ _ hk2 _ hi2
theorem q_alen {O : Option ρ} {o N t tag c s : Nat} (v : Int32) {ty : FieldType} (q : Nat) (e : pc + 1 = q) (d : decode M.1 pc = .ok (.arraylength, 1)) (hk : q_kd G o = (tag, N, t, c, s)) (htag : tag = 2 ∨ tag = 3 ∨ tag = 4 ∨ tag = 5) (ht : (q_tl G)[t]? = some ty) (hv : Int32.ofNat N = v) (kk : q_V G M X em k n q L (.int v :: st) I J P O) : q_V G M X em k n pc L (q_r G o :: st) I J P O := by
  subst e
  intro K r hr H locs ls hW hS hl
  have hW0 := hW
  obtain ⟨-, hd, hP, -, -⟩ := hW0
  rcases htag with rfl | rfl | rfl | rfl
  · exact va_alen (x := (N, .inl (I o))) K.1 K.2.1 K.2.2.2.2.2.1.1 hP o t (q_at K.2.2.2.2.2.2.2.2.1 hk (by simp) (by simp) (by simp only [q_cell, hk])) (q_tys_at ht) hv d (kk K r hr H locs ls hW hS hl)
  · exact va_alen (x := (N, .inr (.inl (J o)))) K.1 K.2.1 K.2.2.2.2.2.1.1 hP o t (q_at K.2.2.2.2.2.2.2.2.1 hk (by simp) (by simp) (by simp only [q_cell, hk])) (q_tys_at ht) hv d (kk K r hr H locs ls hW hS hl)
  · exact va_alen (x := (N, .inr (.inr (.inr (.inr (fun i => some (q_x G + (c + s * i)))))))) K.1 K.2.1 K.2.2.2.2.2.1.1 hP o t (q_at K.2.2.2.2.2.2.2.2.1 hk (by simp) (by simp) (by simp only [q_cell, hk])) (q_tys_at ht) hv d (kk K r hr H locs ls hW hS hl)
  · exact va_alen (x := (N, .inr (.inr (.inr (.inr (fun i => some (q_x G + (c + P o i)))))))) K.1 K.2.1 K.2.2.2.2.2.1.1 hP o t (q_at K.2.2.2.2.2.2.2.2.1 hk (by simp) (by simp) (by simp only [q_cell, hk])) (q_tys_at ht) hv d (kk K r hr H locs ls hW hS hl)
/-- System.arraycopy over ints: whole rows from their first place on -/
theorem q_acopy {O : Option ρ} {idx o a N N2 t : Nat} {w : Int32} {W9 : Nat} (q : Nat) (e : pc + 3 = q) (d : decode M.1 pc = .ok (.invokestatic idx, 3)) (hk : q_kd G o = (2, N, t, 0, 0)) (hk2 : q_kd G a = (2, N2, t, 0, 0)) (ht : (q_tl G)[t]? = some .int) (hml : Cond.methodLink M.2.2.1 idx arraycopyName ∈ q_gw) (hn1 : Cond.native arraycopyName ∈ q_gw) (hn2 : Cond.static arraycopyName ∈ q_gw) (hn3 : Cond.initialized "java/lang/System" ∈ q_gw) (hw0 : ¬ w < 0) (h1 : w.toNatClampNeg ≤ N) (h2 : w.toNatClampNeg ≤ N2) (hf : 1 ≤ M.2.2.2.1.frames) (hst : (st.map fun v => v.category).sum ≤ W9) (hlo : W9 + (nativeFrameWords "java/lang/System" "arraycopy" 5 + 11) ≤ M.2.2.2.1.locals) (kk : q_V G M X em k n q L st (q_uI I a (va_cpy (I o) (I a) 0 0 w.toNatClampNeg)) J P O) : q_V G M X em k n pc L (.int w :: .int 0 :: q_r G a :: .int 0 :: q_r G o :: st) I J P O := by
  subst e
  intro K r hr H locs ls hW hS hl
  obtain ⟨hpb, hd, hP, hD, hsb⟩ := hW
  have hat : (q_wl G hd (I, J, P))[o]? = some (q_x G + o, .inl (q_tc G t, N, .inl (I o))) := q_at K.2.2.2.2.2.2.2.2.1 hk (by simp) (by simp) (by simp only [q_cell, hk])
  have hat2 : (q_wl G hd (I, J, P))[a]? = some (q_x G + a, .inl (q_tc G t, N2, .inl (I a))) := q_at K.2.2.2.2.2.2.2.2.1 hk2 (by simp) (by simp) (by simp only [q_cell, hk2])
  have z : (0 : Int32).toNatClampNeg = 0 := rfl
  refine va_copyi K.1 K.2.1 (by rw [K.2.2.1]; exact hl.1.symm) K.2.2.2.1 (K.2.2.2.2.1 _ hml) (K.2.2.2.2.1 _ hn1) (K.2.2.2.2.1 _ hn2) (K.2.2.2.2.1 _ hn3) K.2.2.2.2.2.1.1 hP hD hS o a t t hat hat2 (q_tys_at ht) (q_tys_at ht) rfl (by decide) (by decide) hw0 (by rw [z]; omega) (by rw [z]; omega) (fun _ _ => rfl) hf (Nat.le_trans (Nat.add_le_add_right hst _) hlo) d (fun H1 locs1 hP1 hD1 hS1 => ?_)
  rw [z] at hP1 hD1
  have e1 : (q_wl G hd (I, J, P)).set a (q_x G + a, .inl (q_tc G t, N2, .inl (va_cpy (I o) (I a) 0 0 w.toNatClampNeg))) = q_wl G hd (q_uI I a (va_cpy (I o) (I a) 0 0 w.toNatClampNeg), J, P) := by
    rw [← q_ad_x (hd := hd) hk2 (by simp)]
    refine q_wl_set ?_ (fun b hb => if_neg hb) (fun _ _ => rfl) (fun _ _ => rfl)
    simp only [q_cell, hk2, q_uI, if_true]
  rw [e1] at hP1 hD1
  exact kk K r hr H1 locs1 ls ⟨hpb, hd, hP1, hD1, q_sb_keep hsb (fun b hb => if_neg (fun e => by rw [e, hk2] at hb; simp at hb))⟩ hS1 hl
end QA
/-! calls -/
/-- a method that can be called: its code, its class, its parameters -/
def q_Y (y : MethodName) (M : q_M) (np : Nat) : Prop := y.cls = M.2.2.1 ∧ (y.cls ≠ "java/lang/invoke/MethodHandle" ∧ y.cls ≠ "java/lang/invoke/VarHandle") ∧ (parseMethodDescriptor y.desc).map (fun d => d.parameters.length) = some np ∧ Cond.code y M.1 M.2.1 M.2.2.2.2 ∈ q_gw ∧ Cond.initialized y.cls ∈ q_gw
theorem q_goodIn {y : MethodName} {M : q_M} {np : Nat} (h : q_Y y M np) : GoodIn q_gw (q_wsM y M) := by
  intro w hw
  rcases List.mem_cons.mp hw with rfl | hw
  · exact ⟨h.2.2.2.1, q_gw_good _ h.2.2.2.1⟩
  · exact ⟨hw, q_gw_good _ hw⟩
section QC
variable {p : Program} {l : Launch} {e : Env} {R : Room} {s : State} {m : MethodId} {args : Array Value} {below : List Frame} {meth : Method} {c : Code} {H : Heap} {locs : List Loc} {cells slots : Nat} {Q : State → Prop}
theorem q_cb {own : String} {idx np : Nat} {y : MethodName} {M' : q_M} (hY : q_Y y M' np) (hts : ∀ w ∈ q_gw, w.before args s = true) (hl : (Cond.methodLink own idx y) ∈ q_gw) (hR : M'.2.2.2.1.frames + 1 ≤ R.frames ∧ 8 + (M'.2.1 + 11) + M'.2.2.2.1.locals ≤ R.locals) : CallB R s args own idx y M'.1 M'.2.1 M'.2.2.2.2 (q_wsM y M') M'.2.2.2.1 M'.2.2.2.1.cells M'.2.2.2.1.slots np :=
  callB_of np hts (q_goodIn hY) rfl rfl rfl (hts _ hY.2.2.2.2) (hts _ hl) ⟨hY.2.1.1, hY.2.1.2, hY.2.2.1⟩ hR
theorem q_cn {own host : String} {idx np : Nat} {y : MethodName} {M' : q_M} (hY : q_Y y M' np) (hts : ∀ w ∈ q_gw, w.before args s = true) (hl : va_Nw (Cond.methodLinkNest own idx y host) s) (hR : M'.2.2.2.1.frames + 1 ≤ R.frames ∧ 8 + (M'.2.1 + 11) + M'.2.2.2.1.locals ≤ R.locals) : va_CN R s args own idx y host M'.1 M'.2.1 M'.2.2.2.2 (q_wsM y M') M'.2.2.2.1 M'.2.2.2.1.cells M'.2.2.2.1.slots np :=
  va_cnB np hts (q_goodIn hY) rfl rfl rfl hl (hts _ hY.2.2.2.2) ⟨hY.2.1.1, hY.2.1.2, hY.2.2.1⟩ hR
theorem q_run {G : q_G} {z : Option Value × q_S} {a : Array Value} {pc : Nat} {ls : Array Slot} {st0 rest : List Value} {mc ms : Nat} (hr : va_Run p l e R s m args below meth c H locs cells slots mc ms (F0 m pc ls st0) rest (q_Q G z a) (q_A G)) (hS : va_S (q_A G) s.heap H locs)
    (kk : ∀ (H1 : Heap) (locs1 : List Loc), q_W G z.2 H1 → va_S (q_A G) s.heap H1 locs1 → W p l e R s m args below meth c H1 locs1 (cells + mc) (slots + ms) Q (F0 m (pc + 3) ls (z.1.toList ++ rest))) : W p l e R s m args below meth c H locs cells slots Q (F0 m pc ls st0) := by
  intro T hT X
  obtain ⟨v, st₀, t, T', Lc, h0, X', hL, e1, e2, ⟨hv, hw, hz, hk⟩, st⟩ := hr T hT X
  cases hv
  rw [h0] at hz hk
  obtain ⟨t2, a1, b1⟩ := kk T'.heap (locs ++ Lc) (by rw [e1]; exact hw) ⟨Nat.le_trans hS.1 (by rw [e1]; exact hz), fun q h1 h2 => by rw [e1, hk q (Nat.lt_of_lt_of_le h1 hS.1) h2]; exact hS.2.1 q h1 h2, fun q hq => by
      rcases List.mem_append.mp hq with h | h
      · exact hS.2.2 q h
      · exact hL q h⟩ T' rfl X'
  exact ⟨t2, st t2 a1, b1⟩
theorem q_pre {G : q_G} {l : Launch} {av : List Value} {S : q_S} (hK : q_KK G s) (hy : q_y G ≤ s.heap.size) (hS : va_S (q_A G) s.heap H locs) (hW : q_W G S H) : PreS s H (va_Pc av (fun U => q_W G S U.heap ∧ q_KK G U ∧ q_y G ≤ U.heap.size)) av :=
  ⟨fun a U g mk q => ⟨q.1, q.2.1, ⟨va_K.moved (u := U) (U := U.calling g mk a) (Vm.Alike.refl U.vm) q.2.2.1.1, fun a i y h hm => va_Nw.same (u := U) rfl rfl (q.2.2.1.2 a i y h hm)⟩, q.2.2.2⟩, fun U hU hw => ⟨rfl, by rw [hU]; exact hW, hK.moved hw, by rw [hU]; exact Nat.le_trans hy hS.1⟩⟩
end QC
section QD
variable {ρ ρ' : Type} {G : q_G} {M M' : q_M} {X : q_X} {em : ρ → Option Value × q_S} {em' : ρ' → Option Value × q_S} {k n pc : Nat} {L : List (Nat × Value)} {st : List Value} {I : q_I} {J : q_J} {P : q_P} {y : MethodName} {np idx : Nat} {g : Option ρ'} {B : ρ' → Option ρ}
theorem q_b1_some {α : Type} {o : Option α} {K : α → Option ρ} {r : ρ} (h : q_b1 o K = some r) : ∃ a, o = some a ∧ K a = some r := by
  cases o with
  | none => cases h
  | some a => exact ⟨a, rfl, h⟩
/-- a static method of the own class, or one that its link names -/
theorem q_callS {av : List Value} (C : q_Ct X.1 G y M' av (I, J, P) g em') (hY : q_Y y M' np) (hl : Cond.methodLink M.2.2.1 idx y ∈ q_gw) (hs : Cond.static y ∈ q_gw) (hn : av.length = np) (hst : (st.map fun v => v.category).sum ≤ 8) (d : decode M.1 pc = .ok (.invokestatic idx, 3)) (hR : M'.2.2.2.1.frames + 1 ≤ M.2.2.2.1.frames ∧ 8 + (M'.2.1 + 11) + M'.2.2.2.1.locals ≤ M.2.2.2.1.locals) (hf : k + M'.2.2.2.1.cells ≤ M.2.2.2.1.cells ∧ n + M'.2.2.2.1.slots ≤ M.2.2.2.1.slots)
    (kk : ∀ x, q_V G M X em (k + M'.2.2.2.1.cells) (n + M'.2.2.2.1.slots) (pc + 3) L ((em' x).1.toList ++ st) (em' x).2.1 (em' x).2.2.1 (em' x).2.2.2 (B x)) : q_V G M X em k n pc L (av.reverse ++ st) I J P (q_b1 g B) := by
  intro K r hr H locs ls hW hS hl0
  obtain ⟨x, hx, hr⟩ := q_b1_some hr
  exact q_run (va_runS (As := av) (rest := st) ⟨K.1, K.2.1, K.2.2.1, K.2.2.2.1, K.2.2.2.2.1⟩ (C x hx) ⟨q_cb hY K.2.2.2.2.1 hl hR, K.2.2.2.2.1 _ hs⟩ (q_pre (l := X.1) K.2.2.2.2.2.1 K.2.2.2.2.2.2.2.2.2 hS hW) rfl hn hl0.1 rfl (lv_room hst) d hf) hS (fun H1 locs1 hw h1 => kk x K r hr H1 locs1 ls hw h1 hl0)
/-- a static method of a nest mate -/
theorem q_callN {av : List Value} {host : String} (C : q_Ct X.1 G y M' av (I, J, P) g em') (hY : q_Y y M' np) (hl : Cond.methodLinkNest M.2.2.1 idx y host ∈ lw_tbl) (hs : Cond.static y ∈ q_gw) (hn : av.length = np) (hst : (st.map fun v => v.category).sum ≤ 8) (d : decode M.1 pc = .ok (.invokestatic idx, 3)) (hR : M'.2.2.2.1.frames + 1 ≤ M.2.2.2.1.frames ∧ 8 + (M'.2.1 + 11) + M'.2.2.2.1.locals ≤ M.2.2.2.1.locals) (hf : k + M'.2.2.2.1.cells ≤ M.2.2.2.1.cells ∧ n + M'.2.2.2.1.slots ≤ M.2.2.2.1.slots)
    (kk : ∀ x, q_V G M X em (k + M'.2.2.2.1.cells) (n + M'.2.2.2.1.slots) (pc + 3) L ((em' x).1.toList ++ st) (em' x).2.1 (em' x).2.2.1 (em' x).2.2.2 (B x)) : q_V G M X em k n pc L (av.reverse ++ st) I J P (q_b1 g B) := by
  intro K r hr H locs ls hW hS hl0
  obtain ⟨x, hx, hr⟩ := q_b1_some hr
  exact q_run (va_runSN (As := av) (rest := st) (Ts := q_gw) ⟨K.1, K.2.1, K.2.2.1, K.2.2.2.1, K.2.2.2.2.1⟩ (C x hx) ⟨q_cn hY K.2.2.2.2.1 (K.2.2.2.2.2.1.2 _ _ _ _ hl) hR, K.2.2.2.2.1 _ hs, trivial⟩ (q_pre (l := X.1) K.2.2.2.2.2.1 K.2.2.2.2.2.2.2.2.2 hS hW) rfl hn hl0.1 rfl (lv_room hst) d hf) hS (fun H1 locs1 hw h1 => kk x K r hr H1 locs1 ls hw h1 hl0)
/-- a method of an object of the world -/
theorem q_callV {av : List Value} {o ci N : Nat} {C : String} {T : u_T} {ty : Nat → FieldType} (Ct : q_Ct X.1 G y M' (q_r G o :: av) (I, J, P) g em') (hY : q_Y y M' np) (hl : Cond.methodLink M.2.2.1 idx y ∈ q_gw) (hi : Cond.instanceMethod y ∈ q_gw) (hsel : Cond.selects C y y ∈ q_gw) (hc : q_C G ci C T N ty) (hk : q_kd G o = (1, ci, N, 0, 0)) (hn : av.length = np) (hst : (st.map fun v => v.category).sum ≤ 8) (d : decode M.1 pc = .ok (.invokevirtual idx, 3)) (hR : M'.2.2.2.1.frames + 1 ≤ M.2.2.2.1.frames ∧ 8 + (M'.2.1 + 11) + M'.2.2.2.1.locals ≤ M.2.2.2.1.locals) (hf : k + M'.2.2.2.1.cells ≤ M.2.2.2.1.cells ∧ n + M'.2.2.2.1.slots ≤ M.2.2.2.1.slots)
    (kk : ∀ x, q_V G M X em (k + M'.2.2.2.1.cells) (n + M'.2.2.2.1.slots) (pc + 3) L ((em' x).1.toList ++ st) (em' x).2.1 (em' x).2.2.1 (em' x).2.2.2 (B x)) : q_V G M X em k n pc L (av.reverse ++ q_r G o :: st) I J P (q_b1 g B) := by
  intro K r hr H locs ls hW hS hl0
  obtain ⟨x, hx, hr⟩ := q_b1_some hr
  have hW0 := hW
  obtain ⟨-, hd, hP, -, -⟩ := hW0
  have hat : (q_wl G hd (I, J, P))[o]? = some (q_x G + o, .inr (ci, (List.range N).map (q_fv G hd o ci (I o)))) := q_at K.2.2.2.2.2.2.2.2.1 hk (by simp) (by simp) (by simp only [q_cell, hk])
  have hp := q_pre (l := X.1) (av := q_r G o :: av) K.2.2.2.2.2.1 K.2.2.2.2.2.2.2.2.2 hS hW
  exact q_run (va_runV (As := av) (rest := st) ⟨K.1, K.2.1, K.2.2.1, K.2.2.2.1, K.2.2.2.2.1⟩ (Ct x hx) ⟨q_cb hY K.2.2.2.2.1 hl hR, K.2.2.2.2.1 _ hi, K.2.2.2.2.1 _ hsel⟩ ⟨hp.1, va_recv K.2.2.2.2.2.1.1 hP hc.1 hat, hp.2⟩ rfl hn hl0.1 rfl (lv_room hst) d hf) hS (fun H1 locs1 hw h1 => kk x K r hr H1 locs1 ls hw h1 hl0)
end QD
end
section
/-! the two worlds -/
def cKl : List q_K := [(1, 8, 9, 0, 0), (1, 7, 7, 0, 0), (1, 5, 8, 0, 0), (2, 4, 0, 0, 0), (2, 4, 0, 0, 0), (2, 4, 0, 0, 0), (2, 6, 0, 0, 0), (2, 6, 0, 0, 0), (2, 4, 0, 0, 0), (2, 4, 0, 0, 0), (1, 0, 2, 0, 0), (5, 12, 3, 12, 0), (1, 3, 7, 0, 0), (1, 3, 7, 0, 0), (1, 3, 7, 0, 0), (1, 3, 7, 0, 0), (1, 3, 7, 0, 0), (1, 3, 7, 0, 0), (1, 3, 7, 0, 0), (1, 3, 7, 0, 0), (1, 3, 7, 0, 0), (1, 3, 7, 0, 0), (1, 3, 7, 0, 0), (1, 3, 7, 0, 0), (4, 12, 4, 27, 2), (2, 3, 0, 0, 0), (2, 3, 0, 0, 0), (1, 2, 9, 0, 0), (1, 3, 7, 0, 0), (1, 2, 9, 0, 0), (1, 3, 7, 0, 0), (1, 2, 9, 0, 0), (1, 3, 7, 0, 0), (1, 2, 9, 0, 0), (1, 3, 7, 0, 0), (1, 2, 9, 0, 0), (1, 3, 7, 0, 0), (1, 2, 9, 0, 0), (1, 3, 7, 0, 0), (1, 2, 9, 0, 0), (1, 3, 7, 0, 0), (1, 2, 9, 0, 0), (1, 3, 7, 0, 0), (1, 2, 9, 0, 0), (1, 3, 7, 0, 0), (1, 2, 9, 0, 0), (1, 3, 7, 0, 0), (1, 2, 9, 0, 0), (1, 3, 7, 0, 0), (1, 2, 9, 0, 0), (1, 3, 7, 0, 0), (4, 2, 5, 119, 50), (2, 2, 1, 0, 0), (1, 4, 5, 0, 0), (1, 0, 2, 0, 0), (5, 24, 3, 56, 0), (1, 3, 7, 0, 0), (1, 3, 7, 0, 0), (1, 3, 7, 0, 0), (1, 3, 7, 0, 0), (1, 3, 7, 0, 0), (1, 3, 7, 0, 0), (1, 3, 7, 0, 0), (1, 3, 7, 0, 0), (1, 3, 7, 0, 0), (1, 3, 7, 0, 0), (1, 3, 7, 0, 0), (1, 3, 7, 0, 0), (1, 3, 7, 0, 0), (1, 3, 7, 0, 0), (1, 3, 7, 0, 0), (1, 3, 7, 0, 0), (1, 3, 7, 0, 0), (1, 3, 7, 0, 0), (1, 3, 7, 0, 0), (1, 3, 7, 0, 0), (1, 3, 7, 0, 0), (1, 3, 7, 0, 0), (1, 3, 7, 0, 0), (1, 3, 7, 0, 0), (1, 6, 2, 0, 0), (3, 10, 2, 0, 0), (3, 10, 2, 0, 0), (1, 0, 2, 0, 0), (5, 24, 3, 85, 0), (1, 3, 7, 0, 0), (1, 3, 7, 0, 0), (1, 3, 7, 0, 0), (1, 3, 7, 0, 0), (1, 3, 7, 0, 0), (1, 3, 7, 0, 0), (1, 3, 7, 0, 0), (1, 3, 7, 0, 0), (1, 3, 7, 0, 0), (1, 3, 7, 0, 0), (1, 3, 7, 0, 0), (1, 3, 7, 0, 0), (1, 3, 7, 0, 0), (1, 3, 7, 0, 0), (1, 3, 7, 0, 0), (1, 3, 7, 0, 0), (1, 3, 7, 0, 0), (1, 3, 7, 0, 0), (1, 3, 7, 0, 0), (1, 3, 7, 0, 0), (1, 3, 7, 0, 0), (1, 3, 7, 0, 0), (1, 3, 7, 0, 0), (1, 3, 7, 0, 0), (1, 6, 2, 0, 0), (3, 10, 2, 0, 0), (3, 10, 2, 0, 0), (1, 3, 7, 0, 0), (1, 1, 5, 0, 0), (6, 9, 4, 0, 0), (7, 114, 6, 0, 0), (1, 3, 7, 0, 0), (6, 9, 4, 0, 0), (7, 117, 6, 0, 0), (1, 7, 7, 0, 0), (1, 5, 8, 0, 0), (2, 4, 0, 0, 0), (2, 4, 0, 0, 0), (2, 4, 0, 0, 0), (2, 6, 0, 0, 0), (2, 6, 0, 0, 0), (2, 4, 0, 0, 0), (2, 4, 0, 0, 0), (1, 0, 2, 0, 0), (5, 12, 3, 130, 0), (1, 3, 7, 0, 0), (1, 3, 7, 0, 0), (1, 3, 7, 0, 0), (1, 3, 7, 0, 0), (1, 3, 7, 0, 0), (1, 3, 7, 0, 0), (1, 3, 7, 0, 0), (1, 3, 7, 0, 0), (1, 3, 7, 0, 0), (1, 3, 7, 0, 0), (1, 3, 7, 0, 0), (1, 3, 7, 0, 0), (4, 12, 4, 145, 2), (2, 3, 0, 0, 0), (2, 3, 0, 0, 0), (1, 2, 9, 0, 0), (1, 3, 7, 0, 0), (1, 2, 9, 0, 0), (1, 3, 7, 0, 0), (1, 2, 9, 0, 0), (1, 3, 7, 0, 0), (1, 2, 9, 0, 0), (1, 3, 7, 0, 0), (1, 2, 9, 0, 0), (1, 3, 7, 0, 0), (1, 2, 9, 0, 0), (1, 3, 7, 0, 0), (1, 2, 9, 0, 0), (1, 3, 7, 0, 0), (1, 2, 9, 0, 0), (1, 3, 7, 0, 0), (1, 2, 9, 0, 0), (1, 3, 7, 0, 0), (1, 2, 9, 0, 0), (1, 3, 7, 0, 0), (1, 2, 9, 0, 0), (1, 3, 7, 0, 0), (1, 2, 9, 0, 0), (1, 3, 7, 0, 0), (1, 7, 7, 0, 0), (1, 5, 8, 0, 0), (2, 4, 0, 0, 0), (2, 4, 0, 0, 0), (2, 4, 0, 0, 0), (2, 6, 0, 0, 0), (2, 6, 0, 0, 0), (2, 4, 0, 0, 0), (2, 4, 0, 0, 0), (1, 0, 2, 0, 0), (5, 12, 3, 180, 0), (1, 3, 7, 0, 0), (1, 3, 7, 0, 0), (1, 3, 7, 0, 0), (1, 3, 7, 0, 0), (1, 3, 7, 0, 0), (1, 3, 7, 0, 0), (1, 3, 7, 0, 0), (1, 3, 7, 0, 0), (1, 3, 7, 0, 0), (1, 3, 7, 0, 0), (1, 3, 7, 0, 0), (1, 3, 7, 0, 0), (4, 12, 4, 195, 2), (2, 3, 0, 0, 0), (2, 3, 0, 0, 0), (1, 2, 9, 0, 0), (1, 3, 7, 0, 0), (1, 2, 9, 0, 0), (1, 3, 7, 0, 0), (1, 2, 9, 0, 0), (1, 3, 7, 0, 0), (1, 2, 9, 0, 0), (1, 3, 7, 0, 0), (1, 2, 9, 0, 0), (1, 3, 7, 0, 0), (1, 2, 9, 0, 0), (1, 3, 7, 0, 0), (1, 2, 9, 0, 0), (1, 3, 7, 0, 0), (1, 2, 9, 0, 0), (1, 3, 7, 0, 0), (1, 2, 9, 0, 0), (1, 3, 7, 0, 0), (1, 2, 9, 0, 0), (1, 3, 7, 0, 0), (1, 2, 9, 0, 0), (1, 3, 7, 0, 0), (1, 2, 9, 0, 0), (1, 3, 7, 0, 0)]
def cKd (o : Nat) : q_K := cKl.getD o (0, 0, 0, 0, 0)
def mKl : List q_K := [(1, 0, 21, 0, 0), (2, 280, 0, 0, 0), (2, 560, 0, 0, 0), (2, 2, 1, 0, 0), (2, 60, 0, 0, 0), (2, 60, 0, 0, 0), (2, 175, 0, 0, 0), (3, 25, 2, 0, 0), (3, 25, 2, 0, 0), (2, 3, 0, 0, 0), (2, 3, 0, 0, 0)]
def mKd (o : Nat) : q_K := mKl.getD o (0, 0, 0, 0, 0)
def cFl : List (List Nat) := [[2, 0], [2, 4, 0, 0, 0], [0, 0, 0, 0, 0, 0, 0, 0, 2], [0, 0, 0, 0, 0, 0, 0], [2, 28, 0, 0, 0], [2, 3, 4, 5, 6, 7, 8, 0], [2, 3], [2, 10, 24, 0, 0, 25, 26], [2, 52, 53, 54, 84, 110, 113, 114, 118], [0, 0, 0, 0]]
def cFd (ci k : Nat) : Nat := (cFl.getD ci []).getD k 0
def mFl : List (List Nat) := [[2, 3, 4, 5, 0, 6, 0, 0, 7, 8, 9, 0, 0, 0, 0, 0, 0, 0, 0, 10, 11]]
def mFd (ci k : Nat) : Nat := (mFl.getD ci []).getD k 0
def cCl : List vw_C := [(RX0, TX0, 2), (RX1, TX1, 5), (RX2, TX2, 9), (RX3, TX3, 7), (RX4, TX4, 5), (RX5, TX5, 8), (RX6, TX6, 2), (RX7, TX7, 7), (RX8, TX8, 9), (RJ4, TJ4, 4)]
def mCl : List vw_C := [(RX9, TX9, 21)]
def cTl : List FieldType := [.int, .boolean, .long, .object "CalendarReplicas$Meeting", .object "CalendarReplicas$Edit", .object "CalendarReplicas$World", .byte]
def mTl : List FieldType := [.int, .boolean, .long]
def cA (x0 y : Nat) : Nat → Prop := fun q => (x0 ≤ q ∧ q < x0 + 219) ∨ y ≤ q
def mA (x0 : Nat) : Nat → Prop := fun q => x0 ≤ q ∧ q < x0 + 11
abbrev cG (D : va_G) (tc : Nat → ClassId) (x0 y : Nat) : q_G := (D, tc, x0, cA x0 y, y, cTl, cCl, 219, cKd, cFd)
abbrev mG (D : va_G) (tc : Nat → ClassId) (x0 y : Nat) : q_G := (D, tc, x0, mA x0, y, mTl, mCl, 11, mKd, mFd)
theorem q_getD_in {l : List q_K} {o : Nat} (h : (l.getD o (0, 0, 0, 0, 0)).1 ≠ 0) : o < l.length := by
  refine Nat.lt_of_not_le (fun hn => h ?_)
  simp [List.getD, List.getElem?_eq_none hn]
theorem cIn (D : va_G) (tc : Nat → ClassId) (x0 y : Nat) : q_in (cG D tc x0 y) := fun o h => q_getD_in (l := cKl) h
theorem mIn (D : va_G) (tc : Nat → ClassId) (x0 y : Nat) : q_in (mG D tc x0 y) := fun o h => q_getD_in (l := mKl) h
theorem uwCal : ∀ w ∈ u_ws RX0 TX0 2, w ∈ q_gw := by decide +kernel
theorem cC_Cal (D : va_G) (tc : Nat → ClassId) (x0 y : Nat) : q_C (cG D tc x0 y) 0 RX0 TX0 2 tyX0 := ⟨rfl, uwCal, tyX0_ok, nmX0⟩
theorem uwDes : ∀ w ∈ u_ws RX1 TX1 5, w ∈ q_gw := by decide +kernel
theorem cC_Des (D : va_G) (tc : Nat → ClassId) (x0 y : Nat) : q_C (cG D tc x0 y) 1 RX1 TX1 5 tyX1 := ⟨rfl, uwDes, tyX1_ok, nmX1⟩
theorem uwEd : ∀ w ∈ u_ws RX2 TX2 9, w ∈ q_gw := by decide +kernel
theorem cC_Ed (D : va_G) (tc : Nat → ClassId) (x0 y : Nat) : q_C (cG D tc x0 y) 2 RX2 TX2 9 tyX2 := ⟨rfl, uwEd, tyX2_ok, nmX2⟩
theorem uwMe : ∀ w ∈ u_ws RX3 TX3 7, w ∈ q_gw := by decide +kernel
theorem cC_Me (D : va_G) (tc : Nat → ClassId) (x0 y : Nat) : q_C (cG D tc x0 y) 3 RX3 TX3 7 tyX3 := ⟨rfl, uwMe, tyX3_ok, nmX3⟩
theorem uwMg : ∀ w ∈ u_ws RX4 TX4 5, w ∈ q_gw := by decide +kernel
theorem cC_Mg (D : va_G) (tc : Nat → ClassId) (x0 y : Nat) : q_C (cG D tc x0 y) 4 RX4 TX4 5 tyX4 := ⟨rfl, uwMg, tyX4_ok, nmX4⟩
theorem uwRu : ∀ w ∈ u_ws RX5 TX5 8, w ∈ q_gw := by decide +kernel
theorem cC_Ru (D : va_G) (tc : Nat → ClassId) (x0 y : Nat) : q_C (cG D tc x0 y) 5 RX5 TX5 8 tyX5 := ⟨rfl, uwRu, tyX5_ok, nmX5⟩
theorem uwTT : ∀ w ∈ u_ws RX6 TX6 2, w ∈ q_gw := by decide +kernel
theorem cC_TT (D : va_G) (tc : Nat → ClassId) (x0 y : Nat) : q_C (cG D tc x0 y) 6 RX6 TX6 2 tyX6 := ⟨rfl, uwTT, tyX6_ok, nmX6⟩
theorem uwWo : ∀ w ∈ u_ws RX7 TX7 7, w ∈ q_gw := by decide +kernel
theorem cC_Wo (D : va_G) (tc : Nat → ClassId) (x0 y : Nat) : q_C (cG D tc x0 y) 7 RX7 TX7 7 tyX7 := ⟨rfl, uwWo, tyX7_ok, nmX7⟩
theorem uwCR : ∀ w ∈ u_ws RX8 TX8 9, w ∈ q_gw := by decide +kernel
theorem cC_CR (D : va_G) (tc : Nat → ClassId) (x0 y : Nat) : q_C (cG D tc x0 y) 8 RX8 TX8 9 tyX8 := ⟨rfl, uwCR, tyX8_ok, nmX8⟩
theorem uwSB : ∀ w ∈ u_ws RJ4 TJ4 4, w ∈ q_gw := by decide +kernel
theorem cC_SB (D : va_G) (tc : Nat → ClassId) (x0 y : Nat) : q_C (cG D tc x0 y) 9 RJ4 TJ4 4 tyJ4 := ⟨rfl, uwSB, tyJ4_ok, nmJ4⟩
theorem uwMo : ∀ w ∈ u_ws RX9 TX9 21, w ∈ q_gw := by decide +kernel
theorem cC_Mo (D : va_G) (tc : Nat → ClassId) (x0 y : Nat) : q_C (mG D tc x0 y) 0 RX9 TX9 21 tyX9 := ⟨rfl, uwMo, tyX9_ok, nmX9⟩
/-! what stands where, from an object on -/
def isMe (o : Nat) : Prop := cKd o = (1, 3, 7, 0, 0)
def isCal (c cap : Nat) : Prop := cKd c = (1, 0, 2, 0, 0) ∧ cKd (c + 1) = (5, cap, 3, c + 2, 0) ∧ ∀ j, j < cap → isMe (c + 2 + j)
def isRu (r : Nat) : Prop := cKd r = (1, 5, 8, 0, 0) ∧ cKd (r + 1) = (2, 4, 0, 0, 0) ∧ cKd (r + 2) = (2, 4, 0, 0, 0) ∧ cKd (r + 3) = (2, 4, 0, 0, 0) ∧ cKd (r + 4) = (2, 6, 0, 0, 0) ∧ cKd (r + 5) = (2, 6, 0, 0, 0) ∧ cKd (r + 6) = (2, 4, 0, 0, 0) ∧ cKd (r + 7) = (2, 4, 0, 0, 0)
def isEd (e : Nat) : Prop := cKd e = (1, 2, 9, 0, 0) ∧ isMe (e + 1)
def isTT (t : Nat) : Prop := cKd t = (1, 6, 2, 0, 0) ∧ cKd (t + 1) = (3, 10, 2, 0, 0) ∧ cKd (t + 2) = (3, 10, 2, 0, 0)
def isWo (w : Nat) : Prop := cKd w = (1, 7, 7, 0, 0) ∧ isRu (w + 1) ∧ isCal (w + 9) 12 ∧ cKd (w + 23) = (4, 12, 4, w + 26, 2) ∧ cKd (w + 24) = (2, 3, 0, 0, 0) ∧ cKd (w + 25) = (2, 3, 0, 0, 0) ∧ ∀ j, j < 12 → isEd (w + 26 + 2 * j)
def isMg (m : Nat) : Prop := cKd m = (1, 4, 5, 0, 0) ∧ isCal (m + 1) 24 ∧ isTT (m + 27)
def isSB (s : Nat) : Prop := cKd s = (6, 9, 4, 0, 0) ∧ cKd (s + 1) = (7, s, 6, 0, 0)
def isDes (d : Nat) : Prop := cKd d = (1, 1, 5, 0, 0) ∧ isSB (d + 1) ∧ isMe (d + 3)
def cM (o : Nat) : Bool := decide (cKd o = (1, 3, 7, 0, 0))
def cE (o : Nat) : Bool := decide (cKd o = (1, 2, 9, 0, 0)) && decide (cKd (o + 1) = (1, 3, 7, 0, 0))
theorem cM_of {o : Nat} (h : cM o = true) : isMe o := (of_decide_eq_true h : cKd o = (1, 3, 7, 0, 0))
theorem cE_of {o : Nat} (h : cE o = true) : isEd o := by
  simp only [cE, Bool.and_eq_true] at h
  exact ⟨of_decide_eq_true h.1, (of_decide_eq_true h.2 : cKd (o + 1) = (1, 3, 7, 0, 0))⟩
def q_ck {ρ : Type} (b : Bool) (o : Option ρ) : Option ρ := if b = true then o else none
def q_l {α ρ : Type} (v : α) (K : α → ρ) : ρ := K v
def q_j {α ρ : Type} (K : α → ρ) (F : (α → ρ) → ρ) : ρ := F K
def q_fu : Nat := 100000
theorem k_CR : cKd 0 = (1, 8, 9, 0, 0) := by decide +kernel
theorem k_kept : cKd 51 = (4, 2, 5, 119, 50) := by decide +kernel
theorem k_filled : cKd 52 = (2, 2, 1, 0, 0) := by decide +kernel
theorem k_Me112 : isMe 112 := by unfold isMe; decide +kernel
theorem k_Me116 : isMe 116 := by unfold isMe; decide +kernel
theorem k_Cal10 : isCal 10 12 := by unfold isCal isMe; decide +kernel
theorem k_Cal54 : isCal 54 24 := by unfold isCal isMe; decide +kernel
theorem k_Cal83 : isCal 83 24 := by unfold isCal isMe; decide +kernel
theorem k_Cal128 : isCal 128 12 := by unfold isCal isMe; decide +kernel
theorem k_Cal178 : isCal 178 12 := by unfold isCal isMe; decide +kernel
theorem k_Ru2 : isRu 2 := ⟨by decide +kernel, by decide +kernel, by decide +kernel, by decide +kernel, by decide +kernel, by decide +kernel, by decide +kernel, by decide +kernel⟩
theorem k_Ru120 : isRu 120 := ⟨by decide +kernel, by decide +kernel, by decide +kernel, by decide +kernel, by decide +kernel, by decide +kernel, by decide +kernel, by decide +kernel⟩
theorem k_Ru170 : isRu 170 := ⟨by decide +kernel, by decide +kernel, by decide +kernel, by decide +kernel, by decide +kernel, by decide +kernel, by decide +kernel, by decide +kernel⟩
theorem k_TT80 : isTT 80 := ⟨by decide +kernel, by decide +kernel, by decide +kernel⟩
theorem k_TT109 : isTT 109 := ⟨by decide +kernel, by decide +kernel, by decide +kernel⟩
theorem k_Wo1 : isWo 1 := ⟨by decide +kernel, k_Ru2, k_Cal10, by decide +kernel, by decide +kernel, by decide +kernel, by unfold isEd isMe; decide +kernel⟩
theorem k_Wo119 : isWo 119 := ⟨by decide +kernel, k_Ru120, k_Cal128, by decide +kernel, by decide +kernel, by decide +kernel, by unfold isEd isMe; decide +kernel⟩
theorem k_Wo169 : isWo 169 := ⟨by decide +kernel, k_Ru170, k_Cal178, by decide +kernel, by decide +kernel, by decide +kernel, by unfold isEd isMe; decide +kernel⟩
theorem k_Mg53 : isMg 53 := ⟨by decide +kernel, k_Cal54, k_TT80⟩
theorem k_Des113 : isDes 113 := ⟨by decide +kernel, ⟨by decide +kernel, by decide +kernel⟩, k_Me116⟩
theorem k_SB117 : isSB 117 := ⟨by decide +kernel, by decide +kernel⟩
theorem k_keptW : ∀ j, j < 2 → isWo (119 + 50 * j) := fun j hj => by
  rcases (by omega : j = 0 ∨ j = 1) with rfl | rfl
  · exact k_Wo119
  · exact k_Wo169
section QL
variable {ρ : Type} {G : q_G} {M : q_M} {X : q_X} {em : ρ → Option Value × q_S} {k n pc : Nat} {L : List (Nat × Value)} {st : List Value} {I : q_I} {J : q_J} {P : q_P}
theorem q_leti {x : Int32} {K : Int32 → Option ρ} (kk : ∀ z, q_V G M X em k n pc L (.int z :: st) I J P (K z)) : q_V G M X em k n pc L (.int x :: st) I J P (q_l x K) := kk x
theorem q_letl {x : Int64} {K : Int64 → Option ρ} (kk : ∀ z, q_V G M X em k n pc L (.long z :: st) I J P (K z)) : q_V G M X em k n pc L (.long x :: st) I J P (q_l x K) := kk x
theorem q_letI {x : q_I} {K : q_I → Option ρ} (kk : ∀ z, q_V G M X em k n pc L st z J P (K z)) : q_V G M X em k n pc L st x J P (q_l x K) := kk x
theorem q_letJ {x : q_J} {K : q_J → Option ρ} (kk : ∀ z, q_V G M X em k n pc L st I z P (K z)) : q_V G M X em k n pc L st I x P (q_l x K) := kk x
theorem q_letP {x : q_P} {K : q_P → Option ρ} (kk : ∀ z, q_V G M X em k n pc L st I J z (K z)) : q_V G M X em k n pc L st I J x (q_l x K) := kk x
theorem q_ckV {b : Bool} {O : Option ρ} (kk : b = true → q_V G M X em k n pc L st I J P O) : q_V G M X em k n pc L st I J P (q_ck b O) := by
  unfold q_ck
  split
  · next h => exact kk h
  · exact q_none
/-- a join: R is the region up to it, R' the same with its ends going on -/
theorem q_jn {α : Type} {R : Option α} {K : α → Option ρ} (R' : (α → Option ρ) → Option ρ) (hR : ∀ j : α → Option ρ, q_b1 R j = R' j) (w : q_V G M X em k n pc L st I J P (R' K)) : q_V G M X em k n pc L st I J P (q_b1 R K) := by
  rw [hR K]; exact w
theorem q_b1_if {α : Type} {c : Prop} [Decidable c] {A B : Option α} {K : α → Option ρ} : q_b1 (if c then A else B) K = if c then q_b1 A K else q_b1 B K := by split <;> rfl
theorem q_b1_s {α : Type} {a : α} {K : α → Option ρ} : q_b1 (some a) K = K a := rfl
theorem q_b1_n {α : Type} {K : α → Option ρ} : q_b1 none K = none := rfl
theorem q_b1_ix {α : Type} {i : Int32} {N : Nat} {F : Nat → Option α} {K : α → Option ρ} : q_b1 (q_ix i N F) K = q_ix i N (fun j => q_b1 (F j) K) := by unfold q_ix; split <;> rfl
theorem q_b1_b1 {α β : Type} {o : Option β} {F : β → Option α} {K : α → Option ρ} : q_b1 (q_b1 o F) K = q_b1 o (fun x => q_b1 (F x) K) := by cases o <;> rfl
theorem q_b1_b2 {α β γ : Type} {o : Option (β × γ)} {F : β → γ → Option α} {K : α → Option ρ} : q_b1 (q_b2 o F) K = q_b2 o (fun x y => q_b1 (F x y) K) := by cases o <;> rfl
theorem q_b1_b3 {α β γ δ : Type} {o : Option (β × γ × δ)} {F : β → γ → δ → Option α} {K : α → Option ρ} : q_b1 (q_b3 o F) K = q_b3 o (fun x y z => q_b1 (F x y z) K) := by cases o <;> rfl
theorem q_b1_l {α β : Type} {v : β} {F : β → Option α} {K : α → Option ρ} : q_b1 (q_l v F) K = q_l v (fun x => q_b1 (F x) K) := rfl
theorem q_b1_ck {α : Type} {b : Bool} {A : Option α} {K : α → Option ρ} : q_b1 (q_ck b A) K = q_ck b (q_b1 A K) := by unfold q_ck; split <;> rfl
theorem q_b1_el {α : Type} {r : Option Nat} {A : Option α} {F : Nat → Option α} {K : α → Option ρ} : q_b1 (r.elim A F) K = r.elim (q_b1 A K) (fun a => q_b1 (F a) K) := by cases r <;> rfl
end QL
section QE
variable {ρ : Type} {G : q_G} {M M' : q_M} {X : q_X} {em : ρ → Option Value × q_S} {k n pc : Nat} {L : List (Nat × Value)} {st : List Value} {I : q_I} {J : q_J} {P : q_P} {y : MethodName} {np idx : Nat}
theorem q_callS_v {g : Option (Unit)} {K : Unit → Option ρ} (q : Nat) (e : pc + 3 = q) {av : List Value} (C : q_Ct X.1 G y M' av (I, J, P) g (fun r : Unit => (none, (I, J, P)))) (hY : q_Y y M' np) (hl : Cond.methodLink M.2.2.1 idx y ∈ q_gw) (hs : Cond.static y ∈ q_gw) (hn : av.length = np) (hst : (st.map fun v => v.category).sum ≤ 8) (d : decode M.1 pc = .ok (.invokestatic idx, 3)) (hR : M'.2.2.2.1.frames + 1 ≤ M.2.2.2.1.frames ∧ 8 + (M'.2.1 + 11) + M'.2.2.2.1.locals ≤ M.2.2.2.1.locals) (hf : k + M'.2.2.2.1.cells ≤ M.2.2.2.1.cells ∧ n + M'.2.2.2.1.slots ≤ M.2.2.2.1.slots) {k' n' : Nat} (hk' : k + M'.2.2.2.1.cells = k') (hn' : n + M'.2.2.2.1.slots = n') (kk : q_V G M X em k' n' q L (st) I J P (K ())) : q_V G M X em k n pc L (av.reverse ++ st) I J P (q_b1 g K) := by
  subst e hk' hn'
  exact q_callS C hY hl hs hn hst d hR hf (fun _ => kk)
theorem q_callN_v {g : Option (Unit)} {K : Unit → Option ρ} (q : Nat) (e : pc + 3 = q) {av : List Value} {host : String} (C : q_Ct X.1 G y M' av (I, J, P) g (fun r : Unit => (none, (I, J, P)))) (hY : q_Y y M' np) (hl : Cond.methodLinkNest M.2.2.1 idx y host ∈ lw_tbl) (hs : Cond.static y ∈ q_gw) (hn : av.length = np) (hst : (st.map fun v => v.category).sum ≤ 8) (d : decode M.1 pc = .ok (.invokestatic idx, 3)) (hR : M'.2.2.2.1.frames + 1 ≤ M.2.2.2.1.frames ∧ 8 + (M'.2.1 + 11) + M'.2.2.2.1.locals ≤ M.2.2.2.1.locals) (hf : k + M'.2.2.2.1.cells ≤ M.2.2.2.1.cells ∧ n + M'.2.2.2.1.slots ≤ M.2.2.2.1.slots) {k' n' : Nat} (hk' : k + M'.2.2.2.1.cells = k') (hn' : n + M'.2.2.2.1.slots = n') (kk : q_V G M X em k' n' q L (st) I J P (K ())) : q_V G M X em k n pc L (av.reverse ++ st) I J P (q_b1 g K) := by
  subst e hk' hn'
  exact q_callN C hY hl hs hn hst d hR hf (fun _ => kk)
theorem q_callV_v {g : Option (Unit)} {K : Unit → Option ρ} (q : Nat) (e : pc + 3 = q) {av : List Value} {o ci N : Nat} {C : String} {T : u_T} {ty : Nat → FieldType} (Ct : q_Ct X.1 G y M' (q_r G o :: av) (I, J, P) g (fun r : Unit => (none, (I, J, P)))) (hY : q_Y y M' np) (hl : Cond.methodLink M.2.2.1 idx y ∈ q_gw) (hi : Cond.instanceMethod y ∈ q_gw) (hsel : Cond.selects C y y ∈ q_gw) (hc : q_C G ci C T N ty) (hk : q_kd G o = (1, ci, N, 0, 0)) (hn : av.length = np) (hst : (st.map fun v => v.category).sum ≤ 8) (d : decode M.1 pc = .ok (.invokevirtual idx, 3)) (hR : M'.2.2.2.1.frames + 1 ≤ M.2.2.2.1.frames ∧ 8 + (M'.2.1 + 11) + M'.2.2.2.1.locals ≤ M.2.2.2.1.locals) (hf : k + M'.2.2.2.1.cells ≤ M.2.2.2.1.cells ∧ n + M'.2.2.2.1.slots ≤ M.2.2.2.1.slots) {k' n' : Nat} (hk' : k + M'.2.2.2.1.cells = k') (hn' : n + M'.2.2.2.1.slots = n') (kk : q_V G M X em k' n' q L (st) I J P (K ())) : q_V G M X em k n pc L (av.reverse ++ q_r G o :: st) I J P (q_b1 g K) := by
  subst e hk' hn'
  exact q_callV Ct hY hl hi hsel hc hk hn hst d hR hf (fun _ => kk)
theorem q_callS_vI {g : Option (q_I)} {K : q_I → Option ρ} (q : Nat) (e : pc + 3 = q) {av : List Value} (C : q_Ct X.1 G y M' av (I, J, P) g (fun r : q_I => (none, (r, J, P)))) (hY : q_Y y M' np) (hl : Cond.methodLink M.2.2.1 idx y ∈ q_gw) (hs : Cond.static y ∈ q_gw) (hn : av.length = np) (hst : (st.map fun v => v.category).sum ≤ 8) (d : decode M.1 pc = .ok (.invokestatic idx, 3)) (hR : M'.2.2.2.1.frames + 1 ≤ M.2.2.2.1.frames ∧ 8 + (M'.2.1 + 11) + M'.2.2.2.1.locals ≤ M.2.2.2.1.locals) (hf : k + M'.2.2.2.1.cells ≤ M.2.2.2.1.cells ∧ n + M'.2.2.2.1.slots ≤ M.2.2.2.1.slots) {k' n' : Nat} (hk' : k + M'.2.2.2.1.cells = k') (hn' : n + M'.2.2.2.1.slots = n') (kk : ∀ I', q_V G M X em k' n' q L (st) I' J P (K I')) : q_V G M X em k n pc L (av.reverse ++ st) I J P (q_b1 g K) := by
  subst e hk' hn'
  exact q_callS C hY hl hs hn hst d hR hf (fun x => kk x)
theorem q_callV_vI {g : Option (q_I)} {K : q_I → Option ρ} (q : Nat) (e : pc + 3 = q) {av : List Value} {o ci N : Nat} {C : String} {T : u_T} {ty : Nat → FieldType} (Ct : q_Ct X.1 G y M' (q_r G o :: av) (I, J, P) g (fun r : q_I => (none, (r, J, P)))) (hY : q_Y y M' np) (hl : Cond.methodLink M.2.2.1 idx y ∈ q_gw) (hi : Cond.instanceMethod y ∈ q_gw) (hsel : Cond.selects C y y ∈ q_gw) (hc : q_C G ci C T N ty) (hk : q_kd G o = (1, ci, N, 0, 0)) (hn : av.length = np) (hst : (st.map fun v => v.category).sum ≤ 8) (d : decode M.1 pc = .ok (.invokevirtual idx, 3)) (hR : M'.2.2.2.1.frames + 1 ≤ M.2.2.2.1.frames ∧ 8 + (M'.2.1 + 11) + M'.2.2.2.1.locals ≤ M.2.2.2.1.locals) (hf : k + M'.2.2.2.1.cells ≤ M.2.2.2.1.cells ∧ n + M'.2.2.2.1.slots ≤ M.2.2.2.1.slots) {k' n' : Nat} (hk' : k + M'.2.2.2.1.cells = k') (hn' : n + M'.2.2.2.1.slots = n') (kk : ∀ I', q_V G M X em k' n' q L (st) I' J P (K I')) : q_V G M X em k n pc L (av.reverse ++ q_r G o :: st) I J P (q_b1 g K) := by
  subst e hk' hn'
  exact q_callV Ct hY hl hi hsel hc hk hn hst d hR hf (fun x => kk x)
theorem q_callS_vJ {g : Option (q_J)} {K : q_J → Option ρ} (q : Nat) (e : pc + 3 = q) {av : List Value} (C : q_Ct X.1 G y M' av (I, J, P) g (fun r : q_J => (none, (I, r, P)))) (hY : q_Y y M' np) (hl : Cond.methodLink M.2.2.1 idx y ∈ q_gw) (hs : Cond.static y ∈ q_gw) (hn : av.length = np) (hst : (st.map fun v => v.category).sum ≤ 8) (d : decode M.1 pc = .ok (.invokestatic idx, 3)) (hR : M'.2.2.2.1.frames + 1 ≤ M.2.2.2.1.frames ∧ 8 + (M'.2.1 + 11) + M'.2.2.2.1.locals ≤ M.2.2.2.1.locals) (hf : k + M'.2.2.2.1.cells ≤ M.2.2.2.1.cells ∧ n + M'.2.2.2.1.slots ≤ M.2.2.2.1.slots) {k' n' : Nat} (hk' : k + M'.2.2.2.1.cells = k') (hn' : n + M'.2.2.2.1.slots = n') (kk : ∀ J', q_V G M X em k' n' q L (st) I J' P (K J')) : q_V G M X em k n pc L (av.reverse ++ st) I J P (q_b1 g K) := by
  subst e hk' hn'
  exact q_callS C hY hl hs hn hst d hR hf (fun x => kk x)
theorem q_callV_vJ {g : Option (q_J)} {K : q_J → Option ρ} (q : Nat) (e : pc + 3 = q) {av : List Value} {o ci N : Nat} {C : String} {T : u_T} {ty : Nat → FieldType} (Ct : q_Ct X.1 G y M' (q_r G o :: av) (I, J, P) g (fun r : q_J => (none, (I, r, P)))) (hY : q_Y y M' np) (hl : Cond.methodLink M.2.2.1 idx y ∈ q_gw) (hi : Cond.instanceMethod y ∈ q_gw) (hsel : Cond.selects C y y ∈ q_gw) (hc : q_C G ci C T N ty) (hk : q_kd G o = (1, ci, N, 0, 0)) (hn : av.length = np) (hst : (st.map fun v => v.category).sum ≤ 8) (d : decode M.1 pc = .ok (.invokevirtual idx, 3)) (hR : M'.2.2.2.1.frames + 1 ≤ M.2.2.2.1.frames ∧ 8 + (M'.2.1 + 11) + M'.2.2.2.1.locals ≤ M.2.2.2.1.locals) (hf : k + M'.2.2.2.1.cells ≤ M.2.2.2.1.cells ∧ n + M'.2.2.2.1.slots ≤ M.2.2.2.1.slots) {k' n' : Nat} (hk' : k + M'.2.2.2.1.cells = k') (hn' : n + M'.2.2.2.1.slots = n') (kk : ∀ J', q_V G M X em k' n' q L (st) I J' P (K J')) : q_V G M X em k n pc L (av.reverse ++ q_r G o :: st) I J P (q_b1 g K) := by
  subst e hk' hn'
  exact q_callV Ct hY hl hi hsel hc hk hn hst d hR hf (fun x => kk x)
theorem q_callS_vP {g : Option (q_P)} {K : q_P → Option ρ} (q : Nat) (e : pc + 3 = q) {av : List Value} (C : q_Ct X.1 G y M' av (I, J, P) g (fun r : q_P => (none, (I, J, r)))) (hY : q_Y y M' np) (hl : Cond.methodLink M.2.2.1 idx y ∈ q_gw) (hs : Cond.static y ∈ q_gw) (hn : av.length = np) (hst : (st.map fun v => v.category).sum ≤ 8) (d : decode M.1 pc = .ok (.invokestatic idx, 3)) (hR : M'.2.2.2.1.frames + 1 ≤ M.2.2.2.1.frames ∧ 8 + (M'.2.1 + 11) + M'.2.2.2.1.locals ≤ M.2.2.2.1.locals) (hf : k + M'.2.2.2.1.cells ≤ M.2.2.2.1.cells ∧ n + M'.2.2.2.1.slots ≤ M.2.2.2.1.slots) {k' n' : Nat} (hk' : k + M'.2.2.2.1.cells = k') (hn' : n + M'.2.2.2.1.slots = n') (kk : ∀ P', q_V G M X em k' n' q L (st) I J P' (K P')) : q_V G M X em k n pc L (av.reverse ++ st) I J P (q_b1 g K) := by
  subst e hk' hn'
  exact q_callS C hY hl hs hn hst d hR hf (fun x => kk x)
theorem q_callV_vP {g : Option (q_P)} {K : q_P → Option ρ} (q : Nat) (e : pc + 3 = q) {av : List Value} {o ci N : Nat} {C : String} {T : u_T} {ty : Nat → FieldType} (Ct : q_Ct X.1 G y M' (q_r G o :: av) (I, J, P) g (fun r : q_P => (none, (I, J, r)))) (hY : q_Y y M' np) (hl : Cond.methodLink M.2.2.1 idx y ∈ q_gw) (hi : Cond.instanceMethod y ∈ q_gw) (hsel : Cond.selects C y y ∈ q_gw) (hc : q_C G ci C T N ty) (hk : q_kd G o = (1, ci, N, 0, 0)) (hn : av.length = np) (hst : (st.map fun v => v.category).sum ≤ 8) (d : decode M.1 pc = .ok (.invokevirtual idx, 3)) (hR : M'.2.2.2.1.frames + 1 ≤ M.2.2.2.1.frames ∧ 8 + (M'.2.1 + 11) + M'.2.2.2.1.locals ≤ M.2.2.2.1.locals) (hf : k + M'.2.2.2.1.cells ≤ M.2.2.2.1.cells ∧ n + M'.2.2.2.1.slots ≤ M.2.2.2.1.slots) {k' n' : Nat} (hk' : k + M'.2.2.2.1.cells = k') (hn' : n + M'.2.2.2.1.slots = n') (kk : ∀ P', q_V G M X em k' n' q L (st) I J P' (K P')) : q_V G M X em k n pc L (av.reverse ++ q_r G o :: st) I J P (q_b1 g K) := by
  subst e hk' hn'
  exact q_callV Ct hY hl hi hsel hc hk hn hst d hR hf (fun x => kk x)
theorem q_callS_vIJ {g : Option (q_I × q_J)} {K : q_I → q_J → Option ρ} (q : Nat) (e : pc + 3 = q) {av : List Value} (C : q_Ct X.1 G y M' av (I, J, P) g (fun r : q_I × q_J => (none, (r.1, r.2, P)))) (hY : q_Y y M' np) (hl : Cond.methodLink M.2.2.1 idx y ∈ q_gw) (hs : Cond.static y ∈ q_gw) (hn : av.length = np) (hst : (st.map fun v => v.category).sum ≤ 8) (d : decode M.1 pc = .ok (.invokestatic idx, 3)) (hR : M'.2.2.2.1.frames + 1 ≤ M.2.2.2.1.frames ∧ 8 + (M'.2.1 + 11) + M'.2.2.2.1.locals ≤ M.2.2.2.1.locals) (hf : k + M'.2.2.2.1.cells ≤ M.2.2.2.1.cells ∧ n + M'.2.2.2.1.slots ≤ M.2.2.2.1.slots) {k' n' : Nat} (hk' : k + M'.2.2.2.1.cells = k') (hn' : n + M'.2.2.2.1.slots = n') (kk : ∀ I' J', q_V G M X em k' n' q L (st) I' J' P (K I' J')) : q_V G M X em k n pc L (av.reverse ++ st) I J P (q_b2 g K) := by
  subst e hk' hn'
  exact q_callS C hY hl hs hn hst d hR hf (fun x => kk x.1 x.2)
theorem q_callV_vIJ {g : Option (q_I × q_J)} {K : q_I → q_J → Option ρ} (q : Nat) (e : pc + 3 = q) {av : List Value} {o ci N : Nat} {C : String} {T : u_T} {ty : Nat → FieldType} (Ct : q_Ct X.1 G y M' (q_r G o :: av) (I, J, P) g (fun r : q_I × q_J => (none, (r.1, r.2, P)))) (hY : q_Y y M' np) (hl : Cond.methodLink M.2.2.1 idx y ∈ q_gw) (hi : Cond.instanceMethod y ∈ q_gw) (hsel : Cond.selects C y y ∈ q_gw) (hc : q_C G ci C T N ty) (hk : q_kd G o = (1, ci, N, 0, 0)) (hn : av.length = np) (hst : (st.map fun v => v.category).sum ≤ 8) (d : decode M.1 pc = .ok (.invokevirtual idx, 3)) (hR : M'.2.2.2.1.frames + 1 ≤ M.2.2.2.1.frames ∧ 8 + (M'.2.1 + 11) + M'.2.2.2.1.locals ≤ M.2.2.2.1.locals) (hf : k + M'.2.2.2.1.cells ≤ M.2.2.2.1.cells ∧ n + M'.2.2.2.1.slots ≤ M.2.2.2.1.slots) {k' n' : Nat} (hk' : k + M'.2.2.2.1.cells = k') (hn' : n + M'.2.2.2.1.slots = n') (kk : ∀ I' J', q_V G M X em k' n' q L (st) I' J' P (K I' J')) : q_V G M X em k n pc L (av.reverse ++ q_r G o :: st) I J P (q_b2 g K) := by
  subst e hk' hn'
  exact q_callV Ct hY hl hi hsel hc hk hn hst d hR hf (fun x => kk x.1 x.2)
theorem q_callS_vIP {g : Option (q_I × q_P)} {K : q_I → q_P → Option ρ} (q : Nat) (e : pc + 3 = q) {av : List Value} (C : q_Ct X.1 G y M' av (I, J, P) g (fun r : q_I × q_P => (none, (r.1, J, r.2)))) (hY : q_Y y M' np) (hl : Cond.methodLink M.2.2.1 idx y ∈ q_gw) (hs : Cond.static y ∈ q_gw) (hn : av.length = np) (hst : (st.map fun v => v.category).sum ≤ 8) (d : decode M.1 pc = .ok (.invokestatic idx, 3)) (hR : M'.2.2.2.1.frames + 1 ≤ M.2.2.2.1.frames ∧ 8 + (M'.2.1 + 11) + M'.2.2.2.1.locals ≤ M.2.2.2.1.locals) (hf : k + M'.2.2.2.1.cells ≤ M.2.2.2.1.cells ∧ n + M'.2.2.2.1.slots ≤ M.2.2.2.1.slots) {k' n' : Nat} (hk' : k + M'.2.2.2.1.cells = k') (hn' : n + M'.2.2.2.1.slots = n') (kk : ∀ I' P', q_V G M X em k' n' q L (st) I' J P' (K I' P')) : q_V G M X em k n pc L (av.reverse ++ st) I J P (q_b2 g K) := by
  subst e hk' hn'
  exact q_callS C hY hl hs hn hst d hR hf (fun x => kk x.1 x.2)
theorem q_callV_vIP {g : Option (q_I × q_P)} {K : q_I → q_P → Option ρ} (q : Nat) (e : pc + 3 = q) {av : List Value} {o ci N : Nat} {C : String} {T : u_T} {ty : Nat → FieldType} (Ct : q_Ct X.1 G y M' (q_r G o :: av) (I, J, P) g (fun r : q_I × q_P => (none, (r.1, J, r.2)))) (hY : q_Y y M' np) (hl : Cond.methodLink M.2.2.1 idx y ∈ q_gw) (hi : Cond.instanceMethod y ∈ q_gw) (hsel : Cond.selects C y y ∈ q_gw) (hc : q_C G ci C T N ty) (hk : q_kd G o = (1, ci, N, 0, 0)) (hn : av.length = np) (hst : (st.map fun v => v.category).sum ≤ 8) (d : decode M.1 pc = .ok (.invokevirtual idx, 3)) (hR : M'.2.2.2.1.frames + 1 ≤ M.2.2.2.1.frames ∧ 8 + (M'.2.1 + 11) + M'.2.2.2.1.locals ≤ M.2.2.2.1.locals) (hf : k + M'.2.2.2.1.cells ≤ M.2.2.2.1.cells ∧ n + M'.2.2.2.1.slots ≤ M.2.2.2.1.slots) {k' n' : Nat} (hk' : k + M'.2.2.2.1.cells = k') (hn' : n + M'.2.2.2.1.slots = n') (kk : ∀ I' P', q_V G M X em k' n' q L (st) I' J P' (K I' P')) : q_V G M X em k n pc L (av.reverse ++ q_r G o :: st) I J P (q_b2 g K) := by
  subst e hk' hn'
  exact q_callV Ct hY hl hi hsel hc hk hn hst d hR hf (fun x => kk x.1 x.2)
theorem q_callS_vJP {g : Option (q_J × q_P)} {K : q_J → q_P → Option ρ} (q : Nat) (e : pc + 3 = q) {av : List Value} (C : q_Ct X.1 G y M' av (I, J, P) g (fun r : q_J × q_P => (none, (I, r.1, r.2)))) (hY : q_Y y M' np) (hl : Cond.methodLink M.2.2.1 idx y ∈ q_gw) (hs : Cond.static y ∈ q_gw) (hn : av.length = np) (hst : (st.map fun v => v.category).sum ≤ 8) (d : decode M.1 pc = .ok (.invokestatic idx, 3)) (hR : M'.2.2.2.1.frames + 1 ≤ M.2.2.2.1.frames ∧ 8 + (M'.2.1 + 11) + M'.2.2.2.1.locals ≤ M.2.2.2.1.locals) (hf : k + M'.2.2.2.1.cells ≤ M.2.2.2.1.cells ∧ n + M'.2.2.2.1.slots ≤ M.2.2.2.1.slots) {k' n' : Nat} (hk' : k + M'.2.2.2.1.cells = k') (hn' : n + M'.2.2.2.1.slots = n') (kk : ∀ J' P', q_V G M X em k' n' q L (st) I J' P' (K J' P')) : q_V G M X em k n pc L (av.reverse ++ st) I J P (q_b2 g K) := by
  subst e hk' hn'
  exact q_callS C hY hl hs hn hst d hR hf (fun x => kk x.1 x.2)
theorem q_callV_vJP {g : Option (q_J × q_P)} {K : q_J → q_P → Option ρ} (q : Nat) (e : pc + 3 = q) {av : List Value} {o ci N : Nat} {C : String} {T : u_T} {ty : Nat → FieldType} (Ct : q_Ct X.1 G y M' (q_r G o :: av) (I, J, P) g (fun r : q_J × q_P => (none, (I, r.1, r.2)))) (hY : q_Y y M' np) (hl : Cond.methodLink M.2.2.1 idx y ∈ q_gw) (hi : Cond.instanceMethod y ∈ q_gw) (hsel : Cond.selects C y y ∈ q_gw) (hc : q_C G ci C T N ty) (hk : q_kd G o = (1, ci, N, 0, 0)) (hn : av.length = np) (hst : (st.map fun v => v.category).sum ≤ 8) (d : decode M.1 pc = .ok (.invokevirtual idx, 3)) (hR : M'.2.2.2.1.frames + 1 ≤ M.2.2.2.1.frames ∧ 8 + (M'.2.1 + 11) + M'.2.2.2.1.locals ≤ M.2.2.2.1.locals) (hf : k + M'.2.2.2.1.cells ≤ M.2.2.2.1.cells ∧ n + M'.2.2.2.1.slots ≤ M.2.2.2.1.slots) {k' n' : Nat} (hk' : k + M'.2.2.2.1.cells = k') (hn' : n + M'.2.2.2.1.slots = n') (kk : ∀ J' P', q_V G M X em k' n' q L (st) I J' P' (K J' P')) : q_V G M X em k n pc L (av.reverse ++ q_r G o :: st) I J P (q_b2 g K) := by
  subst e hk' hn'
  exact q_callV Ct hY hl hi hsel hc hk hn hst d hR hf (fun x => kk x.1 x.2)
theorem q_callS_vIJP {g : Option (q_I × q_J × q_P)} {K : q_I → q_J → q_P → Option ρ} (q : Nat) (e : pc + 3 = q) {av : List Value} (C : q_Ct X.1 G y M' av (I, J, P) g (fun r : q_I × q_J × q_P => (none, (r.1, r.2.1, r.2.2)))) (hY : q_Y y M' np) (hl : Cond.methodLink M.2.2.1 idx y ∈ q_gw) (hs : Cond.static y ∈ q_gw) (hn : av.length = np) (hst : (st.map fun v => v.category).sum ≤ 8) (d : decode M.1 pc = .ok (.invokestatic idx, 3)) (hR : M'.2.2.2.1.frames + 1 ≤ M.2.2.2.1.frames ∧ 8 + (M'.2.1 + 11) + M'.2.2.2.1.locals ≤ M.2.2.2.1.locals) (hf : k + M'.2.2.2.1.cells ≤ M.2.2.2.1.cells ∧ n + M'.2.2.2.1.slots ≤ M.2.2.2.1.slots) {k' n' : Nat} (hk' : k + M'.2.2.2.1.cells = k') (hn' : n + M'.2.2.2.1.slots = n') (kk : ∀ I' J' P', q_V G M X em k' n' q L (st) I' J' P' (K I' J' P')) : q_V G M X em k n pc L (av.reverse ++ st) I J P (q_b3 g K) := by
  subst e hk' hn'
  exact q_callS C hY hl hs hn hst d hR hf (fun x => kk x.1 x.2.1 x.2.2)
theorem q_callV_vIJP {g : Option (q_I × q_J × q_P)} {K : q_I → q_J → q_P → Option ρ} (q : Nat) (e : pc + 3 = q) {av : List Value} {o ci N : Nat} {C : String} {T : u_T} {ty : Nat → FieldType} (Ct : q_Ct X.1 G y M' (q_r G o :: av) (I, J, P) g (fun r : q_I × q_J × q_P => (none, (r.1, r.2.1, r.2.2)))) (hY : q_Y y M' np) (hl : Cond.methodLink M.2.2.1 idx y ∈ q_gw) (hi : Cond.instanceMethod y ∈ q_gw) (hsel : Cond.selects C y y ∈ q_gw) (hc : q_C G ci C T N ty) (hk : q_kd G o = (1, ci, N, 0, 0)) (hn : av.length = np) (hst : (st.map fun v => v.category).sum ≤ 8) (d : decode M.1 pc = .ok (.invokevirtual idx, 3)) (hR : M'.2.2.2.1.frames + 1 ≤ M.2.2.2.1.frames ∧ 8 + (M'.2.1 + 11) + M'.2.2.2.1.locals ≤ M.2.2.2.1.locals) (hf : k + M'.2.2.2.1.cells ≤ M.2.2.2.1.cells ∧ n + M'.2.2.2.1.slots ≤ M.2.2.2.1.slots) {k' n' : Nat} (hk' : k + M'.2.2.2.1.cells = k') (hn' : n + M'.2.2.2.1.slots = n') (kk : ∀ I' J' P', q_V G M X em k' n' q L (st) I' J' P' (K I' J' P')) : q_V G M X em k n pc L (av.reverse ++ q_r G o :: st) I J P (q_b3 g K) := by
  subst e hk' hn'
  exact q_callV Ct hY hl hi hsel hc hk hn hst d hR hf (fun x => kk x.1 x.2.1 x.2.2)
theorem q_callS_i {g : Option (Int32)} {K : Int32 → Option ρ} (q : Nat) (e : pc + 3 = q) {av : List Value} (C : q_Ct X.1 G y M' av (I, J, P) g (fun r : Int32 => (some (.int r), (I, J, P)))) (hY : q_Y y M' np) (hl : Cond.methodLink M.2.2.1 idx y ∈ q_gw) (hs : Cond.static y ∈ q_gw) (hn : av.length = np) (hst : (st.map fun v => v.category).sum ≤ 8) (d : decode M.1 pc = .ok (.invokestatic idx, 3)) (hR : M'.2.2.2.1.frames + 1 ≤ M.2.2.2.1.frames ∧ 8 + (M'.2.1 + 11) + M'.2.2.2.1.locals ≤ M.2.2.2.1.locals) (hf : k + M'.2.2.2.1.cells ≤ M.2.2.2.1.cells ∧ n + M'.2.2.2.1.slots ≤ M.2.2.2.1.slots) {k' n' : Nat} (hk' : k + M'.2.2.2.1.cells = k') (hn' : n + M'.2.2.2.1.slots = n') (kk : ∀ v, q_V G M X em k' n' q L (.int v :: st) I J P (K v)) : q_V G M X em k n pc L (av.reverse ++ st) I J P (q_b1 g K) := by
  subst e hk' hn'
  exact q_callS C hY hl hs hn hst d hR hf (fun x => kk x)
theorem q_callN_i {g : Option (Int32)} {K : Int32 → Option ρ} (q : Nat) (e : pc + 3 = q) {av : List Value} {host : String} (C : q_Ct X.1 G y M' av (I, J, P) g (fun r : Int32 => (some (.int r), (I, J, P)))) (hY : q_Y y M' np) (hl : Cond.methodLinkNest M.2.2.1 idx y host ∈ lw_tbl) (hs : Cond.static y ∈ q_gw) (hn : av.length = np) (hst : (st.map fun v => v.category).sum ≤ 8) (d : decode M.1 pc = .ok (.invokestatic idx, 3)) (hR : M'.2.2.2.1.frames + 1 ≤ M.2.2.2.1.frames ∧ 8 + (M'.2.1 + 11) + M'.2.2.2.1.locals ≤ M.2.2.2.1.locals) (hf : k + M'.2.2.2.1.cells ≤ M.2.2.2.1.cells ∧ n + M'.2.2.2.1.slots ≤ M.2.2.2.1.slots) {k' n' : Nat} (hk' : k + M'.2.2.2.1.cells = k') (hn' : n + M'.2.2.2.1.slots = n') (kk : ∀ v, q_V G M X em k' n' q L (.int v :: st) I J P (K v)) : q_V G M X em k n pc L (av.reverse ++ st) I J P (q_b1 g K) := by
  subst e hk' hn'
  exact q_callN C hY hl hs hn hst d hR hf (fun x => kk x)
theorem q_callV_i {g : Option (Int32)} {K : Int32 → Option ρ} (q : Nat) (e : pc + 3 = q) {av : List Value} {o ci N : Nat} {C : String} {T : u_T} {ty : Nat → FieldType} (Ct : q_Ct X.1 G y M' (q_r G o :: av) (I, J, P) g (fun r : Int32 => (some (.int r), (I, J, P)))) (hY : q_Y y M' np) (hl : Cond.methodLink M.2.2.1 idx y ∈ q_gw) (hi : Cond.instanceMethod y ∈ q_gw) (hsel : Cond.selects C y y ∈ q_gw) (hc : q_C G ci C T N ty) (hk : q_kd G o = (1, ci, N, 0, 0)) (hn : av.length = np) (hst : (st.map fun v => v.category).sum ≤ 8) (d : decode M.1 pc = .ok (.invokevirtual idx, 3)) (hR : M'.2.2.2.1.frames + 1 ≤ M.2.2.2.1.frames ∧ 8 + (M'.2.1 + 11) + M'.2.2.2.1.locals ≤ M.2.2.2.1.locals) (hf : k + M'.2.2.2.1.cells ≤ M.2.2.2.1.cells ∧ n + M'.2.2.2.1.slots ≤ M.2.2.2.1.slots) {k' n' : Nat} (hk' : k + M'.2.2.2.1.cells = k') (hn' : n + M'.2.2.2.1.slots = n') (kk : ∀ v, q_V G M X em k' n' q L (.int v :: st) I J P (K v)) : q_V G M X em k n pc L (av.reverse ++ q_r G o :: st) I J P (q_b1 g K) := by
  subst e hk' hn'
  exact q_callV Ct hY hl hi hsel hc hk hn hst d hR hf (fun x => kk x)
theorem q_callS_iI {g : Option (Int32 × q_I)} {K : Int32 → q_I → Option ρ} (q : Nat) (e : pc + 3 = q) {av : List Value} (C : q_Ct X.1 G y M' av (I, J, P) g (fun r : Int32 × q_I => (some (.int r.1), (r.2, J, P)))) (hY : q_Y y M' np) (hl : Cond.methodLink M.2.2.1 idx y ∈ q_gw) (hs : Cond.static y ∈ q_gw) (hn : av.length = np) (hst : (st.map fun v => v.category).sum ≤ 8) (d : decode M.1 pc = .ok (.invokestatic idx, 3)) (hR : M'.2.2.2.1.frames + 1 ≤ M.2.2.2.1.frames ∧ 8 + (M'.2.1 + 11) + M'.2.2.2.1.locals ≤ M.2.2.2.1.locals) (hf : k + M'.2.2.2.1.cells ≤ M.2.2.2.1.cells ∧ n + M'.2.2.2.1.slots ≤ M.2.2.2.1.slots) {k' n' : Nat} (hk' : k + M'.2.2.2.1.cells = k') (hn' : n + M'.2.2.2.1.slots = n') (kk : ∀ v I', q_V G M X em k' n' q L (.int v :: st) I' J P (K v I')) : q_V G M X em k n pc L (av.reverse ++ st) I J P (q_b2 g K) := by
  subst e hk' hn'
  exact q_callS C hY hl hs hn hst d hR hf (fun x => kk x.1 x.2)
theorem q_callV_iI {g : Option (Int32 × q_I)} {K : Int32 → q_I → Option ρ} (q : Nat) (e : pc + 3 = q) {av : List Value} {o ci N : Nat} {C : String} {T : u_T} {ty : Nat → FieldType} (Ct : q_Ct X.1 G y M' (q_r G o :: av) (I, J, P) g (fun r : Int32 × q_I => (some (.int r.1), (r.2, J, P)))) (hY : q_Y y M' np) (hl : Cond.methodLink M.2.2.1 idx y ∈ q_gw) (hi : Cond.instanceMethod y ∈ q_gw) (hsel : Cond.selects C y y ∈ q_gw) (hc : q_C G ci C T N ty) (hk : q_kd G o = (1, ci, N, 0, 0)) (hn : av.length = np) (hst : (st.map fun v => v.category).sum ≤ 8) (d : decode M.1 pc = .ok (.invokevirtual idx, 3)) (hR : M'.2.2.2.1.frames + 1 ≤ M.2.2.2.1.frames ∧ 8 + (M'.2.1 + 11) + M'.2.2.2.1.locals ≤ M.2.2.2.1.locals) (hf : k + M'.2.2.2.1.cells ≤ M.2.2.2.1.cells ∧ n + M'.2.2.2.1.slots ≤ M.2.2.2.1.slots) {k' n' : Nat} (hk' : k + M'.2.2.2.1.cells = k') (hn' : n + M'.2.2.2.1.slots = n') (kk : ∀ v I', q_V G M X em k' n' q L (.int v :: st) I' J P (K v I')) : q_V G M X em k n pc L (av.reverse ++ q_r G o :: st) I J P (q_b2 g K) := by
  subst e hk' hn'
  exact q_callV Ct hY hl hi hsel hc hk hn hst d hR hf (fun x => kk x.1 x.2)
theorem q_callS_iJ {g : Option (Int32 × q_J)} {K : Int32 → q_J → Option ρ} (q : Nat) (e : pc + 3 = q) {av : List Value} (C : q_Ct X.1 G y M' av (I, J, P) g (fun r : Int32 × q_J => (some (.int r.1), (I, r.2, P)))) (hY : q_Y y M' np) (hl : Cond.methodLink M.2.2.1 idx y ∈ q_gw) (hs : Cond.static y ∈ q_gw) (hn : av.length = np) (hst : (st.map fun v => v.category).sum ≤ 8) (d : decode M.1 pc = .ok (.invokestatic idx, 3)) (hR : M'.2.2.2.1.frames + 1 ≤ M.2.2.2.1.frames ∧ 8 + (M'.2.1 + 11) + M'.2.2.2.1.locals ≤ M.2.2.2.1.locals) (hf : k + M'.2.2.2.1.cells ≤ M.2.2.2.1.cells ∧ n + M'.2.2.2.1.slots ≤ M.2.2.2.1.slots) {k' n' : Nat} (hk' : k + M'.2.2.2.1.cells = k') (hn' : n + M'.2.2.2.1.slots = n') (kk : ∀ v J', q_V G M X em k' n' q L (.int v :: st) I J' P (K v J')) : q_V G M X em k n pc L (av.reverse ++ st) I J P (q_b2 g K) := by
  subst e hk' hn'
  exact q_callS C hY hl hs hn hst d hR hf (fun x => kk x.1 x.2)
theorem q_callV_iJ {g : Option (Int32 × q_J)} {K : Int32 → q_J → Option ρ} (q : Nat) (e : pc + 3 = q) {av : List Value} {o ci N : Nat} {C : String} {T : u_T} {ty : Nat → FieldType} (Ct : q_Ct X.1 G y M' (q_r G o :: av) (I, J, P) g (fun r : Int32 × q_J => (some (.int r.1), (I, r.2, P)))) (hY : q_Y y M' np) (hl : Cond.methodLink M.2.2.1 idx y ∈ q_gw) (hi : Cond.instanceMethod y ∈ q_gw) (hsel : Cond.selects C y y ∈ q_gw) (hc : q_C G ci C T N ty) (hk : q_kd G o = (1, ci, N, 0, 0)) (hn : av.length = np) (hst : (st.map fun v => v.category).sum ≤ 8) (d : decode M.1 pc = .ok (.invokevirtual idx, 3)) (hR : M'.2.2.2.1.frames + 1 ≤ M.2.2.2.1.frames ∧ 8 + (M'.2.1 + 11) + M'.2.2.2.1.locals ≤ M.2.2.2.1.locals) (hf : k + M'.2.2.2.1.cells ≤ M.2.2.2.1.cells ∧ n + M'.2.2.2.1.slots ≤ M.2.2.2.1.slots) {k' n' : Nat} (hk' : k + M'.2.2.2.1.cells = k') (hn' : n + M'.2.2.2.1.slots = n') (kk : ∀ v J', q_V G M X em k' n' q L (.int v :: st) I J' P (K v J')) : q_V G M X em k n pc L (av.reverse ++ q_r G o :: st) I J P (q_b2 g K) := by
  subst e hk' hn'
  exact q_callV Ct hY hl hi hsel hc hk hn hst d hR hf (fun x => kk x.1 x.2)
theorem q_callS_iP {g : Option (Int32 × q_P)} {K : Int32 → q_P → Option ρ} (q : Nat) (e : pc + 3 = q) {av : List Value} (C : q_Ct X.1 G y M' av (I, J, P) g (fun r : Int32 × q_P => (some (.int r.1), (I, J, r.2)))) (hY : q_Y y M' np) (hl : Cond.methodLink M.2.2.1 idx y ∈ q_gw) (hs : Cond.static y ∈ q_gw) (hn : av.length = np) (hst : (st.map fun v => v.category).sum ≤ 8) (d : decode M.1 pc = .ok (.invokestatic idx, 3)) (hR : M'.2.2.2.1.frames + 1 ≤ M.2.2.2.1.frames ∧ 8 + (M'.2.1 + 11) + M'.2.2.2.1.locals ≤ M.2.2.2.1.locals) (hf : k + M'.2.2.2.1.cells ≤ M.2.2.2.1.cells ∧ n + M'.2.2.2.1.slots ≤ M.2.2.2.1.slots) {k' n' : Nat} (hk' : k + M'.2.2.2.1.cells = k') (hn' : n + M'.2.2.2.1.slots = n') (kk : ∀ v P', q_V G M X em k' n' q L (.int v :: st) I J P' (K v P')) : q_V G M X em k n pc L (av.reverse ++ st) I J P (q_b2 g K) := by
  subst e hk' hn'
  exact q_callS C hY hl hs hn hst d hR hf (fun x => kk x.1 x.2)
theorem q_callV_iP {g : Option (Int32 × q_P)} {K : Int32 → q_P → Option ρ} (q : Nat) (e : pc + 3 = q) {av : List Value} {o ci N : Nat} {C : String} {T : u_T} {ty : Nat → FieldType} (Ct : q_Ct X.1 G y M' (q_r G o :: av) (I, J, P) g (fun r : Int32 × q_P => (some (.int r.1), (I, J, r.2)))) (hY : q_Y y M' np) (hl : Cond.methodLink M.2.2.1 idx y ∈ q_gw) (hi : Cond.instanceMethod y ∈ q_gw) (hsel : Cond.selects C y y ∈ q_gw) (hc : q_C G ci C T N ty) (hk : q_kd G o = (1, ci, N, 0, 0)) (hn : av.length = np) (hst : (st.map fun v => v.category).sum ≤ 8) (d : decode M.1 pc = .ok (.invokevirtual idx, 3)) (hR : M'.2.2.2.1.frames + 1 ≤ M.2.2.2.1.frames ∧ 8 + (M'.2.1 + 11) + M'.2.2.2.1.locals ≤ M.2.2.2.1.locals) (hf : k + M'.2.2.2.1.cells ≤ M.2.2.2.1.cells ∧ n + M'.2.2.2.1.slots ≤ M.2.2.2.1.slots) {k' n' : Nat} (hk' : k + M'.2.2.2.1.cells = k') (hn' : n + M'.2.2.2.1.slots = n') (kk : ∀ v P', q_V G M X em k' n' q L (.int v :: st) I J P' (K v P')) : q_V G M X em k n pc L (av.reverse ++ q_r G o :: st) I J P (q_b2 g K) := by
  subst e hk' hn'
  exact q_callV Ct hY hl hi hsel hc hk hn hst d hR hf (fun x => kk x.1 x.2)
theorem q_callS_iIJ {g : Option (Int32 × q_I × q_J)} {K : Int32 → q_I → q_J → Option ρ} (q : Nat) (e : pc + 3 = q) {av : List Value} (C : q_Ct X.1 G y M' av (I, J, P) g (fun r : Int32 × q_I × q_J => (some (.int r.1), (r.2.1, r.2.2, P)))) (hY : q_Y y M' np) (hl : Cond.methodLink M.2.2.1 idx y ∈ q_gw) (hs : Cond.static y ∈ q_gw) (hn : av.length = np) (hst : (st.map fun v => v.category).sum ≤ 8) (d : decode M.1 pc = .ok (.invokestatic idx, 3)) (hR : M'.2.2.2.1.frames + 1 ≤ M.2.2.2.1.frames ∧ 8 + (M'.2.1 + 11) + M'.2.2.2.1.locals ≤ M.2.2.2.1.locals) (hf : k + M'.2.2.2.1.cells ≤ M.2.2.2.1.cells ∧ n + M'.2.2.2.1.slots ≤ M.2.2.2.1.slots) {k' n' : Nat} (hk' : k + M'.2.2.2.1.cells = k') (hn' : n + M'.2.2.2.1.slots = n') (kk : ∀ v I' J', q_V G M X em k' n' q L (.int v :: st) I' J' P (K v I' J')) : q_V G M X em k n pc L (av.reverse ++ st) I J P (q_b3 g K) := by
  subst e hk' hn'
  exact q_callS C hY hl hs hn hst d hR hf (fun x => kk x.1 x.2.1 x.2.2)
theorem q_callV_iIJ {g : Option (Int32 × q_I × q_J)} {K : Int32 → q_I → q_J → Option ρ} (q : Nat) (e : pc + 3 = q) {av : List Value} {o ci N : Nat} {C : String} {T : u_T} {ty : Nat → FieldType} (Ct : q_Ct X.1 G y M' (q_r G o :: av) (I, J, P) g (fun r : Int32 × q_I × q_J => (some (.int r.1), (r.2.1, r.2.2, P)))) (hY : q_Y y M' np) (hl : Cond.methodLink M.2.2.1 idx y ∈ q_gw) (hi : Cond.instanceMethod y ∈ q_gw) (hsel : Cond.selects C y y ∈ q_gw) (hc : q_C G ci C T N ty) (hk : q_kd G o = (1, ci, N, 0, 0)) (hn : av.length = np) (hst : (st.map fun v => v.category).sum ≤ 8) (d : decode M.1 pc = .ok (.invokevirtual idx, 3)) (hR : M'.2.2.2.1.frames + 1 ≤ M.2.2.2.1.frames ∧ 8 + (M'.2.1 + 11) + M'.2.2.2.1.locals ≤ M.2.2.2.1.locals) (hf : k + M'.2.2.2.1.cells ≤ M.2.2.2.1.cells ∧ n + M'.2.2.2.1.slots ≤ M.2.2.2.1.slots) {k' n' : Nat} (hk' : k + M'.2.2.2.1.cells = k') (hn' : n + M'.2.2.2.1.slots = n') (kk : ∀ v I' J', q_V G M X em k' n' q L (.int v :: st) I' J' P (K v I' J')) : q_V G M X em k n pc L (av.reverse ++ q_r G o :: st) I J P (q_b3 g K) := by
  subst e hk' hn'
  exact q_callV Ct hY hl hi hsel hc hk hn hst d hR hf (fun x => kk x.1 x.2.1 x.2.2)
theorem q_callS_iIP {g : Option (Int32 × q_I × q_P)} {K : Int32 → q_I → q_P → Option ρ} (q : Nat) (e : pc + 3 = q) {av : List Value} (C : q_Ct X.1 G y M' av (I, J, P) g (fun r : Int32 × q_I × q_P => (some (.int r.1), (r.2.1, J, r.2.2)))) (hY : q_Y y M' np) (hl : Cond.methodLink M.2.2.1 idx y ∈ q_gw) (hs : Cond.static y ∈ q_gw) (hn : av.length = np) (hst : (st.map fun v => v.category).sum ≤ 8) (d : decode M.1 pc = .ok (.invokestatic idx, 3)) (hR : M'.2.2.2.1.frames + 1 ≤ M.2.2.2.1.frames ∧ 8 + (M'.2.1 + 11) + M'.2.2.2.1.locals ≤ M.2.2.2.1.locals) (hf : k + M'.2.2.2.1.cells ≤ M.2.2.2.1.cells ∧ n + M'.2.2.2.1.slots ≤ M.2.2.2.1.slots) {k' n' : Nat} (hk' : k + M'.2.2.2.1.cells = k') (hn' : n + M'.2.2.2.1.slots = n') (kk : ∀ v I' P', q_V G M X em k' n' q L (.int v :: st) I' J P' (K v I' P')) : q_V G M X em k n pc L (av.reverse ++ st) I J P (q_b3 g K) := by
  subst e hk' hn'
  exact q_callS C hY hl hs hn hst d hR hf (fun x => kk x.1 x.2.1 x.2.2)
theorem q_callV_iIP {g : Option (Int32 × q_I × q_P)} {K : Int32 → q_I → q_P → Option ρ} (q : Nat) (e : pc + 3 = q) {av : List Value} {o ci N : Nat} {C : String} {T : u_T} {ty : Nat → FieldType} (Ct : q_Ct X.1 G y M' (q_r G o :: av) (I, J, P) g (fun r : Int32 × q_I × q_P => (some (.int r.1), (r.2.1, J, r.2.2)))) (hY : q_Y y M' np) (hl : Cond.methodLink M.2.2.1 idx y ∈ q_gw) (hi : Cond.instanceMethod y ∈ q_gw) (hsel : Cond.selects C y y ∈ q_gw) (hc : q_C G ci C T N ty) (hk : q_kd G o = (1, ci, N, 0, 0)) (hn : av.length = np) (hst : (st.map fun v => v.category).sum ≤ 8) (d : decode M.1 pc = .ok (.invokevirtual idx, 3)) (hR : M'.2.2.2.1.frames + 1 ≤ M.2.2.2.1.frames ∧ 8 + (M'.2.1 + 11) + M'.2.2.2.1.locals ≤ M.2.2.2.1.locals) (hf : k + M'.2.2.2.1.cells ≤ M.2.2.2.1.cells ∧ n + M'.2.2.2.1.slots ≤ M.2.2.2.1.slots) {k' n' : Nat} (hk' : k + M'.2.2.2.1.cells = k') (hn' : n + M'.2.2.2.1.slots = n') (kk : ∀ v I' P', q_V G M X em k' n' q L (.int v :: st) I' J P' (K v I' P')) : q_V G M X em k n pc L (av.reverse ++ q_r G o :: st) I J P (q_b3 g K) := by
  subst e hk' hn'
  exact q_callV Ct hY hl hi hsel hc hk hn hst d hR hf (fun x => kk x.1 x.2.1 x.2.2)
theorem q_callS_iJP {g : Option (Int32 × q_J × q_P)} {K : Int32 → q_J → q_P → Option ρ} (q : Nat) (e : pc + 3 = q) {av : List Value} (C : q_Ct X.1 G y M' av (I, J, P) g (fun r : Int32 × q_J × q_P => (some (.int r.1), (I, r.2.1, r.2.2)))) (hY : q_Y y M' np) (hl : Cond.methodLink M.2.2.1 idx y ∈ q_gw) (hs : Cond.static y ∈ q_gw) (hn : av.length = np) (hst : (st.map fun v => v.category).sum ≤ 8) (d : decode M.1 pc = .ok (.invokestatic idx, 3)) (hR : M'.2.2.2.1.frames + 1 ≤ M.2.2.2.1.frames ∧ 8 + (M'.2.1 + 11) + M'.2.2.2.1.locals ≤ M.2.2.2.1.locals) (hf : k + M'.2.2.2.1.cells ≤ M.2.2.2.1.cells ∧ n + M'.2.2.2.1.slots ≤ M.2.2.2.1.slots) {k' n' : Nat} (hk' : k + M'.2.2.2.1.cells = k') (hn' : n + M'.2.2.2.1.slots = n') (kk : ∀ v J' P', q_V G M X em k' n' q L (.int v :: st) I J' P' (K v J' P')) : q_V G M X em k n pc L (av.reverse ++ st) I J P (q_b3 g K) := by
  subst e hk' hn'
  exact q_callS C hY hl hs hn hst d hR hf (fun x => kk x.1 x.2.1 x.2.2)
theorem q_callV_iJP {g : Option (Int32 × q_J × q_P)} {K : Int32 → q_J → q_P → Option ρ} (q : Nat) (e : pc + 3 = q) {av : List Value} {o ci N : Nat} {C : String} {T : u_T} {ty : Nat → FieldType} (Ct : q_Ct X.1 G y M' (q_r G o :: av) (I, J, P) g (fun r : Int32 × q_J × q_P => (some (.int r.1), (I, r.2.1, r.2.2)))) (hY : q_Y y M' np) (hl : Cond.methodLink M.2.2.1 idx y ∈ q_gw) (hi : Cond.instanceMethod y ∈ q_gw) (hsel : Cond.selects C y y ∈ q_gw) (hc : q_C G ci C T N ty) (hk : q_kd G o = (1, ci, N, 0, 0)) (hn : av.length = np) (hst : (st.map fun v => v.category).sum ≤ 8) (d : decode M.1 pc = .ok (.invokevirtual idx, 3)) (hR : M'.2.2.2.1.frames + 1 ≤ M.2.2.2.1.frames ∧ 8 + (M'.2.1 + 11) + M'.2.2.2.1.locals ≤ M.2.2.2.1.locals) (hf : k + M'.2.2.2.1.cells ≤ M.2.2.2.1.cells ∧ n + M'.2.2.2.1.slots ≤ M.2.2.2.1.slots) {k' n' : Nat} (hk' : k + M'.2.2.2.1.cells = k') (hn' : n + M'.2.2.2.1.slots = n') (kk : ∀ v J' P', q_V G M X em k' n' q L (.int v :: st) I J' P' (K v J' P')) : q_V G M X em k n pc L (av.reverse ++ q_r G o :: st) I J P (q_b3 g K) := by
  subst e hk' hn'
  exact q_callV Ct hY hl hi hsel hc hk hn hst d hR hf (fun x => kk x.1 x.2.1 x.2.2)
theorem q_callS_iIJP {g : Option (Int32 × q_I × q_J × q_P)} {K : Int32 → q_I → q_J → q_P → Option ρ} (q : Nat) (e : pc + 3 = q) {av : List Value} (C : q_Ct X.1 G y M' av (I, J, P) g (fun r : Int32 × q_I × q_J × q_P => (some (.int r.1), (r.2.1, r.2.2.1, r.2.2.2)))) (hY : q_Y y M' np) (hl : Cond.methodLink M.2.2.1 idx y ∈ q_gw) (hs : Cond.static y ∈ q_gw) (hn : av.length = np) (hst : (st.map fun v => v.category).sum ≤ 8) (d : decode M.1 pc = .ok (.invokestatic idx, 3)) (hR : M'.2.2.2.1.frames + 1 ≤ M.2.2.2.1.frames ∧ 8 + (M'.2.1 + 11) + M'.2.2.2.1.locals ≤ M.2.2.2.1.locals) (hf : k + M'.2.2.2.1.cells ≤ M.2.2.2.1.cells ∧ n + M'.2.2.2.1.slots ≤ M.2.2.2.1.slots) {k' n' : Nat} (hk' : k + M'.2.2.2.1.cells = k') (hn' : n + M'.2.2.2.1.slots = n') (kk : ∀ v I' J' P', q_V G M X em k' n' q L (.int v :: st) I' J' P' (K v I' J' P')) : q_V G M X em k n pc L (av.reverse ++ st) I J P (q_b4 g K) := by
  subst e hk' hn'
  exact q_callS C hY hl hs hn hst d hR hf (fun x => kk x.1 x.2.1 x.2.2.1 x.2.2.2)
theorem q_callV_iIJP {g : Option (Int32 × q_I × q_J × q_P)} {K : Int32 → q_I → q_J → q_P → Option ρ} (q : Nat) (e : pc + 3 = q) {av : List Value} {o ci N : Nat} {C : String} {T : u_T} {ty : Nat → FieldType} (Ct : q_Ct X.1 G y M' (q_r G o :: av) (I, J, P) g (fun r : Int32 × q_I × q_J × q_P => (some (.int r.1), (r.2.1, r.2.2.1, r.2.2.2)))) (hY : q_Y y M' np) (hl : Cond.methodLink M.2.2.1 idx y ∈ q_gw) (hi : Cond.instanceMethod y ∈ q_gw) (hsel : Cond.selects C y y ∈ q_gw) (hc : q_C G ci C T N ty) (hk : q_kd G o = (1, ci, N, 0, 0)) (hn : av.length = np) (hst : (st.map fun v => v.category).sum ≤ 8) (d : decode M.1 pc = .ok (.invokevirtual idx, 3)) (hR : M'.2.2.2.1.frames + 1 ≤ M.2.2.2.1.frames ∧ 8 + (M'.2.1 + 11) + M'.2.2.2.1.locals ≤ M.2.2.2.1.locals) (hf : k + M'.2.2.2.1.cells ≤ M.2.2.2.1.cells ∧ n + M'.2.2.2.1.slots ≤ M.2.2.2.1.slots) {k' n' : Nat} (hk' : k + M'.2.2.2.1.cells = k') (hn' : n + M'.2.2.2.1.slots = n') (kk : ∀ v I' J' P', q_V G M X em k' n' q L (.int v :: st) I' J' P' (K v I' J' P')) : q_V G M X em k n pc L (av.reverse ++ q_r G o :: st) I J P (q_b4 g K) := by
  subst e hk' hn'
  exact q_callV Ct hY hl hi hsel hc hk hn hst d hR hf (fun x => kk x.1 x.2.1 x.2.2.1 x.2.2.2)
theorem q_callS_l {g : Option (Int64)} {K : Int64 → Option ρ} (q : Nat) (e : pc + 3 = q) {av : List Value} (C : q_Ct X.1 G y M' av (I, J, P) g (fun r : Int64 => (some (.long r), (I, J, P)))) (hY : q_Y y M' np) (hl : Cond.methodLink M.2.2.1 idx y ∈ q_gw) (hs : Cond.static y ∈ q_gw) (hn : av.length = np) (hst : (st.map fun v => v.category).sum ≤ 8) (d : decode M.1 pc = .ok (.invokestatic idx, 3)) (hR : M'.2.2.2.1.frames + 1 ≤ M.2.2.2.1.frames ∧ 8 + (M'.2.1 + 11) + M'.2.2.2.1.locals ≤ M.2.2.2.1.locals) (hf : k + M'.2.2.2.1.cells ≤ M.2.2.2.1.cells ∧ n + M'.2.2.2.1.slots ≤ M.2.2.2.1.slots) {k' n' : Nat} (hk' : k + M'.2.2.2.1.cells = k') (hn' : n + M'.2.2.2.1.slots = n') (kk : ∀ v, q_V G M X em k' n' q L (.long v :: st) I J P (K v)) : q_V G M X em k n pc L (av.reverse ++ st) I J P (q_b1 g K) := by
  subst e hk' hn'
  exact q_callS C hY hl hs hn hst d hR hf (fun x => kk x)
theorem q_callN_l {g : Option (Int64)} {K : Int64 → Option ρ} (q : Nat) (e : pc + 3 = q) {av : List Value} {host : String} (C : q_Ct X.1 G y M' av (I, J, P) g (fun r : Int64 => (some (.long r), (I, J, P)))) (hY : q_Y y M' np) (hl : Cond.methodLinkNest M.2.2.1 idx y host ∈ lw_tbl) (hs : Cond.static y ∈ q_gw) (hn : av.length = np) (hst : (st.map fun v => v.category).sum ≤ 8) (d : decode M.1 pc = .ok (.invokestatic idx, 3)) (hR : M'.2.2.2.1.frames + 1 ≤ M.2.2.2.1.frames ∧ 8 + (M'.2.1 + 11) + M'.2.2.2.1.locals ≤ M.2.2.2.1.locals) (hf : k + M'.2.2.2.1.cells ≤ M.2.2.2.1.cells ∧ n + M'.2.2.2.1.slots ≤ M.2.2.2.1.slots) {k' n' : Nat} (hk' : k + M'.2.2.2.1.cells = k') (hn' : n + M'.2.2.2.1.slots = n') (kk : ∀ v, q_V G M X em k' n' q L (.long v :: st) I J P (K v)) : q_V G M X em k n pc L (av.reverse ++ st) I J P (q_b1 g K) := by
  subst e hk' hn'
  exact q_callN C hY hl hs hn hst d hR hf (fun x => kk x)
theorem q_callV_l {g : Option (Int64)} {K : Int64 → Option ρ} (q : Nat) (e : pc + 3 = q) {av : List Value} {o ci N : Nat} {C : String} {T : u_T} {ty : Nat → FieldType} (Ct : q_Ct X.1 G y M' (q_r G o :: av) (I, J, P) g (fun r : Int64 => (some (.long r), (I, J, P)))) (hY : q_Y y M' np) (hl : Cond.methodLink M.2.2.1 idx y ∈ q_gw) (hi : Cond.instanceMethod y ∈ q_gw) (hsel : Cond.selects C y y ∈ q_gw) (hc : q_C G ci C T N ty) (hk : q_kd G o = (1, ci, N, 0, 0)) (hn : av.length = np) (hst : (st.map fun v => v.category).sum ≤ 8) (d : decode M.1 pc = .ok (.invokevirtual idx, 3)) (hR : M'.2.2.2.1.frames + 1 ≤ M.2.2.2.1.frames ∧ 8 + (M'.2.1 + 11) + M'.2.2.2.1.locals ≤ M.2.2.2.1.locals) (hf : k + M'.2.2.2.1.cells ≤ M.2.2.2.1.cells ∧ n + M'.2.2.2.1.slots ≤ M.2.2.2.1.slots) {k' n' : Nat} (hk' : k + M'.2.2.2.1.cells = k') (hn' : n + M'.2.2.2.1.slots = n') (kk : ∀ v, q_V G M X em k' n' q L (.long v :: st) I J P (K v)) : q_V G M X em k n pc L (av.reverse ++ q_r G o :: st) I J P (q_b1 g K) := by
  subst e hk' hn'
  exact q_callV Ct hY hl hi hsel hc hk hn hst d hR hf (fun x => kk x)
theorem q_callS_lI {g : Option (Int64 × q_I)} {K : Int64 → q_I → Option ρ} (q : Nat) (e : pc + 3 = q) {av : List Value} (C : q_Ct X.1 G y M' av (I, J, P) g (fun r : Int64 × q_I => (some (.long r.1), (r.2, J, P)))) (hY : q_Y y M' np) (hl : Cond.methodLink M.2.2.1 idx y ∈ q_gw) (hs : Cond.static y ∈ q_gw) (hn : av.length = np) (hst : (st.map fun v => v.category).sum ≤ 8) (d : decode M.1 pc = .ok (.invokestatic idx, 3)) (hR : M'.2.2.2.1.frames + 1 ≤ M.2.2.2.1.frames ∧ 8 + (M'.2.1 + 11) + M'.2.2.2.1.locals ≤ M.2.2.2.1.locals) (hf : k + M'.2.2.2.1.cells ≤ M.2.2.2.1.cells ∧ n + M'.2.2.2.1.slots ≤ M.2.2.2.1.slots) {k' n' : Nat} (hk' : k + M'.2.2.2.1.cells = k') (hn' : n + M'.2.2.2.1.slots = n') (kk : ∀ v I', q_V G M X em k' n' q L (.long v :: st) I' J P (K v I')) : q_V G M X em k n pc L (av.reverse ++ st) I J P (q_b2 g K) := by
  subst e hk' hn'
  exact q_callS C hY hl hs hn hst d hR hf (fun x => kk x.1 x.2)
theorem q_callV_lI {g : Option (Int64 × q_I)} {K : Int64 → q_I → Option ρ} (q : Nat) (e : pc + 3 = q) {av : List Value} {o ci N : Nat} {C : String} {T : u_T} {ty : Nat → FieldType} (Ct : q_Ct X.1 G y M' (q_r G o :: av) (I, J, P) g (fun r : Int64 × q_I => (some (.long r.1), (r.2, J, P)))) (hY : q_Y y M' np) (hl : Cond.methodLink M.2.2.1 idx y ∈ q_gw) (hi : Cond.instanceMethod y ∈ q_gw) (hsel : Cond.selects C y y ∈ q_gw) (hc : q_C G ci C T N ty) (hk : q_kd G o = (1, ci, N, 0, 0)) (hn : av.length = np) (hst : (st.map fun v => v.category).sum ≤ 8) (d : decode M.1 pc = .ok (.invokevirtual idx, 3)) (hR : M'.2.2.2.1.frames + 1 ≤ M.2.2.2.1.frames ∧ 8 + (M'.2.1 + 11) + M'.2.2.2.1.locals ≤ M.2.2.2.1.locals) (hf : k + M'.2.2.2.1.cells ≤ M.2.2.2.1.cells ∧ n + M'.2.2.2.1.slots ≤ M.2.2.2.1.slots) {k' n' : Nat} (hk' : k + M'.2.2.2.1.cells = k') (hn' : n + M'.2.2.2.1.slots = n') (kk : ∀ v I', q_V G M X em k' n' q L (.long v :: st) I' J P (K v I')) : q_V G M X em k n pc L (av.reverse ++ q_r G o :: st) I J P (q_b2 g K) := by
  subst e hk' hn'
  exact q_callV Ct hY hl hi hsel hc hk hn hst d hR hf (fun x => kk x.1 x.2)
theorem q_callS_lJ {g : Option (Int64 × q_J)} {K : Int64 → q_J → Option ρ} (q : Nat) (e : pc + 3 = q) {av : List Value} (C : q_Ct X.1 G y M' av (I, J, P) g (fun r : Int64 × q_J => (some (.long r.1), (I, r.2, P)))) (hY : q_Y y M' np) (hl : Cond.methodLink M.2.2.1 idx y ∈ q_gw) (hs : Cond.static y ∈ q_gw) (hn : av.length = np) (hst : (st.map fun v => v.category).sum ≤ 8) (d : decode M.1 pc = .ok (.invokestatic idx, 3)) (hR : M'.2.2.2.1.frames + 1 ≤ M.2.2.2.1.frames ∧ 8 + (M'.2.1 + 11) + M'.2.2.2.1.locals ≤ M.2.2.2.1.locals) (hf : k + M'.2.2.2.1.cells ≤ M.2.2.2.1.cells ∧ n + M'.2.2.2.1.slots ≤ M.2.2.2.1.slots) {k' n' : Nat} (hk' : k + M'.2.2.2.1.cells = k') (hn' : n + M'.2.2.2.1.slots = n') (kk : ∀ v J', q_V G M X em k' n' q L (.long v :: st) I J' P (K v J')) : q_V G M X em k n pc L (av.reverse ++ st) I J P (q_b2 g K) := by
  subst e hk' hn'
  exact q_callS C hY hl hs hn hst d hR hf (fun x => kk x.1 x.2)
theorem q_callV_lJ {g : Option (Int64 × q_J)} {K : Int64 → q_J → Option ρ} (q : Nat) (e : pc + 3 = q) {av : List Value} {o ci N : Nat} {C : String} {T : u_T} {ty : Nat → FieldType} (Ct : q_Ct X.1 G y M' (q_r G o :: av) (I, J, P) g (fun r : Int64 × q_J => (some (.long r.1), (I, r.2, P)))) (hY : q_Y y M' np) (hl : Cond.methodLink M.2.2.1 idx y ∈ q_gw) (hi : Cond.instanceMethod y ∈ q_gw) (hsel : Cond.selects C y y ∈ q_gw) (hc : q_C G ci C T N ty) (hk : q_kd G o = (1, ci, N, 0, 0)) (hn : av.length = np) (hst : (st.map fun v => v.category).sum ≤ 8) (d : decode M.1 pc = .ok (.invokevirtual idx, 3)) (hR : M'.2.2.2.1.frames + 1 ≤ M.2.2.2.1.frames ∧ 8 + (M'.2.1 + 11) + M'.2.2.2.1.locals ≤ M.2.2.2.1.locals) (hf : k + M'.2.2.2.1.cells ≤ M.2.2.2.1.cells ∧ n + M'.2.2.2.1.slots ≤ M.2.2.2.1.slots) {k' n' : Nat} (hk' : k + M'.2.2.2.1.cells = k') (hn' : n + M'.2.2.2.1.slots = n') (kk : ∀ v J', q_V G M X em k' n' q L (.long v :: st) I J' P (K v J')) : q_V G M X em k n pc L (av.reverse ++ q_r G o :: st) I J P (q_b2 g K) := by
  subst e hk' hn'
  exact q_callV Ct hY hl hi hsel hc hk hn hst d hR hf (fun x => kk x.1 x.2)
theorem q_callS_lP {g : Option (Int64 × q_P)} {K : Int64 → q_P → Option ρ} (q : Nat) (e : pc + 3 = q) {av : List Value} (C : q_Ct X.1 G y M' av (I, J, P) g (fun r : Int64 × q_P => (some (.long r.1), (I, J, r.2)))) (hY : q_Y y M' np) (hl : Cond.methodLink M.2.2.1 idx y ∈ q_gw) (hs : Cond.static y ∈ q_gw) (hn : av.length = np) (hst : (st.map fun v => v.category).sum ≤ 8) (d : decode M.1 pc = .ok (.invokestatic idx, 3)) (hR : M'.2.2.2.1.frames + 1 ≤ M.2.2.2.1.frames ∧ 8 + (M'.2.1 + 11) + M'.2.2.2.1.locals ≤ M.2.2.2.1.locals) (hf : k + M'.2.2.2.1.cells ≤ M.2.2.2.1.cells ∧ n + M'.2.2.2.1.slots ≤ M.2.2.2.1.slots) {k' n' : Nat} (hk' : k + M'.2.2.2.1.cells = k') (hn' : n + M'.2.2.2.1.slots = n') (kk : ∀ v P', q_V G M X em k' n' q L (.long v :: st) I J P' (K v P')) : q_V G M X em k n pc L (av.reverse ++ st) I J P (q_b2 g K) := by
  subst e hk' hn'
  exact q_callS C hY hl hs hn hst d hR hf (fun x => kk x.1 x.2)
theorem q_callV_lP {g : Option (Int64 × q_P)} {K : Int64 → q_P → Option ρ} (q : Nat) (e : pc + 3 = q) {av : List Value} {o ci N : Nat} {C : String} {T : u_T} {ty : Nat → FieldType} (Ct : q_Ct X.1 G y M' (q_r G o :: av) (I, J, P) g (fun r : Int64 × q_P => (some (.long r.1), (I, J, r.2)))) (hY : q_Y y M' np) (hl : Cond.methodLink M.2.2.1 idx y ∈ q_gw) (hi : Cond.instanceMethod y ∈ q_gw) (hsel : Cond.selects C y y ∈ q_gw) (hc : q_C G ci C T N ty) (hk : q_kd G o = (1, ci, N, 0, 0)) (hn : av.length = np) (hst : (st.map fun v => v.category).sum ≤ 8) (d : decode M.1 pc = .ok (.invokevirtual idx, 3)) (hR : M'.2.2.2.1.frames + 1 ≤ M.2.2.2.1.frames ∧ 8 + (M'.2.1 + 11) + M'.2.2.2.1.locals ≤ M.2.2.2.1.locals) (hf : k + M'.2.2.2.1.cells ≤ M.2.2.2.1.cells ∧ n + M'.2.2.2.1.slots ≤ M.2.2.2.1.slots) {k' n' : Nat} (hk' : k + M'.2.2.2.1.cells = k') (hn' : n + M'.2.2.2.1.slots = n') (kk : ∀ v P', q_V G M X em k' n' q L (.long v :: st) I J P' (K v P')) : q_V G M X em k n pc L (av.reverse ++ q_r G o :: st) I J P (q_b2 g K) := by
  subst e hk' hn'
  exact q_callV Ct hY hl hi hsel hc hk hn hst d hR hf (fun x => kk x.1 x.2)
theorem q_callS_lIJ {g : Option (Int64 × q_I × q_J)} {K : Int64 → q_I → q_J → Option ρ} (q : Nat) (e : pc + 3 = q) {av : List Value} (C : q_Ct X.1 G y M' av (I, J, P) g (fun r : Int64 × q_I × q_J => (some (.long r.1), (r.2.1, r.2.2, P)))) (hY : q_Y y M' np) (hl : Cond.methodLink M.2.2.1 idx y ∈ q_gw) (hs : Cond.static y ∈ q_gw) (hn : av.length = np) (hst : (st.map fun v => v.category).sum ≤ 8) (d : decode M.1 pc = .ok (.invokestatic idx, 3)) (hR : M'.2.2.2.1.frames + 1 ≤ M.2.2.2.1.frames ∧ 8 + (M'.2.1 + 11) + M'.2.2.2.1.locals ≤ M.2.2.2.1.locals) (hf : k + M'.2.2.2.1.cells ≤ M.2.2.2.1.cells ∧ n + M'.2.2.2.1.slots ≤ M.2.2.2.1.slots) {k' n' : Nat} (hk' : k + M'.2.2.2.1.cells = k') (hn' : n + M'.2.2.2.1.slots = n') (kk : ∀ v I' J', q_V G M X em k' n' q L (.long v :: st) I' J' P (K v I' J')) : q_V G M X em k n pc L (av.reverse ++ st) I J P (q_b3 g K) := by
  subst e hk' hn'
  exact q_callS C hY hl hs hn hst d hR hf (fun x => kk x.1 x.2.1 x.2.2)
theorem q_callV_lIJ {g : Option (Int64 × q_I × q_J)} {K : Int64 → q_I → q_J → Option ρ} (q : Nat) (e : pc + 3 = q) {av : List Value} {o ci N : Nat} {C : String} {T : u_T} {ty : Nat → FieldType} (Ct : q_Ct X.1 G y M' (q_r G o :: av) (I, J, P) g (fun r : Int64 × q_I × q_J => (some (.long r.1), (r.2.1, r.2.2, P)))) (hY : q_Y y M' np) (hl : Cond.methodLink M.2.2.1 idx y ∈ q_gw) (hi : Cond.instanceMethod y ∈ q_gw) (hsel : Cond.selects C y y ∈ q_gw) (hc : q_C G ci C T N ty) (hk : q_kd G o = (1, ci, N, 0, 0)) (hn : av.length = np) (hst : (st.map fun v => v.category).sum ≤ 8) (d : decode M.1 pc = .ok (.invokevirtual idx, 3)) (hR : M'.2.2.2.1.frames + 1 ≤ M.2.2.2.1.frames ∧ 8 + (M'.2.1 + 11) + M'.2.2.2.1.locals ≤ M.2.2.2.1.locals) (hf : k + M'.2.2.2.1.cells ≤ M.2.2.2.1.cells ∧ n + M'.2.2.2.1.slots ≤ M.2.2.2.1.slots) {k' n' : Nat} (hk' : k + M'.2.2.2.1.cells = k') (hn' : n + M'.2.2.2.1.slots = n') (kk : ∀ v I' J', q_V G M X em k' n' q L (.long v :: st) I' J' P (K v I' J')) : q_V G M X em k n pc L (av.reverse ++ q_r G o :: st) I J P (q_b3 g K) := by
  subst e hk' hn'
  exact q_callV Ct hY hl hi hsel hc hk hn hst d hR hf (fun x => kk x.1 x.2.1 x.2.2)
theorem q_callS_lIP {g : Option (Int64 × q_I × q_P)} {K : Int64 → q_I → q_P → Option ρ} (q : Nat) (e : pc + 3 = q) {av : List Value} (C : q_Ct X.1 G y M' av (I, J, P) g (fun r : Int64 × q_I × q_P => (some (.long r.1), (r.2.1, J, r.2.2)))) (hY : q_Y y M' np) (hl : Cond.methodLink M.2.2.1 idx y ∈ q_gw) (hs : Cond.static y ∈ q_gw) (hn : av.length = np) (hst : (st.map fun v => v.category).sum ≤ 8) (d : decode M.1 pc = .ok (.invokestatic idx, 3)) (hR : M'.2.2.2.1.frames + 1 ≤ M.2.2.2.1.frames ∧ 8 + (M'.2.1 + 11) + M'.2.2.2.1.locals ≤ M.2.2.2.1.locals) (hf : k + M'.2.2.2.1.cells ≤ M.2.2.2.1.cells ∧ n + M'.2.2.2.1.slots ≤ M.2.2.2.1.slots) {k' n' : Nat} (hk' : k + M'.2.2.2.1.cells = k') (hn' : n + M'.2.2.2.1.slots = n') (kk : ∀ v I' P', q_V G M X em k' n' q L (.long v :: st) I' J P' (K v I' P')) : q_V G M X em k n pc L (av.reverse ++ st) I J P (q_b3 g K) := by
  subst e hk' hn'
  exact q_callS C hY hl hs hn hst d hR hf (fun x => kk x.1 x.2.1 x.2.2)
theorem q_callV_lIP {g : Option (Int64 × q_I × q_P)} {K : Int64 → q_I → q_P → Option ρ} (q : Nat) (e : pc + 3 = q) {av : List Value} {o ci N : Nat} {C : String} {T : u_T} {ty : Nat → FieldType} (Ct : q_Ct X.1 G y M' (q_r G o :: av) (I, J, P) g (fun r : Int64 × q_I × q_P => (some (.long r.1), (r.2.1, J, r.2.2)))) (hY : q_Y y M' np) (hl : Cond.methodLink M.2.2.1 idx y ∈ q_gw) (hi : Cond.instanceMethod y ∈ q_gw) (hsel : Cond.selects C y y ∈ q_gw) (hc : q_C G ci C T N ty) (hk : q_kd G o = (1, ci, N, 0, 0)) (hn : av.length = np) (hst : (st.map fun v => v.category).sum ≤ 8) (d : decode M.1 pc = .ok (.invokevirtual idx, 3)) (hR : M'.2.2.2.1.frames + 1 ≤ M.2.2.2.1.frames ∧ 8 + (M'.2.1 + 11) + M'.2.2.2.1.locals ≤ M.2.2.2.1.locals) (hf : k + M'.2.2.2.1.cells ≤ M.2.2.2.1.cells ∧ n + M'.2.2.2.1.slots ≤ M.2.2.2.1.slots) {k' n' : Nat} (hk' : k + M'.2.2.2.1.cells = k') (hn' : n + M'.2.2.2.1.slots = n') (kk : ∀ v I' P', q_V G M X em k' n' q L (.long v :: st) I' J P' (K v I' P')) : q_V G M X em k n pc L (av.reverse ++ q_r G o :: st) I J P (q_b3 g K) := by
  subst e hk' hn'
  exact q_callV Ct hY hl hi hsel hc hk hn hst d hR hf (fun x => kk x.1 x.2.1 x.2.2)
theorem q_callS_lIJP {g : Option (Int64 × q_I × q_J × q_P)} {K : Int64 → q_I → q_J → q_P → Option ρ} (q : Nat) (e : pc + 3 = q) {av : List Value} (C : q_Ct X.1 G y M' av (I, J, P) g (fun r : Int64 × q_I × q_J × q_P => (some (.long r.1), (r.2.1, r.2.2.1, r.2.2.2)))) (hY : q_Y y M' np) (hl : Cond.methodLink M.2.2.1 idx y ∈ q_gw) (hs : Cond.static y ∈ q_gw) (hn : av.length = np) (hst : (st.map fun v => v.category).sum ≤ 8) (d : decode M.1 pc = .ok (.invokestatic idx, 3)) (hR : M'.2.2.2.1.frames + 1 ≤ M.2.2.2.1.frames ∧ 8 + (M'.2.1 + 11) + M'.2.2.2.1.locals ≤ M.2.2.2.1.locals) (hf : k + M'.2.2.2.1.cells ≤ M.2.2.2.1.cells ∧ n + M'.2.2.2.1.slots ≤ M.2.2.2.1.slots) {k' n' : Nat} (hk' : k + M'.2.2.2.1.cells = k') (hn' : n + M'.2.2.2.1.slots = n') (kk : ∀ v I' J' P', q_V G M X em k' n' q L (.long v :: st) I' J' P' (K v I' J' P')) : q_V G M X em k n pc L (av.reverse ++ st) I J P (q_b4 g K) := by
  subst e hk' hn'
  exact q_callS C hY hl hs hn hst d hR hf (fun x => kk x.1 x.2.1 x.2.2.1 x.2.2.2)
theorem q_callV_lIJP {g : Option (Int64 × q_I × q_J × q_P)} {K : Int64 → q_I → q_J → q_P → Option ρ} (q : Nat) (e : pc + 3 = q) {av : List Value} {o ci N : Nat} {C : String} {T : u_T} {ty : Nat → FieldType} (Ct : q_Ct X.1 G y M' (q_r G o :: av) (I, J, P) g (fun r : Int64 × q_I × q_J × q_P => (some (.long r.1), (r.2.1, r.2.2.1, r.2.2.2)))) (hY : q_Y y M' np) (hl : Cond.methodLink M.2.2.1 idx y ∈ q_gw) (hi : Cond.instanceMethod y ∈ q_gw) (hsel : Cond.selects C y y ∈ q_gw) (hc : q_C G ci C T N ty) (hk : q_kd G o = (1, ci, N, 0, 0)) (hn : av.length = np) (hst : (st.map fun v => v.category).sum ≤ 8) (d : decode M.1 pc = .ok (.invokevirtual idx, 3)) (hR : M'.2.2.2.1.frames + 1 ≤ M.2.2.2.1.frames ∧ 8 + (M'.2.1 + 11) + M'.2.2.2.1.locals ≤ M.2.2.2.1.locals) (hf : k + M'.2.2.2.1.cells ≤ M.2.2.2.1.cells ∧ n + M'.2.2.2.1.slots ≤ M.2.2.2.1.slots) {k' n' : Nat} (hk' : k + M'.2.2.2.1.cells = k') (hn' : n + M'.2.2.2.1.slots = n') (kk : ∀ v I' J' P', q_V G M X em k' n' q L (.long v :: st) I' J' P' (K v I' J' P')) : q_V G M X em k n pc L (av.reverse ++ q_r G o :: st) I J P (q_b4 g K) := by
  subst e hk' hn'
  exact q_callV Ct hY hl hi hsel hc hk hn hst d hR hf (fun x => kk x.1 x.2.1 x.2.2.1 x.2.2.2)
theorem q_callS_q {g : Option (Option Nat)} {K : (Option Nat) → Option ρ} (q : Nat) (e : pc + 3 = q) {av : List Value} (C : q_Ct X.1 G y M' av (I, J, P) g (fun r : Option Nat => (some (q_rn G r), (I, J, P)))) (hY : q_Y y M' np) (hl : Cond.methodLink M.2.2.1 idx y ∈ q_gw) (hs : Cond.static y ∈ q_gw) (hn : av.length = np) (hst : (st.map fun v => v.category).sum ≤ 8) (d : decode M.1 pc = .ok (.invokestatic idx, 3)) (hR : M'.2.2.2.1.frames + 1 ≤ M.2.2.2.1.frames ∧ 8 + (M'.2.1 + 11) + M'.2.2.2.1.locals ≤ M.2.2.2.1.locals) (hf : k + M'.2.2.2.1.cells ≤ M.2.2.2.1.cells ∧ n + M'.2.2.2.1.slots ≤ M.2.2.2.1.slots) {k' n' : Nat} (hk' : k + M'.2.2.2.1.cells = k') (hn' : n + M'.2.2.2.1.slots = n') (kk : ∀ v, q_V G M X em k' n' q L (q_rn G v :: st) I J P (K v)) : q_V G M X em k n pc L (av.reverse ++ st) I J P (q_b1 g K) := by
  subst e hk' hn'
  exact q_callS C hY hl hs hn hst d hR hf (fun x => kk x)
theorem q_callN_q {g : Option (Option Nat)} {K : (Option Nat) → Option ρ} (q : Nat) (e : pc + 3 = q) {av : List Value} {host : String} (C : q_Ct X.1 G y M' av (I, J, P) g (fun r : Option Nat => (some (q_rn G r), (I, J, P)))) (hY : q_Y y M' np) (hl : Cond.methodLinkNest M.2.2.1 idx y host ∈ lw_tbl) (hs : Cond.static y ∈ q_gw) (hn : av.length = np) (hst : (st.map fun v => v.category).sum ≤ 8) (d : decode M.1 pc = .ok (.invokestatic idx, 3)) (hR : M'.2.2.2.1.frames + 1 ≤ M.2.2.2.1.frames ∧ 8 + (M'.2.1 + 11) + M'.2.2.2.1.locals ≤ M.2.2.2.1.locals) (hf : k + M'.2.2.2.1.cells ≤ M.2.2.2.1.cells ∧ n + M'.2.2.2.1.slots ≤ M.2.2.2.1.slots) {k' n' : Nat} (hk' : k + M'.2.2.2.1.cells = k') (hn' : n + M'.2.2.2.1.slots = n') (kk : ∀ v, q_V G M X em k' n' q L (q_rn G v :: st) I J P (K v)) : q_V G M X em k n pc L (av.reverse ++ st) I J P (q_b1 g K) := by
  subst e hk' hn'
  exact q_callN C hY hl hs hn hst d hR hf (fun x => kk x)
theorem q_callV_q {g : Option (Option Nat)} {K : (Option Nat) → Option ρ} (q : Nat) (e : pc + 3 = q) {av : List Value} {o ci N : Nat} {C : String} {T : u_T} {ty : Nat → FieldType} (Ct : q_Ct X.1 G y M' (q_r G o :: av) (I, J, P) g (fun r : Option Nat => (some (q_rn G r), (I, J, P)))) (hY : q_Y y M' np) (hl : Cond.methodLink M.2.2.1 idx y ∈ q_gw) (hi : Cond.instanceMethod y ∈ q_gw) (hsel : Cond.selects C y y ∈ q_gw) (hc : q_C G ci C T N ty) (hk : q_kd G o = (1, ci, N, 0, 0)) (hn : av.length = np) (hst : (st.map fun v => v.category).sum ≤ 8) (d : decode M.1 pc = .ok (.invokevirtual idx, 3)) (hR : M'.2.2.2.1.frames + 1 ≤ M.2.2.2.1.frames ∧ 8 + (M'.2.1 + 11) + M'.2.2.2.1.locals ≤ M.2.2.2.1.locals) (hf : k + M'.2.2.2.1.cells ≤ M.2.2.2.1.cells ∧ n + M'.2.2.2.1.slots ≤ M.2.2.2.1.slots) {k' n' : Nat} (hk' : k + M'.2.2.2.1.cells = k') (hn' : n + M'.2.2.2.1.slots = n') (kk : ∀ v, q_V G M X em k' n' q L (q_rn G v :: st) I J P (K v)) : q_V G M X em k n pc L (av.reverse ++ q_r G o :: st) I J P (q_b1 g K) := by
  subst e hk' hn'
  exact q_callV Ct hY hl hi hsel hc hk hn hst d hR hf (fun x => kk x)
theorem q_callS_qI {g : Option (Option Nat × q_I)} {K : (Option Nat) → q_I → Option ρ} (q : Nat) (e : pc + 3 = q) {av : List Value} (C : q_Ct X.1 G y M' av (I, J, P) g (fun r : Option Nat × q_I => (some (q_rn G r.1), (r.2, J, P)))) (hY : q_Y y M' np) (hl : Cond.methodLink M.2.2.1 idx y ∈ q_gw) (hs : Cond.static y ∈ q_gw) (hn : av.length = np) (hst : (st.map fun v => v.category).sum ≤ 8) (d : decode M.1 pc = .ok (.invokestatic idx, 3)) (hR : M'.2.2.2.1.frames + 1 ≤ M.2.2.2.1.frames ∧ 8 + (M'.2.1 + 11) + M'.2.2.2.1.locals ≤ M.2.2.2.1.locals) (hf : k + M'.2.2.2.1.cells ≤ M.2.2.2.1.cells ∧ n + M'.2.2.2.1.slots ≤ M.2.2.2.1.slots) {k' n' : Nat} (hk' : k + M'.2.2.2.1.cells = k') (hn' : n + M'.2.2.2.1.slots = n') (kk : ∀ v I', q_V G M X em k' n' q L (q_rn G v :: st) I' J P (K v I')) : q_V G M X em k n pc L (av.reverse ++ st) I J P (q_b2 g K) := by
  subst e hk' hn'
  exact q_callS C hY hl hs hn hst d hR hf (fun x => kk x.1 x.2)
theorem q_callV_qI {g : Option (Option Nat × q_I)} {K : (Option Nat) → q_I → Option ρ} (q : Nat) (e : pc + 3 = q) {av : List Value} {o ci N : Nat} {C : String} {T : u_T} {ty : Nat → FieldType} (Ct : q_Ct X.1 G y M' (q_r G o :: av) (I, J, P) g (fun r : Option Nat × q_I => (some (q_rn G r.1), (r.2, J, P)))) (hY : q_Y y M' np) (hl : Cond.methodLink M.2.2.1 idx y ∈ q_gw) (hi : Cond.instanceMethod y ∈ q_gw) (hsel : Cond.selects C y y ∈ q_gw) (hc : q_C G ci C T N ty) (hk : q_kd G o = (1, ci, N, 0, 0)) (hn : av.length = np) (hst : (st.map fun v => v.category).sum ≤ 8) (d : decode M.1 pc = .ok (.invokevirtual idx, 3)) (hR : M'.2.2.2.1.frames + 1 ≤ M.2.2.2.1.frames ∧ 8 + (M'.2.1 + 11) + M'.2.2.2.1.locals ≤ M.2.2.2.1.locals) (hf : k + M'.2.2.2.1.cells ≤ M.2.2.2.1.cells ∧ n + M'.2.2.2.1.slots ≤ M.2.2.2.1.slots) {k' n' : Nat} (hk' : k + M'.2.2.2.1.cells = k') (hn' : n + M'.2.2.2.1.slots = n') (kk : ∀ v I', q_V G M X em k' n' q L (q_rn G v :: st) I' J P (K v I')) : q_V G M X em k n pc L (av.reverse ++ q_r G o :: st) I J P (q_b2 g K) := by
  subst e hk' hn'
  exact q_callV Ct hY hl hi hsel hc hk hn hst d hR hf (fun x => kk x.1 x.2)
theorem q_callS_qJ {g : Option (Option Nat × q_J)} {K : (Option Nat) → q_J → Option ρ} (q : Nat) (e : pc + 3 = q) {av : List Value} (C : q_Ct X.1 G y M' av (I, J, P) g (fun r : Option Nat × q_J => (some (q_rn G r.1), (I, r.2, P)))) (hY : q_Y y M' np) (hl : Cond.methodLink M.2.2.1 idx y ∈ q_gw) (hs : Cond.static y ∈ q_gw) (hn : av.length = np) (hst : (st.map fun v => v.category).sum ≤ 8) (d : decode M.1 pc = .ok (.invokestatic idx, 3)) (hR : M'.2.2.2.1.frames + 1 ≤ M.2.2.2.1.frames ∧ 8 + (M'.2.1 + 11) + M'.2.2.2.1.locals ≤ M.2.2.2.1.locals) (hf : k + M'.2.2.2.1.cells ≤ M.2.2.2.1.cells ∧ n + M'.2.2.2.1.slots ≤ M.2.2.2.1.slots) {k' n' : Nat} (hk' : k + M'.2.2.2.1.cells = k') (hn' : n + M'.2.2.2.1.slots = n') (kk : ∀ v J', q_V G M X em k' n' q L (q_rn G v :: st) I J' P (K v J')) : q_V G M X em k n pc L (av.reverse ++ st) I J P (q_b2 g K) := by
  subst e hk' hn'
  exact q_callS C hY hl hs hn hst d hR hf (fun x => kk x.1 x.2)
theorem q_callV_qJ {g : Option (Option Nat × q_J)} {K : (Option Nat) → q_J → Option ρ} (q : Nat) (e : pc + 3 = q) {av : List Value} {o ci N : Nat} {C : String} {T : u_T} {ty : Nat → FieldType} (Ct : q_Ct X.1 G y M' (q_r G o :: av) (I, J, P) g (fun r : Option Nat × q_J => (some (q_rn G r.1), (I, r.2, P)))) (hY : q_Y y M' np) (hl : Cond.methodLink M.2.2.1 idx y ∈ q_gw) (hi : Cond.instanceMethod y ∈ q_gw) (hsel : Cond.selects C y y ∈ q_gw) (hc : q_C G ci C T N ty) (hk : q_kd G o = (1, ci, N, 0, 0)) (hn : av.length = np) (hst : (st.map fun v => v.category).sum ≤ 8) (d : decode M.1 pc = .ok (.invokevirtual idx, 3)) (hR : M'.2.2.2.1.frames + 1 ≤ M.2.2.2.1.frames ∧ 8 + (M'.2.1 + 11) + M'.2.2.2.1.locals ≤ M.2.2.2.1.locals) (hf : k + M'.2.2.2.1.cells ≤ M.2.2.2.1.cells ∧ n + M'.2.2.2.1.slots ≤ M.2.2.2.1.slots) {k' n' : Nat} (hk' : k + M'.2.2.2.1.cells = k') (hn' : n + M'.2.2.2.1.slots = n') (kk : ∀ v J', q_V G M X em k' n' q L (q_rn G v :: st) I J' P (K v J')) : q_V G M X em k n pc L (av.reverse ++ q_r G o :: st) I J P (q_b2 g K) := by
  subst e hk' hn'
  exact q_callV Ct hY hl hi hsel hc hk hn hst d hR hf (fun x => kk x.1 x.2)
theorem q_callS_qP {g : Option (Option Nat × q_P)} {K : (Option Nat) → q_P → Option ρ} (q : Nat) (e : pc + 3 = q) {av : List Value} (C : q_Ct X.1 G y M' av (I, J, P) g (fun r : Option Nat × q_P => (some (q_rn G r.1), (I, J, r.2)))) (hY : q_Y y M' np) (hl : Cond.methodLink M.2.2.1 idx y ∈ q_gw) (hs : Cond.static y ∈ q_gw) (hn : av.length = np) (hst : (st.map fun v => v.category).sum ≤ 8) (d : decode M.1 pc = .ok (.invokestatic idx, 3)) (hR : M'.2.2.2.1.frames + 1 ≤ M.2.2.2.1.frames ∧ 8 + (M'.2.1 + 11) + M'.2.2.2.1.locals ≤ M.2.2.2.1.locals) (hf : k + M'.2.2.2.1.cells ≤ M.2.2.2.1.cells ∧ n + M'.2.2.2.1.slots ≤ M.2.2.2.1.slots) {k' n' : Nat} (hk' : k + M'.2.2.2.1.cells = k') (hn' : n + M'.2.2.2.1.slots = n') (kk : ∀ v P', q_V G M X em k' n' q L (q_rn G v :: st) I J P' (K v P')) : q_V G M X em k n pc L (av.reverse ++ st) I J P (q_b2 g K) := by
  subst e hk' hn'
  exact q_callS C hY hl hs hn hst d hR hf (fun x => kk x.1 x.2)
theorem q_callV_qP {g : Option (Option Nat × q_P)} {K : (Option Nat) → q_P → Option ρ} (q : Nat) (e : pc + 3 = q) {av : List Value} {o ci N : Nat} {C : String} {T : u_T} {ty : Nat → FieldType} (Ct : q_Ct X.1 G y M' (q_r G o :: av) (I, J, P) g (fun r : Option Nat × q_P => (some (q_rn G r.1), (I, J, r.2)))) (hY : q_Y y M' np) (hl : Cond.methodLink M.2.2.1 idx y ∈ q_gw) (hi : Cond.instanceMethod y ∈ q_gw) (hsel : Cond.selects C y y ∈ q_gw) (hc : q_C G ci C T N ty) (hk : q_kd G o = (1, ci, N, 0, 0)) (hn : av.length = np) (hst : (st.map fun v => v.category).sum ≤ 8) (d : decode M.1 pc = .ok (.invokevirtual idx, 3)) (hR : M'.2.2.2.1.frames + 1 ≤ M.2.2.2.1.frames ∧ 8 + (M'.2.1 + 11) + M'.2.2.2.1.locals ≤ M.2.2.2.1.locals) (hf : k + M'.2.2.2.1.cells ≤ M.2.2.2.1.cells ∧ n + M'.2.2.2.1.slots ≤ M.2.2.2.1.slots) {k' n' : Nat} (hk' : k + M'.2.2.2.1.cells = k') (hn' : n + M'.2.2.2.1.slots = n') (kk : ∀ v P', q_V G M X em k' n' q L (q_rn G v :: st) I J P' (K v P')) : q_V G M X em k n pc L (av.reverse ++ q_r G o :: st) I J P (q_b2 g K) := by
  subst e hk' hn'
  exact q_callV Ct hY hl hi hsel hc hk hn hst d hR hf (fun x => kk x.1 x.2)
theorem q_callS_qIJ {g : Option (Option Nat × q_I × q_J)} {K : (Option Nat) → q_I → q_J → Option ρ} (q : Nat) (e : pc + 3 = q) {av : List Value} (C : q_Ct X.1 G y M' av (I, J, P) g (fun r : Option Nat × q_I × q_J => (some (q_rn G r.1), (r.2.1, r.2.2, P)))) (hY : q_Y y M' np) (hl : Cond.methodLink M.2.2.1 idx y ∈ q_gw) (hs : Cond.static y ∈ q_gw) (hn : av.length = np) (hst : (st.map fun v => v.category).sum ≤ 8) (d : decode M.1 pc = .ok (.invokestatic idx, 3)) (hR : M'.2.2.2.1.frames + 1 ≤ M.2.2.2.1.frames ∧ 8 + (M'.2.1 + 11) + M'.2.2.2.1.locals ≤ M.2.2.2.1.locals) (hf : k + M'.2.2.2.1.cells ≤ M.2.2.2.1.cells ∧ n + M'.2.2.2.1.slots ≤ M.2.2.2.1.slots) {k' n' : Nat} (hk' : k + M'.2.2.2.1.cells = k') (hn' : n + M'.2.2.2.1.slots = n') (kk : ∀ v I' J', q_V G M X em k' n' q L (q_rn G v :: st) I' J' P (K v I' J')) : q_V G M X em k n pc L (av.reverse ++ st) I J P (q_b3 g K) := by
  subst e hk' hn'
  exact q_callS C hY hl hs hn hst d hR hf (fun x => kk x.1 x.2.1 x.2.2)
theorem q_callV_qIJ {g : Option (Option Nat × q_I × q_J)} {K : (Option Nat) → q_I → q_J → Option ρ} (q : Nat) (e : pc + 3 = q) {av : List Value} {o ci N : Nat} {C : String} {T : u_T} {ty : Nat → FieldType} (Ct : q_Ct X.1 G y M' (q_r G o :: av) (I, J, P) g (fun r : Option Nat × q_I × q_J => (some (q_rn G r.1), (r.2.1, r.2.2, P)))) (hY : q_Y y M' np) (hl : Cond.methodLink M.2.2.1 idx y ∈ q_gw) (hi : Cond.instanceMethod y ∈ q_gw) (hsel : Cond.selects C y y ∈ q_gw) (hc : q_C G ci C T N ty) (hk : q_kd G o = (1, ci, N, 0, 0)) (hn : av.length = np) (hst : (st.map fun v => v.category).sum ≤ 8) (d : decode M.1 pc = .ok (.invokevirtual idx, 3)) (hR : M'.2.2.2.1.frames + 1 ≤ M.2.2.2.1.frames ∧ 8 + (M'.2.1 + 11) + M'.2.2.2.1.locals ≤ M.2.2.2.1.locals) (hf : k + M'.2.2.2.1.cells ≤ M.2.2.2.1.cells ∧ n + M'.2.2.2.1.slots ≤ M.2.2.2.1.slots) {k' n' : Nat} (hk' : k + M'.2.2.2.1.cells = k') (hn' : n + M'.2.2.2.1.slots = n') (kk : ∀ v I' J', q_V G M X em k' n' q L (q_rn G v :: st) I' J' P (K v I' J')) : q_V G M X em k n pc L (av.reverse ++ q_r G o :: st) I J P (q_b3 g K) := by
  subst e hk' hn'
  exact q_callV Ct hY hl hi hsel hc hk hn hst d hR hf (fun x => kk x.1 x.2.1 x.2.2)
theorem q_callS_qIP {g : Option (Option Nat × q_I × q_P)} {K : (Option Nat) → q_I → q_P → Option ρ} (q : Nat) (e : pc + 3 = q) {av : List Value} (C : q_Ct X.1 G y M' av (I, J, P) g (fun r : Option Nat × q_I × q_P => (some (q_rn G r.1), (r.2.1, J, r.2.2)))) (hY : q_Y y M' np) (hl : Cond.methodLink M.2.2.1 idx y ∈ q_gw) (hs : Cond.static y ∈ q_gw) (hn : av.length = np) (hst : (st.map fun v => v.category).sum ≤ 8) (d : decode M.1 pc = .ok (.invokestatic idx, 3)) (hR : M'.2.2.2.1.frames + 1 ≤ M.2.2.2.1.frames ∧ 8 + (M'.2.1 + 11) + M'.2.2.2.1.locals ≤ M.2.2.2.1.locals) (hf : k + M'.2.2.2.1.cells ≤ M.2.2.2.1.cells ∧ n + M'.2.2.2.1.slots ≤ M.2.2.2.1.slots) {k' n' : Nat} (hk' : k + M'.2.2.2.1.cells = k') (hn' : n + M'.2.2.2.1.slots = n') (kk : ∀ v I' P', q_V G M X em k' n' q L (q_rn G v :: st) I' J P' (K v I' P')) : q_V G M X em k n pc L (av.reverse ++ st) I J P (q_b3 g K) := by
  subst e hk' hn'
  exact q_callS C hY hl hs hn hst d hR hf (fun x => kk x.1 x.2.1 x.2.2)
theorem q_callV_qIP {g : Option (Option Nat × q_I × q_P)} {K : (Option Nat) → q_I → q_P → Option ρ} (q : Nat) (e : pc + 3 = q) {av : List Value} {o ci N : Nat} {C : String} {T : u_T} {ty : Nat → FieldType} (Ct : q_Ct X.1 G y M' (q_r G o :: av) (I, J, P) g (fun r : Option Nat × q_I × q_P => (some (q_rn G r.1), (r.2.1, J, r.2.2)))) (hY : q_Y y M' np) (hl : Cond.methodLink M.2.2.1 idx y ∈ q_gw) (hi : Cond.instanceMethod y ∈ q_gw) (hsel : Cond.selects C y y ∈ q_gw) (hc : q_C G ci C T N ty) (hk : q_kd G o = (1, ci, N, 0, 0)) (hn : av.length = np) (hst : (st.map fun v => v.category).sum ≤ 8) (d : decode M.1 pc = .ok (.invokevirtual idx, 3)) (hR : M'.2.2.2.1.frames + 1 ≤ M.2.2.2.1.frames ∧ 8 + (M'.2.1 + 11) + M'.2.2.2.1.locals ≤ M.2.2.2.1.locals) (hf : k + M'.2.2.2.1.cells ≤ M.2.2.2.1.cells ∧ n + M'.2.2.2.1.slots ≤ M.2.2.2.1.slots) {k' n' : Nat} (hk' : k + M'.2.2.2.1.cells = k') (hn' : n + M'.2.2.2.1.slots = n') (kk : ∀ v I' P', q_V G M X em k' n' q L (q_rn G v :: st) I' J P' (K v I' P')) : q_V G M X em k n pc L (av.reverse ++ q_r G o :: st) I J P (q_b3 g K) := by
  subst e hk' hn'
  exact q_callV Ct hY hl hi hsel hc hk hn hst d hR hf (fun x => kk x.1 x.2.1 x.2.2)
theorem q_callS_qJP {g : Option (Option Nat × q_J × q_P)} {K : (Option Nat) → q_J → q_P → Option ρ} (q : Nat) (e : pc + 3 = q) {av : List Value} (C : q_Ct X.1 G y M' av (I, J, P) g (fun r : Option Nat × q_J × q_P => (some (q_rn G r.1), (I, r.2.1, r.2.2)))) (hY : q_Y y M' np) (hl : Cond.methodLink M.2.2.1 idx y ∈ q_gw) (hs : Cond.static y ∈ q_gw) (hn : av.length = np) (hst : (st.map fun v => v.category).sum ≤ 8) (d : decode M.1 pc = .ok (.invokestatic idx, 3)) (hR : M'.2.2.2.1.frames + 1 ≤ M.2.2.2.1.frames ∧ 8 + (M'.2.1 + 11) + M'.2.2.2.1.locals ≤ M.2.2.2.1.locals) (hf : k + M'.2.2.2.1.cells ≤ M.2.2.2.1.cells ∧ n + M'.2.2.2.1.slots ≤ M.2.2.2.1.slots) {k' n' : Nat} (hk' : k + M'.2.2.2.1.cells = k') (hn' : n + M'.2.2.2.1.slots = n') (kk : ∀ v J' P', q_V G M X em k' n' q L (q_rn G v :: st) I J' P' (K v J' P')) : q_V G M X em k n pc L (av.reverse ++ st) I J P (q_b3 g K) := by
  subst e hk' hn'
  exact q_callS C hY hl hs hn hst d hR hf (fun x => kk x.1 x.2.1 x.2.2)
theorem q_callV_qJP {g : Option (Option Nat × q_J × q_P)} {K : (Option Nat) → q_J → q_P → Option ρ} (q : Nat) (e : pc + 3 = q) {av : List Value} {o ci N : Nat} {C : String} {T : u_T} {ty : Nat → FieldType} (Ct : q_Ct X.1 G y M' (q_r G o :: av) (I, J, P) g (fun r : Option Nat × q_J × q_P => (some (q_rn G r.1), (I, r.2.1, r.2.2)))) (hY : q_Y y M' np) (hl : Cond.methodLink M.2.2.1 idx y ∈ q_gw) (hi : Cond.instanceMethod y ∈ q_gw) (hsel : Cond.selects C y y ∈ q_gw) (hc : q_C G ci C T N ty) (hk : q_kd G o = (1, ci, N, 0, 0)) (hn : av.length = np) (hst : (st.map fun v => v.category).sum ≤ 8) (d : decode M.1 pc = .ok (.invokevirtual idx, 3)) (hR : M'.2.2.2.1.frames + 1 ≤ M.2.2.2.1.frames ∧ 8 + (M'.2.1 + 11) + M'.2.2.2.1.locals ≤ M.2.2.2.1.locals) (hf : k + M'.2.2.2.1.cells ≤ M.2.2.2.1.cells ∧ n + M'.2.2.2.1.slots ≤ M.2.2.2.1.slots) {k' n' : Nat} (hk' : k + M'.2.2.2.1.cells = k') (hn' : n + M'.2.2.2.1.slots = n') (kk : ∀ v J' P', q_V G M X em k' n' q L (q_rn G v :: st) I J' P' (K v J' P')) : q_V G M X em k n pc L (av.reverse ++ q_r G o :: st) I J P (q_b3 g K) := by
  subst e hk' hn'
  exact q_callV Ct hY hl hi hsel hc hk hn hst d hR hf (fun x => kk x.1 x.2.1 x.2.2)
theorem q_callS_qIJP {g : Option (Option Nat × q_I × q_J × q_P)} {K : (Option Nat) → q_I → q_J → q_P → Option ρ} (q : Nat) (e : pc + 3 = q) {av : List Value} (C : q_Ct X.1 G y M' av (I, J, P) g (fun r : Option Nat × q_I × q_J × q_P => (some (q_rn G r.1), (r.2.1, r.2.2.1, r.2.2.2)))) (hY : q_Y y M' np) (hl : Cond.methodLink M.2.2.1 idx y ∈ q_gw) (hs : Cond.static y ∈ q_gw) (hn : av.length = np) (hst : (st.map fun v => v.category).sum ≤ 8) (d : decode M.1 pc = .ok (.invokestatic idx, 3)) (hR : M'.2.2.2.1.frames + 1 ≤ M.2.2.2.1.frames ∧ 8 + (M'.2.1 + 11) + M'.2.2.2.1.locals ≤ M.2.2.2.1.locals) (hf : k + M'.2.2.2.1.cells ≤ M.2.2.2.1.cells ∧ n + M'.2.2.2.1.slots ≤ M.2.2.2.1.slots) {k' n' : Nat} (hk' : k + M'.2.2.2.1.cells = k') (hn' : n + M'.2.2.2.1.slots = n') (kk : ∀ v I' J' P', q_V G M X em k' n' q L (q_rn G v :: st) I' J' P' (K v I' J' P')) : q_V G M X em k n pc L (av.reverse ++ st) I J P (q_b4 g K) := by
  subst e hk' hn'
  exact q_callS C hY hl hs hn hst d hR hf (fun x => kk x.1 x.2.1 x.2.2.1 x.2.2.2)
theorem q_callV_qIJP {g : Option (Option Nat × q_I × q_J × q_P)} {K : (Option Nat) → q_I → q_J → q_P → Option ρ} (q : Nat) (e : pc + 3 = q) {av : List Value} {o ci N : Nat} {C : String} {T : u_T} {ty : Nat → FieldType} (Ct : q_Ct X.1 G y M' (q_r G o :: av) (I, J, P) g (fun r : Option Nat × q_I × q_J × q_P => (some (q_rn G r.1), (r.2.1, r.2.2.1, r.2.2.2)))) (hY : q_Y y M' np) (hl : Cond.methodLink M.2.2.1 idx y ∈ q_gw) (hi : Cond.instanceMethod y ∈ q_gw) (hsel : Cond.selects C y y ∈ q_gw) (hc : q_C G ci C T N ty) (hk : q_kd G o = (1, ci, N, 0, 0)) (hn : av.length = np) (hst : (st.map fun v => v.category).sum ≤ 8) (d : decode M.1 pc = .ok (.invokevirtual idx, 3)) (hR : M'.2.2.2.1.frames + 1 ≤ M.2.2.2.1.frames ∧ 8 + (M'.2.1 + 11) + M'.2.2.2.1.locals ≤ M.2.2.2.1.locals) (hf : k + M'.2.2.2.1.cells ≤ M.2.2.2.1.cells ∧ n + M'.2.2.2.1.slots ≤ M.2.2.2.1.slots) {k' n' : Nat} (hk' : k + M'.2.2.2.1.cells = k') (hn' : n + M'.2.2.2.1.slots = n') (kk : ∀ v I' J' P', q_V G M X em k' n' q L (q_rn G v :: st) I' J' P' (K v I' J' P')) : q_V G M X em k n pc L (av.reverse ++ q_r G o :: st) I J P (q_b4 g K) := by
  subst e hk' hn'
  exact q_callV Ct hY hl hi hsel hc hk hn hst d hR hf (fun x => kk x.1 x.2.1 x.2.2.1 x.2.2.2)
end QE
end
section
section QJ
variable {ρ : Type} {G : q_G} {M : q_M} {X : q_X} {em : ρ → Option Value × q_S} {k n pc : Nat} {L : List (Nat × Value)} {st : List Value} {I : q_I} {J : q_J} {P : q_P}
theorem q_rn_cat {G : q_G} {x : Option Nat} : (q_rn G x).category = 1 := by cases x <;> rfl
def q_jj {κ ρ : Type} (K : κ) (F : κ → Option ρ) : Option ρ := F K
theorem q_jj0 {K : Option ρ} {F : (Option ρ) → Option ρ} (pj : Nat) (Lj : List (Nat × Value)) (sj : List Value) (Ij : q_I) (Jj : q_J) (Pj : q_P) (hJ : q_V G M X em k n pj (Lj) (sj) (Ij) (Jj) (Pj) (K)) (w : ∀ j : Option ρ, (q_V G M X em k n pj (Lj) (sj) (Ij) (Jj) (Pj) (j)) → q_V G M X em k n pc L st I J P (F j)) : q_V G M X em k n pc L st I J P (q_jj K F) := w K hJ
theorem q_jn0 {R : Option (Unit)} {K : Unit → Option ρ} (pj : Nat) (Lj : List (Nat × Value)) (sj : List Value) (Ij : q_I) (Jj : q_J) (Pj : q_P) (R' : ((Unit) → Option ρ) → Option ρ) (hR : ∀ j : (Unit) → Option ρ, q_b1 R j = R' j) (hJ : q_V G M X em k n pj (Lj) (sj) (Ij) (Jj) (Pj) (K ())) (w : ∀ j : (Unit) → Option ρ, (q_V G M X em k n pj (Lj) (sj) (Ij) (Jj) (Pj) (j ())) → q_V G M X em k n pc L st I J P (R' j)) : q_V G M X em k n pc L st I J P (q_b1 R K) := by
  show q_V G M X em k n pc L st I J P (q_b1 R K)
  rw [hR]
  exact w _ (hJ)
theorem q_jj1 {A0 : Type} {K : A0 → Option ρ} {F : (A0 → Option ρ) → Option ρ} (pj : Nat) (Lj : A0 → List (Nat × Value)) (sj : A0 → List Value) (Ij : A0 → q_I) (Jj : A0 → q_J) (Pj : A0 → q_P) (hJ : ∀ x0, q_V G M X em k n pj (Lj x0) (sj x0) (Ij x0) (Jj x0) (Pj x0) (K x0)) (w : ∀ j : A0 → Option ρ, (∀ x0, q_V G M X em k n pj (Lj x0) (sj x0) (Ij x0) (Jj x0) (Pj x0) (j x0)) → q_V G M X em k n pc L st I J P (F j)) : q_V G M X em k n pc L st I J P (q_jj K F) := w K hJ
theorem q_jn1 {A0 : Type} {R : Option (A0)} {K : A0 → Option ρ} (pj : Nat) (Lj : A0 → List (Nat × Value)) (sj : A0 → List Value) (Ij : A0 → q_I) (Jj : A0 → q_J) (Pj : A0 → q_P) (R' : ((A0) → Option ρ) → Option ρ) (hR : ∀ j : (A0) → Option ρ, q_b1 R j = R' j) (hJ : ∀ x0, q_V G M X em k n pj (Lj x0) (sj x0) (Ij x0) (Jj x0) (Pj x0) (K x0)) (w : ∀ j : (A0) → Option ρ, (∀ x0, q_V G M X em k n pj (Lj x0) (sj x0) (Ij x0) (Jj x0) (Pj x0) (j (x0))) → q_V G M X em k n pc L st I J P (R' j)) : q_V G M X em k n pc L st I J P (q_b1 R K) := by
  show q_V G M X em k n pc L st I J P (q_b1 R (fun r => K r))
  rw [hR]
  exact w _ (fun x0 => hJ x0)
theorem q_jj2 {A0 A1 : Type} {K : A0 → A1 → Option ρ} {F : (A0 → A1 → Option ρ) → Option ρ} (pj : Nat) (Lj : A0 → A1 → List (Nat × Value)) (sj : A0 → A1 → List Value) (Ij : A0 → A1 → q_I) (Jj : A0 → A1 → q_J) (Pj : A0 → A1 → q_P) (hJ : ∀ x0 x1, q_V G M X em k n pj (Lj x0 x1) (sj x0 x1) (Ij x0 x1) (Jj x0 x1) (Pj x0 x1) (K x0 x1)) (w : ∀ j : A0 → A1 → Option ρ, (∀ x0 x1, q_V G M X em k n pj (Lj x0 x1) (sj x0 x1) (Ij x0 x1) (Jj x0 x1) (Pj x0 x1) (j x0 x1)) → q_V G M X em k n pc L st I J P (F j)) : q_V G M X em k n pc L st I J P (q_jj K F) := w K hJ
theorem q_jn2 {A0 A1 : Type} {R : Option (A0 × A1)} {K : A0 → A1 → Option ρ} (pj : Nat) (Lj : A0 → A1 → List (Nat × Value)) (sj : A0 → A1 → List Value) (Ij : A0 → A1 → q_I) (Jj : A0 → A1 → q_J) (Pj : A0 → A1 → q_P) (R' : ((A0 × A1) → Option ρ) → Option ρ) (hR : ∀ j : (A0 × A1) → Option ρ, q_b1 R j = R' j) (hJ : ∀ x0 x1, q_V G M X em k n pj (Lj x0 x1) (sj x0 x1) (Ij x0 x1) (Jj x0 x1) (Pj x0 x1) (K x0 x1)) (w : ∀ j : (A0 × A1) → Option ρ, (∀ x0 x1, q_V G M X em k n pj (Lj x0 x1) (sj x0 x1) (Ij x0 x1) (Jj x0 x1) (Pj x0 x1) (j (x0, x1))) → q_V G M X em k n pc L st I J P (R' j)) : q_V G M X em k n pc L st I J P (q_b2 R K) := by
  show q_V G M X em k n pc L st I J P (q_b1 R (fun r => K r.1 r.2))
  rw [hR]
  exact w _ (fun x0 x1 => hJ x0 x1)
theorem q_jj3 {A0 A1 A2 : Type} {K : A0 → A1 → A2 → Option ρ} {F : (A0 → A1 → A2 → Option ρ) → Option ρ} (pj : Nat) (Lj : A0 → A1 → A2 → List (Nat × Value)) (sj : A0 → A1 → A2 → List Value) (Ij : A0 → A1 → A2 → q_I) (Jj : A0 → A1 → A2 → q_J) (Pj : A0 → A1 → A2 → q_P) (hJ : ∀ x0 x1 x2, q_V G M X em k n pj (Lj x0 x1 x2) (sj x0 x1 x2) (Ij x0 x1 x2) (Jj x0 x1 x2) (Pj x0 x1 x2) (K x0 x1 x2)) (w : ∀ j : A0 → A1 → A2 → Option ρ, (∀ x0 x1 x2, q_V G M X em k n pj (Lj x0 x1 x2) (sj x0 x1 x2) (Ij x0 x1 x2) (Jj x0 x1 x2) (Pj x0 x1 x2) (j x0 x1 x2)) → q_V G M X em k n pc L st I J P (F j)) : q_V G M X em k n pc L st I J P (q_jj K F) := w K hJ
theorem q_jn3 {A0 A1 A2 : Type} {R : Option (A0 × A1 × A2)} {K : A0 → A1 → A2 → Option ρ} (pj : Nat) (Lj : A0 → A1 → A2 → List (Nat × Value)) (sj : A0 → A1 → A2 → List Value) (Ij : A0 → A1 → A2 → q_I) (Jj : A0 → A1 → A2 → q_J) (Pj : A0 → A1 → A2 → q_P) (R' : ((A0 × A1 × A2) → Option ρ) → Option ρ) (hR : ∀ j : (A0 × A1 × A2) → Option ρ, q_b1 R j = R' j) (hJ : ∀ x0 x1 x2, q_V G M X em k n pj (Lj x0 x1 x2) (sj x0 x1 x2) (Ij x0 x1 x2) (Jj x0 x1 x2) (Pj x0 x1 x2) (K x0 x1 x2)) (w : ∀ j : (A0 × A1 × A2) → Option ρ, (∀ x0 x1 x2, q_V G M X em k n pj (Lj x0 x1 x2) (sj x0 x1 x2) (Ij x0 x1 x2) (Jj x0 x1 x2) (Pj x0 x1 x2) (j (x0, x1, x2))) → q_V G M X em k n pc L st I J P (R' j)) : q_V G M X em k n pc L st I J P (q_b3 R K) := by
  show q_V G M X em k n pc L st I J P (q_b1 R (fun r => K r.1 r.2.1 r.2.2))
  rw [hR]
  exact w _ (fun x0 x1 x2 => hJ x0 x1 x2)
theorem q_jj4 {A0 A1 A2 A3 : Type} {K : A0 → A1 → A2 → A3 → Option ρ} {F : (A0 → A1 → A2 → A3 → Option ρ) → Option ρ} (pj : Nat) (Lj : A0 → A1 → A2 → A3 → List (Nat × Value)) (sj : A0 → A1 → A2 → A3 → List Value) (Ij : A0 → A1 → A2 → A3 → q_I) (Jj : A0 → A1 → A2 → A3 → q_J) (Pj : A0 → A1 → A2 → A3 → q_P) (hJ : ∀ x0 x1 x2 x3, q_V G M X em k n pj (Lj x0 x1 x2 x3) (sj x0 x1 x2 x3) (Ij x0 x1 x2 x3) (Jj x0 x1 x2 x3) (Pj x0 x1 x2 x3) (K x0 x1 x2 x3)) (w : ∀ j : A0 → A1 → A2 → A3 → Option ρ, (∀ x0 x1 x2 x3, q_V G M X em k n pj (Lj x0 x1 x2 x3) (sj x0 x1 x2 x3) (Ij x0 x1 x2 x3) (Jj x0 x1 x2 x3) (Pj x0 x1 x2 x3) (j x0 x1 x2 x3)) → q_V G M X em k n pc L st I J P (F j)) : q_V G M X em k n pc L st I J P (q_jj K F) := w K hJ
theorem q_jn4 {A0 A1 A2 A3 : Type} {R : Option (A0 × A1 × A2 × A3)} {K : A0 → A1 → A2 → A3 → Option ρ} (pj : Nat) (Lj : A0 → A1 → A2 → A3 → List (Nat × Value)) (sj : A0 → A1 → A2 → A3 → List Value) (Ij : A0 → A1 → A2 → A3 → q_I) (Jj : A0 → A1 → A2 → A3 → q_J) (Pj : A0 → A1 → A2 → A3 → q_P) (R' : ((A0 × A1 × A2 × A3) → Option ρ) → Option ρ) (hR : ∀ j : (A0 × A1 × A2 × A3) → Option ρ, q_b1 R j = R' j) (hJ : ∀ x0 x1 x2 x3, q_V G M X em k n pj (Lj x0 x1 x2 x3) (sj x0 x1 x2 x3) (Ij x0 x1 x2 x3) (Jj x0 x1 x2 x3) (Pj x0 x1 x2 x3) (K x0 x1 x2 x3)) (w : ∀ j : (A0 × A1 × A2 × A3) → Option ρ, (∀ x0 x1 x2 x3, q_V G M X em k n pj (Lj x0 x1 x2 x3) (sj x0 x1 x2 x3) (Ij x0 x1 x2 x3) (Jj x0 x1 x2 x3) (Pj x0 x1 x2 x3) (j (x0, x1, x2, x3))) → q_V G M X em k n pc L st I J P (R' j)) : q_V G M X em k n pc L st I J P (q_b4 R K) := by
  show q_V G M X em k n pc L st I J P (q_b1 R (fun r => K r.1 r.2.1 r.2.2.1 r.2.2.2))
  rw [hR]
  exact w _ (fun x0 x1 x2 x3 => hJ x0 x1 x2 x3)
theorem q_jj5 {A0 A1 A2 A3 A4 : Type} {K : A0 → A1 → A2 → A3 → A4 → Option ρ} {F : (A0 → A1 → A2 → A3 → A4 → Option ρ) → Option ρ} (pj : Nat) (Lj : A0 → A1 → A2 → A3 → A4 → List (Nat × Value)) (sj : A0 → A1 → A2 → A3 → A4 → List Value) (Ij : A0 → A1 → A2 → A3 → A4 → q_I) (Jj : A0 → A1 → A2 → A3 → A4 → q_J) (Pj : A0 → A1 → A2 → A3 → A4 → q_P) (hJ : ∀ x0 x1 x2 x3 x4, q_V G M X em k n pj (Lj x0 x1 x2 x3 x4) (sj x0 x1 x2 x3 x4) (Ij x0 x1 x2 x3 x4) (Jj x0 x1 x2 x3 x4) (Pj x0 x1 x2 x3 x4) (K x0 x1 x2 x3 x4)) (w : ∀ j : A0 → A1 → A2 → A3 → A4 → Option ρ, (∀ x0 x1 x2 x3 x4, q_V G M X em k n pj (Lj x0 x1 x2 x3 x4) (sj x0 x1 x2 x3 x4) (Ij x0 x1 x2 x3 x4) (Jj x0 x1 x2 x3 x4) (Pj x0 x1 x2 x3 x4) (j x0 x1 x2 x3 x4)) → q_V G M X em k n pc L st I J P (F j)) : q_V G M X em k n pc L st I J P (q_jj K F) := w K hJ
theorem q_jj6 {A0 A1 A2 A3 A4 A5 : Type} {K : A0 → A1 → A2 → A3 → A4 → A5 → Option ρ} {F : (A0 → A1 → A2 → A3 → A4 → A5 → Option ρ) → Option ρ} (pj : Nat) (Lj : A0 → A1 → A2 → A3 → A4 → A5 → List (Nat × Value)) (sj : A0 → A1 → A2 → A3 → A4 → A5 → List Value) (Ij : A0 → A1 → A2 → A3 → A4 → A5 → q_I) (Jj : A0 → A1 → A2 → A3 → A4 → A5 → q_J) (Pj : A0 → A1 → A2 → A3 → A4 → A5 → q_P) (hJ : ∀ x0 x1 x2 x3 x4 x5, q_V G M X em k n pj (Lj x0 x1 x2 x3 x4 x5) (sj x0 x1 x2 x3 x4 x5) (Ij x0 x1 x2 x3 x4 x5) (Jj x0 x1 x2 x3 x4 x5) (Pj x0 x1 x2 x3 x4 x5) (K x0 x1 x2 x3 x4 x5)) (w : ∀ j : A0 → A1 → A2 → A3 → A4 → A5 → Option ρ, (∀ x0 x1 x2 x3 x4 x5, q_V G M X em k n pj (Lj x0 x1 x2 x3 x4 x5) (sj x0 x1 x2 x3 x4 x5) (Ij x0 x1 x2 x3 x4 x5) (Jj x0 x1 x2 x3 x4 x5) (Pj x0 x1 x2 x3 x4 x5) (j x0 x1 x2 x3 x4 x5)) → q_V G M X em k n pc L st I J P (F j)) : q_V G M X em k n pc L st I J P (q_jj K F) := w K hJ
theorem q_case {A B : Option ρ} {x c : Int32} (kt : x = c → q_V G M X em k n pc L st I J P A) (kf : ¬ x = c → q_V G M X em k n pc L st I J P B) : q_V G M X em k n pc L st I J P (if x = c then A else B) := by
  split
  · next h => exact kt h
  · next h => exact kf h
theorem q_neI {x c : Int32} {z : Int} (hz : c.toInt = z) (h : ¬ x = c) : ¬ x.toInt = z := fun e => h (Int32.toInt_inj.mp (e.trans hz.symm))
theorem q_tableInE {O : Option ρ} {dflt lo hi : Int} {offs : Array Int} {len : Nat} {x c : Int32} {off : Int} (hx : x = c) (tgt : Nat) (d : decode M.1 pc = .ok (.tableswitch dflt lo hi offs, len)) (h1 : ¬ c.toInt < lo) (h2 : ¬ hi < c.toInt) (ho : offs[(c.toInt - lo).toNat]? = some off) (ht : (pc : Int) + off = (tgt : Int)) (kk : q_V G M X em k n tgt L st I J P O) : q_V G M X em k n pc L (.int x :: st) I J P O := by
  subst hx
  exact q_tableIn tgt d h1 h2 ho ht kk
theorem q_lookupE {O : Option ρ} {dflt : Int} {ps : Array (Int × Int)} {len : Nat} {x c : Int32} {off : Int} (hx : x = c) (tgt : Nat) (d : decode M.1 pc = .ok (.lookupswitch dflt ps, len)) (hp : (ps.toList.zip (ps.toList.drop 1)).all (fun (a, next) => a.1 < next.1) = true) (ho : Op.lookupswitch.offset ps.toList dflt c.toInt = off) (ht : (pc : Int) + off = (tgt : Int)) (kk : q_V G M X em k n tgt L st I J P O) : q_V G M X em k n pc L (.int x :: st) I J P O := by
  subst hx
  exact q_lookup tgt d hp ho ht kk
end QJ
end
section
def f_Mo_in (a0 : Int32) (a1 : Int32) (a2 : Int32) : Option (Int32) :=
  if a0 < a1 then (some (0)) else (if a2 < a0 then (some (0)) else (some (1)))
def y_Mo_in : MethodName := ⟨"CalendarReplicasModel", "in", "(III)Z"⟩
def m_Mo_in : q_M := (prog_11_method_3_code, 3, "CalendarReplicasModel", { frames := 0, cells := 0, slots := 0, locals := 0 }, (some FieldType.boolean))
theorem yv_Mo_in : q_Y y_Mo_in m_Mo_in 3 := ⟨rfl, ⟨by decide, by decide⟩, by decide +kernel, tw_6_42, tw_1_15⟩
set_option maxRecDepth 100000 in
set_option maxHeartbeats 4000000 in
theorem c_Mo_in (l : Launch) (D : va_G) (tc : Nat → ClassId) (x0 y : Nat) (I : q_I) (J : q_J) (P : q_P) (a0 : Int32) (a1 : Int32) (a2 : Int32) : q_Ct l (mG D tc x0 y) y_Mo_in m_Mo_in [.int a0, .int a1, .int a2] (I, J, P) (f_Mo_in a0 a1 a2) (fun r : Int32 => (some (.int r), (I, J, P))) := by
  refine q_Ct_of (mIn D tc x0 y) (by decide) rfl (Nat.le_of_ble_eq_true rfl) rfl (fun X hX => ?_)
  subst hX
  unfold f_Mo_in
  refine q_iload_n 0 0 1 rfl (by decide +kernel) rfl ?_
  refine q_iload_n 1 1 2 rfl (by decide +kernel) rfl ?_
  refine q_icmp_lt 5 rfl 14 (off := 12) (by decide +kernel) rfl (fun h2 => ?_) (fun h2 => ?_)
  · refine q_iconst 0 (c := 0) 15 rfl (by decide +kernel) rfl ?_
    exact q_zret (w := 0) (by decide +kernel) rfl rfl rfl (Nat.le_of_ble_eq_true rfl) (Nat.le_of_ble_eq_true rfl)
  · refine q_iload_n 0 0 6 rfl (by decide +kernel) rfl ?_
    refine q_iload_n 2 2 7 rfl (by decide +kernel) rfl ?_
    refine q_icmp_gt 10 rfl 14 (off := 7) (by decide +kernel) rfl (fun h1 => ?_) (fun h1 => ?_)
    · refine q_iconst 0 (c := 0) 15 rfl (by decide +kernel) rfl ?_
      exact q_zret (w := 0) (by decide +kernel) rfl rfl rfl (Nat.le_of_ble_eq_true rfl) (Nat.le_of_ble_eq_true rfl)
    · refine q_iconst 1 (c := 1) 11 rfl (by decide +kernel) rfl ?_
      refine q_goto (off := 4) 15 (by decide +kernel) rfl ?_
      exact q_zret (w := 1) (by decide +kernel) rfl rfl rfl (Nat.le_of_ble_eq_true rfl) (Nat.le_of_ble_eq_true rfl)
def f_Mo_bits_L1 : Nat → Int32 → Int32 → Option (Int32)
  | 0, _, _ => none
  | n + 1, x1, x2 => if x2 = 0 then (some (x1)) else (q_l (x2 &&& (x2 - 1) : Int32) (fun x3 => (f_Mo_bits_L1  n (x1 + 1) x3)))
def f_Mo_bits (a0 : Int32) : Option (Int32) :=
  f_Mo_bits_L1  q_fu 0 a0
def y_Mo_bits : MethodName := ⟨"CalendarReplicasModel", "bits", "(I)I"⟩
def m_Mo_bits : q_M := (prog_11_method_4_code, 3, "CalendarReplicasModel", { frames := 0, cells := 0, slots := 0, locals := 0 }, (some FieldType.int))
theorem yv_Mo_bits : q_Y y_Mo_bits m_Mo_bits 1 := ⟨rfl, ⟨by decide, by decide⟩, by decide +kernel, tw_6_107, tw_1_15⟩
set_option maxRecDepth 100000 in
set_option maxHeartbeats 4000000 in
theorem c_Mo_bits (l : Launch) (D : va_G) (tc : Nat → ClassId) (x0 y : Nat) (I : q_I) (J : q_J) (P : q_P) (a0 : Int32) : q_Ct l (mG D tc x0 y) y_Mo_bits m_Mo_bits [.int a0] (I, J, P) (f_Mo_bits a0) (fun r : Int32 => (some (.int r), (I, J, P))) := by
  refine q_Ct_of (mIn D tc x0 y) (by decide) rfl (Nat.le_of_ble_eq_true rfl) rfl (fun X hX => ?_)
  subst hX
  unfold f_Mo_bits
  refine q_iconst 0 (c := 0) 1 rfl (by decide +kernel) rfl ?_
  refine q_istore_n 1 1 2 rfl [(1, .int 0), (0, .int a0)] (by decide +kernel) rfl (Nat.le_of_ble_eq_true rfl) rfl ?_
  refine q_iload_n 1 0 3 rfl (by decide +kernel) rfl ?_
  refine q_istore_n 2 2 4 rfl [(2, .int a0), (1, .int 0), (0, .int a0)] (by decide +kernel) rfl (Nat.le_of_ble_eq_true rfl) rfl ?_
  have hL1 : ∀ (n1_ : Nat) (x1 : Int32) (x2 : Int32), q_V (mG D tc x0 y) m_Mo_bits X (fun r : Int32 => (some (.int r), (I, J, P))) 0 0 4 [(1, .int x1), (2, .int x2)] [] I J P (f_Mo_bits_L1  n1_ x1 x2) := by
    intro n1_
    induction n1_ with
    | zero => intro x1 x2; exact q_none
    | succ n1_ ih1 =>
      intro x1 x2
      rw [f_Mo_bits_L1]
      refine q_iload_n 1 2 5 rfl (by decide +kernel) rfl ?_
      refine q_if_eq 8 rfl 20 (off := 15) (by decide +kernel) rfl (fun h1 => ?_) (fun h1 => ?_)
      · refine q_iload_n 0 1 21 rfl (by decide +kernel) rfl ?_
        exact q_iret (by decide +kernel) rfl rfl (Nat.le_of_ble_eq_true rfl) (Nat.le_of_ble_eq_true rfl)
      · refine q_iinc (x1 + 1) (c := 1) 1 0 11 rfl [(1, .int (x1 + 1)), (2, .int x2)] (by decide +kernel) rfl rfl (Nat.le_of_ble_eq_true rfl) rfl ?_
        refine q_iload_n 1 2 12 rfl (by decide +kernel) rfl ?_
        refine q_iload_n 1 2 13 rfl (by decide +kernel) rfl ?_
        refine q_iconst 1 (c := 1) 14 rfl (by decide +kernel) rfl ?_
        refine q_isub 15 rfl (by decide +kernel) ?_
        refine q_iand 16 rfl (by decide +kernel) ?_
        refine q_leti (fun x3 => ?_)
        refine q_istore_n 2 2 17 rfl [(2, .int x3), (1, .int (x1 + 1))] (by decide +kernel) rfl (Nat.le_of_ble_eq_true rfl) rfl ?_
        refine q_goto (off := -13) 4 (by decide +kernel) rfl ?_
        refine q_sub [1, 0] rfl ?_
        exact ih1 (x1 + 1) x3
  refine q_sub [1, 0] rfl ?_
  exact hL1 _ _ _
def f_Mo_isReplica (a0 : Int32) : Option (Int32) :=
  q_b1 (f_Mo_in a0 0 2) (fun v1 => some ((v1 &&& 1)))
def y_Mo_isReplica : MethodName := ⟨"CalendarReplicasModel", "isReplica", "(I)Z"⟩
def m_Mo_isReplica : q_M := (prog_11_method_5_code, 1, "CalendarReplicasModel", { frames := 1, cells := 0, slots := 0, locals := 22 }, (some FieldType.boolean))
theorem yv_Mo_isReplica : q_Y y_Mo_isReplica m_Mo_isReplica 1 := ⟨rfl, ⟨by decide, by decide⟩, by decide +kernel, tw_6_129, tw_1_15⟩
set_option maxRecDepth 100000 in
set_option maxHeartbeats 4000000 in
theorem c_Mo_isReplica (l : Launch) (D : va_G) (tc : Nat → ClassId) (x0 y : Nat) (I : q_I) (J : q_J) (P : q_P) (a0 : Int32) : q_Ct l (mG D tc x0 y) y_Mo_isReplica m_Mo_isReplica [.int a0] (I, J, P) (f_Mo_isReplica a0) (fun r : Int32 => (some (.int r), (I, J, P))) := by
  refine q_Ct_of (mIn D tc x0 y) (by decide) rfl (Nat.le_of_ble_eq_true rfl) rfl (fun X hX => ?_)
  subst hX
  unfold f_Mo_isReplica
  refine q_iload_n 0 0 1 rfl (by decide +kernel) rfl ?_
  refine q_iconst 0 (c := 0) 2 rfl (by decide +kernel) rfl ?_
  refine q_iconst 2 (c := 2) 3 rfl (by decide +kernel) rfl ?_
  refine q_callS_i 6 rfl (av := [.int a0, .int 0, .int 2]) (st := []) (c_Mo_in X.1 D tc x0 y I J P a0 0 2) yv_Mo_in tw_6_40 tw_6_41 rfl (Nat.le_of_ble_eq_true rfl) (by decide +kernel) ⟨Nat.le_of_ble_eq_true rfl, Nat.le_of_ble_eq_true rfl⟩ ⟨Nat.le_of_ble_eq_true rfl, Nat.le_of_ble_eq_true rfl⟩ rfl rfl (fun v1 => ?_)
  exact q_zret (w := (v1 &&& 1)) (by decide +kernel) rfl rfl rfl (Nat.le_of_ble_eq_true rfl) (Nat.le_of_ble_eq_true rfl)
def f_Mo_edit (a0 : Int32) (a1 : Int32) : Option (Int32) :=
  some (((124 + (13 * a0)) + a1))
def y_Mo_edit : MethodName := ⟨"CalendarReplicasModel", "edit", "(II)I"⟩
def m_Mo_edit : q_M := (prog_11_method_6_code, 2, "CalendarReplicasModel", { frames := 0, cells := 0, slots := 0, locals := 0 }, (some FieldType.int))
theorem yv_Mo_edit : q_Y y_Mo_edit m_Mo_edit 2 := ⟨rfl, ⟨by decide, by decide⟩, by decide +kernel, tw_6_65, tw_1_15⟩
set_option maxRecDepth 100000 in
set_option maxHeartbeats 4000000 in
theorem c_Mo_edit (l : Launch) (D : va_G) (tc : Nat → ClassId) (x0 y : Nat) (I : q_I) (J : q_J) (P : q_P) (a0 : Int32) (a1 : Int32) : q_Ct l (mG D tc x0 y) y_Mo_edit m_Mo_edit [.int a0, .int a1] (I, J, P) (f_Mo_edit a0 a1) (fun r : Int32 => (some (.int r), (I, J, P))) := by
  refine q_Ct_of (mIn D tc x0 y) (by decide) rfl (Nat.le_of_ble_eq_true rfl) rfl (fun X hX => ?_)
  subst hX
  unfold f_Mo_edit
  refine q_bipush 124 (c := 124) 2 rfl (by decide +kernel) rfl ?_
  refine q_bipush 13 (c := 13) 4 rfl (by decide +kernel) rfl ?_
  refine q_iload_n 0 0 5 rfl (by decide +kernel) rfl ?_
  refine q_imul 6 rfl (by decide +kernel) ?_
  refine q_iadd 7 rfl (by decide +kernel) ?_
  refine q_iload_n 1 1 8 rfl (by decide +kernel) rfl ?_
  refine q_iadd 9 rfl (by decide +kernel) ?_
  exact q_iret (by decide +kernel) rfl rfl (Nat.le_of_ble_eq_true rfl) (Nat.le_of_ble_eq_true rfl)
def f_Mo_meeting (a0 : Int32) (a1 : Int32) : Option (Int32) :=
  some (((7 * a0) + a1))
def y_Mo_meeting : MethodName := ⟨"CalendarReplicasModel", "meeting", "(II)I"⟩
def m_Mo_meeting : q_M := (prog_11_method_7_code, 2, "CalendarReplicasModel", { frames := 0, cells := 0, slots := 0, locals := 0 }, (some FieldType.int))
theorem yv_Mo_meeting : q_Y y_Mo_meeting m_Mo_meeting 2 := ⟨rfl, ⟨by decide, by decide⟩, by decide +kernel, tw_6_88, tw_1_15⟩
set_option maxRecDepth 100000 in
set_option maxHeartbeats 4000000 in
theorem c_Mo_meeting (l : Launch) (D : va_G) (tc : Nat → ClassId) (x0 y : Nat) (I : q_I) (J : q_J) (P : q_P) (a0 : Int32) (a1 : Int32) : q_Ct l (mG D tc x0 y) y_Mo_meeting m_Mo_meeting [.int a0, .int a1] (I, J, P) (f_Mo_meeting a0 a1) (fun r : Int32 => (some (.int r), (I, J, P))) := by
  refine q_Ct_of (mIn D tc x0 y) (by decide) rfl (Nat.le_of_ble_eq_true rfl) rfl (fun X hX => ?_)
  subst hX
  unfold f_Mo_meeting
  refine q_bipush 7 (c := 7) 2 rfl (by decide +kernel) rfl ?_
  refine q_iload_n 0 0 3 rfl (by decide +kernel) rfl ?_
  refine q_imul 4 rfl (by decide +kernel) ?_
  refine q_iload_n 1 1 5 rfl (by decide +kernel) rfl ?_
  refine q_iadd 6 rfl (by decide +kernel) ?_
  exact q_iret (by decide +kernel) rfl rfl (Nat.le_of_ble_eq_true rfl) (Nat.le_of_ble_eq_true rfl)
def f_Mo_find_L1 (I : q_I) (a1 : Int32) : Nat → Int32 → Option (Int32)
  | 0, _ => none
  | n + 1, x1 => if (I 0 7) ≤ x1 then (some ((-1))) else (q_b1 (f_Mo_meeting x1 0) (fun v1 => q_ix v1 175 (fun j1 => if (I 6 j1) = a1 then (some (x1)) else ((f_Mo_find_L1 I a1 n (x1 + 1))))))
def f_Mo_find (I : q_I) (a1 : Int32) : Option (Int32) :=
  f_Mo_find_L1 I a1 q_fu 0
def y_Mo_find : MethodName := ⟨"CalendarReplicasModel", "find", "(I)I"⟩
def m_Mo_find : q_M := (prog_11_method_8_code, 3, "CalendarReplicasModel", { frames := 1, cells := 0, slots := 0, locals := 21 }, (some FieldType.int))
theorem yv_Mo_find : q_Y y_Mo_find m_Mo_find 1 := ⟨rfl, ⟨by decide, by decide⟩, by decide +kernel, tw_6_92, tw_1_15⟩
set_option maxRecDepth 100000 in
set_option maxHeartbeats 4000000 in
theorem c_Mo_find (l : Launch) (D : va_G) (tc : Nat → ClassId) (x0 y : Nat) (I : q_I) (J : q_J) (P : q_P) (a1 : Int32) : q_Ct l (mG D tc x0 y) y_Mo_find m_Mo_find [q_r (mG D tc x0 y) 0, .int a1] (I, J, P) (f_Mo_find I a1) (fun r : Int32 => (some (.int r), (I, J, P))) := by
  refine q_Ct_of (mIn D tc x0 y) (by decide) rfl (Nat.le_of_ble_eq_true rfl) rfl (fun X hX => ?_)
  subst hX
  unfold f_Mo_find
  refine q_iconst 0 (c := 0) 1 rfl (by decide +kernel) rfl ?_
  refine q_istore_n 2 2 2 rfl [(2, .int 0), (0, q_r (mG D tc x0 y) 0), (1, .int a1)] (by decide +kernel) rfl (Nat.le_of_ble_eq_true rfl) rfl ?_
  have hL1 : ∀ (n1_ : Nat) (x1 : Int32), q_V (mG D tc x0 y) m_Mo_find X (fun r : Int32 => (some (.int r), (I, J, P))) 0 0 2 [(0, q_r (mG D tc x0 y) 0), (1, .int a1), (2, .int x1)] [] I J P (f_Mo_find_L1 I a1 n1_ x1) := by
    intro n1_
    induction n1_ with
    | zero => intro x1; exact q_none
    | succ n1_ ih1 =>
      intro x1
      rw [f_Mo_find_L1]
      refine q_iload_n 2 2 3 rfl (by decide +kernel) rfl ?_
      refine q_aload_n 0 0 4 rfl (by decide +kernel) rfl ?_
      refine q_geti (f := 7) 7 rfl (by decide +kernel) (cC_Mo D tc x0 y) (rfl : mKd 0 = (1, 0, 21, 0, 0)) (by decide) rfl tw_5_219 ?_
      refine q_icmp_ge 10 rfl 32 (off := 25) (by decide +kernel) rfl (fun h2 => ?_) (fun h2 => ?_)
      · refine q_iconst (-1) (c := -1) 33 rfl (by decide +kernel) rfl ?_
        exact q_iret (by decide +kernel) rfl rfl (Nat.le_of_ble_eq_true rfl) (Nat.le_of_ble_eq_true rfl)
      · refine q_aload_n 0 0 11 rfl (by decide +kernel) rfl ?_
        refine q_getr (f := 8) 6 14 rfl (by decide +kernel) (cC_Mo D tc x0 y) (rfl : mKd 0 = (1, 0, 21, 0, 0)) (by decide) rfl rfl tw_5_220 ?_
        refine q_iload_n 2 2 15 rfl (by decide +kernel) rfl ?_
        refine q_iconst 0 (c := 0) 16 rfl (by decide +kernel) rfl ?_
        refine q_callS_i 19 rfl (av := [.int x1, .int 0]) (st := [q_r (mG D tc x0 y) 6]) (c_Mo_meeting X.1 D tc x0 y I J P x1 0) yv_Mo_meeting tw_6_86 tw_6_87 rfl (Nat.le_of_ble_eq_true rfl) (by decide +kernel) ⟨Nat.le_of_ble_eq_true rfl, Nat.le_of_ble_eq_true rfl⟩ ⟨Nat.le_of_ble_eq_true rfl, Nat.le_of_ble_eq_true rfl⟩ rfl rfl (fun v1 => ?_)
        refine q_iald (t := 0) 20 rfl (by decide +kernel) (rfl : mKd 6 = (2, 175, 0, 0, 0)) rfl (fun j1 hj1 => ?_)
        refine q_iload_n 1 1 21 rfl (by decide +kernel) rfl ?_
        refine q_icmp_ne 24 rfl 26 (off := 5) (by decide +kernel) rfl (fun h1 => ?_) (fun h1 => ?_)
        · refine q_iinc (x1 + 1) (c := 1) 2 2 29 rfl [(2, .int (x1 + 1)), (0, q_r (mG D tc x0 y) 0), (1, .int a1)] (by decide +kernel) rfl rfl (Nat.le_of_ble_eq_true rfl) rfl ?_
          refine q_goto (off := -27) 2 (by decide +kernel) rfl ?_
          refine q_sub [1, 2, 0] rfl ?_
          exact ih1 (x1 + 1)
        · refine q_iload_n 2 2 25 rfl (by decide +kernel) rfl ?_
          exact q_iret (by decide +kernel) rfl rfl (Nat.le_of_ble_eq_true rfl) (Nat.le_of_ble_eq_true rfl)
  refine q_sub [1, 2, 0] rfl ?_
  exact hL1 _ _
def f_Mo_lastSlot (I : q_I) (a1 : Int32) : Option (Int32) :=
  q_b1 (f_Mo_meeting a1 1) (fun v1 => q_ix v1 175 (fun j1 => q_b1 (f_Mo_meeting a1 6) (fun v2 => q_ix v2 175 (fun j2 => q_b1 (f_Mo_meeting a1 5) (fun v3 => q_ix v3 175 (fun j3 => q_b1 (f_Mo_meeting a1 2) (fun v4 => q_ix v4 175 (fun j4 => some (((((I 6 j1) + (((I 6 j2) - 1) * (I 6 j3))) + (I 6 j4)) - 1))))))))))
def y_Mo_lastSlot : MethodName := ⟨"CalendarReplicasModel", "lastSlot", "(I)I"⟩
def m_Mo_lastSlot : q_M := (prog_11_method_9_code, 2, "CalendarReplicasModel", { frames := 1, cells := 0, slots := 0, locals := 21 }, (some FieldType.int))
theorem yv_Mo_lastSlot : q_Y y_Mo_lastSlot m_Mo_lastSlot 1 := ⟨rfl, ⟨by decide, by decide⟩, by decide +kernel, tw_6_104, tw_1_15⟩
set_option maxRecDepth 100000 in
set_option maxHeartbeats 4000000 in
theorem c_Mo_lastSlot (l : Launch) (D : va_G) (tc : Nat → ClassId) (x0 y : Nat) (I : q_I) (J : q_J) (P : q_P) (a1 : Int32) : q_Ct l (mG D tc x0 y) y_Mo_lastSlot m_Mo_lastSlot [q_r (mG D tc x0 y) 0, .int a1] (I, J, P) (f_Mo_lastSlot I a1) (fun r : Int32 => (some (.int r), (I, J, P))) := by
  refine q_Ct_of (mIn D tc x0 y) (by decide) rfl (Nat.le_of_ble_eq_true rfl) rfl (fun X hX => ?_)
  subst hX
  unfold f_Mo_lastSlot
  refine q_aload_n 0 0 1 rfl (by decide +kernel) rfl ?_
  refine q_getr (f := 8) 6 4 rfl (by decide +kernel) (cC_Mo D tc x0 y) (rfl : mKd 0 = (1, 0, 21, 0, 0)) (by decide) rfl rfl tw_5_220 ?_
  refine q_iload_n 1 1 5 rfl (by decide +kernel) rfl ?_
  refine q_iconst 1 (c := 1) 6 rfl (by decide +kernel) rfl ?_
  refine q_callS_i 9 rfl (av := [.int a1, .int 1]) (st := [q_r (mG D tc x0 y) 6]) (c_Mo_meeting X.1 D tc x0 y I J P a1 1) yv_Mo_meeting tw_6_86 tw_6_87 rfl (Nat.le_of_ble_eq_true rfl) (by decide +kernel) ⟨Nat.le_of_ble_eq_true rfl, Nat.le_of_ble_eq_true rfl⟩ ⟨Nat.le_of_ble_eq_true rfl, Nat.le_of_ble_eq_true rfl⟩ rfl rfl (fun v1 => ?_)
  refine q_iald (t := 0) 10 rfl (by decide +kernel) (rfl : mKd 6 = (2, 175, 0, 0, 0)) rfl (fun j1 hj1 => ?_)
  refine q_aload_n 0 0 11 rfl (by decide +kernel) rfl ?_
  refine q_getr (f := 8) 6 14 rfl (by decide +kernel) (cC_Mo D tc x0 y) (rfl : mKd 0 = (1, 0, 21, 0, 0)) (by decide) rfl rfl tw_5_220 ?_
  refine q_iload_n 1 1 15 rfl (by decide +kernel) rfl ?_
  refine q_bipush 6 (c := 6) 17 rfl (by decide +kernel) rfl ?_
  refine q_callS_i 20 rfl (av := [.int a1, .int 6]) (st := [q_r (mG D tc x0 y) 6, .int (I 6 j1)]) (c_Mo_meeting X.1 D tc x0 y I J P a1 6) yv_Mo_meeting tw_6_86 tw_6_87 rfl (Nat.le_of_ble_eq_true rfl) (by decide +kernel) ⟨Nat.le_of_ble_eq_true rfl, Nat.le_of_ble_eq_true rfl⟩ ⟨Nat.le_of_ble_eq_true rfl, Nat.le_of_ble_eq_true rfl⟩ rfl rfl (fun v2 => ?_)
  refine q_iald (t := 0) 21 rfl (by decide +kernel) (rfl : mKd 6 = (2, 175, 0, 0, 0)) rfl (fun j2 hj2 => ?_)
  refine q_iconst 1 (c := 1) 22 rfl (by decide +kernel) rfl ?_
  refine q_isub 23 rfl (by decide +kernel) ?_
  refine q_aload_n 0 0 24 rfl (by decide +kernel) rfl ?_
  refine q_getr (f := 8) 6 27 rfl (by decide +kernel) (cC_Mo D tc x0 y) (rfl : mKd 0 = (1, 0, 21, 0, 0)) (by decide) rfl rfl tw_5_220 ?_
  refine q_iload_n 1 1 28 rfl (by decide +kernel) rfl ?_
  refine q_iconst 5 (c := 5) 29 rfl (by decide +kernel) rfl ?_
  refine q_callS_i 32 rfl (av := [.int a1, .int 5]) (st := [q_r (mG D tc x0 y) 6, .int ((I 6 j2) - 1), .int (I 6 j1)]) (c_Mo_meeting X.1 D tc x0 y I J P a1 5) yv_Mo_meeting tw_6_86 tw_6_87 rfl (Nat.le_of_ble_eq_true rfl) (by decide +kernel) ⟨Nat.le_of_ble_eq_true rfl, Nat.le_of_ble_eq_true rfl⟩ ⟨Nat.le_of_ble_eq_true rfl, Nat.le_of_ble_eq_true rfl⟩ rfl rfl (fun v3 => ?_)
  refine q_iald (t := 0) 33 rfl (by decide +kernel) (rfl : mKd 6 = (2, 175, 0, 0, 0)) rfl (fun j3 hj3 => ?_)
  refine q_imul 34 rfl (by decide +kernel) ?_
  refine q_iadd 35 rfl (by decide +kernel) ?_
  refine q_aload_n 0 0 36 rfl (by decide +kernel) rfl ?_
  refine q_getr (f := 8) 6 39 rfl (by decide +kernel) (cC_Mo D tc x0 y) (rfl : mKd 0 = (1, 0, 21, 0, 0)) (by decide) rfl rfl tw_5_220 ?_
  refine q_iload_n 1 1 40 rfl (by decide +kernel) rfl ?_
  refine q_iconst 2 (c := 2) 41 rfl (by decide +kernel) rfl ?_
  refine q_callS_i 44 rfl (av := [.int a1, .int 2]) (st := [q_r (mG D tc x0 y) 6, .int ((I 6 j1) + (((I 6 j2) - 1) * (I 6 j3)))]) (c_Mo_meeting X.1 D tc x0 y I J P a1 2) yv_Mo_meeting tw_6_86 tw_6_87 rfl (Nat.le_of_ble_eq_true rfl) (by decide +kernel) ⟨Nat.le_of_ble_eq_true rfl, Nat.le_of_ble_eq_true rfl⟩ ⟨Nat.le_of_ble_eq_true rfl, Nat.le_of_ble_eq_true rfl⟩ rfl rfl (fun v4 => ?_)
  refine q_iald (t := 0) 45 rfl (by decide +kernel) (rfl : mKd 6 = (2, 175, 0, 0, 0)) rfl (fun j4 hj4 => ?_)
  refine q_iadd 46 rfl (by decide +kernel) ?_
  refine q_iconst 1 (c := 1) 47 rfl (by decide +kernel) rfl ?_
  refine q_isub 48 rfl (by decide +kernel) ?_
  exact q_iret (by decide +kernel) rfl rfl (Nat.le_of_ble_eq_true rfl) (Nat.le_of_ble_eq_true rfl)
def f_Mo_carriesOut_L1 : Nat → Int32 → q_I → Option (q_I)
  | 0, _, _ => none
  | n + 1, x3, I7 => q_b1 (f_Mo_meeting (I7 0 7) 0) (fun v11 => if v11 ≤ x3 then (some (I7)) else (q_ix (x3 + 7) 175 (fun j11 => q_ix x3 175 (fun j12 => q_l (q_ui I7 6 j12 (I7 6 j11)) (fun I8 => (f_Mo_carriesOut_L1  n (x3 + 1) I8))))))
def f_Mo_carriesOut_L2 (a1 : Int32) (K : q_I → Option (q_I)) : Nat → Int32 → q_I → Option (q_I)
  | 0, _, _ => none
  | n + 1, x4, I10 => if (6 : Int32) < x4 then ((K I10)) else (q_b1 (f_Mo_meeting (I10 0 7) x4) (fun v14 => q_b1 (f_Mo_edit a1 (6 + x4)) (fun v15 => q_ix v15 280 (fun j15 => q_ix v14 175 (fun j16 => q_l (q_ui I10 6 j16 (I10 1 j15)) (fun I11 => (f_Mo_carriesOut_L2 a1 K n (x4 + 1) I11)))))))
def f_Mo_carriesOut (I : q_I) (a1 : Int32) : Option (q_I) :=
  q_b1 (f_Mo_edit a1 3) (fun v1 => q_ix v1 280 (fun j1 => q_l (I 1 j1 : Int32) (fun x1 => q_b1 (f_Mo_edit a1 5) (fun v2 => q_ix v2 280 (fun j2 => q_l (I 1 j2 : Int32) (fun x2 => if x1 = 0 then (q_b1 (f_Mo_meeting (I 0 7) 0) (fun v12 => q_b1 (f_Mo_edit a1 0) (fun v13 => q_ix v13 280 (fun j13 => q_ix v12 175 (fun j14 => q_l (q_ui I 6 j14 (I 1 j13)) (fun I9 => f_Mo_carriesOut_L2 a1 (fun (I12 : q_I) => q_l (q_ui I12 0 7 ((I12 0 7) + 1)) (fun I13 => some (I13))) q_fu 1 I9)))))) else (q_b1 (f_Mo_edit a1 4) (fun v3 => q_ix v3 280 (fun j3 => q_b1 (f_Mo_find I (I 1 j3)) (fun v4 => if x1 = 1 then (q_b1 (f_Mo_meeting v4 1) (fun v5 => q_ix v5 175 (fun j4 => q_l (q_ui I 6 j4 x2) (fun I1 => some (I1))))) else (if x1 = 2 then (q_b1 (f_Mo_meeting v4 3) (fun v6 => q_ix v6 175 (fun j5 => q_l (q_ui I 6 j5 x2) (fun I2 => some (I2))))) else (if x1 = 3 then (q_b1 (f_Mo_meeting v4 2) (fun v7 => q_ix v7 175 (fun j6 => q_l (q_ui I 6 j6 x2) (fun I3 => some (I3))))) else (if x1 = 4 then (q_b1 (f_Mo_meeting v4 4) (fun v8 => q_ix v8 175 (fun j7 => q_ix v8 175 (fun j8 => q_l (q_ui I 6 j8 ((I 6 j7) ||| (1 <<< (x2 &&& 31)))) (fun I4 => some (I4)))))) else (if x1 = 5 then (q_b1 (f_Mo_meeting v4 4) (fun v9 => q_ix v9 175 (fun j9 => q_ix v9 175 (fun j10 => q_l (q_ui I 6 j10 ((I 6 j9) &&& ((1 <<< (x2 &&& 31)) ^^^ (-1)))) (fun I5 => some (I5)))))) else (q_l (q_ui I 0 7 ((I 0 7) - 1)) (fun I6 => q_b1 (f_Mo_meeting v4 0) (fun v10 => f_Mo_carriesOut_L1  q_fu v10 I6)))))))))))))))))
def y_Mo_carriesOut : MethodName := ⟨"CalendarReplicasModel", "carriesOut", "(I)V"⟩
def m_Mo_carriesOut : q_M := (prog_11_method_10_code, 6, "CalendarReplicasModel", { frames := 2, cells := 0, slots := 0, locals := 43 }, (none : Option FieldType))
theorem yv_Mo_carriesOut : q_Y y_Mo_carriesOut m_Mo_carriesOut 1 := ⟨rfl, ⟨by decide, by decide⟩, by decide +kernel, tw_6_85, tw_1_15⟩
set_option maxRecDepth 100000 in
set_option maxHeartbeats 4000000 in
theorem c_Mo_carriesOut (l : Launch) (D : va_G) (tc : Nat → ClassId) (x0 y : Nat) (I : q_I) (J : q_J) (P : q_P) (a1 : Int32) : q_Ct l (mG D tc x0 y) y_Mo_carriesOut m_Mo_carriesOut [q_r (mG D tc x0 y) 0, .int a1] (I, J, P) (f_Mo_carriesOut I a1) (fun r : q_I => (none, (r, J, P))) := by
  refine q_Ct_of (mIn D tc x0 y) (by decide) rfl (Nat.le_of_ble_eq_true rfl) rfl (fun X hX => ?_)
  subst hX
  unfold f_Mo_carriesOut
  refine q_aload_n 0 0 1 rfl (by decide +kernel) rfl ?_
  refine q_getr (f := 0) 1 4 rfl (by decide +kernel) (cC_Mo D tc x0 y) (rfl : mKd 0 = (1, 0, 21, 0, 0)) (by decide) rfl rfl tw_5_212 ?_
  refine q_iload_n 1 1 5 rfl (by decide +kernel) rfl ?_
  refine q_iconst 3 (c := 3) 6 rfl (by decide +kernel) rfl ?_
  refine q_callS_i 9 rfl (av := [.int a1, .int 3]) (st := [q_r (mG D tc x0 y) 1]) (c_Mo_edit X.1 D tc x0 y I J P a1 3) yv_Mo_edit tw_6_63 tw_6_64 rfl (Nat.le_of_ble_eq_true rfl) (by decide +kernel) ⟨Nat.le_of_ble_eq_true rfl, Nat.le_of_ble_eq_true rfl⟩ ⟨Nat.le_of_ble_eq_true rfl, Nat.le_of_ble_eq_true rfl⟩ rfl rfl (fun v1 => ?_)
  refine q_iald (t := 0) 10 rfl (by decide +kernel) (rfl : mKd 1 = (2, 280, 0, 0, 0)) rfl (fun j1 hj1 => ?_)
  refine q_leti (fun x1 => ?_)
  refine q_istore_n 2 2 11 rfl [(2, .int x1), (0, q_r (mG D tc x0 y) 0), (1, .int a1)] (by decide +kernel) rfl (Nat.le_of_ble_eq_true rfl) rfl ?_
  refine q_aload_n 1 0 12 rfl (by decide +kernel) rfl ?_
  refine q_getr (f := 0) 1 15 rfl (by decide +kernel) (cC_Mo D tc x0 y) (rfl : mKd 0 = (1, 0, 21, 0, 0)) (by decide) rfl rfl tw_5_212 ?_
  refine q_iload_n 2 1 16 rfl (by decide +kernel) rfl ?_
  refine q_iconst 5 (c := 5) 17 rfl (by decide +kernel) rfl ?_
  refine q_callS_i 20 rfl (av := [.int a1, .int 5]) (st := [q_r (mG D tc x0 y) 1]) (c_Mo_edit X.1 D tc x0 y I J P a1 5) yv_Mo_edit tw_6_63 tw_6_64 rfl (Nat.le_of_ble_eq_true rfl) (by decide +kernel) ⟨Nat.le_of_ble_eq_true rfl, Nat.le_of_ble_eq_true rfl⟩ ⟨Nat.le_of_ble_eq_true rfl, Nat.le_of_ble_eq_true rfl⟩ rfl rfl (fun v2 => ?_)
  refine q_iald (t := 0) 21 rfl (by decide +kernel) (rfl : mKd 1 = (2, 280, 0, 0, 0)) rfl (fun j2 hj2 => ?_)
  refine q_leti (fun x2 => ?_)
  refine q_istore_n 3 3 22 rfl [(3, .int x2), (2, .int x1), (0, q_r (mG D tc x0 y) 0), (1, .int a1)] (by decide +kernel) rfl (Nat.le_of_ble_eq_true rfl) rfl ?_
  refine q_iload_n 1 2 23 rfl (by decide +kernel) rfl ?_
  refine q_if_ne 26 rfl 104 (off := 81) (by decide +kernel) rfl (fun h8 => ?_) (fun h8 => ?_)
  · refine q_aload_n 2 0 105 rfl (by decide +kernel) rfl ?_
    refine q_aload_n 2 0 106 rfl (by decide +kernel) rfl ?_
    refine q_getr (f := 0) 1 109 rfl (by decide +kernel) (cC_Mo D tc x0 y) (rfl : mKd 0 = (1, 0, 21, 0, 0)) (by decide) rfl rfl tw_5_212 ?_
    refine q_iload_n 3 1 110 rfl (by decide +kernel) rfl ?_
    refine q_iconst 4 (c := 4) 111 rfl (by decide +kernel) rfl ?_
    refine q_callS_i 114 rfl (av := [.int a1, .int 4]) (st := [q_r (mG D tc x0 y) 1, q_r (mG D tc x0 y) 0]) (c_Mo_edit X.1 D tc x0 y I J P a1 4) yv_Mo_edit tw_6_63 tw_6_64 rfl (Nat.le_of_ble_eq_true rfl) (by decide +kernel) ⟨Nat.le_of_ble_eq_true rfl, Nat.le_of_ble_eq_true rfl⟩ ⟨Nat.le_of_ble_eq_true rfl, Nat.le_of_ble_eq_true rfl⟩ rfl rfl (fun v3 => ?_)
    refine q_iald (t := 0) 115 rfl (by decide +kernel) (rfl : mKd 1 = (2, 280, 0, 0, 0)) rfl (fun j3 hj3 => ?_)
    refine q_callV_i 118 rfl (av := [.int (I 1 j3)]) (o := 0) (st := []) (c_Mo_find X.1 D tc x0 y I J P (I 1 j3)) yv_Mo_find tw_6_89 tw_6_91 sw_34 (cC_Mo D tc x0 y) (rfl : mKd 0 = (1, 0, 21, 0, 0)) rfl (Nat.le_of_ble_eq_true rfl) (by decide +kernel) ⟨Nat.le_of_ble_eq_true rfl, Nat.le_of_ble_eq_true rfl⟩ ⟨Nat.le_of_ble_eq_true rfl, Nat.le_of_ble_eq_true rfl⟩ rfl rfl (fun v4 => ?_)
    refine q_istore 4 120 rfl [(4, .int v4), (3, .int x2), (2, .int x1), (0, q_r (mG D tc x0 y) 0), (1, .int a1)] (by decide +kernel) (Nat.le_of_ble_eq_true rfl) rfl ?_
    refine q_iload_n 2 2 121 rfl (by decide +kernel) rfl ?_
    refine q_case (fun h1 => ?_) (fun h1 => ?_)
    · refine q_tableInE (dflt := 122) (lo := 1) (hi := 5) (offs := #[35, 50, 65, 80, 100]) (len := 35) (c := 1) (off := 35) h1 156 (by decide +kernel) (by decide) (by decide) rfl (by decide) ?_
      refine q_aload_n 3 0 157 rfl (by decide +kernel) rfl ?_
      refine q_getr (f := 8) 6 160 rfl (by decide +kernel) (cC_Mo D tc x0 y) (rfl : mKd 0 = (1, 0, 21, 0, 0)) (by decide) rfl rfl tw_5_220 ?_
      refine q_iload 0 4 162 rfl (by decide +kernel) rfl ?_
      refine q_iconst 1 (c := 1) 163 rfl (by decide +kernel) rfl ?_
      refine q_callS_i 166 rfl (av := [.int v4, .int 1]) (st := [q_r (mG D tc x0 y) 6]) (c_Mo_meeting X.1 D tc x0 y I J P v4 1) yv_Mo_meeting tw_6_86 tw_6_87 rfl (Nat.le_of_ble_eq_true rfl) (by decide +kernel) ⟨Nat.le_of_ble_eq_true rfl, Nat.le_of_ble_eq_true rfl⟩ ⟨Nat.le_of_ble_eq_true rfl, Nat.le_of_ble_eq_true rfl⟩ rfl rfl (fun v5 => ?_)
      refine q_iload_n 1 3 167 rfl (by decide +kernel) rfl ?_
      refine q_iast (t := 0) 168 rfl (by decide +kernel) (rfl : mKd 6 = (2, 175, 0, 0, 0)) rfl (fun j4 hj4 => ?_)
      refine q_letI (fun I1 => ?_)
      refine q_goto (off := 129) 297 (by decide +kernel) rfl ?_
      exact q_vret (by decide +kernel) rfl rfl (Nat.le_of_ble_eq_true rfl) (Nat.le_of_ble_eq_true rfl)
    refine q_case (fun h2 => ?_) (fun h2 => ?_)
    · refine q_tableInE (dflt := 122) (lo := 1) (hi := 5) (offs := #[35, 50, 65, 80, 100]) (len := 35) (c := 2) (off := 50) h2 171 (by decide +kernel) (by decide) (by decide) rfl (by decide) ?_
      refine q_aload_n 3 0 172 rfl (by decide +kernel) rfl ?_
      refine q_getr (f := 8) 6 175 rfl (by decide +kernel) (cC_Mo D tc x0 y) (rfl : mKd 0 = (1, 0, 21, 0, 0)) (by decide) rfl rfl tw_5_220 ?_
      refine q_iload 0 4 177 rfl (by decide +kernel) rfl ?_
      refine q_iconst 3 (c := 3) 178 rfl (by decide +kernel) rfl ?_
      refine q_callS_i 181 rfl (av := [.int v4, .int 3]) (st := [q_r (mG D tc x0 y) 6]) (c_Mo_meeting X.1 D tc x0 y I J P v4 3) yv_Mo_meeting tw_6_86 tw_6_87 rfl (Nat.le_of_ble_eq_true rfl) (by decide +kernel) ⟨Nat.le_of_ble_eq_true rfl, Nat.le_of_ble_eq_true rfl⟩ ⟨Nat.le_of_ble_eq_true rfl, Nat.le_of_ble_eq_true rfl⟩ rfl rfl (fun v6 => ?_)
      refine q_iload_n 1 3 182 rfl (by decide +kernel) rfl ?_
      refine q_iast (t := 0) 183 rfl (by decide +kernel) (rfl : mKd 6 = (2, 175, 0, 0, 0)) rfl (fun j5 hj5 => ?_)
      refine q_letI (fun I2 => ?_)
      refine q_goto (off := 114) 297 (by decide +kernel) rfl ?_
      exact q_vret (by decide +kernel) rfl rfl (Nat.le_of_ble_eq_true rfl) (Nat.le_of_ble_eq_true rfl)
    refine q_case (fun h3 => ?_) (fun h3 => ?_)
    · refine q_tableInE (dflt := 122) (lo := 1) (hi := 5) (offs := #[35, 50, 65, 80, 100]) (len := 35) (c := 3) (off := 65) h3 186 (by decide +kernel) (by decide) (by decide) rfl (by decide) ?_
      refine q_aload_n 3 0 187 rfl (by decide +kernel) rfl ?_
      refine q_getr (f := 8) 6 190 rfl (by decide +kernel) (cC_Mo D tc x0 y) (rfl : mKd 0 = (1, 0, 21, 0, 0)) (by decide) rfl rfl tw_5_220 ?_
      refine q_iload 0 4 192 rfl (by decide +kernel) rfl ?_
      refine q_iconst 2 (c := 2) 193 rfl (by decide +kernel) rfl ?_
      refine q_callS_i 196 rfl (av := [.int v4, .int 2]) (st := [q_r (mG D tc x0 y) 6]) (c_Mo_meeting X.1 D tc x0 y I J P v4 2) yv_Mo_meeting tw_6_86 tw_6_87 rfl (Nat.le_of_ble_eq_true rfl) (by decide +kernel) ⟨Nat.le_of_ble_eq_true rfl, Nat.le_of_ble_eq_true rfl⟩ ⟨Nat.le_of_ble_eq_true rfl, Nat.le_of_ble_eq_true rfl⟩ rfl rfl (fun v7 => ?_)
      refine q_iload_n 1 3 197 rfl (by decide +kernel) rfl ?_
      refine q_iast (t := 0) 198 rfl (by decide +kernel) (rfl : mKd 6 = (2, 175, 0, 0, 0)) rfl (fun j6 hj6 => ?_)
      refine q_letI (fun I3 => ?_)
      refine q_goto (off := 99) 297 (by decide +kernel) rfl ?_
      exact q_vret (by decide +kernel) rfl rfl (Nat.le_of_ble_eq_true rfl) (Nat.le_of_ble_eq_true rfl)
    refine q_case (fun h4 => ?_) (fun h4 => ?_)
    · refine q_tableInE (dflt := 122) (lo := 1) (hi := 5) (offs := #[35, 50, 65, 80, 100]) (len := 35) (c := 4) (off := 80) h4 201 (by decide +kernel) (by decide) (by decide) rfl (by decide) ?_
      refine q_aload_n 3 0 202 rfl (by decide +kernel) rfl ?_
      refine q_getr (f := 8) 6 205 rfl (by decide +kernel) (cC_Mo D tc x0 y) (rfl : mKd 0 = (1, 0, 21, 0, 0)) (by decide) rfl rfl tw_5_220 ?_
      refine q_iload 0 4 207 rfl (by decide +kernel) rfl ?_
      refine q_iconst 4 (c := 4) 208 rfl (by decide +kernel) rfl ?_
      refine q_callS_i 211 rfl (av := [.int v4, .int 4]) (st := [q_r (mG D tc x0 y) 6]) (c_Mo_meeting X.1 D tc x0 y I J P v4 4) yv_Mo_meeting tw_6_86 tw_6_87 rfl (Nat.le_of_ble_eq_true rfl) (by decide +kernel) ⟨Nat.le_of_ble_eq_true rfl, Nat.le_of_ble_eq_true rfl⟩ ⟨Nat.le_of_ble_eq_true rfl, Nat.le_of_ble_eq_true rfl⟩ rfl rfl (fun v8 => ?_)
      refine q_dup2 212 rfl (by decide +kernel) rfl rfl ?_
      refine q_iald (t := 0) 213 rfl (by decide +kernel) (rfl : mKd 6 = (2, 175, 0, 0, 0)) rfl (fun j7 hj7 => ?_)
      refine q_iconst 1 (c := 1) 214 rfl (by decide +kernel) rfl ?_
      refine q_iload_n 1 3 215 rfl (by decide +kernel) rfl ?_
      refine q_ishl 216 rfl (by decide +kernel) ?_
      refine q_ior 217 rfl (by decide +kernel) ?_
      refine q_iast (t := 0) 218 rfl (by decide +kernel) (rfl : mKd 6 = (2, 175, 0, 0, 0)) rfl (fun j8 hj8 => ?_)
      refine q_letI (fun I4 => ?_)
      refine q_goto (off := 79) 297 (by decide +kernel) rfl ?_
      exact q_vret (by decide +kernel) rfl rfl (Nat.le_of_ble_eq_true rfl) (Nat.le_of_ble_eq_true rfl)
    refine q_case (fun h5 => ?_) (fun h5 => ?_)
    · refine q_tableInE (dflt := 122) (lo := 1) (hi := 5) (offs := #[35, 50, 65, 80, 100]) (len := 35) (c := 5) (off := 100) h5 221 (by decide +kernel) (by decide) (by decide) rfl (by decide) ?_
      refine q_aload_n 3 0 222 rfl (by decide +kernel) rfl ?_
      refine q_getr (f := 8) 6 225 rfl (by decide +kernel) (cC_Mo D tc x0 y) (rfl : mKd 0 = (1, 0, 21, 0, 0)) (by decide) rfl rfl tw_5_220 ?_
      refine q_iload 0 4 227 rfl (by decide +kernel) rfl ?_
      refine q_iconst 4 (c := 4) 228 rfl (by decide +kernel) rfl ?_
      refine q_callS_i 231 rfl (av := [.int v4, .int 4]) (st := [q_r (mG D tc x0 y) 6]) (c_Mo_meeting X.1 D tc x0 y I J P v4 4) yv_Mo_meeting tw_6_86 tw_6_87 rfl (Nat.le_of_ble_eq_true rfl) (by decide +kernel) ⟨Nat.le_of_ble_eq_true rfl, Nat.le_of_ble_eq_true rfl⟩ ⟨Nat.le_of_ble_eq_true rfl, Nat.le_of_ble_eq_true rfl⟩ rfl rfl (fun v9 => ?_)
      refine q_dup2 232 rfl (by decide +kernel) rfl rfl ?_
      refine q_iald (t := 0) 233 rfl (by decide +kernel) (rfl : mKd 6 = (2, 175, 0, 0, 0)) rfl (fun j9 hj9 => ?_)
      refine q_iconst 1 (c := 1) 234 rfl (by decide +kernel) rfl ?_
      refine q_iload_n 1 3 235 rfl (by decide +kernel) rfl ?_
      refine q_ishl 236 rfl (by decide +kernel) ?_
      refine q_iconst (-1) (c := -1) 237 rfl (by decide +kernel) rfl ?_
      refine q_ixor 238 rfl (by decide +kernel) ?_
      refine q_iand 239 rfl (by decide +kernel) ?_
      refine q_iast (t := 0) 240 rfl (by decide +kernel) (rfl : mKd 6 = (2, 175, 0, 0, 0)) rfl (fun j10 hj10 => ?_)
      refine q_letI (fun I5 => ?_)
      refine q_goto (off := 57) 297 (by decide +kernel) rfl ?_
      exact q_vret (by decide +kernel) rfl rfl (Nat.le_of_ble_eq_true rfl) (Nat.le_of_ble_eq_true rfl)
    have eh1 := q_neI (z := 1) (by decide) h1
    have eh2 := q_neI (z := 2) (by decide) h2
    have eh3 := q_neI (z := 3) (by decide) h3
    have eh4 := q_neI (z := 4) (by decide) h4
    have eh5 := q_neI (z := 5) (by decide) h5
    refine q_tableOut (dflt := 122) (lo := 1) (hi := 5) (offs := #[35, 50, 65, 80, 100]) (len := 35) 243 (by decide +kernel) (by omega) (by decide) ?_
    refine q_aload_n 3 0 244 rfl (by decide +kernel) rfl ?_
    refine q_dup 245 rfl (by decide +kernel) rfl ?_
    refine q_geti (f := 7) 248 rfl (by decide +kernel) (cC_Mo D tc x0 y) (rfl : mKd 0 = (1, 0, 21, 0, 0)) (by decide) rfl tw_5_219 ?_
    refine q_iconst 1 (c := 1) 249 rfl (by decide +kernel) rfl ?_
    refine q_isub 250 rfl (by decide +kernel) ?_
    refine q_puti (f := 7) 253 rfl (by decide +kernel) (cC_Mo D tc x0 y) (rfl : mKd 0 = (1, 0, 21, 0, 0)) (by decide) rfl rfl rfl tw_5_219 ?_
    refine q_letI (fun I6 => ?_)
    refine q_iload 0 4 255 rfl (by decide +kernel) rfl ?_
    refine q_iconst 0 (c := 0) 256 rfl (by decide +kernel) rfl ?_
    refine q_callS_i 259 rfl (av := [.int v4, .int 0]) (st := []) (c_Mo_meeting X.1 D tc x0 y I6 J P v4 0) yv_Mo_meeting tw_6_86 tw_6_87 rfl (Nat.le_of_ble_eq_true rfl) (by decide +kernel) ⟨Nat.le_of_ble_eq_true rfl, Nat.le_of_ble_eq_true rfl⟩ ⟨Nat.le_of_ble_eq_true rfl, Nat.le_of_ble_eq_true rfl⟩ rfl rfl (fun v10 => ?_)
    refine q_istore 5 261 rfl [(5, .int v10), (4, .int v4), (3, .int x2), (2, .int x1), (0, q_r (mG D tc x0 y) 0), (1, .int a1)] (by decide +kernel) (Nat.le_of_ble_eq_true rfl) rfl ?_
    have hL1 : ∀ (n1_ : Nat) (x3 : Int32) (I7 : q_I), q_V (mG D tc x0 y) m_Mo_carriesOut X (fun r : q_I => (none, (r, J, P))) 0 0 261 [(0, q_r (mG D tc x0 y) 0), (5, .int x3)] [] I7 J P (f_Mo_carriesOut_L1  n1_ x3 I7) := by
      intro n1_
      induction n1_ with
      | zero => intro x3 I7; exact q_none
      | succ n1_ ih1 =>
        intro x3 I7
        rw [f_Mo_carriesOut_L1]
        refine q_iload 1 5 263 rfl (by decide +kernel) rfl ?_
        refine q_aload_n 0 0 264 rfl (by decide +kernel) rfl ?_
        refine q_geti (f := 7) 267 rfl (by decide +kernel) (cC_Mo D tc x0 y) (rfl : mKd 0 = (1, 0, 21, 0, 0)) (by decide) rfl tw_5_219 ?_
        refine q_iconst 0 (c := 0) 268 rfl (by decide +kernel) rfl ?_
        refine q_callS_i 271 rfl (av := [.int (I7 0 7), .int 0]) (st := [.int x3]) (c_Mo_meeting X.1 D tc x0 y I7 J P (I7 0 7) 0) yv_Mo_meeting tw_6_86 tw_6_87 rfl (Nat.le_of_ble_eq_true rfl) (by decide +kernel) ⟨Nat.le_of_ble_eq_true rfl, Nat.le_of_ble_eq_true rfl⟩ ⟨Nat.le_of_ble_eq_true rfl, Nat.le_of_ble_eq_true rfl⟩ rfl rfl (fun v11 => ?_)
        refine q_icmp_ge 274 rfl 297 (off := 26) (by decide +kernel) rfl (fun h6 => ?_) (fun h6 => ?_)
        · exact q_vret (by decide +kernel) rfl rfl (Nat.le_of_ble_eq_true rfl) (Nat.le_of_ble_eq_true rfl)
        · refine q_aload_n 0 0 275 rfl (by decide +kernel) rfl ?_
          refine q_getr (f := 8) 6 278 rfl (by decide +kernel) (cC_Mo D tc x0 y) (rfl : mKd 0 = (1, 0, 21, 0, 0)) (by decide) rfl rfl tw_5_220 ?_
          refine q_iload 1 5 280 rfl (by decide +kernel) rfl ?_
          refine q_aload_n 0 0 281 rfl (by decide +kernel) rfl ?_
          refine q_getr (f := 8) 6 284 rfl (by decide +kernel) (cC_Mo D tc x0 y) (rfl : mKd 0 = (1, 0, 21, 0, 0)) (by decide) rfl rfl tw_5_220 ?_
          refine q_iload 1 5 286 rfl (by decide +kernel) rfl ?_
          refine q_bipush 7 (c := 7) 288 rfl (by decide +kernel) rfl ?_
          refine q_iadd 289 rfl (by decide +kernel) ?_
          refine q_iald (t := 0) 290 rfl (by decide +kernel) (rfl : mKd 6 = (2, 175, 0, 0, 0)) rfl (fun j11 hj11 => ?_)
          refine q_iast (t := 0) 291 rfl (by decide +kernel) (rfl : mKd 6 = (2, 175, 0, 0, 0)) rfl (fun j12 hj12 => ?_)
          refine q_letI (fun I8 => ?_)
          refine q_iinc (x3 + 1) (c := 1) 5 1 294 rfl [(5, .int (x3 + 1)), (0, q_r (mG D tc x0 y) 0)] (by decide +kernel) rfl rfl (Nat.le_of_ble_eq_true rfl) rfl ?_
          refine q_goto (off := -33) 261 (by decide +kernel) rfl ?_
          refine q_sub [1, 0] rfl ?_
          exact ih1 (x3 + 1) I8
    refine q_sub [4, 0] rfl ?_
    exact hL1 _ _ _
  · refine q_aload_n 2 0 27 rfl (by decide +kernel) rfl ?_
    refine q_getr (f := 8) 6 30 rfl (by decide +kernel) (cC_Mo D tc x0 y) (rfl : mKd 0 = (1, 0, 21, 0, 0)) (by decide) rfl rfl tw_5_220 ?_
    refine q_aload_n 2 0 31 rfl (by decide +kernel) rfl ?_
    refine q_geti (f := 7) 34 rfl (by decide +kernel) (cC_Mo D tc x0 y) (rfl : mKd 0 = (1, 0, 21, 0, 0)) (by decide) rfl tw_5_219 ?_
    refine q_iconst 0 (c := 0) 35 rfl (by decide +kernel) rfl ?_
    refine q_callS_i 38 rfl (av := [.int (I 0 7), .int 0]) (st := [q_r (mG D tc x0 y) 6]) (c_Mo_meeting X.1 D tc x0 y I J P (I 0 7) 0) yv_Mo_meeting tw_6_86 tw_6_87 rfl (Nat.le_of_ble_eq_true rfl) (by decide +kernel) ⟨Nat.le_of_ble_eq_true rfl, Nat.le_of_ble_eq_true rfl⟩ ⟨Nat.le_of_ble_eq_true rfl, Nat.le_of_ble_eq_true rfl⟩ rfl rfl (fun v12 => ?_)
    refine q_aload_n 2 0 39 rfl (by decide +kernel) rfl ?_
    refine q_getr (f := 0) 1 42 rfl (by decide +kernel) (cC_Mo D tc x0 y) (rfl : mKd 0 = (1, 0, 21, 0, 0)) (by decide) rfl rfl tw_5_212 ?_
    refine q_iload_n 3 1 43 rfl (by decide +kernel) rfl ?_
    refine q_iconst 0 (c := 0) 44 rfl (by decide +kernel) rfl ?_
    refine q_callS_i 47 rfl (av := [.int a1, .int 0]) (st := [q_r (mG D tc x0 y) 1, .int v12, q_r (mG D tc x0 y) 6]) (c_Mo_edit X.1 D tc x0 y I J P a1 0) yv_Mo_edit tw_6_63 tw_6_64 rfl (Nat.le_of_ble_eq_true rfl) (by decide +kernel) ⟨Nat.le_of_ble_eq_true rfl, Nat.le_of_ble_eq_true rfl⟩ ⟨Nat.le_of_ble_eq_true rfl, Nat.le_of_ble_eq_true rfl⟩ rfl rfl (fun v13 => ?_)
    refine q_iald (t := 0) 48 rfl (by decide +kernel) (rfl : mKd 1 = (2, 280, 0, 0, 0)) rfl (fun j13 hj13 => ?_)
    refine q_iast (t := 0) 49 rfl (by decide +kernel) (rfl : mKd 6 = (2, 175, 0, 0, 0)) rfl (fun j14 hj14 => ?_)
    refine q_letI (fun I9 => ?_)
    refine q_iconst 1 (c := 1) 50 rfl (by decide +kernel) rfl ?_
    refine q_istore 4 52 rfl [(4, .int 1), (3, .int x2), (2, .int x1), (0, q_r (mG D tc x0 y) 0), (1, .int a1)] (by decide +kernel) (Nat.le_of_ble_eq_true rfl) rfl ?_
    have hL2 : ∀ (K2 : q_I → Option (q_I)) (hK2 : ∀ (I12 : q_I), q_V (mG D tc x0 y) m_Mo_carriesOut X (fun r : q_I => (none, (r, J, P))) 0 0 93 [(0, q_r (mG D tc x0 y) 0)] [] I12 J P (K2 I12)) (n2_ : Nat) (x4 : Int32) (I10 : q_I), q_V (mG D tc x0 y) m_Mo_carriesOut X (fun r : q_I => (none, (r, J, P))) 0 0 52 [(0, q_r (mG D tc x0 y) 0), (1, .int a1), (4, .int x4)] [] I10 J P (f_Mo_carriesOut_L2 a1 K2 n2_ x4 I10) := by
      intro K2 hK2 n2_
      induction n2_ with
      | zero => intro x4 I10; exact q_none
      | succ n2_ ih2 =>
        intro x4 I10
        rw [f_Mo_carriesOut_L2]
        refine q_iload 2 4 54 rfl (by decide +kernel) rfl ?_
        refine q_bipush 6 (c := 6) 56 rfl (by decide +kernel) rfl ?_
        refine q_icmp_gt 59 rfl 93 (off := 37) (by decide +kernel) rfl (fun h7 => ?_) (fun h7 => ?_)
        · refine q_sub [0] rfl ?_
          exact hK2 I10
        · refine q_aload_n 0 0 60 rfl (by decide +kernel) rfl ?_
          refine q_getr (f := 8) 6 63 rfl (by decide +kernel) (cC_Mo D tc x0 y) (rfl : mKd 0 = (1, 0, 21, 0, 0)) (by decide) rfl rfl tw_5_220 ?_
          refine q_aload_n 0 0 64 rfl (by decide +kernel) rfl ?_
          refine q_geti (f := 7) 67 rfl (by decide +kernel) (cC_Mo D tc x0 y) (rfl : mKd 0 = (1, 0, 21, 0, 0)) (by decide) rfl tw_5_219 ?_
          refine q_iload 2 4 69 rfl (by decide +kernel) rfl ?_
          refine q_callS_i 72 rfl (av := [.int (I10 0 7), .int x4]) (st := [q_r (mG D tc x0 y) 6]) (c_Mo_meeting X.1 D tc x0 y I10 J P (I10 0 7) x4) yv_Mo_meeting tw_6_86 tw_6_87 rfl (Nat.le_of_ble_eq_true rfl) (by decide +kernel) ⟨Nat.le_of_ble_eq_true rfl, Nat.le_of_ble_eq_true rfl⟩ ⟨Nat.le_of_ble_eq_true rfl, Nat.le_of_ble_eq_true rfl⟩ rfl rfl (fun v14 => ?_)
          refine q_aload_n 0 0 73 rfl (by decide +kernel) rfl ?_
          refine q_getr (f := 0) 1 76 rfl (by decide +kernel) (cC_Mo D tc x0 y) (rfl : mKd 0 = (1, 0, 21, 0, 0)) (by decide) rfl rfl tw_5_212 ?_
          refine q_iload_n 1 1 77 rfl (by decide +kernel) rfl ?_
          refine q_bipush 6 (c := 6) 79 rfl (by decide +kernel) rfl ?_
          refine q_iload 2 4 81 rfl (by decide +kernel) rfl ?_
          refine q_iadd 82 rfl (by decide +kernel) ?_
          refine q_callS_i 85 rfl (av := [.int a1, .int (6 + x4)]) (st := [q_r (mG D tc x0 y) 1, .int v14, q_r (mG D tc x0 y) 6]) (c_Mo_edit X.1 D tc x0 y I10 J P a1 (6 + x4)) yv_Mo_edit tw_6_63 tw_6_64 rfl (Nat.le_of_ble_eq_true rfl) (by decide +kernel) ⟨Nat.le_of_ble_eq_true rfl, Nat.le_of_ble_eq_true rfl⟩ ⟨Nat.le_of_ble_eq_true rfl, Nat.le_of_ble_eq_true rfl⟩ rfl rfl (fun v15 => ?_)
          refine q_iald (t := 0) 86 rfl (by decide +kernel) (rfl : mKd 1 = (2, 280, 0, 0, 0)) rfl (fun j15 hj15 => ?_)
          refine q_iast (t := 0) 87 rfl (by decide +kernel) (rfl : mKd 6 = (2, 175, 0, 0, 0)) rfl (fun j16 hj16 => ?_)
          refine q_letI (fun I11 => ?_)
          refine q_iinc (x4 + 1) (c := 1) 4 2 90 rfl [(4, .int (x4 + 1)), (0, q_r (mG D tc x0 y) 0), (1, .int a1)] (by decide +kernel) rfl rfl (Nat.le_of_ble_eq_true rfl) rfl ?_
          refine q_goto (off := -38) 52 (by decide +kernel) rfl ?_
          refine q_sub [1, 2, 0] rfl ?_
          exact ih2 (x4 + 1) I11
    refine q_sub [3, 4, 0] rfl ?_
    refine hL2 _ (fun I12 => ?_) _ _ _
    refine q_aload_n 0 0 94 rfl (by decide +kernel) rfl ?_
    refine q_dup 95 rfl (by decide +kernel) rfl ?_
    refine q_geti (f := 7) 98 rfl (by decide +kernel) (cC_Mo D tc x0 y) (rfl : mKd 0 = (1, 0, 21, 0, 0)) (by decide) rfl tw_5_219 ?_
    refine q_iconst 1 (c := 1) 99 rfl (by decide +kernel) rfl ?_
    refine q_iadd 100 rfl (by decide +kernel) ?_
    refine q_puti (f := 7) 103 rfl (by decide +kernel) (cC_Mo D tc x0 y) (rfl : mKd 0 = (1, 0, 21, 0, 0)) (by decide) rfl rfl rfl tw_5_219 ?_
    refine q_letI (fun I13 => ?_)
    exact q_vret (by decide +kernel) rfl rfl (Nat.le_of_ble_eq_true rfl) (Nat.le_of_ble_eq_true rfl)
def f_Mo_forms_L1 (K : q_I → Option (q_I)) : Nat → Int32 → q_I → Option (q_I)
  | 0, _, _ => none
  | n + 1, x1, I2 => if (7 * (I2 0 7)) ≤ x1 then ((K I2)) else (q_ix (40 + x1) 280 (fun j2 => q_ix x1 175 (fun j3 => q_l (q_ui I2 6 j3 (I2 1 j2)) (fun I3 => (f_Mo_forms_L1  K n (x1 + 1) I3)))))
def f_Mo_forms_L2 (a1 : Int32) : Nat → Int32 → q_I → Option (q_I)
  | 0, _, _ => none
  | n + 1, x2, I5 => q_ix 0 280 (fun j4 => if (I5 1 j4) ≤ x2 then (some (I5)) else (if ((a1 >>> (x2 &&& 31)) &&& 1) = 1 then (q_b1 (f_Mo_carriesOut I5 x2) (fun I6 => (f_Mo_forms_L2 a1 n (x2 + 1) I6))) else ((f_Mo_forms_L2 a1 n (x2 + 1) I5))))
def f_Mo_forms (I : q_I) (a1 : Int32) : Option (q_I) :=
  q_ix 2 280 (fun j1 => q_l (q_ui I 0 7 (I 1 j1)) (fun I1 => f_Mo_forms_L1  (fun (I4 : q_I) => f_Mo_forms_L2 a1 q_fu 0 I4) q_fu 0 I1))
def y_Mo_forms : MethodName := ⟨"CalendarReplicasModel", "forms", "(I)V"⟩
def m_Mo_forms : q_M := (prog_11_method_11_code, 3, "CalendarReplicasModel", { frames := 3, cells := 0, slots := 0, locals := 68 }, (none : Option FieldType))
theorem yv_Mo_forms : q_Y y_Mo_forms m_Mo_forms 1 := ⟨rfl, ⟨by decide, by decide⟩, by decide +kernel, tw_6_81, tw_1_15⟩
set_option maxRecDepth 100000 in
set_option maxHeartbeats 4000000 in
theorem c_Mo_forms (l : Launch) (D : va_G) (tc : Nat → ClassId) (x0 y : Nat) (I : q_I) (J : q_J) (P : q_P) (a1 : Int32) : q_Ct l (mG D tc x0 y) y_Mo_forms m_Mo_forms [q_r (mG D tc x0 y) 0, .int a1] (I, J, P) (f_Mo_forms I a1) (fun r : q_I => (none, (r, J, P))) := by
  refine q_Ct_of (mIn D tc x0 y) (by decide) rfl (Nat.le_of_ble_eq_true rfl) rfl (fun X hX => ?_)
  subst hX
  unfold f_Mo_forms
  refine q_aload_n 0 0 1 rfl (by decide +kernel) rfl ?_
  refine q_aload_n 0 0 2 rfl (by decide +kernel) rfl ?_
  refine q_getr (f := 0) 1 5 rfl (by decide +kernel) (cC_Mo D tc x0 y) (rfl : mKd 0 = (1, 0, 21, 0, 0)) (by decide) rfl rfl tw_5_212 ?_
  refine q_iconst 2 (c := 2) 6 rfl (by decide +kernel) rfl ?_
  refine q_iald (t := 0) 7 rfl (by decide +kernel) (rfl : mKd 1 = (2, 280, 0, 0, 0)) rfl (fun j1 hj1 => ?_)
  refine q_puti (f := 7) 10 rfl (by decide +kernel) (cC_Mo D tc x0 y) (rfl : mKd 0 = (1, 0, 21, 0, 0)) (by decide) rfl rfl rfl tw_5_219 ?_
  refine q_letI (fun I1 => ?_)
  refine q_iconst 0 (c := 0) 11 rfl (by decide +kernel) rfl ?_
  refine q_istore_n 2 2 12 rfl [(2, .int 0), (0, q_r (mG D tc x0 y) 0), (1, .int a1)] (by decide +kernel) rfl (Nat.le_of_ble_eq_true rfl) rfl ?_
  have hL1 : ∀ (K1 : q_I → Option (q_I)) (hK1 : ∀ (I4 : q_I), q_V (mG D tc x0 y) m_Mo_forms X (fun r : q_I => (none, (r, J, P))) 0 0 44 [(0, q_r (mG D tc x0 y) 0), (1, .int a1)] [] I4 J P (K1 I4)) (n1_ : Nat) (x1 : Int32) (I2 : q_I), q_V (mG D tc x0 y) m_Mo_forms X (fun r : q_I => (none, (r, J, P))) 0 0 12 [(0, q_r (mG D tc x0 y) 0), (1, .int a1), (2, .int x1)] [] I2 J P (f_Mo_forms_L1  K1 n1_ x1 I2) := by
    intro K1 hK1 n1_
    induction n1_ with
    | zero => intro x1 I2; exact q_none
    | succ n1_ ih1 =>
      intro x1 I2
      rw [f_Mo_forms_L1]
      refine q_iload_n 2 2 13 rfl (by decide +kernel) rfl ?_
      refine q_bipush 7 (c := 7) 15 rfl (by decide +kernel) rfl ?_
      refine q_aload_n 0 0 16 rfl (by decide +kernel) rfl ?_
      refine q_geti (f := 7) 19 rfl (by decide +kernel) (cC_Mo D tc x0 y) (rfl : mKd 0 = (1, 0, 21, 0, 0)) (by decide) rfl tw_5_219 ?_
      refine q_imul 20 rfl (by decide +kernel) ?_
      refine q_icmp_ge 23 rfl 44 (off := 24) (by decide +kernel) rfl (fun h1 => ?_) (fun h1 => ?_)
      · refine q_sub [0, 1] rfl ?_
        exact hK1 I2
      · refine q_aload_n 0 0 24 rfl (by decide +kernel) rfl ?_
        refine q_getr (f := 8) 6 27 rfl (by decide +kernel) (cC_Mo D tc x0 y) (rfl : mKd 0 = (1, 0, 21, 0, 0)) (by decide) rfl rfl tw_5_220 ?_
        refine q_iload_n 2 2 28 rfl (by decide +kernel) rfl ?_
        refine q_aload_n 0 0 29 rfl (by decide +kernel) rfl ?_
        refine q_getr (f := 0) 1 32 rfl (by decide +kernel) (cC_Mo D tc x0 y) (rfl : mKd 0 = (1, 0, 21, 0, 0)) (by decide) rfl rfl tw_5_212 ?_
        refine q_bipush 40 (c := 40) 34 rfl (by decide +kernel) rfl ?_
        refine q_iload_n 2 2 35 rfl (by decide +kernel) rfl ?_
        refine q_iadd 36 rfl (by decide +kernel) ?_
        refine q_iald (t := 0) 37 rfl (by decide +kernel) (rfl : mKd 1 = (2, 280, 0, 0, 0)) rfl (fun j2 hj2 => ?_)
        refine q_iast (t := 0) 38 rfl (by decide +kernel) (rfl : mKd 6 = (2, 175, 0, 0, 0)) rfl (fun j3 hj3 => ?_)
        refine q_letI (fun I3 => ?_)
        refine q_iinc (x1 + 1) (c := 1) 2 2 41 rfl [(2, .int (x1 + 1)), (0, q_r (mG D tc x0 y) 0), (1, .int a1)] (by decide +kernel) rfl rfl (Nat.le_of_ble_eq_true rfl) rfl ?_
        refine q_goto (off := -29) 12 (by decide +kernel) rfl ?_
        refine q_sub [1, 2, 0] rfl ?_
        exact ih1 (x1 + 1) I3
  refine q_sub [1, 2, 0] rfl ?_
  refine hL1 _ (fun I4 => ?_) _ _ _
  refine q_iconst 0 (c := 0) 45 rfl (by decide +kernel) rfl ?_
  refine q_istore_n 2 2 46 rfl [(2, .int 0), (0, q_r (mG D tc x0 y) 0), (1, .int a1)] (by decide +kernel) rfl (Nat.le_of_ble_eq_true rfl) rfl ?_
  have hL2 : ∀ (n2_ : Nat) (x2 : Int32) (I5 : q_I), q_V (mG D tc x0 y) m_Mo_forms X (fun r : q_I => (none, (r, J, P))) 0 0 46 [(0, q_r (mG D tc x0 y) 0), (1, .int a1), (2, .int x2)] [] I5 J P (f_Mo_forms_L2 a1 n2_ x2 I5) := by
    intro n2_
    induction n2_ with
    | zero => intro x2 I5; exact q_none
    | succ n2_ ih2 =>
      intro x2 I5
      rw [f_Mo_forms_L2]
      refine q_iload_n 2 2 47 rfl (by decide +kernel) rfl ?_
      refine q_aload_n 0 0 48 rfl (by decide +kernel) rfl ?_
      refine q_getr (f := 0) 1 51 rfl (by decide +kernel) (cC_Mo D tc x0 y) (rfl : mKd 0 = (1, 0, 21, 0, 0)) (by decide) rfl rfl tw_5_212 ?_
      refine q_iconst 0 (c := 0) 52 rfl (by decide +kernel) rfl ?_
      refine q_iald (t := 0) 53 rfl (by decide +kernel) (rfl : mKd 1 = (2, 280, 0, 0, 0)) rfl (fun j4 hj4 => ?_)
      refine q_icmp_ge 56 rfl 76 (off := 23) (by decide +kernel) rfl (fun h3 => ?_) (fun h3 => ?_)
      · exact q_vret (by decide +kernel) rfl rfl (Nat.le_of_ble_eq_true rfl) (Nat.le_of_ble_eq_true rfl)
      · refine q_iload_n 1 1 57 rfl (by decide +kernel) rfl ?_
        refine q_iload_n 2 2 58 rfl (by decide +kernel) rfl ?_
        refine q_ishr 59 rfl (by decide +kernel) ?_
        refine q_iconst 1 (c := 1) 60 rfl (by decide +kernel) rfl ?_
        refine q_iand 61 rfl (by decide +kernel) ?_
        refine q_iconst 1 (c := 1) 62 rfl (by decide +kernel) rfl ?_
        refine q_icmp_ne 65 rfl 70 (off := 8) (by decide +kernel) rfl (fun h2 => ?_) (fun h2 => ?_)
        · refine q_iinc (x2 + 1) (c := 1) 2 2 73 rfl [(2, .int (x2 + 1)), (0, q_r (mG D tc x0 y) 0), (1, .int a1)] (by decide +kernel) rfl rfl (Nat.le_of_ble_eq_true rfl) rfl ?_
          refine q_goto (off := -27) 46 (by decide +kernel) rfl ?_
          refine q_sub [1, 2, 0] rfl ?_
          exact ih2 (x2 + 1) I5
        · refine q_aload_n 0 0 66 rfl (by decide +kernel) rfl ?_
          refine q_iload_n 2 2 67 rfl (by decide +kernel) rfl ?_
          refine q_callV_vI 70 rfl (av := [.int x2]) (o := 0) (st := []) (c_Mo_carriesOut X.1 D tc x0 y I5 J P x2) yv_Mo_carriesOut tw_6_82 tw_6_84 sw_33 (cC_Mo D tc x0 y) (rfl : mKd 0 = (1, 0, 21, 0, 0)) rfl (Nat.le_of_ble_eq_true rfl) (by decide +kernel) ⟨Nat.le_of_ble_eq_true rfl, Nat.le_of_ble_eq_true rfl⟩ ⟨Nat.le_of_ble_eq_true rfl, Nat.le_of_ble_eq_true rfl⟩ rfl rfl (fun I6 => ?_)
          refine q_iinc (x2 + 1) (c := 1) 2 2 73 rfl [(2, .int (x2 + 1)), (0, q_r (mG D tc x0 y) 0), (1, .int a1)] (by decide +kernel) rfl rfl (Nat.le_of_ble_eq_true rfl) rfl ?_
          refine q_goto (off := -27) 46 (by decide +kernel) rfl ?_
          refine q_sub [1, 2, 0] rfl ?_
          exact ih2 (x2 + 1) I6
  refine q_sub [1, 2, 0] rfl ?_
  exact hL2 _ _ _
def f_Mo_slots (a0 : Int32) (a1 : Int32) (a2 : Int32) : Option (Int64) :=
  q_b1 (if (0 : Int32) ≤ (a0 - a2) then ((some ((a0 - a2)))) else ((some (0))) : Option (Int32)) (fun (x1 : Int32) => q_b1 (if (a1 - a2) ≤ 48 then ((some ((a1 - a2)))) else ((some (48))) : Option (Int32)) (fun (x2 : Int32) => if x1 < x2 then (some ((((1 : Int64) <<< (x2.toInt64 &&& 63)) - ((1 : Int64) <<< (x1.toInt64 &&& 63))))) else (some (0))))
def y_Mo_slots : MethodName := ⟨"CalendarReplicasModel", "slots", "(III)J"⟩
def m_Mo_slots : q_M := (prog_11_method_12_code, 5, "CalendarReplicasModel", { frames := 0, cells := 0, slots := 0, locals := 0 }, (some FieldType.long))
theorem yv_Mo_slots : q_Y y_Mo_slots m_Mo_slots 3 := ⟨rfl, ⟨by decide, by decide⟩, by decide +kernel, tw_6_114, tw_1_15⟩
set_option maxRecDepth 100000 in
set_option maxHeartbeats 4000000 in
theorem c_Mo_slots (l : Launch) (D : va_G) (tc : Nat → ClassId) (x0 y : Nat) (I : q_I) (J : q_J) (P : q_P) (a0 : Int32) (a1 : Int32) (a2 : Int32) : q_Ct l (mG D tc x0 y) y_Mo_slots m_Mo_slots [.int a0, .int a1, .int a2] (I, J, P) (f_Mo_slots a0 a1 a2) (fun r : Int64 => (some (.long r), (I, J, P))) := by
  refine q_Ct_of (mIn D tc x0 y) (by decide) rfl (Nat.le_of_ble_eq_true rfl) rfl (fun X hX => ?_)
  subst hX
  unfold f_Mo_slots
  refine q_iload_n 0 0 1 rfl (by decide +kernel) rfl ?_
  refine q_iload_n 2 2 2 rfl (by decide +kernel) rfl ?_
  refine q_isub 3 rfl (by decide +kernel) ?_
  refine q_jn1 13 (fun x1 => [(1, .int a1), (2, .int a2)]) (fun x1 => [.int x1]) (fun x1 => I) (fun x1 => J) (fun x1 => P) (fun j1 => if (0 : Int32) ≤ (a0 - a2) then ((j1 ((a0 - a2)))) else ((j1 (0)))) (by intro j1; simp only [q_b1_if, q_b1_s, q_b1_n, q_b1_ix, q_b1_b1, q_b1_b2, q_b1_b3, q_b1_l, q_b1_ck, q_b1_el]) ?_ ?_
  · intro x1
    refine q_istore_n 3 3 14 rfl [(3, .int x1), (1, .int a1), (2, .int a2)] (by decide +kernel) rfl (Nat.le_of_ble_eq_true rfl) rfl ?_
    refine q_iload_n 1 1 15 rfl (by decide +kernel) rfl ?_
    refine q_iload_n 2 2 16 rfl (by decide +kernel) rfl ?_
    refine q_isub 17 rfl (by decide +kernel) ?_
    refine q_bipush 48 (c := 48) 19 rfl (by decide +kernel) rfl ?_
    refine q_jn1 30 (fun x2 => [(3, .int x1)]) (fun x2 => [.int x2]) (fun x2 => I) (fun x2 => J) (fun x2 => P) (fun j2 => if (a1 - a2) ≤ 48 then ((j2 ((a1 - a2)))) else ((j2 (48)))) (by intro j2; simp only [q_b1_if, q_b1_s, q_b1_n, q_b1_ix, q_b1_b1, q_b1_b2, q_b1_b3, q_b1_l, q_b1_ck, q_b1_el]) ?_ ?_
    · intro x2
      refine q_istore 4 32 rfl [(4, .int x2), (3, .int x1)] (by decide +kernel) (Nat.le_of_ble_eq_true rfl) rfl ?_
      refine q_iload 0 4 34 rfl (by decide +kernel) rfl ?_
      refine q_iload_n 1 3 35 rfl (by decide +kernel) rfl ?_
      refine q_icmp_gt 38 rfl 42 (off := 7) (by decide +kernel) rfl (fun h1 => ?_) (fun h1 => ?_)
      · refine q_lconst 1 (c := 1) 43 rfl (by decide +kernel) rfl ?_
        refine q_iload 0 4 45 rfl (by decide +kernel) rfl ?_
        refine q_lshl 46 rfl (by decide +kernel) ?_
        refine q_lconst 1 (c := 1) 47 rfl (by decide +kernel) rfl ?_
        refine q_iload_n 1 3 48 rfl (by decide +kernel) rfl ?_
        refine q_lshl 49 rfl (by decide +kernel) ?_
        refine q_lsub 50 rfl (by decide +kernel) ?_
        exact q_lret (by decide +kernel) rfl rfl (Nat.le_of_ble_eq_true rfl) (Nat.le_of_ble_eq_true rfl)
      · refine q_lconst 0 (c := 0) 39 rfl (by decide +kernel) rfl ?_
        refine q_goto (off := 11) 50 (by decide +kernel) rfl ?_
        exact q_lret (by decide +kernel) rfl rfl (Nat.le_of_ble_eq_true rfl) (Nat.le_of_ble_eq_true rfl)
    · intro j2 hj2
      refine q_icmp_le 22 rfl 27 (off := 8) (by decide +kernel) rfl (fun h2 => ?_) (fun h2 => ?_)
      · refine q_iload_n 1 1 28 rfl (by decide +kernel) rfl ?_
        refine q_iload_n 2 2 29 rfl (by decide +kernel) rfl ?_
        refine q_isub 30 rfl (by decide +kernel) ?_
        refine q_sub [0] rfl ?_
        exact hj2 (a1 - a2)
      · refine q_bipush 48 (c := 48) 24 rfl (by decide +kernel) rfl ?_
        refine q_goto (off := 6) 30 (by decide +kernel) rfl ?_
        refine q_sub [0] rfl ?_
        exact hj2 48
  · intro j1 hj1
    refine q_if_ge 6 rfl 10 (off := 7) (by decide +kernel) rfl (fun h3 => ?_) (fun h3 => ?_)
    · refine q_iload_n 0 0 11 rfl (by decide +kernel) rfl ?_
      refine q_iload_n 2 2 12 rfl (by decide +kernel) rfl ?_
      refine q_isub 13 rfl (by decide +kernel) ?_
      refine q_sub [1, 2] rfl ?_
      exact hj1 (a0 - a2)
    · refine q_iconst 0 (c := 0) 7 rfl (by decide +kernel) rfl ?_
      refine q_goto (off := 6) 13 (by decide +kernel) rfl ?_
      refine q_sub [1, 2] rfl ?_
      exact hj1 0
def f_Mo_findSlots_L1 (I : q_I) (a1 : Int32) : Nat → Int32 → q_J → Option (q_J)
  | 0, _, _ => none
  | n + 1, x1, J3 => q_b1 (f_Mo_meeting a1 6) (fun v1 => q_ix v1 175 (fun j3 => if (I 6 j3) ≤ x1 then (some (J3)) else (q_b1 (f_Mo_meeting a1 1) (fun v2 => q_ix v2 175 (fun j4 => q_b1 (f_Mo_meeting a1 5) (fun v3 => q_ix v3 175 (fun j5 => q_l ((I 6 j4) + (x1 * (I 6 j5)) : Int32) (fun x2 => q_ix a1 25 (fun j6 => q_b1 (f_Mo_meeting a1 2) (fun v4 => q_ix v4 175 (fun j7 => q_b1 (f_Mo_slots x2 (x2 + (I 6 j7)) 0) (fun w1 => q_ix a1 25 (fun j8 => q_l (q_uj J3 7 j8 ((J3 7 j6) ||| w1)) (fun J4 => q_ix a1 25 (fun j9 => q_b1 (f_Mo_meeting a1 2) (fun v5 => q_ix v5 175 (fun j10 => q_b1 (f_Mo_slots x2 (x2 + (I 6 j10)) 48) (fun w2 => q_ix a1 25 (fun j11 => q_l (q_uj J4 8 j11 ((J4 8 j9) ||| w2)) (fun J5 => (f_Mo_findSlots_L1 I a1 n (x1 + 1) J5)))))))))))))))))))))
def f_Mo_findSlots (I : q_I) (J : q_J) (a1 : Int32) : Option (q_J) :=
  q_ix a1 25 (fun j1 => q_l (q_uj J 7 j1 0) (fun J1 => q_ix a1 25 (fun j2 => q_l (q_uj J1 8 j2 0) (fun J2 => f_Mo_findSlots_L1 I a1 q_fu 0 J2))))
def y_Mo_findSlots : MethodName := ⟨"CalendarReplicasModel", "findSlots", "(I)V"⟩
def m_Mo_findSlots : q_M := (prog_11_method_13_code, 4, "CalendarReplicasModel", { frames := 1, cells := 0, slots := 0, locals := 24 }, (none : Option FieldType))
theorem yv_Mo_findSlots : q_Y y_Mo_findSlots m_Mo_findSlots 1 := ⟨rfl, ⟨by decide, by decide⟩, by decide +kernel, tw_6_111, tw_1_15⟩
set_option maxRecDepth 100000 in
set_option maxHeartbeats 4000000 in
theorem c_Mo_findSlots (l : Launch) (D : va_G) (tc : Nat → ClassId) (x0 y : Nat) (I : q_I) (J : q_J) (P : q_P) (a1 : Int32) : q_Ct l (mG D tc x0 y) y_Mo_findSlots m_Mo_findSlots [q_r (mG D tc x0 y) 0, .int a1] (I, J, P) (f_Mo_findSlots I J a1) (fun r : q_J => (none, (I, r, P))) := by
  refine q_Ct_of (mIn D tc x0 y) (by decide) rfl (Nat.le_of_ble_eq_true rfl) rfl (fun X hX => ?_)
  subst hX
  unfold f_Mo_findSlots
  refine q_aload_n 0 0 1 rfl (by decide +kernel) rfl ?_
  refine q_getr (f := 9) 7 4 rfl (by decide +kernel) (cC_Mo D tc x0 y) (rfl : mKd 0 = (1, 0, 21, 0, 0)) (by decide) rfl rfl tw_5_221 ?_
  refine q_iload_n 1 1 5 rfl (by decide +kernel) rfl ?_
  refine q_lconst 0 (c := 0) 6 rfl (by decide +kernel) rfl ?_
  refine q_last (t := 2) 7 rfl (by decide +kernel) (rfl : mKd 7 = (3, 25, 2, 0, 0)) rfl (fun j1 hj1 => ?_)
  refine q_letJ (fun J1 => ?_)
  refine q_aload_n 0 0 8 rfl (by decide +kernel) rfl ?_
  refine q_getr (f := 10) 8 11 rfl (by decide +kernel) (cC_Mo D tc x0 y) (rfl : mKd 0 = (1, 0, 21, 0, 0)) (by decide) rfl rfl tw_5_222 ?_
  refine q_iload_n 1 1 12 rfl (by decide +kernel) rfl ?_
  refine q_lconst 0 (c := 0) 13 rfl (by decide +kernel) rfl ?_
  refine q_last (t := 2) 14 rfl (by decide +kernel) (rfl : mKd 8 = (3, 25, 2, 0, 0)) rfl (fun j2 hj2 => ?_)
  refine q_letJ (fun J2 => ?_)
  refine q_iconst 0 (c := 0) 15 rfl (by decide +kernel) rfl ?_
  refine q_istore_n 2 2 16 rfl [(2, .int 0), (0, q_r (mG D tc x0 y) 0), (1, .int a1)] (by decide +kernel) rfl (Nat.le_of_ble_eq_true rfl) rfl ?_
  have hL1 : ∀ (n1_ : Nat) (x1 : Int32) (J3 : q_J), q_V (mG D tc x0 y) m_Mo_findSlots X (fun r : q_J => (none, (I, r, P))) 0 0 16 [(0, q_r (mG D tc x0 y) 0), (1, .int a1), (2, .int x1)] [] I J3 P (f_Mo_findSlots_L1 I a1 n1_ x1 J3) := by
    intro n1_
    induction n1_ with
    | zero => intro x1 J3; exact q_none
    | succ n1_ ih1 =>
      intro x1 J3
      rw [f_Mo_findSlots_L1]
      refine q_iload_n 2 2 17 rfl (by decide +kernel) rfl ?_
      refine q_aload_n 0 0 18 rfl (by decide +kernel) rfl ?_
      refine q_getr (f := 8) 6 21 rfl (by decide +kernel) (cC_Mo D tc x0 y) (rfl : mKd 0 = (1, 0, 21, 0, 0)) (by decide) rfl rfl tw_5_220 ?_
      refine q_iload_n 1 1 22 rfl (by decide +kernel) rfl ?_
      refine q_bipush 6 (c := 6) 24 rfl (by decide +kernel) rfl ?_
      refine q_callS_i 27 rfl (av := [.int a1, .int 6]) (st := [q_r (mG D tc x0 y) 6, .int x1]) (c_Mo_meeting X.1 D tc x0 y I J3 P a1 6) yv_Mo_meeting tw_6_86 tw_6_87 rfl (Nat.le_of_ble_eq_true rfl) (by decide +kernel) ⟨Nat.le_of_ble_eq_true rfl, Nat.le_of_ble_eq_true rfl⟩ ⟨Nat.le_of_ble_eq_true rfl, Nat.le_of_ble_eq_true rfl⟩ rfl rfl (fun v1 => ?_)
      refine q_iald (t := 0) 28 rfl (by decide +kernel) (rfl : mKd 6 = (2, 175, 0, 0, 0)) rfl (fun j3 hj3 => ?_)
      refine q_icmp_ge 31 rfl 114 (off := 86) (by decide +kernel) rfl (fun h1 => ?_) (fun h1 => ?_)
      · exact q_vret (by decide +kernel) rfl rfl (Nat.le_of_ble_eq_true rfl) (Nat.le_of_ble_eq_true rfl)
      · refine q_aload_n 0 0 32 rfl (by decide +kernel) rfl ?_
        refine q_getr (f := 8) 6 35 rfl (by decide +kernel) (cC_Mo D tc x0 y) (rfl : mKd 0 = (1, 0, 21, 0, 0)) (by decide) rfl rfl tw_5_220 ?_
        refine q_iload_n 1 1 36 rfl (by decide +kernel) rfl ?_
        refine q_iconst 1 (c := 1) 37 rfl (by decide +kernel) rfl ?_
        refine q_callS_i 40 rfl (av := [.int a1, .int 1]) (st := [q_r (mG D tc x0 y) 6]) (c_Mo_meeting X.1 D tc x0 y I J3 P a1 1) yv_Mo_meeting tw_6_86 tw_6_87 rfl (Nat.le_of_ble_eq_true rfl) (by decide +kernel) ⟨Nat.le_of_ble_eq_true rfl, Nat.le_of_ble_eq_true rfl⟩ ⟨Nat.le_of_ble_eq_true rfl, Nat.le_of_ble_eq_true rfl⟩ rfl rfl (fun v2 => ?_)
        refine q_iald (t := 0) 41 rfl (by decide +kernel) (rfl : mKd 6 = (2, 175, 0, 0, 0)) rfl (fun j4 hj4 => ?_)
        refine q_iload_n 2 2 42 rfl (by decide +kernel) rfl ?_
        refine q_aload_n 0 0 43 rfl (by decide +kernel) rfl ?_
        refine q_getr (f := 8) 6 46 rfl (by decide +kernel) (cC_Mo D tc x0 y) (rfl : mKd 0 = (1, 0, 21, 0, 0)) (by decide) rfl rfl tw_5_220 ?_
        refine q_iload_n 1 1 47 rfl (by decide +kernel) rfl ?_
        refine q_iconst 5 (c := 5) 48 rfl (by decide +kernel) rfl ?_
        refine q_callS_i 51 rfl (av := [.int a1, .int 5]) (st := [q_r (mG D tc x0 y) 6, .int x1, .int (I 6 j4)]) (c_Mo_meeting X.1 D tc x0 y I J3 P a1 5) yv_Mo_meeting tw_6_86 tw_6_87 rfl (Nat.le_of_ble_eq_true rfl) (by decide +kernel) ⟨Nat.le_of_ble_eq_true rfl, Nat.le_of_ble_eq_true rfl⟩ ⟨Nat.le_of_ble_eq_true rfl, Nat.le_of_ble_eq_true rfl⟩ rfl rfl (fun v3 => ?_)
        refine q_iald (t := 0) 52 rfl (by decide +kernel) (rfl : mKd 6 = (2, 175, 0, 0, 0)) rfl (fun j5 hj5 => ?_)
        refine q_imul 53 rfl (by decide +kernel) ?_
        refine q_iadd 54 rfl (by decide +kernel) ?_
        refine q_leti (fun x2 => ?_)
        refine q_istore_n 3 3 55 rfl [(3, .int x2), (0, q_r (mG D tc x0 y) 0), (1, .int a1), (2, .int x1)] (by decide +kernel) rfl (Nat.le_of_ble_eq_true rfl) rfl ?_
        refine q_aload_n 1 0 56 rfl (by decide +kernel) rfl ?_
        refine q_getr (f := 9) 7 59 rfl (by decide +kernel) (cC_Mo D tc x0 y) (rfl : mKd 0 = (1, 0, 21, 0, 0)) (by decide) rfl rfl tw_5_221 ?_
        refine q_iload_n 2 1 60 rfl (by decide +kernel) rfl ?_
        refine q_dup2 61 rfl (by decide +kernel) rfl rfl ?_
        refine q_lald (t := 2) 62 rfl (by decide +kernel) (rfl : mKd 7 = (3, 25, 2, 0, 0)) rfl (fun j6 hj6 => ?_)
        refine q_iload_n 0 3 63 rfl (by decide +kernel) rfl ?_
        refine q_iload_n 0 3 64 rfl (by decide +kernel) rfl ?_
        refine q_aload_n 1 0 65 rfl (by decide +kernel) rfl ?_
        refine q_getr (f := 8) 6 68 rfl (by decide +kernel) (cC_Mo D tc x0 y) (rfl : mKd 0 = (1, 0, 21, 0, 0)) (by decide) rfl rfl tw_5_220 ?_
        refine q_iload_n 2 1 69 rfl (by decide +kernel) rfl ?_
        refine q_iconst 2 (c := 2) 70 rfl (by decide +kernel) rfl ?_
        refine q_callS_i 73 rfl (av := [.int a1, .int 2]) (st := [q_r (mG D tc x0 y) 6, .int x2, .int x2, .long (J3 7 j6), .int a1, q_r (mG D tc x0 y) 7]) (c_Mo_meeting X.1 D tc x0 y I J3 P a1 2) yv_Mo_meeting tw_6_86 tw_6_87 rfl (Nat.le_of_ble_eq_true rfl) (by decide +kernel) ⟨Nat.le_of_ble_eq_true rfl, Nat.le_of_ble_eq_true rfl⟩ ⟨Nat.le_of_ble_eq_true rfl, Nat.le_of_ble_eq_true rfl⟩ rfl rfl (fun v4 => ?_)
        refine q_iald (t := 0) 74 rfl (by decide +kernel) (rfl : mKd 6 = (2, 175, 0, 0, 0)) rfl (fun j7 hj7 => ?_)
        refine q_iadd 75 rfl (by decide +kernel) ?_
        refine q_iconst 0 (c := 0) 76 rfl (by decide +kernel) rfl ?_
        refine q_callS_l 79 rfl (av := [.int x2, .int (x2 + (I 6 j7)), .int 0]) (st := [.long (J3 7 j6), .int a1, q_r (mG D tc x0 y) 7]) (c_Mo_slots X.1 D tc x0 y I J3 P x2 (x2 + (I 6 j7)) 0) yv_Mo_slots tw_6_112 tw_6_113 rfl (Nat.le_of_ble_eq_true rfl) (by decide +kernel) ⟨Nat.le_of_ble_eq_true rfl, Nat.le_of_ble_eq_true rfl⟩ ⟨Nat.le_of_ble_eq_true rfl, Nat.le_of_ble_eq_true rfl⟩ rfl rfl (fun w1 => ?_)
        refine q_lor 80 rfl (by decide +kernel) ?_
        refine q_last (t := 2) 81 rfl (by decide +kernel) (rfl : mKd 7 = (3, 25, 2, 0, 0)) rfl (fun j8 hj8 => ?_)
        refine q_letJ (fun J4 => ?_)
        refine q_aload_n 1 0 82 rfl (by decide +kernel) rfl ?_
        refine q_getr (f := 10) 8 85 rfl (by decide +kernel) (cC_Mo D tc x0 y) (rfl : mKd 0 = (1, 0, 21, 0, 0)) (by decide) rfl rfl tw_5_222 ?_
        refine q_iload_n 2 1 86 rfl (by decide +kernel) rfl ?_
        refine q_dup2 87 rfl (by decide +kernel) rfl rfl ?_
        refine q_lald (t := 2) 88 rfl (by decide +kernel) (rfl : mKd 8 = (3, 25, 2, 0, 0)) rfl (fun j9 hj9 => ?_)
        refine q_iload_n 0 3 89 rfl (by decide +kernel) rfl ?_
        refine q_iload_n 0 3 90 rfl (by decide +kernel) rfl ?_
        refine q_aload_n 1 0 91 rfl (by decide +kernel) rfl ?_
        refine q_getr (f := 8) 6 94 rfl (by decide +kernel) (cC_Mo D tc x0 y) (rfl : mKd 0 = (1, 0, 21, 0, 0)) (by decide) rfl rfl tw_5_220 ?_
        refine q_iload_n 2 1 95 rfl (by decide +kernel) rfl ?_
        refine q_iconst 2 (c := 2) 96 rfl (by decide +kernel) rfl ?_
        refine q_callS_i 99 rfl (av := [.int a1, .int 2]) (st := [q_r (mG D tc x0 y) 6, .int x2, .int x2, .long (J4 8 j9), .int a1, q_r (mG D tc x0 y) 8]) (c_Mo_meeting X.1 D tc x0 y I J4 P a1 2) yv_Mo_meeting tw_6_86 tw_6_87 rfl (Nat.le_of_ble_eq_true rfl) (by decide +kernel) ⟨Nat.le_of_ble_eq_true rfl, Nat.le_of_ble_eq_true rfl⟩ ⟨Nat.le_of_ble_eq_true rfl, Nat.le_of_ble_eq_true rfl⟩ rfl rfl (fun v5 => ?_)
        refine q_iald (t := 0) 100 rfl (by decide +kernel) (rfl : mKd 6 = (2, 175, 0, 0, 0)) rfl (fun j10 hj10 => ?_)
        refine q_iadd 101 rfl (by decide +kernel) ?_
        refine q_bipush 48 (c := 48) 103 rfl (by decide +kernel) rfl ?_
        refine q_callS_l 106 rfl (av := [.int x2, .int (x2 + (I 6 j10)), .int 48]) (st := [.long (J4 8 j9), .int a1, q_r (mG D tc x0 y) 8]) (c_Mo_slots X.1 D tc x0 y I J4 P x2 (x2 + (I 6 j10)) 48) yv_Mo_slots tw_6_112 tw_6_113 rfl (Nat.le_of_ble_eq_true rfl) (by decide +kernel) ⟨Nat.le_of_ble_eq_true rfl, Nat.le_of_ble_eq_true rfl⟩ ⟨Nat.le_of_ble_eq_true rfl, Nat.le_of_ble_eq_true rfl⟩ rfl rfl (fun w2 => ?_)
        refine q_lor 107 rfl (by decide +kernel) ?_
        refine q_last (t := 2) 108 rfl (by decide +kernel) (rfl : mKd 8 = (3, 25, 2, 0, 0)) rfl (fun j11 hj11 => ?_)
        refine q_letJ (fun J5 => ?_)
        refine q_iinc (x1 + 1) (c := 1) 2 3 111 rfl [(2, .int (x1 + 1)), (3, .int x2), (0, q_r (mG D tc x0 y) 0), (1, .int a1)] (by decide +kernel) rfl rfl (Nat.le_of_ble_eq_true rfl) rfl ?_
        refine q_goto (off := -95) 16 (by decide +kernel) rfl ?_
        refine q_sub [2, 3, 0] rfl ?_
        exact ih1 (x1 + 1) J5
  refine q_sub [1, 2, 0] rfl ?_
  exact hL1 _ _ _
def f_Mo_meets (J : q_J) (a1 : Int32) (a2 : Int32) (a3 : Int32) : Option (Int32) :=
  q_ix a1 25 (fun j1 => q_b1 (f_Mo_slots a2 a3 0) (fun w1 => if (lg_cmp ((J 7 j1) &&& w1) 0) = 0 then (q_ix a1 25 (fun j2 => q_b1 (f_Mo_slots a2 a3 48) (fun w2 => if (lg_cmp ((J 8 j2) &&& w2) 0) = 0 then (some (0)) else (some (1))))) else (some (1))))
def y_Mo_meets : MethodName := ⟨"CalendarReplicasModel", "meets", "(III)Z"⟩
def m_Mo_meets : q_M := (prog_11_method_14_code, 4, "CalendarReplicasModel", { frames := 1, cells := 0, slots := 0, locals := 24 }, (some FieldType.boolean))
theorem yv_Mo_meets : q_Y y_Mo_meets m_Mo_meets 3 := ⟨rfl, ⟨by decide, by decide⟩, by decide +kernel, tw_6_118, tw_1_15⟩
set_option maxRecDepth 100000 in
set_option maxHeartbeats 4000000 in
theorem c_Mo_meets (l : Launch) (D : va_G) (tc : Nat → ClassId) (x0 y : Nat) (I : q_I) (J : q_J) (P : q_P) (a1 : Int32) (a2 : Int32) (a3 : Int32) : q_Ct l (mG D tc x0 y) y_Mo_meets m_Mo_meets [q_r (mG D tc x0 y) 0, .int a1, .int a2, .int a3] (I, J, P) (f_Mo_meets J a1 a2 a3) (fun r : Int32 => (some (.int r), (I, J, P))) := by
  refine q_Ct_of (mIn D tc x0 y) (by decide) rfl (Nat.le_of_ble_eq_true rfl) rfl (fun X hX => ?_)
  subst hX
  unfold f_Mo_meets
  refine q_aload_n 0 0 1 rfl (by decide +kernel) rfl ?_
  refine q_getr (f := 9) 7 4 rfl (by decide +kernel) (cC_Mo D tc x0 y) (rfl : mKd 0 = (1, 0, 21, 0, 0)) (by decide) rfl rfl tw_5_221 ?_
  refine q_iload_n 1 1 5 rfl (by decide +kernel) rfl ?_
  refine q_lald (t := 2) 6 rfl (by decide +kernel) (rfl : mKd 7 = (3, 25, 2, 0, 0)) rfl (fun j1 hj1 => ?_)
  refine q_iload_n 2 2 7 rfl (by decide +kernel) rfl ?_
  refine q_iload_n 3 3 8 rfl (by decide +kernel) rfl ?_
  refine q_iconst 0 (c := 0) 9 rfl (by decide +kernel) rfl ?_
  refine q_callS_l 12 rfl (av := [.int a2, .int a3, .int 0]) (st := [.long (J 7 j1)]) (c_Mo_slots X.1 D tc x0 y I J P a2 a3 0) yv_Mo_slots tw_6_112 tw_6_113 rfl (Nat.le_of_ble_eq_true rfl) (by decide +kernel) ⟨Nat.le_of_ble_eq_true rfl, Nat.le_of_ble_eq_true rfl⟩ ⟨Nat.le_of_ble_eq_true rfl, Nat.le_of_ble_eq_true rfl⟩ rfl rfl (fun w1 => ?_)
  refine q_land 13 rfl (by decide +kernel) ?_
  refine q_lconst 0 (c := 0) 14 rfl (by decide +kernel) rfl ?_
  refine q_lcmp 15 rfl (by decide +kernel) ?_
  refine q_if_ne 18 rfl 37 (off := 22) (by decide +kernel) rfl (fun h2 => ?_) (fun h2 => ?_)
  · refine q_iconst 1 (c := 1) 38 rfl (by decide +kernel) rfl ?_
    refine q_goto (off := 4) 42 (by decide +kernel) rfl ?_
    exact q_zret (w := 1) (by decide +kernel) rfl rfl rfl (Nat.le_of_ble_eq_true rfl) (Nat.le_of_ble_eq_true rfl)
  · refine q_aload_n 0 0 19 rfl (by decide +kernel) rfl ?_
    refine q_getr (f := 10) 8 22 rfl (by decide +kernel) (cC_Mo D tc x0 y) (rfl : mKd 0 = (1, 0, 21, 0, 0)) (by decide) rfl rfl tw_5_222 ?_
    refine q_iload_n 1 1 23 rfl (by decide +kernel) rfl ?_
    refine q_lald (t := 2) 24 rfl (by decide +kernel) (rfl : mKd 8 = (3, 25, 2, 0, 0)) rfl (fun j2 hj2 => ?_)
    refine q_iload_n 2 2 25 rfl (by decide +kernel) rfl ?_
    refine q_iload_n 3 3 26 rfl (by decide +kernel) rfl ?_
    refine q_bipush 48 (c := 48) 28 rfl (by decide +kernel) rfl ?_
    refine q_callS_l 31 rfl (av := [.int a2, .int a3, .int 48]) (st := [.long (J 8 j2)]) (c_Mo_slots X.1 D tc x0 y I J P a2 a3 48) yv_Mo_slots tw_6_112 tw_6_113 rfl (Nat.le_of_ble_eq_true rfl) (by decide +kernel) ⟨Nat.le_of_ble_eq_true rfl, Nat.le_of_ble_eq_true rfl⟩ ⟨Nat.le_of_ble_eq_true rfl, Nat.le_of_ble_eq_true rfl⟩ rfl rfl (fun w2 => ?_)
    refine q_land 32 rfl (by decide +kernel) ?_
    refine q_lconst 0 (c := 0) 33 rfl (by decide +kernel) rfl ?_
    refine q_lcmp 34 rfl (by decide +kernel) ?_
    refine q_if_eq 37 rfl 41 (off := 7) (by decide +kernel) rfl (fun h1 => ?_) (fun h1 => ?_)
    · refine q_iconst 0 (c := 0) 42 rfl (by decide +kernel) rfl ?_
      exact q_zret (w := 0) (by decide +kernel) rfl rfl rfl (Nat.le_of_ble_eq_true rfl) (Nat.le_of_ble_eq_true rfl)
    · refine q_iconst 1 (c := 1) 38 rfl (by decide +kernel) rfl ?_
      refine q_goto (off := 4) 42 (by decide +kernel) rfl ?_
      exact q_zret (w := 1) (by decide +kernel) rfl rfl rfl (Nat.le_of_ble_eq_true rfl) (Nat.le_of_ble_eq_true rfl)
end
