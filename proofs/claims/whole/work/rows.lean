section
-- ===== PART A: goes FIRST, ahead of the names: the tables' words, and 'selects' of the private methods out of them =====
/-- a private method of a class that the tables say can be made, by its rows of tables_1 -/
def lw_okq (q : MethodName × Nat) : Prop := (q.1.cls ≠ "java/lang/invoke/MethodHandle" ∧ q.1.cls ≠ "java/lang/invoke/VarHandle") ∧ Cond.instantiable q.1.cls q.2 ∈ tables_1 ∧ Cond.privateMethod q.1 ∈ tables_1 ∧ Cond.instanceMethod q.1 ∈ tables_1
theorem lw_p0 : lw_okq (⟨"ChantryRolls", "found", "(I)I"⟩, 17) := ⟨⟨by decide +kernel, by decide +kernel⟩, List.mem_of_getElem? (i := 23) (by decide +kernel), List.mem_of_getElem? (i := 385) (by decide +kernel), List.mem_of_getElem? (i := 386) (by decide +kernel)⟩
theorem lw_p1 : lw_okq (⟨"ChantryRolls", "foundNothing", "(I)I"⟩, 17) := ⟨⟨by decide +kernel, by decide +kernel⟩, List.mem_of_getElem? (i := 23) (by decide +kernel), List.mem_of_getElem? (i := 394) (by decide +kernel), List.mem_of_getElem? (i := 395) (by decide +kernel)⟩
theorem lw_p2 : lw_okq (⟨"ChantryRolls$Deeds", "nextToken", "()V"⟩, 6) := ⟨⟨by decide +kernel, by decide +kernel⟩, List.mem_of_getElem? (i := 67) (by decide +kernel), List.mem_of_getElem? (i := 461) (by decide +kernel), List.mem_of_getElem? (i := 462) (by decide +kernel)⟩
theorem lw_p3 : lw_okq (⟨"ChantryRolls$Deeds", "letter", "(I)Z"⟩, 6) := ⟨⟨by decide +kernel, by decide +kernel⟩, List.mem_of_getElem? (i := 67) (by decide +kernel), List.mem_of_getElem? (i := 465) (by decide +kernel), List.mem_of_getElem? (i := 466) (by decide +kernel)⟩
theorem lw_p4 : lw_okq (⟨"ChantryRolls$Deeds", "figure", "(I)Z"⟩, 6) := ⟨⟨by decide +kernel, by decide +kernel⟩, List.mem_of_getElem? (i := 67) (by decide +kernel), List.mem_of_getElem? (i := 469) (by decide +kernel), List.mem_of_getElem? (i := 470) (by decide +kernel)⟩
theorem lw_p5 : lw_okq (⟨"ChantryRolls$Deeds", "readDeed", "(LChantryRolls$Promises;I)I"⟩, 6) := ⟨⟨by decide +kernel, by decide +kernel⟩, List.mem_of_getElem? (i := 67) (by decide +kernel), List.mem_of_getElem? (i := 473) (by decide +kernel), List.mem_of_getElem? (i := 474) (by decide +kernel)⟩
theorem lw_p6 : lw_okq (⟨"ChantryRolls$Deeds", "spells", "(Ljava/lang/String;)Z"⟩, 6) := ⟨⟨by decide +kernel, by decide +kernel⟩, List.mem_of_getElem? (i := 67) (by decide +kernel), List.mem_of_getElem? (i := 478) (by decide +kernel), List.mem_of_getElem? (i := 479) (by decide +kernel)⟩
theorem lw_p7 : lw_okq (⟨"ChantryRolls$Deeds", "readTerm", "(LChantryRolls$Promises;I)I"⟩, 6) := ⟨⟨by decide +kernel, by decide +kernel⟩, List.mem_of_getElem? (i := 67) (by decide +kernel), List.mem_of_getElem? (i := 536) (by decide +kernel), List.mem_of_getElem? (i := 537) (by decide +kernel)⟩
theorem lw_p8 : lw_okq (⟨"ChantryRolls$Deeds", "termSpelt", "()I"⟩, 6) := ⟨⟨by decide +kernel, by decide +kernel⟩, List.mem_of_getElem? (i := 67) (by decide +kernel), List.mem_of_getElem? (i := 540) (by decide +kernel), List.mem_of_getElem? (i := 541) (by decide +kernel)⟩
theorem lw_p9 : lw_okq (⟨"ChantryRolls$Deeds", "numberRead", "()I"⟩, 6) := ⟨⟨by decide +kernel, by decide +kernel⟩, List.mem_of_getElem? (i := 67) (by decide +kernel), List.mem_of_getElem? (i := 558) (by decide +kernel), List.mem_of_getElem? (i := 559) (by decide +kernel)⟩
theorem lw_p10 : lw_okq (⟨"ChantryRolls$Feasts", "insert", "(III)V"⟩, 4) := ⟨⟨by decide +kernel, by decide +kernel⟩, List.mem_of_getElem? (i := 93) (by decide +kernel), List.mem_of_getElem? (i := 618) (by decide +kernel), List.mem_of_getElem? (i := 619) (by decide +kernel)⟩
theorem lw_p11 : lw_okq (⟨"ChantryRolls", "wantedTill", "(II)I"⟩, 17) := ⟨⟨by decide +kernel, by decide +kernel⟩, List.mem_of_getElem? (i := 23) (by decide +kernel), List.mem_of_getElem? (i := 626) (by decide +kernel), List.mem_of_getElem? (i := 627) (by decide +kernel)⟩
theorem lw_p12 : lw_okq (⟨"ChantryRolls$Feasts", "dayBehind", "(I)I"⟩, 4) := ⟨⟨by decide +kernel, by decide +kernel⟩, List.mem_of_getElem? (i := 93) (by decide +kernel), List.mem_of_getElem? (i := 635) (by decide +kernel), List.mem_of_getElem? (i := 636) (by decide +kernel)⟩
theorem lw_p13 : lw_okq (⟨"ChantryRolls$Joins", "has", "(II)Z"⟩, 5) := ⟨⟨by decide +kernel, by decide +kernel⟩, List.mem_of_getElem? (i := 194) (by decide +kernel), List.mem_of_getElem? (i := 647) (by decide +kernel), List.mem_of_getElem? (i := 648) (by decide +kernel)⟩
theorem lw_p14 : lw_okq (⟨"ChantryRolls", "owedTill", "(II)I"⟩, 17) := ⟨⟨by decide +kernel, by decide +kernel⟩, List.mem_of_getElem? (i := 23) (by decide +kernel), List.mem_of_getElem? (i := 652) (by decide +kernel), List.mem_of_getElem? (i := 653) (by decide +kernel)⟩
theorem lw_p15 : lw_okq (⟨"ChantryRolls$Lines", "standsAt", "(I)Z"⟩, 10) := ⟨⟨by decide +kernel, by decide +kernel⟩, List.mem_of_getElem? (i := 156) (by decide +kernel), List.mem_of_getElem? (i := 665) (by decide +kernel), List.mem_of_getElem? (i := 666) (by decide +kernel)⟩
def lw_privs_1 : List (MethodName × Nat) := [(⟨"ChantryRolls", "found", "(I)I"⟩, 17), (⟨"ChantryRolls", "foundNothing", "(I)I"⟩, 17), (⟨"ChantryRolls$Deeds", "nextToken", "()V"⟩, 6), (⟨"ChantryRolls$Deeds", "letter", "(I)Z"⟩, 6), (⟨"ChantryRolls$Deeds", "figure", "(I)Z"⟩, 6), (⟨"ChantryRolls$Deeds", "readDeed", "(LChantryRolls$Promises;I)I"⟩, 6), (⟨"ChantryRolls$Deeds", "spells", "(Ljava/lang/String;)Z"⟩, 6), (⟨"ChantryRolls$Deeds", "readTerm", "(LChantryRolls$Promises;I)I"⟩, 6), (⟨"ChantryRolls$Deeds", "termSpelt", "()I"⟩, 6), (⟨"ChantryRolls$Deeds", "numberRead", "()I"⟩, 6), (⟨"ChantryRolls$Feasts", "insert", "(III)V"⟩, 4), (⟨"ChantryRolls", "wantedTill", "(II)I"⟩, 17), (⟨"ChantryRolls$Feasts", "dayBehind", "(I)I"⟩, 4), (⟨"ChantryRolls$Joins", "has", "(II)Z"⟩, 5), (⟨"ChantryRolls", "owedTill", "(II)I"⟩, 17), (⟨"ChantryRolls$Lines", "standsAt", "(I)Z"⟩, 10)]
theorem lw_r1 : ∀ q ∈ lw_privs_1, lw_okq q := List.forall_mem_cons.mpr ⟨lw_p0, List.forall_mem_cons.mpr ⟨lw_p1, List.forall_mem_cons.mpr ⟨lw_p2, List.forall_mem_cons.mpr ⟨lw_p3, List.forall_mem_cons.mpr ⟨lw_p4, List.forall_mem_cons.mpr ⟨lw_p5, List.forall_mem_cons.mpr ⟨lw_p6, List.forall_mem_cons.mpr ⟨lw_p7, List.forall_mem_cons.mpr ⟨lw_p8, List.forall_mem_cons.mpr ⟨lw_p9, List.forall_mem_cons.mpr ⟨lw_p10, List.forall_mem_cons.mpr ⟨lw_p11, List.forall_mem_cons.mpr ⟨lw_p12, List.forall_mem_cons.mpr ⟨lw_p13, List.forall_mem_cons.mpr ⟨lw_p14, List.forall_mem_cons.mpr ⟨lw_p15, fun _ h => absurd h List.not_mem_nil⟩⟩⟩⟩⟩⟩⟩⟩⟩⟩⟩⟩⟩⟩⟩⟩
theorem lw_p16 : lw_okq (⟨"ChantryRolls$Acts", "takes", "(IIIZ)Z"⟩, 6) := ⟨⟨by decide +kernel, by decide +kernel⟩, List.mem_of_getElem? (i := 131) (by decide +kernel), List.mem_of_getElem? (i := 688) (by decide +kernel), List.mem_of_getElem? (i := 689) (by decide +kernel)⟩
theorem lw_p17 : lw_okq (⟨"ChantryRolls$Lines", "sameAltar", "(II)Z"⟩, 10) := ⟨⟨by decide +kernel, by decide +kernel⟩, List.mem_of_getElem? (i := 156) (by decide +kernel), List.mem_of_getElem? (i := 696) (by decide +kernel), List.mem_of_getElem? (i := 697) (by decide +kernel)⟩
theorem lw_p18 : lw_okq (⟨"ChantryRolls", "noLine", "(III)Z"⟩, 17) := ⟨⟨by decide +kernel, by decide +kernel⟩, List.mem_of_getElem? (i := 23) (by decide +kernel), List.mem_of_getElem? (i := 719) (by decide +kernel), List.mem_of_getElem? (i := 720) (by decide +kernel)⟩
theorem lw_p19 : lw_okq (⟨"ChantryRolls$Lines", "isBehind", "(III)Z"⟩, 10) := ⟨⟨by decide +kernel, by decide +kernel⟩, List.mem_of_getElem? (i := 156) (by decide +kernel), List.mem_of_getElem? (i := 731) (by decide +kernel), List.mem_of_getElem? (i := 732) (by decide +kernel)⟩
theorem lw_p20 : lw_okq (⟨"ChantryRolls$Spans", "nextSpan", "(II)I"⟩, 4) := ⟨⟨by decide +kernel, by decide +kernel⟩, List.mem_of_getElem? (i := 112) (by decide +kernel), List.mem_of_getElem? (i := 836) (by decide +kernel), List.mem_of_getElem? (i := 837) (by decide +kernel)⟩
theorem lw_p21 : lw_okq (⟨"ChantryRolls$Houses", "repairsIn", "(II)I"⟩, 11) := ⟨⟨by decide +kernel, by decide +kernel⟩, List.mem_of_getElem? (i := 216) (by decide +kernel), List.mem_of_getElem? (i := 843) (by decide +kernel), List.mem_of_getElem? (i := 844) (by decide +kernel)⟩
theorem lw_p22 : lw_okq (⟨"ChantryRolls", "comesTo", "(II)I"⟩, 17) := ⟨⟨by decide +kernel, by decide +kernel⟩, List.mem_of_getElem? (i := 23) (by decide +kernel), List.mem_of_getElem? (i := 852) (by decide +kernel), List.mem_of_getElem? (i := 853) (by decide +kernel)⟩
theorem lw_p23 : lw_okq (⟨"ChantryRolls", "ownShare", "(II)I"⟩, 17) := ⟨⟨by decide +kernel, by decide +kernel⟩, List.mem_of_getElem? (i := 23) (by decide +kernel), List.mem_of_getElem? (i := 856) (by decide +kernel), List.mem_of_getElem? (i := 857) (by decide +kernel)⟩
theorem lw_p24 : lw_okq (⟨"ChantryRolls", "feeds", "(II)Z"⟩, 17) := ⟨⟨by decide +kernel, by decide +kernel⟩, List.mem_of_getElem? (i := 23) (by decide +kernel), List.mem_of_getElem? (i := 862) (by decide +kernel), List.mem_of_getElem? (i := 863) (by decide +kernel)⟩
theorem lw_p25 : lw_okq (⟨"ChantryRolls", "obitCost", "(I)I"⟩, 17) := ⟨⟨by decide +kernel, by decide +kernel⟩, List.mem_of_getElem? (i := 23) (by decide +kernel), List.mem_of_getElem? (i := 881) (by decide +kernel), List.mem_of_getElem? (i := 882) (by decide +kernel)⟩
theorem lw_p26 : lw_okq (⟨"ChantryRolls$Dawn", "findLargest", "()V"⟩, 11) := ⟨⟨by decide +kernel, by decide +kernel⟩, List.mem_of_getElem? (i := 280) (by decide +kernel), List.mem_of_getElem? (i := 975) (by decide +kernel), List.mem_of_getElem? (i := 976) (by decide +kernel)⟩
theorem lw_p27 : lw_okq (⟨"ChantryRolls$Dawn", "canAllHaveAnHour", "(I)Z"⟩, 11) := ⟨⟨by decide +kernel, by decide +kernel⟩, List.mem_of_getElem? (i := 280) (by decide +kernel), List.mem_of_getElem? (i := 979) (by decide +kernel), List.mem_of_getElem? (i := 980) (by decide +kernel)⟩
theorem lw_p28 : lw_okq (⟨"ChantryRolls$Dawn", "dealFrom", "(II)Z"⟩, 11) := ⟨⟨by decide +kernel, by decide +kernel⟩, List.mem_of_getElem? (i := 280) (by decide +kernel), List.mem_of_getElem? (i := 986) (by decide +kernel), List.mem_of_getElem? (i := 987) (by decide +kernel)⟩
theorem lw_p29 : lw_okq (⟨"ChantryRolls$Dawn", "leadsToLargest", "(II)Z"⟩, 11) := ⟨⟨by decide +kernel, by decide +kernel⟩, List.mem_of_getElem? (i := 280) (by decide +kernel), List.mem_of_getElem? (i := 990) (by decide +kernel), List.mem_of_getElem? (i := 991) (by decide +kernel)⟩
theorem lw_p30 : lw_okq (⟨"ChantryRolls$Dawn", "isFree", "(II)Z"⟩, 11) := ⟨⟨by decide +kernel, by decide +kernel⟩, List.mem_of_getElem? (i := 280) (by decide +kernel), List.mem_of_getElem? (i := 994) (by decide +kernel), List.mem_of_getElem? (i := 995) (by decide +kernel)⟩
theorem lw_p31 : lw_okq (⟨"ChantryRolls$Dawn", "alike", "(III)Z"⟩, 11) := ⟨⟨by decide +kernel, by decide +kernel⟩, List.mem_of_getElem? (i := 280) (by decide +kernel), List.mem_of_getElem? (i := 998) (by decide +kernel), List.mem_of_getElem? (i := 999) (by decide +kernel)⟩
def lw_privs_2 : List (MethodName × Nat) := [(⟨"ChantryRolls$Acts", "takes", "(IIIZ)Z"⟩, 6), (⟨"ChantryRolls$Lines", "sameAltar", "(II)Z"⟩, 10), (⟨"ChantryRolls", "noLine", "(III)Z"⟩, 17), (⟨"ChantryRolls$Lines", "isBehind", "(III)Z"⟩, 10), (⟨"ChantryRolls$Spans", "nextSpan", "(II)I"⟩, 4), (⟨"ChantryRolls$Houses", "repairsIn", "(II)I"⟩, 11), (⟨"ChantryRolls", "comesTo", "(II)I"⟩, 17), (⟨"ChantryRolls", "ownShare", "(II)I"⟩, 17), (⟨"ChantryRolls", "feeds", "(II)Z"⟩, 17), (⟨"ChantryRolls", "obitCost", "(I)I"⟩, 17), (⟨"ChantryRolls$Dawn", "findLargest", "()V"⟩, 11), (⟨"ChantryRolls$Dawn", "canAllHaveAnHour", "(I)Z"⟩, 11), (⟨"ChantryRolls$Dawn", "dealFrom", "(II)Z"⟩, 11), (⟨"ChantryRolls$Dawn", "leadsToLargest", "(II)Z"⟩, 11), (⟨"ChantryRolls$Dawn", "isFree", "(II)Z"⟩, 11), (⟨"ChantryRolls$Dawn", "alike", "(III)Z"⟩, 11)]
theorem lw_r2 : ∀ q ∈ lw_privs_2, lw_okq q := List.forall_mem_cons.mpr ⟨lw_p16, List.forall_mem_cons.mpr ⟨lw_p17, List.forall_mem_cons.mpr ⟨lw_p18, List.forall_mem_cons.mpr ⟨lw_p19, List.forall_mem_cons.mpr ⟨lw_p20, List.forall_mem_cons.mpr ⟨lw_p21, List.forall_mem_cons.mpr ⟨lw_p22, List.forall_mem_cons.mpr ⟨lw_p23, List.forall_mem_cons.mpr ⟨lw_p24, List.forall_mem_cons.mpr ⟨lw_p25, List.forall_mem_cons.mpr ⟨lw_p26, List.forall_mem_cons.mpr ⟨lw_p27, List.forall_mem_cons.mpr ⟨lw_p28, List.forall_mem_cons.mpr ⟨lw_p29, List.forall_mem_cons.mpr ⟨lw_p30, List.forall_mem_cons.mpr ⟨lw_p31, fun _ h => absurd h List.not_mem_nil⟩⟩⟩⟩⟩⟩⟩⟩⟩⟩⟩⟩⟩⟩⟩⟩
theorem lw_p32 : lw_okq (⟨"ChantryRolls", "kindToday", "(I)I"⟩, 17) := ⟨⟨by decide +kernel, by decide +kernel⟩, List.mem_of_getElem? (i := 23) (by decide +kernel), List.mem_of_getElem? (i := 1019) (by decide +kernel), List.mem_of_getElem? (i := 1020) (by decide +kernel)⟩
theorem lw_p33 : lw_okq (⟨"ChantryRolls", "sizeAs", "(III)I"⟩, 17) := ⟨⟨by decide +kernel, by decide +kernel⟩, List.mem_of_getElem? (i := 23) (by decide +kernel), List.mem_of_getElem? (i := 1032) (by decide +kernel), List.mem_of_getElem? (i := 1033) (by decide +kernel)⟩
theorem lw_p34 : lw_okq (⟨"ChantryRolls", "leaveInTrace", "(I)V"⟩, 17) := ⟨⟨by decide +kernel, by decide +kernel⟩, List.mem_of_getElem? (i := 23) (by decide +kernel), List.mem_of_getElem? (i := 1036) (by decide +kernel), List.mem_of_getElem? (i := 1037) (by decide +kernel)⟩
theorem lw_p35 : lw_okq (⟨"ChantryRolls", "markAs", "(III)I"⟩, 17) := ⟨⟨by decide +kernel, by decide +kernel⟩, List.mem_of_getElem? (i := 23) (by decide +kernel), List.mem_of_getElem? (i := 1040) (by decide +kernel), List.mem_of_getElem? (i := 1041) (by decide +kernel)⟩
theorem lw_p36 : lw_okq (⟨"ChantryRolls", "howManyGone", "()I"⟩, 17) := ⟨⟨by decide +kernel, by decide +kernel⟩, List.mem_of_getElem? (i := 23) (by decide +kernel), List.mem_of_getElem? (i := 1065) (by decide +kernel), List.mem_of_getElem? (i := 1066) (by decide +kernel)⟩
theorem lw_p37 : lw_okq (⟨"ChantryRollsModel", "finding", "(I)I"⟩, 65) := ⟨⟨by decide +kernel, by decide +kernel⟩, List.mem_of_getElem? (i := 1085) (by decide +kernel), List.mem_of_getElem? (i := 1300) (by decide +kernel), List.mem_of_getElem? (i := 1301) (by decide +kernel)⟩
theorem lw_p38 : lw_okq (⟨"ChantryRollsModel", "step", "()V"⟩, 65) := ⟨⟨by decide +kernel, by decide +kernel⟩, List.mem_of_getElem? (i := 1085) (by decide +kernel), List.mem_of_getElem? (i := 1328) (by decide +kernel), List.mem_of_getElem? (i := 1329) (by decide +kernel)⟩
theorem lw_p39 : lw_okq (⟨"ChantryRollsModel", "byteAt", "(I)I"⟩, 65) := ⟨⟨by decide +kernel, by decide +kernel⟩, List.mem_of_getElem? (i := 1085) (by decide +kernel), List.mem_of_getElem? (i := 1332) (by decide +kernel), List.mem_of_getElem? (i := 1333) (by decide +kernel)⟩
theorem lw_p40 : lw_okq (⟨"ChantryRollsModel", "readDeed", "()V"⟩, 65) := ⟨⟨by decide +kernel, by decide +kernel⟩, List.mem_of_getElem? (i := 1085) (by decide +kernel), List.mem_of_getElem? (i := 1343) (by decide +kernel), List.mem_of_getElem? (i := 1344) (by decide +kernel)⟩
theorem lw_p41 : lw_okq (⟨"ChantryRollsModel", "word", "()J"⟩, 65) := ⟨⟨by decide +kernel, by decide +kernel⟩, List.mem_of_getElem? (i := 1085) (by decide +kernel), List.mem_of_getElem? (i := 1347) (by decide +kernel), List.mem_of_getElem? (i := 1348) (by decide +kernel)⟩
theorem lw_p42 : lw_okq (⟨"ChantryRollsModel", "bad", "(I)V"⟩, 65) := ⟨⟨by decide +kernel, by decide +kernel⟩, List.mem_of_getElem? (i := 1085) (by decide +kernel), List.mem_of_getElem? (i := 1353) (by decide +kernel), List.mem_of_getElem? (i := 1354) (by decide +kernel)⟩
theorem lw_p43 : lw_okq (⟨"ChantryRollsModel", "need", "(Z)V"⟩, 65) := ⟨⟨by decide +kernel, by decide +kernel⟩, List.mem_of_getElem? (i := 1085) (by decide +kernel), List.mem_of_getElem? (i := 1357) (by decide +kernel), List.mem_of_getElem? (i := 1358) (by decide +kernel)⟩
theorem lw_p44 : lw_okq (⟨"ChantryRollsModel", "readTerm", "()V"⟩, 65) := ⟨⟨by decide +kernel, by decide +kernel⟩, List.mem_of_getElem? (i := 1085) (by decide +kernel), List.mem_of_getElem? (i := 1361) (by decide +kernel), List.mem_of_getElem? (i := 1362) (by decide +kernel)⟩
theorem lw_p45 : lw_okq (⟨"ChantryRollsModel", "termOfWord", "()I"⟩, 65) := ⟨⟨by decide +kernel, by decide +kernel⟩, List.mem_of_getElem? (i := 1085) (by decide +kernel), List.mem_of_getElem? (i := 1365) (by decide +kernel), List.mem_of_getElem? (i := 1366) (by decide +kernel)⟩
theorem lw_p46 : lw_okq (⟨"ChantryRollsModel", "isPromise", "(I)Z"⟩, 65) := ⟨⟨by decide +kernel, by decide +kernel⟩, List.mem_of_getElem? (i := 1085) (by decide +kernel), List.mem_of_getElem? (i := 1391) (by decide +kernel), List.mem_of_getElem? (i := 1392) (by decide +kernel)⟩
theorem lw_p47 : lw_okq (⟨"ChantryRollsModel", "of", "(II)I"⟩, 65) := ⟨⟨by decide +kernel, by decide +kernel⟩, List.mem_of_getElem? (i := 1085) (by decide +kernel), List.mem_of_getElem? (i := 1396) (by decide +kernel), List.mem_of_getElem? (i := 1397) (by decide +kernel)⟩
def lw_privs_3 : List (MethodName × Nat) := [(⟨"ChantryRolls", "kindToday", "(I)I"⟩, 17), (⟨"ChantryRolls", "sizeAs", "(III)I"⟩, 17), (⟨"ChantryRolls", "leaveInTrace", "(I)V"⟩, 17), (⟨"ChantryRolls", "markAs", "(III)I"⟩, 17), (⟨"ChantryRolls", "howManyGone", "()I"⟩, 17), (⟨"ChantryRollsModel", "finding", "(I)I"⟩, 65), (⟨"ChantryRollsModel", "step", "()V"⟩, 65), (⟨"ChantryRollsModel", "byteAt", "(I)I"⟩, 65), (⟨"ChantryRollsModel", "readDeed", "()V"⟩, 65), (⟨"ChantryRollsModel", "word", "()J"⟩, 65), (⟨"ChantryRollsModel", "bad", "(I)V"⟩, 65), (⟨"ChantryRollsModel", "need", "(Z)V"⟩, 65), (⟨"ChantryRollsModel", "readTerm", "()V"⟩, 65), (⟨"ChantryRollsModel", "termOfWord", "()I"⟩, 65), (⟨"ChantryRollsModel", "isPromise", "(I)Z"⟩, 65), (⟨"ChantryRollsModel", "of", "(II)I"⟩, 65)]
theorem lw_r3 : ∀ q ∈ lw_privs_3, lw_okq q := List.forall_mem_cons.mpr ⟨lw_p32, List.forall_mem_cons.mpr ⟨lw_p33, List.forall_mem_cons.mpr ⟨lw_p34, List.forall_mem_cons.mpr ⟨lw_p35, List.forall_mem_cons.mpr ⟨lw_p36, List.forall_mem_cons.mpr ⟨lw_p37, List.forall_mem_cons.mpr ⟨lw_p38, List.forall_mem_cons.mpr ⟨lw_p39, List.forall_mem_cons.mpr ⟨lw_p40, List.forall_mem_cons.mpr ⟨lw_p41, List.forall_mem_cons.mpr ⟨lw_p42, List.forall_mem_cons.mpr ⟨lw_p43, List.forall_mem_cons.mpr ⟨lw_p44, List.forall_mem_cons.mpr ⟨lw_p45, List.forall_mem_cons.mpr ⟨lw_p46, List.forall_mem_cons.mpr ⟨lw_p47, fun _ h => absurd h List.not_mem_nil⟩⟩⟩⟩⟩⟩⟩⟩⟩⟩⟩⟩⟩⟩⟩⟩
theorem lw_p48 : lw_okq (⟨"ChantryRollsModel", "line", "(III)I"⟩, 65) := ⟨⟨by decide +kernel, by decide +kernel⟩, List.mem_of_getElem? (i := 1085) (by decide +kernel), List.mem_of_getElem? (i := 1424) (by decide +kernel), List.mem_of_getElem? (i := 1425) (by decide +kernel)⟩
theorem lw_p49 : lw_okq (⟨"ChantryRollsModel", "lookItems", "(III)I"⟩, 65) := ⟨⟨by decide +kernel, by decide +kernel⟩, List.mem_of_getElem? (i := 1085) (by decide +kernel), List.mem_of_getElem? (i := 1434) (by decide +kernel), List.mem_of_getElem? (i := 1435) (by decide +kernel)⟩
theorem lw_p50 : lw_okq (⟨"ChantryRollsModel", "judge", "()V"⟩, 65) := ⟨⟨by decide +kernel, by decide +kernel⟩, List.mem_of_getElem? (i := 1085) (by decide +kernel), List.mem_of_getElem? (i := 1442) (by decide +kernel), List.mem_of_getElem? (i := 1443) (by decide +kernel)⟩
theorem lw_p51 : lw_okq (⟨"ChantryRollsModel", "isEnded", "(II)Z"⟩, 65) := ⟨⟨by decide +kernel, by decide +kernel⟩, List.mem_of_getElem? (i := 1085) (by decide +kernel), List.mem_of_getElem? (i := 1446) (by decide +kernel), List.mem_of_getElem? (i := 1447) (by decide +kernel)⟩
theorem lw_p52 : lw_okq (⟨"ChantryRollsModel", "isTaken", "(II)Z"⟩, 65) := ⟨⟨by decide +kernel, by decide +kernel⟩, List.mem_of_getElem? (i := 1085) (by decide +kernel), List.mem_of_getElem? (i := 1450) (by decide +kernel), List.mem_of_getElem? (i := 1451) (by decide +kernel)⟩
theorem lw_p53 : lw_okq (⟨"ChantryRollsModel", "takenOn", "(I)I"⟩, 65) := ⟨⟨by decide +kernel, by decide +kernel⟩, List.mem_of_getElem? (i := 1085) (by decide +kernel), List.mem_of_getElem? (i := 1454) (by decide +kernel), List.mem_of_getElem? (i := 1455) (by decide +kernel)⟩
theorem lw_p54 : lw_okq (⟨"ChantryRollsModel", "isSick", "(II)Z"⟩, 65) := ⟨⟨by decide +kernel, by decide +kernel⟩, List.mem_of_getElem? (i := 1085) (by decide +kernel), List.mem_of_getElem? (i := 1458) (by decide +kernel), List.mem_of_getElem? (i := 1459) (by decide +kernel)⟩
theorem lw_p55 : lw_okq (⟨"ChantryRollsModel", "isIn", "(II)Z"⟩, 65) := ⟨⟨by decide +kernel, by decide +kernel⟩, List.mem_of_getElem? (i := 1085) (by decide +kernel), List.mem_of_getElem? (i := 1466) (by decide +kernel), List.mem_of_getElem? (i := 1467) (by decide +kernel)⟩
theorem lw_p56 : lw_okq (⟨"ChantryRollsModel", "wantsIn", "(III)I"⟩, 65) := ⟨⟨by decide +kernel, by decide +kernel⟩, List.mem_of_getElem? (i := 1085) (by decide +kernel), List.mem_of_getElem? (i := 1479) (by decide +kernel), List.mem_of_getElem? (i := 1480) (by decide +kernel)⟩
theorem lw_p57 : lw_okq (⟨"ChantryRollsModel", "movedFrom", "(I)I"⟩, 65) := ⟨⟨by decide +kernel, by decide +kernel⟩, List.mem_of_getElem? (i := 1085) (by decide +kernel), List.mem_of_getElem? (i := 1483) (by decide +kernel), List.mem_of_getElem? (i := 1484) (by decide +kernel)⟩
theorem lw_p58 : lw_okq (⟨"ChantryRollsModel", "rankOn", "(I)I"⟩, 65) := ⟨⟨by decide +kernel, by decide +kernel⟩, List.mem_of_getElem? (i := 1085) (by decide +kernel), List.mem_of_getElem? (i := 1487) (by decide +kernel), List.mem_of_getElem? (i := 1488) (by decide +kernel)⟩
theorem lw_p59 : lw_okq (⟨"ChantryRollsModel", "saidTill", "(II)I"⟩, 65) := ⟨⟨by decide +kernel, by decide +kernel⟩, List.mem_of_getElem? (i := 1085) (by decide +kernel), List.mem_of_getElem? (i := 1491) (by decide +kernel), List.mem_of_getElem? (i := 1492) (by decide +kernel)⟩
theorem lw_p60 : lw_okq (⟨"ChantryRollsModel", "otherOf", "(II)I"⟩, 65) := ⟨⟨by decide +kernel, by decide +kernel⟩, List.mem_of_getElem? (i := 1085) (by decide +kernel), List.mem_of_getElem? (i := 1495) (by decide +kernel), List.mem_of_getElem? (i := 1496) (by decide +kernel)⟩
theorem lw_p61 : lw_okq (⟨"ChantryRollsModel", "owedTill", "(II)I"⟩, 65) := ⟨⟨by decide +kernel, by decide +kernel⟩, List.mem_of_getElem? (i := 1085) (by decide +kernel), List.mem_of_getElem? (i := 1499) (by decide +kernel), List.mem_of_getElem? (i := 1500) (by decide +kernel)⟩
theorem lw_p62 : lw_okq (⟨"ChantryRollsModel", "rentOf", "(II)I"⟩, 65) := ⟨⟨by decide +kernel, by decide +kernel⟩, List.mem_of_getElem? (i := 1085) (by decide +kernel), List.mem_of_getElem? (i := 1529) (by decide +kernel), List.mem_of_getElem? (i := 1530) (by decide +kernel)⟩
theorem lw_p63 : lw_okq (⟨"ChantryRollsModel", "comesTo", "(II)I"⟩, 65) := ⟨⟨by decide +kernel, by decide +kernel⟩, List.mem_of_getElem? (i := 1085) (by decide +kernel), List.mem_of_getElem? (i := 1537) (by decide +kernel), List.mem_of_getElem? (i := 1538) (by decide +kernel)⟩
def lw_privs_4 : List (MethodName × Nat) := [(⟨"ChantryRollsModel", "line", "(III)I"⟩, 65), (⟨"ChantryRollsModel", "lookItems", "(III)I"⟩, 65), (⟨"ChantryRollsModel", "judge", "()V"⟩, 65), (⟨"ChantryRollsModel", "isEnded", "(II)Z"⟩, 65), (⟨"ChantryRollsModel", "isTaken", "(II)Z"⟩, 65), (⟨"ChantryRollsModel", "takenOn", "(I)I"⟩, 65), (⟨"ChantryRollsModel", "isSick", "(II)Z"⟩, 65), (⟨"ChantryRollsModel", "isIn", "(II)Z"⟩, 65), (⟨"ChantryRollsModel", "wantsIn", "(III)I"⟩, 65), (⟨"ChantryRollsModel", "movedFrom", "(I)I"⟩, 65), (⟨"ChantryRollsModel", "rankOn", "(I)I"⟩, 65), (⟨"ChantryRollsModel", "saidTill", "(II)I"⟩, 65), (⟨"ChantryRollsModel", "otherOf", "(II)I"⟩, 65), (⟨"ChantryRollsModel", "owedTill", "(II)I"⟩, 65), (⟨"ChantryRollsModel", "rentOf", "(II)I"⟩, 65), (⟨"ChantryRollsModel", "comesTo", "(II)I"⟩, 65)]
theorem lw_r4 : ∀ q ∈ lw_privs_4, lw_okq q := List.forall_mem_cons.mpr ⟨lw_p48, List.forall_mem_cons.mpr ⟨lw_p49, List.forall_mem_cons.mpr ⟨lw_p50, List.forall_mem_cons.mpr ⟨lw_p51, List.forall_mem_cons.mpr ⟨lw_p52, List.forall_mem_cons.mpr ⟨lw_p53, List.forall_mem_cons.mpr ⟨lw_p54, List.forall_mem_cons.mpr ⟨lw_p55, List.forall_mem_cons.mpr ⟨lw_p56, List.forall_mem_cons.mpr ⟨lw_p57, List.forall_mem_cons.mpr ⟨lw_p58, List.forall_mem_cons.mpr ⟨lw_p59, List.forall_mem_cons.mpr ⟨lw_p60, List.forall_mem_cons.mpr ⟨lw_p61, List.forall_mem_cons.mpr ⟨lw_p62, List.forall_mem_cons.mpr ⟨lw_p63, fun _ h => absurd h List.not_mem_nil⟩⟩⟩⟩⟩⟩⟩⟩⟩⟩⟩⟩⟩⟩⟩⟩
theorem lw_p64 : lw_okq (⟨"ChantryRollsModel", "mayStand", "(II)Z"⟩, 65) := ⟨⟨by decide +kernel, by decide +kernel⟩, List.mem_of_getElem? (i := 1085) (by decide +kernel), List.mem_of_getElem? (i := 1590) (by decide +kernel), List.mem_of_getElem? (i := 1591) (by decide +kernel)⟩
theorem lw_p65 : lw_okq (⟨"ChantryRollsModel", "kindOf", "(I)I"⟩, 65) := ⟨⟨by decide +kernel, by decide +kernel⟩, List.mem_of_getElem? (i := 1085) (by decide +kernel), List.mem_of_getElem? (i := 1602) (by decide +kernel), List.mem_of_getElem? (i := 1603) (by decide +kernel)⟩
theorem lw_p66 : lw_okq (⟨"ChantryRollsModel", "sizeOf", "(II)I"⟩, 65) := ⟨⟨by decide +kernel, by decide +kernel⟩, List.mem_of_getElem? (i := 1085) (by decide +kernel), List.mem_of_getElem? (i := 1617) (by decide +kernel), List.mem_of_getElem? (i := 1618) (by decide +kernel)⟩
theorem lw_p67 : lw_okq (⟨"ChantryRollsModel", "began", "(I)V"⟩, 65) := ⟨⟨by decide +kernel, by decide +kernel⟩, List.mem_of_getElem? (i := 1085) (by decide +kernel), List.mem_of_getElem? (i := 1621) (by decide +kernel), List.mem_of_getElem? (i := 1622) (by decide +kernel)⟩
theorem lw_p68 : lw_okq (⟨"ChantryRollsModel", "markOf", "(II)I"⟩, 65) := ⟨⟨by decide +kernel, by decide +kernel⟩, List.mem_of_getElem? (i := 1085) (by decide +kernel), List.mem_of_getElem? (i := 1625) (by decide +kernel), List.mem_of_getElem? (i := 1626) (by decide +kernel)⟩
theorem lw_p69 : lw_okq (⟨"ChantryRollsModel", "obitSize", "(I)I"⟩, 65) := ⟨⟨by decide +kernel, by decide +kernel⟩, List.mem_of_getElem? (i := 1085) (by decide +kernel), List.mem_of_getElem? (i := 1629) (by decide +kernel), List.mem_of_getElem? (i := 1630) (by decide +kernel)⟩
def lw_privs_5 : List (MethodName × Nat) := [(⟨"ChantryRollsModel", "mayStand", "(II)Z"⟩, 65), (⟨"ChantryRollsModel", "kindOf", "(I)I"⟩, 65), (⟨"ChantryRollsModel", "sizeOf", "(II)I"⟩, 65), (⟨"ChantryRollsModel", "began", "(I)V"⟩, 65), (⟨"ChantryRollsModel", "markOf", "(II)I"⟩, 65), (⟨"ChantryRollsModel", "obitSize", "(I)I"⟩, 65)]
theorem lw_r5 : ∀ q ∈ lw_privs_5, lw_okq q := List.forall_mem_cons.mpr ⟨lw_p64, List.forall_mem_cons.mpr ⟨lw_p65, List.forall_mem_cons.mpr ⟨lw_p66, List.forall_mem_cons.mpr ⟨lw_p67, List.forall_mem_cons.mpr ⟨lw_p68, List.forall_mem_cons.mpr ⟨lw_p69, fun _ h => absurd h List.not_mem_nil⟩⟩⟩⟩⟩⟩
def lw_privs : List (MethodName × Nat) := lw_privs_1 ++ (lw_privs_2 ++ (lw_privs_3 ++ (lw_privs_4 ++ (lw_privs_5))))
def lw_tbl : List Cond := k2_sels lw_privs ++ tables_1
theorem lw_privs_ok : ∀ q ∈ lw_privs, lw_okq q := by
  show ∀ q ∈ lw_privs_1 ++ (lw_privs_2 ++ (lw_privs_3 ++ (lw_privs_4 ++ (lw_privs_5)))), lw_okq q
  exact List.forall_mem_append.mpr ⟨lw_r1, List.forall_mem_append.mpr ⟨lw_r2, List.forall_mem_append.mpr ⟨lw_r3, List.forall_mem_append.mpr ⟨lw_r4, lw_r5⟩⟩⟩⟩
-- ===== end of PART A; then your names; then what follows =====
end
section
def qR0 : String := "ChantryRolls"
def qT0 : u_T := fun k => match k with
  | 0 => ("ChantryRolls", "sheets", "LChantryRolls$Sheets;", true)
  | 1 => ("ChantryRolls", "promises", "LChantryRolls$Promises;", true)
  | 2 => ("ChantryRolls", "tape", "LChantryRolls$Deeds;", true)
  | 3 => ("ChantryRolls", "feasts", "LChantryRolls$Feasts;", true)
  | 4 => ("ChantryRolls", "vows", "[I", true)
  | 5 => ("ChantryRolls", "sickness", "LChantryRolls$Spans;", true)
  | 6 => ("ChantryRolls", "acts", "LChantryRolls$Acts;", true)
  | 7 => ("ChantryRolls", "said", "LChantryRolls$Lines;", true)
  | 8 => ("ChantryRolls", "joins", "LChantryRolls$Joins;", true)
  | 9 => ("ChantryRolls", "houses", "LChantryRolls$Houses;", true)
  | 10 => ("ChantryRolls", "prices", "[I", true)
  | 11 => ("ChantryRolls", "namings", "LChantryRolls$Namings;", true)
  | 12 => ("ChantryRolls", "dealt", "LChantryRolls$Dawn;", true)
  | 13 => ("ChantryRolls", "traced", "[I", true)
  | 14 => ("ChantryRolls", "traceLength", "I", false)
  | 15 => ("ChantryRolls", "theDay", "I", false)
  | _ => ("ChantryRolls", "finding", "I", false)
def qY0 : Nat → FieldType := fun k => match k with
  | 0 => (.object "ChantryRolls$Sheets")
  | 1 => (.object "ChantryRolls$Promises")
  | 2 => (.object "ChantryRolls$Deeds")
  | 3 => (.object "ChantryRolls$Feasts")
  | 4 => (.array .int)
  | 5 => (.object "ChantryRolls$Spans")
  | 6 => (.object "ChantryRolls$Acts")
  | 7 => (.object "ChantryRolls$Lines")
  | 8 => (.object "ChantryRolls$Joins")
  | 9 => (.object "ChantryRolls$Houses")
  | 10 => (.array .int)
  | 11 => (.object "ChantryRolls$Namings")
  | 12 => (.object "ChantryRolls$Dawn")
  | 13 => (.array .int)
  | 14 => .int
  | 15 => .int
  | _ => .int
theorem qY0_ok : ∀ k, k < 17 → parseFieldDescriptor (qT0 k).2.2.1 = some (qY0 k) := by decide +kernel
theorem qN0_ok : ∀ a, a < 17 → ∀ b, b < 17 → a ≠ b → (qT0 a).2.1 ≠ (qT0 b).2.1 := by decide +kernel
def qR1 : String := "ChantryRolls$Sheets"
def qT1 : u_T := fun k => match k with
  | 0 => ("ChantryRolls$Sheets", "lanes", "[I", true)
  | 1 => ("ChantryRolls$Sheets", "sizes", "[I", true)
  | _ => ("ChantryRolls$Sheets", "items", "[[I", true)
def qY1 : Nat → FieldType := fun k => match k with
  | 0 => (.array .int)
  | 1 => (.array .int)
  | _ => (.array (.array .int))
theorem qY1_ok : ∀ k, k < 3 → parseFieldDescriptor (qT1 k).2.2.1 = some (qY1 k) := by decide +kernel
theorem qN1_ok : ∀ a, a < 3 → ∀ b, b < 3 → a ≠ b → (qT1 a).2.1 ≠ (qT1 b).2.1 := by decide +kernel
def qR2 : String := "ChantryRolls$Promises"
def qT2 : u_T := fun k => match k with
  | 0 => ("ChantryRolls$Promises", "rows", "[[I", true)
  | _ => ("ChantryRolls$Promises", "there", "I", false)
def qY2 : Nat → FieldType := fun k => match k with
  | 0 => (.array (.array .int))
  | _ => .int
theorem qY2_ok : ∀ k, k < 2 → parseFieldDescriptor (qT2 k).2.2.1 = some (qY2 k) := by decide +kernel
theorem qN2_ok : ∀ a, a < 2 → ∀ b, b < 2 → a ≠ b → (qT2 a).2.1 ≠ (qT2 b).2.1 := by decide +kernel
def qR3 : String := "ChantryRolls$Deeds"
def qT3 : u_T := fun k => match k with
  | 0 => ("ChantryRolls$Deeds", "bytes", "[B", true)
  | 1 => ("ChantryRolls$Deeds", "length", "I", false)
  | 2 => ("ChantryRolls$Deeds", "fault", "I", false)
  | 3 => ("ChantryRolls$Deeds", "token", "I", false)
  | 4 => ("ChantryRolls$Deeds", "tokenFrom", "I", false)
  | _ => ("ChantryRolls$Deeds", "tokenTo", "I", false)
def qY3 : Nat → FieldType := fun k => match k with
  | 0 => (.array .byte)
  | 1 => .int
  | 2 => .int
  | 3 => .int
  | 4 => .int
  | _ => .int
theorem qY3_ok : ∀ k, k < 6 → parseFieldDescriptor (qT3 k).2.2.1 = some (qY3 k) := by decide +kernel
theorem qN3_ok : ∀ a, a < 6 → ∀ b, b < 6 → a ≠ b → (qT3 a).2.1 ≠ (qT3 b).2.1 := by decide +kernel
def qR4 : String := "ChantryRolls$Feasts"
def qT4 : u_T := fun k => match k with
  | 0 => ("ChantryRolls$Feasts", "days", "[I", true)
  | 1 => ("ChantryRolls$Feasts", "ranks", "[I", true)
  | 2 => ("ChantryRolls$Feasts", "kept", "I", false)
  | _ => ("ChantryRolls$Feasts", "told", "I", false)
def qY4 : Nat → FieldType := fun k => match k with
  | 0 => (.array .int)
  | 1 => (.array .int)
  | 2 => .int
  | _ => .int
theorem qY4_ok : ∀ k, k < 4 → parseFieldDescriptor (qT4 k).2.2.1 = some (qY4 k) := by decide +kernel
theorem qN4_ok : ∀ a, a < 4 → ∀ b, b < 4 → a ≠ b → (qT4 a).2.1 ≠ (qT4 b).2.1 := by decide +kernel
def qR5 : String := "ChantryRolls$Spans"
def qT5 : u_T := fun k => match k with
  | 0 => ("ChantryRolls$Spans", "owners", "[I", true)
  | 1 => ("ChantryRolls$Spans", "firsts", "[I", true)
  | 2 => ("ChantryRolls$Spans", "lasts", "[I", true)
  | _ => ("ChantryRolls$Spans", "told", "I", false)
def qY5 : Nat → FieldType := fun k => match k with
  | 0 => (.array .int)
  | 1 => (.array .int)
  | 2 => (.array .int)
  | _ => .int
theorem qY5_ok : ∀ k, k < 4 → parseFieldDescriptor (qT5 k).2.2.1 = some (qY5 k) := by decide +kernel
theorem qN5_ok : ∀ a, a < 4 → ∀ b, b < 4 → a ≠ b → (qT5 a).2.1 ≠ (qT5 b).2.1 := by decide +kernel
def qR6 : String := "ChantryRolls$Acts"
def qT6 : u_T := fun k => match k with
  | 0 => ("ChantryRolls$Acts", "promises", "LChantryRolls$Promises;", true)
  | 1 => ("ChantryRolls$Acts", "days", "[I", true)
  | 2 => ("ChantryRolls$Acts", "firstSouls", "[I", true)
  | 3 => ("ChantryRolls$Acts", "lastSouls", "[I", true)
  | 4 => ("ChantryRolls$Acts", "spares", "[I", true)
  | _ => ("ChantryRolls$Acts", "told", "I", false)
def qY6 : Nat → FieldType := fun k => match k with
  | 0 => (.object "ChantryRolls$Promises")
  | 1 => (.array .int)
  | 2 => (.array .int)
  | 3 => (.array .int)
  | 4 => (.array .int)
  | _ => .int
theorem qY6_ok : ∀ k, k < 6 → parseFieldDescriptor (qT6 k).2.2.1 = some (qY6 k) := by decide +kernel
theorem qN6_ok : ∀ a, a < 6 → ∀ b, b < 6 → a ≠ b → (qT6 a).2.1 ≠ (qT6 b).2.1 := by decide +kernel
def qR7 : String := "ChantryRolls$Lines"
def qT7 : u_T := fun k => match k with
  | 0 => ("ChantryRolls$Lines", "promises", "LChantryRolls$Promises;", true)
  | 1 => ("ChantryRolls$Lines", "acts", "LChantryRolls$Acts;", true)
  | 2 => ("ChantryRolls$Lines", "sickness", "LChantryRolls$Spans;", true)
  | 3 => ("ChantryRolls$Lines", "vows", "[I", true)
  | 4 => ("ChantryRolls$Lines", "saidFor", "[I", true)
  | 5 => ("ChantryRolls$Lines", "days", "[I", true)
  | 6 => ("ChantryRolls$Lines", "hours", "[I", true)
  | 7 => ("ChantryRolls$Lines", "isGood", "[Z", true)
  | 8 => ("ChantryRolls$Lines", "order", "[I", true)
  | _ => ("ChantryRolls$Lines", "told", "I", false)
def qY7 : Nat → FieldType := fun k => match k with
  | 0 => (.object "ChantryRolls$Promises")
  | 1 => (.object "ChantryRolls$Acts")
  | 2 => (.object "ChantryRolls$Spans")
  | 3 => (.array .int)
  | 4 => (.array .int)
  | 5 => (.array .int)
  | 6 => (.array .int)
  | 7 => (.array .boolean)
  | 8 => (.array .int)
  | _ => .int
theorem qY7_ok : ∀ k, k < 10 → parseFieldDescriptor (qT7 k).2.2.1 = some (qY7 k) := by decide +kernel
theorem qN7_ok : ∀ a, a < 10 → ∀ b, b < 10 → a ≠ b → (qT7 a).2.1 ≠ (qT7 b).2.1 := by decide +kernel
def qR8 : String := "ChantryRolls$Joins"
def qT8 : u_T := fun k => match k with
  | 0 => ("ChantryRolls$Joins", "ones", "[I", true)
  | 1 => ("ChantryRolls$Joins", "others", "[I", true)
  | 2 => ("ChantryRolls$Joins", "joined", "[I", true)
  | 3 => ("ChantryRolls$Joins", "parted", "[I", true)
  | _ => ("ChantryRolls$Joins", "told", "I", false)
def qY8 : Nat → FieldType := fun k => match k with
  | 0 => (.array .int)
  | 1 => (.array .int)
  | 2 => (.array .int)
  | 3 => (.array .int)
  | _ => .int
theorem qY8_ok : ∀ k, k < 5 → parseFieldDescriptor (qT8 k).2.2.1 = some (qY8 k) := by decide +kernel
theorem qN8_ok : ∀ a, a < 5 → ∀ b, b < 5 → a ≠ b → (qT8 a).2.1 ≠ (qT8 b).2.1 := by decide +kernel
def qR9 : String := "ChantryRolls$Houses"
def qT9 : u_T := fun k => match k with
  | 0 => ("ChantryRolls$Houses", "rents", "[I", true)
  | 1 => ("ChantryRolls$Houses", "shrinks", "[I", true)
  | 2 => ("ChantryRolls$Houses", "repairedHouses", "[I", true)
  | 3 => ("ChantryRolls$Houses", "repairYears", "[I", true)
  | 4 => ("ChantryRolls$Houses", "repairSums", "[I", true)
  | 5 => ("ChantryRolls$Houses", "repairs", "I", false)
  | 6 => ("ChantryRolls$Houses", "empties", "LChantryRolls$Spans;", true)
  | 7 => ("ChantryRolls$Houses", "bidHouses", "[I", true)
  | 8 => ("ChantryRolls$Houses", "bidders", "[I", true)
  | 9 => ("ChantryRolls$Houses", "bidSums", "[I", true)
  | _ => ("ChantryRolls$Houses", "bids", "I", false)
def qY9 : Nat → FieldType := fun k => match k with
  | 0 => (.array .int)
  | 1 => (.array .int)
  | 2 => (.array .int)
  | 3 => (.array .int)
  | 4 => (.array .int)
  | 5 => .int
  | 6 => (.object "ChantryRolls$Spans")
  | 7 => (.array .int)
  | 8 => (.array .int)
  | 9 => (.array .int)
  | _ => .int
theorem qY9_ok : ∀ k, k < 11 → parseFieldDescriptor (qT9 k).2.2.1 = some (qY9 k) := by decide +kernel
theorem qN9_ok : ∀ a, a < 11 → ∀ b, b < 11 → a ≠ b → (qT9 a).2.1 ≠ (qT9 b).2.1 := by decide +kernel
def qR10 : String := "ChantryRolls$Namings"
def qT10 : u_T := fun k => match k with
  | 0 => ("ChantryRolls$Namings", "vacantFrom", "[I", true)
  | 1 => ("ChantryRolls$Namings", "patrons", "[I", true)
  | 2 => ("ChantryRolls$Namings", "names", "[[I", true)
  | _ => ("ChantryRolls$Namings", "turns", "[[I", true)
def qY10 : Nat → FieldType := fun k => match k with
  | 0 => (.array .int)
  | 1 => (.array .int)
  | 2 => (.array (.array .int))
  | _ => (.array (.array .int))
theorem qY10_ok : ∀ k, k < 4 → parseFieldDescriptor (qT10 k).2.2.1 = some (qY10 k) := by decide +kernel
theorem qN10_ok : ∀ a, a < 4 → ∀ b, b < 4 → a ≠ b → (qT10 a).2.1 ≠ (qT10 b).2.1 := by decide +kernel
def qR11 : String := "ChantryRolls$Dawn"
def qT11 : u_T := fun k => match k with
  | 0 => ("ChantryRolls$Dawn", "promises", "LChantryRolls$Promises;", true)
  | 1 => ("ChantryRolls$Dawn", "sickness", "LChantryRolls$Spans;", true)
  | 2 => ("ChantryRolls$Dawn", "vows", "[I", true)
  | 3 => ("ChantryRolls$Dawn", "members", "[I", true)
  | 4 => ("ChantryRolls$Dawn", "hours", "[I", true)
  | 5 => ("ChantryRolls$Dawn", "isSick", "[Z", true)
  | 6 => ("ChantryRolls$Dawn", "size", "I", false)
  | 7 => ("ChantryRolls$Dawn", "isLargest", "[Z", true)
  | 8 => ("ChantryRolls$Dawn", "most", "I", false)
  | 9 => ("ChantryRolls$Dawn", "altarUse", "[I", true)
  | _ => ("ChantryRolls$Dawn", "priestUse", "[I", true)
def qY11 : Nat → FieldType := fun k => match k with
  | 0 => (.object "ChantryRolls$Promises")
  | 1 => (.object "ChantryRolls$Spans")
  | 2 => (.array .int)
  | 3 => (.array .int)
  | 4 => (.array .int)
  | 5 => (.array .boolean)
  | 6 => .int
  | 7 => (.array .boolean)
  | 8 => .int
  | 9 => (.array .int)
  | _ => (.array .int)
theorem qY11_ok : ∀ k, k < 11 → parseFieldDescriptor (qT11 k).2.2.1 = some (qY11 k) := by decide +kernel
theorem qN11_ok : ∀ a, a < 11 → ∀ b, b < 11 → a ≠ b → (qT11 a).2.1 ≠ (qT11 b).2.1 := by decide +kernel
def qR12 : String := "ChantryRollsModel"
def qT12 : u_T := fun k => match k with
  | 0 => ("ChantryRollsModel", "thrown", "I", false)
  | 1 => ("ChantryRollsModel", "status", "I", false)
  | 2 => ("ChantryRollsModel", "lane", "[I", true)
  | 3 => ("ChantryRollsModel", "many", "[I", true)
  | 4 => ("ChantryRollsModel", "item", "[I", true)
  | 5 => ("ChantryRollsModel", "promises", "I", false)
  | 6 => ("ChantryRollsModel", "row", "[I", true)
  | 7 => ("ChantryRollsModel", "tape", "[I", true)
  | 8 => ("ChantryRollsModel", "taped", "I", false)
  | 9 => ("ChantryRollsModel", "latest", "I", false)
  | 10 => ("ChantryRollsModel", "size", "I", false)
  | 11 => ("ChantryRollsModel", "cursor", "I", false)
  | 12 => ("ChantryRollsModel", "token", "I", false)
  | 13 => ("ChantryRollsModel", "from", "I", false)
  | 14 => ("ChantryRollsModel", "till", "I", false)
  | 15 => ("ChantryRollsModel", "fault", "I", false)
  | 16 => ("ChantryRollsModel", "faultAt", "I", false)
  | 17 => ("ChantryRollsModel", "newPromises", "I", false)
  | 18 => ("ChantryRollsModel", "feasts", "I", false)
  | 19 => ("ChantryRollsModel", "feastDay", "[I", true)
  | 20 => ("ChantryRollsModel", "feastRank", "[I", true)
  | 21 => ("ChantryRollsModel", "said", "I", false)
  | 22 => ("ChantryRollsModel", "linePromise", "[I", true)
  | 23 => ("ChantryRollsModel", "lineDay", "[I", true)
  | 24 => ("ChantryRollsModel", "lineHour", "[I", true)
  | 25 => ("ChantryRollsModel", "isGood", "[Z", true)
  | 26 => ("ChantryRollsModel", "vows", "[I", true)
  | 27 => ("ChantryRollsModel", "sicks", "I", false)
  | 28 => ("ChantryRollsModel", "sickPriest", "[I", true)
  | 29 => ("ChantryRollsModel", "sickFrom", "[I", true)
  | 30 => ("ChantryRollsModel", "sickTo", "[I", true)
  | 31 => ("ChantryRollsModel", "joins", "I", false)
  | 32 => ("ChantryRollsModel", "joinOne", "[I", true)
  | 33 => ("ChantryRollsModel", "joinOther", "[I", true)
  | 34 => ("ChantryRollsModel", "joinFrom", "[I", true)
  | 35 => ("ChantryRollsModel", "joinTo", "[I", true)
  | 36 => ("ChantryRollsModel", "rents", "[I", true)
  | 37 => ("ChantryRollsModel", "shrinks", "[I", true)
  | 38 => ("ChantryRollsModel", "repairs", "I", false)
  | 39 => ("ChantryRollsModel", "repairHouse", "[I", true)
  | 40 => ("ChantryRollsModel", "repairYear", "[I", true)
  | 41 => ("ChantryRollsModel", "repairSum", "[I", true)
  | 42 => ("ChantryRollsModel", "empties", "I", false)
  | 43 => ("ChantryRollsModel", "emptyHouse", "[I", true)
  | 44 => ("ChantryRollsModel", "emptyFrom", "[I", true)
  | 45 => ("ChantryRollsModel", "emptyTo", "[I", true)
  | 46 => ("ChantryRollsModel", "prices", "[I", true)
  | 47 => ("ChantryRollsModel", "vacantOn", "[I", true)
  | 48 => ("ChantryRollsModel", "patrons", "[I", true)
  | 49 => ("ChantryRollsModel", "patron", "[I", true)
  | 50 => ("ChantryRollsModel", "acts", "I", false)
  | 51 => ("ChantryRollsModel", "actDay", "[I", true)
  | 52 => ("ChantryRollsModel", "actFrom", "[I", true)
  | 53 => ("ChantryRollsModel", "actTo", "[I", true)
  | 54 => ("ChantryRollsModel", "actSpares", "[I", true)
  | 55 => ("ChantryRollsModel", "bids", "I", false)
  | 56 => ("ChantryRollsModel", "bidHouse", "[I", true)
  | 57 => ("ChantryRollsModel", "bidPerson", "[I", true)
  | 58 => ("ChantryRollsModel", "bidSum", "[I", true)
  | 59 => ("ChantryRollsModel", "dealt", "[I", true)
  | 60 => ("ChantryRollsModel", "bestDealt", "[I", true)
  | 61 => ("ChantryRollsModel", "whose", "[I", true)
  | 62 => ("ChantryRollsModel", "theDay", "I", false)
  | 63 => ("ChantryRollsModel", "trace", "[I", true)
  | _ => ("ChantryRollsModel", "traced", "I", false)
def qY12 : Nat → FieldType := fun k => match k with
  | 0 => .int
  | 1 => .int
  | 2 => (.array .int)
  | 3 => (.array .int)
  | 4 => (.array .int)
  | 5 => .int
  | 6 => (.array .int)
  | 7 => (.array .int)
  | 8 => .int
  | 9 => .int
  | 10 => .int
  | 11 => .int
  | 12 => .int
  | 13 => .int
  | 14 => .int
  | 15 => .int
  | 16 => .int
  | 17 => .int
  | 18 => .int
  | 19 => (.array .int)
  | 20 => (.array .int)
  | 21 => .int
  | 22 => (.array .int)
  | 23 => (.array .int)
  | 24 => (.array .int)
  | 25 => (.array .boolean)
  | 26 => (.array .int)
  | 27 => .int
  | 28 => (.array .int)
  | 29 => (.array .int)
  | 30 => (.array .int)
  | 31 => .int
  | 32 => (.array .int)
  | 33 => (.array .int)
  | 34 => (.array .int)
  | 35 => (.array .int)
  | 36 => (.array .int)
  | 37 => (.array .int)
  | 38 => .int
  | 39 => (.array .int)
  | 40 => (.array .int)
  | 41 => (.array .int)
  | 42 => .int
  | 43 => (.array .int)
  | 44 => (.array .int)
  | 45 => (.array .int)
  | 46 => (.array .int)
  | 47 => (.array .int)
  | 48 => (.array .int)
  | 49 => (.array .int)
  | 50 => .int
  | 51 => (.array .int)
  | 52 => (.array .int)
  | 53 => (.array .int)
  | 54 => (.array .int)
  | 55 => .int
  | 56 => (.array .int)
  | 57 => (.array .int)
  | 58 => (.array .int)
  | 59 => (.array .int)
  | 60 => (.array .int)
  | 61 => (.array .int)
  | 62 => .int
  | 63 => (.array .int)
  | _ => .int
theorem qY12_ok : ∀ k, k < 65 → parseFieldDescriptor (qT12 k).2.2.1 = some (qY12 k) := by decide +kernel
theorem qN12_ok : ∀ a, a < 65 → ∀ b, b < 65 → a ≠ b → (qT12 a).2.1 ≠ (qT12 b).2.1 := by decide +kernel
abbrev qCl : List vw_C := [(qR0, qT0, 17), (qR1, qT1, 3), (qR2, qT2, 2), (qR3, qT3, 6), (qR4, qT4, 4), (qR5, qT5, 4), (qR6, qT6, 6), (qR7, qT7, 10), (qR8, qT8, 5), (qR9, qT9, 11), (qR10, qT10, 4), (qR11, qT11, 11), (qR12, qT12, 65)]
def y_C_init : MethodName := ⟨"ChantryRolls", "<init>", "()V"⟩
def y_Sheets_init : MethodName := ⟨"ChantryRolls$Sheets", "<init>", "()V"⟩
def y_Ar_fill : MethodName := ⟨"java/util/Arrays", "fill", "([II)V"⟩
def y_Promises_init : MethodName := ⟨"ChantryRolls$Promises", "<init>", "()V"⟩
def y_Deeds_init : MethodName := ⟨"ChantryRolls$Deeds", "<init>", "()V"⟩
def y_Feasts_init : MethodName := ⟨"ChantryRolls$Feasts", "<init>", "()V"⟩
def y_Spans_init : MethodName := ⟨"ChantryRolls$Spans", "<init>", "()V"⟩
def y_Acts_init : MethodName := ⟨"ChantryRolls$Acts", "<init>", "(LChantryRolls$Promises;)V"⟩
def y_Lines_init : MethodName := ⟨"ChantryRolls$Lines", "<init>", "(LChantryRolls$Promises;LChantryRolls$Acts;LChantryRolls$Spans;[I)V"⟩
def y_Joins_init : MethodName := ⟨"ChantryRolls$Joins", "<init>", "()V"⟩
def y_Houses_init : MethodName := ⟨"ChantryRolls$Houses", "<init>", "()V"⟩
def y_Namings_init : MethodName := ⟨"ChantryRolls$Namings", "<init>", "()V"⟩
def y_Dawn_init : MethodName := ⟨"ChantryRolls$Dawn", "<init>", "(LChantryRolls$Promises;LChantryRolls$Spans;[I)V"⟩
def y_C_sheet : MethodName := ⟨"ChantryRolls", "sheet", "(III)I"⟩
def y_Sheets_noSuch : MethodName := ⟨"ChantryRolls$Sheets", "noSuch", "(I)Z"⟩
def y_C_outside : MethodName := ⟨"ChantryRolls", "outside", "(III)Z"⟩
def y_C_found : MethodName := ⟨"ChantryRolls", "found", "(I)I"⟩
def y_Sheets_make : MethodName := ⟨"ChantryRolls$Sheets", "make", "(III)V"⟩
def y_C_foundNothing : MethodName := ⟨"ChantryRolls", "foundNothing", "(I)I"⟩
def y_C_set : MethodName := ⟨"ChantryRolls", "set", "(III)I"⟩
def y_Sheets_missing : MethodName := ⟨"ChantryRolls$Sheets", "missing", "(I)Z"⟩
def y_Sheets_holds : MethodName := ⟨"ChantryRolls$Sheets", "holds", "(III)Z"⟩
def y_Sheets_put : MethodName := ⟨"ChantryRolls$Sheets", "put", "(III)I"⟩
def y_Sheets_lowestBits : MethodName := ⟨"ChantryRolls$Sheets", "lowestBits", "(II)I"⟩
def y_C_copy : MethodName := ⟨"ChantryRolls", "copy", "(IIIII)I"⟩
def y_Sheets_alike : MethodName := ⟨"ChantryRolls$Sheets", "alike", "(II)Z"⟩
def y_Sheets_move : MethodName := ⟨"ChantryRolls$Sheets", "move", "(IIIII)V"⟩
def y_C_drop : MethodName := ⟨"ChantryRolls", "drop", "(I)I"⟩
def y_Sheets_remove : MethodName := ⟨"ChantryRolls$Sheets", "remove", "(I)I"⟩
def y_C_feed : MethodName := ⟨"ChantryRolls", "feed", "(JI)I"⟩
def y_Deeds_take : MethodName := ⟨"ChantryRolls$Deeds", "take", "(JI)I"⟩
def y_C_deeds : MethodName := ⟨"ChantryRolls", "deeds", "()I"⟩
def y_Deeds_read : MethodName := ⟨"ChantryRolls$Deeds", "read", "(LChantryRolls$Promises;)I"⟩
def y_Promises_size : MethodName := ⟨"ChantryRolls$Promises", "size", "()I"⟩
def y_Deeds_nextToken : MethodName := ⟨"ChantryRolls$Deeds", "nextToken", "()V"⟩
def y_Deeds_letter : MethodName := ⟨"ChantryRolls$Deeds", "letter", "(I)Z"⟩
def y_Deeds_figure : MethodName := ⟨"ChantryRolls$Deeds", "figure", "(I)Z"⟩
def y_Deeds_readDeed : MethodName := ⟨"ChantryRolls$Deeds", "readDeed", "(LChantryRolls$Promises;I)I"⟩
def y_Deeds_spells : MethodName := ⟨"ChantryRolls$Deeds", "spells", "(Ljava/lang/String;)Z"⟩
def y_St_length : MethodName := ⟨"java/lang/String", "length", "()I"⟩
def y_St_coder : MethodName := ⟨"java/lang/String", "coder", "()B"⟩
def y_St_charAt : MethodName := ⟨"java/lang/String", "charAt", "(I)C"⟩
def y_St_isLatin1 : MethodName := ⟨"java/lang/String", "isLatin1", "()Z"⟩
def y_Sl_charAt : MethodName := ⟨"java/lang/StringLatin1", "charAt", "([BI)C"⟩
def y_St_checkIndex : MethodName := ⟨"java/lang/String", "checkIndex", "(II)V"⟩
def y_Pc_checkIndex : MethodName := ⟨"jdk/internal/util/Preconditions", "checkIndex", "(IILjava/util/function/BiFunction;)I"⟩
def y_Su_charAt : MethodName := ⟨"java/lang/StringUTF16", "charAt", "([BI)C"⟩
def y_Su_checkIndex : MethodName := ⟨"java/lang/StringUTF16", "checkIndex", "(I[B)V"⟩
def y_Su_length : MethodName := ⟨"java/lang/StringUTF16", "length", "([B)I"⟩
def y_Su_getChar : MethodName := ⟨"java/lang/StringUTF16", "getChar", "([BI)C"⟩
def y_Promises_begin : MethodName := ⟨"ChantryRolls$Promises", "begin", "(IZ)V"⟩
def y_Deeds_readTerm : MethodName := ⟨"ChantryRolls$Deeds", "readTerm", "(LChantryRolls$Promises;I)I"⟩
def y_Deeds_termSpelt : MethodName := ⟨"ChantryRolls$Deeds", "termSpelt", "()I"⟩
def y_Deeds_wordFor : MethodName := ⟨"ChantryRolls$Deeds", "wordFor", "(I)Ljava/lang/String;"⟩
def y_Deeds_numberRead : MethodName := ⟨"ChantryRolls$Deeds", "numberRead", "()I"⟩
def y_Promises_tell : MethodName := ⟨"ChantryRolls$Promises", "tell", "(III)V"⟩
def y_Promises_keep : MethodName := ⟨"ChantryRolls$Promises", "keep", "(I)V"⟩
def y_Ma_min : MethodName := ⟨"java/lang/Math", "min", "(II)I"⟩
def y_C_fault : MethodName := ⟨"ChantryRolls", "fault", "()I"⟩
def y_Deeds_latestFault : MethodName := ⟨"ChantryRolls$Deeds", "latestFault", "()I"⟩
def y_C_told : MethodName := ⟨"ChantryRolls", "told", "(II)I"⟩
def y_Promises_has : MethodName := ⟨"ChantryRolls$Promises", "has", "(I)Z"⟩
def y_Promises_of : MethodName := ⟨"ChantryRolls$Promises", "of", "(II)I"⟩
def y_C_feast : MethodName := ⟨"ChantryRolls", "feast", "(II)I"⟩
def y_C_noDay : MethodName := ⟨"ChantryRolls", "noDay", "(I)Z"⟩
def y_Feasts_full : MethodName := ⟨"ChantryRolls$Feasts", "full", "()Z"⟩
def y_Feasts_add : MethodName := ⟨"ChantryRolls$Feasts", "add", "(II)I"⟩
def y_Ma_max : MethodName := ⟨"java/lang/Math", "max", "(II)I"⟩
def y_Feasts_insert : MethodName := ⟨"ChantryRolls$Feasts", "insert", "(III)V"⟩
def y_C_count : MethodName := ⟨"ChantryRolls", "count", "(III)I"⟩
def y_C_wantedTill : MethodName := ⟨"ChantryRolls", "wantedTill", "(II)I"⟩
def y_Feasts_wantedTill : MethodName := ⟨"ChantryRolls$Feasts", "wantedTill", "(IIII)I"⟩
def y_Feasts_dayBehind : MethodName := ⟨"ChantryRolls$Feasts", "dayBehind", "(I)I"⟩
def y_Lines_countTill : MethodName := ⟨"ChantryRolls$Lines", "countTill", "(IILChantryRolls$Joins;)I"⟩
def y_Joins_otherOf : MethodName := ⟨"ChantryRolls$Joins", "otherOf", "(II)I"⟩
def y_Joins_has : MethodName := ⟨"ChantryRolls$Joins", "has", "(II)Z"⟩
def y_C_owedTill : MethodName := ⟨"ChantryRolls", "owedTill", "(II)I"⟩
def y_C_vow : MethodName := ⟨"ChantryRolls", "vow", "(II)I"⟩
def y_Lines_judge : MethodName := ⟨"ChantryRolls$Lines", "judge", "()V"⟩
def y_Lines_standsAt : MethodName := ⟨"ChantryRolls$Lines", "standsAt", "(I)Z"⟩
def y_Acts_ended : MethodName := ⟨"ChantryRolls$Acts", "ended", "(II)Z"⟩
def y_Acts_takenBy : MethodName := ⟨"ChantryRolls$Acts", "takenBy", "(II)Z"⟩
def y_Acts_dayOfTaking : MethodName := ⟨"ChantryRolls$Acts", "dayOfTaking", "(I)I"⟩
def y_Promises_isObit : MethodName := ⟨"ChantryRolls$Promises", "isObit", "(I)Z"⟩
def y_Acts_takes : MethodName := ⟨"ChantryRolls$Acts", "takes", "(IIIZ)Z"⟩
def y_Spans_covers : MethodName := ⟨"ChantryRolls$Spans", "covers", "(II)Z"⟩
def y_Lines_sameAltar : MethodName := ⟨"ChantryRolls$Lines", "sameAltar", "(II)Z"⟩
def y_C_sick : MethodName := ⟨"ChantryRolls", "sick", "(III)I"⟩
def y_C_noSpan : MethodName := ⟨"ChantryRolls", "noSpan", "(II)Z"⟩
def y_Spans_full : MethodName := ⟨"ChantryRolls$Spans", "full", "()Z"⟩
def y_Spans_add : MethodName := ⟨"ChantryRolls$Spans", "add", "(III)I"⟩
def y_C_say : MethodName := ⟨"ChantryRolls", "say", "(III)I"⟩
def y_C_noLine : MethodName := ⟨"ChantryRolls", "noLine", "(III)Z"⟩
def y_Lines_full : MethodName := ⟨"ChantryRolls$Lines", "full", "()Z"⟩
def y_Lines_add : MethodName := ⟨"ChantryRolls$Lines", "add", "(III)I"⟩
def y_Lines_isBehind : MethodName := ⟨"ChantryRolls$Lines", "isBehind", "(III)Z"⟩
def y_C_lines : MethodName := ⟨"ChantryRolls", "lines", "(III)I"⟩
def y_Sheets_item : MethodName := ⟨"ChantryRolls$Sheets", "item", "(II)I"⟩
def y_C_good : MethodName := ⟨"ChantryRolls", "good", "(I)I"⟩
def y_Lines_size : MethodName := ⟨"ChantryRolls$Lines", "size", "()I"⟩
def y_Lines_isGood : MethodName := ⟨"ChantryRolls$Lines", "isGood", "(I)Z"⟩
def y_C_join : MethodName := ⟨"ChantryRolls", "join", "(III)I"⟩
def y_Joins_holdsFrom : MethodName := ⟨"ChantryRolls$Joins", "holdsFrom", "(II)Z"⟩
def y_Joins_full : MethodName := ⟨"ChantryRolls$Joins", "full", "()Z"⟩
def y_Joins_add : MethodName := ⟨"ChantryRolls$Joins", "add", "(III)V"⟩
def y_C_split : MethodName := ⟨"ChantryRolls", "split", "(II)I"⟩
def y_Joins_part : MethodName := ⟨"ChantryRolls$Joins", "part", "(II)Z"⟩
def y_C_house : MethodName := ⟨"ChantryRolls", "house", "(III)I"⟩
def y_C_noHouse : MethodName := ⟨"ChantryRolls", "noHouse", "(I)Z"⟩
def y_Houses_changeRent : MethodName := ⟨"ChantryRolls$Houses", "changeRent", "(II)I"⟩
def y_Houses_changeShrink : MethodName := ⟨"ChantryRolls$Houses", "changeShrink", "(II)I"⟩
def y_C_repair : MethodName := ⟨"ChantryRolls", "repair", "(III)I"⟩
def y_C_noYear : MethodName := ⟨"ChantryRolls", "noYear", "(I)Z"⟩
def y_Houses_repairsFull : MethodName := ⟨"ChantryRolls$Houses", "repairsFull", "()Z"⟩
def y_Houses_addRepair : MethodName := ⟨"ChantryRolls$Houses", "addRepair", "(III)I"⟩
def y_C_empty : MethodName := ⟨"ChantryRolls", "empty", "(III)I"⟩
def y_Houses_emptiesFull : MethodName := ⟨"ChantryRolls$Houses", "emptiesFull", "()Z"⟩
def y_Houses_addEmpty : MethodName := ⟨"ChantryRolls$Houses", "addEmpty", "(III)I"⟩
def y_C_rent : MethodName := ⟨"ChantryRolls", "rent", "(II)I"⟩
def y_Houses_rentIn : MethodName := ⟨"ChantryRolls$Houses", "rentIn", "(II)I"⟩
def y_Spans_daysWithin : MethodName := ⟨"ChantryRolls$Spans", "daysWithin", "(III)I"⟩
def y_Spans_nextSpan : MethodName := ⟨"ChantryRolls$Spans", "nextSpan", "(II)I"⟩
def y_Houses_repairsIn : MethodName := ⟨"ChantryRolls$Houses", "repairsIn", "(II)I"⟩
def y_C_comes : MethodName := ⟨"ChantryRolls", "comes", "(III)I"⟩
def y_C_comesTo : MethodName := ⟨"ChantryRolls", "comesTo", "(II)I"⟩
def y_C_ownShare : MethodName := ⟨"ChantryRolls", "ownShare", "(II)I"⟩
def y_C_feeds : MethodName := ⟨"ChantryRolls", "feeds", "(II)Z"⟩
def y_C_fails : MethodName := ⟨"ChantryRolls", "fails", "(I)I"⟩
def y_C_price : MethodName := ⟨"ChantryRolls", "price", "(II)I"⟩
def y_C_spent : MethodName := ⟨"ChantryRolls", "spent", "(I)I"⟩
def y_C_obitCost : MethodName := ⟨"ChantryRolls", "obitCost", "(I)I"⟩
def y_C_vacant : MethodName := ⟨"ChantryRolls", "vacant", "(IIIII)I"⟩
def y_Namings_begin : MethodName := ⟨"ChantryRolls$Namings", "begin", "(II)V"⟩
def y_Namings_addPatron : MethodName := ⟨"ChantryRolls$Namings", "addPatron", "(III)V"⟩
def y_C_turn : MethodName := ⟨"ChantryRolls", "turn", "(II)I"⟩
def y_Namings_whoNames : MethodName := ⟨"ChantryRolls$Namings", "whoNames", "(II)I"⟩
def y_C_act : MethodName := ⟨"ChantryRolls", "act", "(IIII)I"⟩
def y_Acts_full : MethodName := ⟨"ChantryRolls$Acts", "full", "()Z"⟩
def y_Acts_add : MethodName := ⟨"ChantryRolls$Acts", "add", "(IIII)I"⟩
def y_C_taken : MethodName := ⟨"ChantryRolls", "taken", "(I)I"⟩
def y_C_pension : MethodName := ⟨"ChantryRolls", "pension", "(II)I"⟩
def y_C_bid : MethodName := ⟨"ChantryRolls", "bid", "(III)I"⟩
def y_Houses_bidsFull : MethodName := ⟨"ChantryRolls$Houses", "bidsFull", "()Z"⟩
def y_Houses_addBid : MethodName := ⟨"ChantryRolls$Houses", "addBid", "(III)I"⟩
def y_C_sold : MethodName := ⟨"ChantryRolls", "sold", "(II)I"⟩
def y_Acts_wholeHouseTakenBy : MethodName := ⟨"ChantryRolls$Acts", "wholeHouseTakenBy", "(II)Z"⟩
def y_Houses_greatestBidder : MethodName := ⟨"ChantryRolls$Houses", "greatestBidder", "(I)I"⟩
def y_C_dawn : MethodName := ⟨"ChantryRolls", "dawn", "(III)I"⟩
def y_Promises_areThere : MethodName := ⟨"ChantryRolls$Promises", "areThere", "(I)Z"⟩
def y_In_bitCount : MethodName := ⟨"java/lang/Integer", "bitCount", "(I)I"⟩
def y_Dawn_deal : MethodName := ⟨"ChantryRolls$Dawn", "deal", "(II)V"⟩
def y_Dawn_findLargest : MethodName := ⟨"ChantryRolls$Dawn", "findLargest", "()V"⟩
def y_Dawn_canAllHaveAnHour : MethodName := ⟨"ChantryRolls$Dawn", "canAllHaveAnHour", "(I)Z"⟩
def y_Dawn_dealFrom : MethodName := ⟨"ChantryRolls$Dawn", "dealFrom", "(II)Z"⟩
def y_Dawn_leadsToLargest : MethodName := ⟨"ChantryRolls$Dawn", "leadsToLargest", "(II)Z"⟩
def y_Dawn_isFree : MethodName := ⟨"ChantryRolls$Dawn", "isFree", "(II)Z"⟩
def y_Dawn_alike : MethodName := ⟨"ChantryRolls$Dawn", "alike", "(III)Z"⟩
def y_Dawn_howMany : MethodName := ⟨"ChantryRolls$Dawn", "howMany", "()I"⟩
def y_Dawn_hourOf : MethodName := ⟨"ChantryRolls$Dawn", "hourOf", "(I)I"⟩
def y_C_day : MethodName := ⟨"ChantryRolls", "day", "(I)I"⟩
def y_C_kind : MethodName := ⟨"ChantryRolls", "kind", "(I)I"⟩
def y_C_kindToday : MethodName := ⟨"ChantryRolls", "kindToday", "(I)I"⟩
def y_C_as : MethodName := ⟨"ChantryRolls", "as", "(II)I"⟩
def y_C_ask : MethodName := ⟨"ChantryRolls", "ask", "(II)I"⟩
def y_C_sizeAs : MethodName := ⟨"ChantryRolls", "sizeAs", "(III)I"⟩
def y_C_leaveInTrace : MethodName := ⟨"ChantryRolls", "leaveInTrace", "(I)V"⟩
def y_C_markAs : MethodName := ⟨"ChantryRolls", "markAs", "(III)I"⟩
def y_C_trace : MethodName := ⟨"ChantryRolls", "trace", "(I)I"⟩
def y_C_all : MethodName := ⟨"ChantryRolls", "all", "(I)I"⟩
def y_Sheets_howMany : MethodName := ⟨"ChantryRolls$Sheets", "howMany", "()I"⟩
def y_Feasts_size : MethodName := ⟨"ChantryRolls$Feasts", "size", "()I"⟩
def y_Lines_howManyGood : MethodName := ⟨"ChantryRolls$Lines", "howManyGood", "()I"⟩
def y_C_howManyGone : MethodName := ⟨"ChantryRolls", "howManyGone", "()I"⟩
def y_Acts_size : MethodName := ⟨"ChantryRolls$Acts", "size", "()I"⟩
def y_Houses_howManyBids : MethodName := ⟨"ChantryRolls$Houses", "howManyBids", "()I"⟩
def y_Deeds_size : MethodName := ⟨"ChantryRolls$Deeds", "size", "()I"⟩
def y_C_status : MethodName := ⟨"ChantryRolls", "status", "()I"⟩
def y_M_init : MethodName := ⟨"ChantryRollsModel", "<init>", "()V"⟩
def y_M_sheet : MethodName := ⟨"ChantryRollsModel", "sheet", "(III)I"⟩
def y_M_isSheet : MethodName := ⟨"ChantryRollsModel", "isSheet", "(I)Z"⟩
def y_M_in : MethodName := ⟨"ChantryRollsModel", "in", "(JJJ)Z"⟩
def y_M_finding : MethodName := ⟨"ChantryRollsModel", "finding", "(I)I"⟩
def y_M_set : MethodName := ⟨"ChantryRollsModel", "set", "(III)I"⟩
def y_M_copy : MethodName := ⟨"ChantryRollsModel", "copy", "(IIIII)I"⟩
def y_M_drop : MethodName := ⟨"ChantryRollsModel", "drop", "(I)I"⟩
def y_M_feed : MethodName := ⟨"ChantryRollsModel", "feed", "(JI)I"⟩
def y_M_deeds : MethodName := ⟨"ChantryRollsModel", "deeds", "()I"⟩
def y_M_step : MethodName := ⟨"ChantryRollsModel", "step", "()V"⟩
def y_M_byteAt : MethodName := ⟨"ChantryRollsModel", "byteAt", "(I)I"⟩
def y_M_isLetter : MethodName := ⟨"ChantryRollsModel", "isLetter", "(I)Z"⟩
def y_M_isFigure : MethodName := ⟨"ChantryRollsModel", "isFigure", "(I)Z"⟩
def y_M_readDeed : MethodName := ⟨"ChantryRollsModel", "readDeed", "()V"⟩
def y_M_word : MethodName := ⟨"ChantryRollsModel", "word", "()J"⟩
def y_M_bad : MethodName := ⟨"ChantryRollsModel", "bad", "(I)V"⟩
def y_M_need : MethodName := ⟨"ChantryRollsModel", "need", "(Z)V"⟩
def y_M_readTerm : MethodName := ⟨"ChantryRollsModel", "readTerm", "()V"⟩
def y_M_termOfWord : MethodName := ⟨"ChantryRollsModel", "termOfWord", "()I"⟩
def y_M_mostOf : MethodName := ⟨"ChantryRollsModel", "mostOf", "(I)I"⟩
def y_M_fault : MethodName := ⟨"ChantryRollsModel", "fault", "()I"⟩
def y_M_told : MethodName := ⟨"ChantryRollsModel", "told", "(II)I"⟩
def y_M_isPromise : MethodName := ⟨"ChantryRollsModel", "isPromise", "(I)Z"⟩
def y_M_of : MethodName := ⟨"ChantryRollsModel", "of", "(II)I"⟩
def y_M_feast : MethodName := ⟨"ChantryRollsModel", "feast", "(II)I"⟩
def y_M_isDay : MethodName := ⟨"ChantryRollsModel", "isDay", "(I)Z"⟩
def y_M_vow : MethodName := ⟨"ChantryRollsModel", "vow", "(II)I"⟩
def y_M_isPriest : MethodName := ⟨"ChantryRollsModel", "isPriest", "(I)Z"⟩
def y_M_sick : MethodName := ⟨"ChantryRollsModel", "sick", "(III)I"⟩
def y_M_say : MethodName := ⟨"ChantryRollsModel", "say", "(III)I"⟩
def y_M_line : MethodName := ⟨"ChantryRollsModel", "line", "(III)I"⟩
def y_M_lines : MethodName := ⟨"ChantryRollsModel", "lines", "(III)I"⟩
def y_M_lookItems : MethodName := ⟨"ChantryRollsModel", "lookItems", "(III)I"⟩
def y_M_good : MethodName := ⟨"ChantryRollsModel", "good", "(I)I"⟩
def y_M_judge : MethodName := ⟨"ChantryRollsModel", "judge", "()V"⟩
def y_M_isEnded : MethodName := ⟨"ChantryRollsModel", "isEnded", "(II)Z"⟩
def y_M_isTaken : MethodName := ⟨"ChantryRollsModel", "isTaken", "(II)Z"⟩
def y_M_takenOn : MethodName := ⟨"ChantryRollsModel", "takenOn", "(I)I"⟩
def y_M_isSick : MethodName := ⟨"ChantryRollsModel", "isSick", "(II)Z"⟩
def y_M_join : MethodName := ⟨"ChantryRollsModel", "join", "(III)I"⟩
def y_M_isIn : MethodName := ⟨"ChantryRollsModel", "isIn", "(II)Z"⟩
def y_M_split : MethodName := ⟨"ChantryRollsModel", "split", "(II)I"⟩
def y_M_count : MethodName := ⟨"ChantryRollsModel", "count", "(III)I"⟩
def y_M_wantsIn : MethodName := ⟨"ChantryRollsModel", "wantsIn", "(III)I"⟩
def y_M_movedFrom : MethodName := ⟨"ChantryRollsModel", "movedFrom", "(I)I"⟩
def y_M_rankOn : MethodName := ⟨"ChantryRollsModel", "rankOn", "(I)I"⟩
def y_M_saidTill : MethodName := ⟨"ChantryRollsModel", "saidTill", "(II)I"⟩
def y_M_otherOf : MethodName := ⟨"ChantryRollsModel", "otherOf", "(II)I"⟩
def y_M_owedTill : MethodName := ⟨"ChantryRollsModel", "owedTill", "(II)I"⟩
def y_M_house : MethodName := ⟨"ChantryRollsModel", "house", "(III)I"⟩
def y_M_isHouse : MethodName := ⟨"ChantryRollsModel", "isHouse", "(I)Z"⟩
def y_M_repair : MethodName := ⟨"ChantryRollsModel", "repair", "(III)I"⟩
def y_M_isYear : MethodName := ⟨"ChantryRollsModel", "isYear", "(I)Z"⟩
def y_M_empty : MethodName := ⟨"ChantryRollsModel", "empty", "(III)I"⟩
def y_M_rent : MethodName := ⟨"ChantryRollsModel", "rent", "(II)I"⟩
def y_M_rentOf : MethodName := ⟨"ChantryRollsModel", "rentOf", "(II)I"⟩
def y_M_comes : MethodName := ⟨"ChantryRollsModel", "comes", "(III)I"⟩
def y_M_comesTo : MethodName := ⟨"ChantryRollsModel", "comesTo", "(II)I"⟩
def y_M_fails : MethodName := ⟨"ChantryRollsModel", "fails", "(I)I"⟩
def y_M_price : MethodName := ⟨"ChantryRollsModel", "price", "(II)I"⟩
def y_M_spent : MethodName := ⟨"ChantryRollsModel", "spent", "(I)I"⟩
def y_M_vacant : MethodName := ⟨"ChantryRollsModel", "vacant", "(IIIII)I"⟩
def y_M_turn : MethodName := ⟨"ChantryRollsModel", "turn", "(II)I"⟩
def y_M_act : MethodName := ⟨"ChantryRollsModel", "act", "(IIII)I"⟩
def y_M_taken : MethodName := ⟨"ChantryRollsModel", "taken", "(I)I"⟩
def y_M_pension : MethodName := ⟨"ChantryRollsModel", "pension", "(II)I"⟩
def y_M_bid : MethodName := ⟨"ChantryRollsModel", "bid", "(III)I"⟩
def y_M_sold : MethodName := ⟨"ChantryRollsModel", "sold", "(II)I"⟩
def y_M_dawn : MethodName := ⟨"ChantryRollsModel", "dawn", "(III)I"⟩
def y_M_mayStand : MethodName := ⟨"ChantryRollsModel", "mayStand", "(II)Z"⟩
def y_M_day : MethodName := ⟨"ChantryRollsModel", "day", "(I)I"⟩
def y_M_kind : MethodName := ⟨"ChantryRollsModel", "kind", "(I)I"⟩
def y_M_kindOf : MethodName := ⟨"ChantryRollsModel", "kindOf", "(I)I"⟩
def y_M_as : MethodName := ⟨"ChantryRollsModel", "as", "(II)I"⟩
def y_M_isOf : MethodName := ⟨"ChantryRollsModel", "isOf", "(II)Z"⟩
def y_M_ask : MethodName := ⟨"ChantryRollsModel", "ask", "(II)I"⟩
def y_M_sizeOf : MethodName := ⟨"ChantryRollsModel", "sizeOf", "(II)I"⟩
def y_M_began : MethodName := ⟨"ChantryRollsModel", "began", "(I)V"⟩
def y_M_markOf : MethodName := ⟨"ChantryRollsModel", "markOf", "(II)I"⟩
def y_M_obitSize : MethodName := ⟨"ChantryRollsModel", "obitSize", "(I)I"⟩
def y_M_trace : MethodName := ⟨"ChantryRollsModel", "trace", "(I)I"⟩
def y_M_all : MethodName := ⟨"ChantryRollsModel", "all", "(I)I"⟩
def y_M_status : MethodName := ⟨"ChantryRollsModel", "status", "()I"⟩
end
section
/-! flat memory: cells by number, slots by number -/
abbrev qMem : Type := Nat → Nat → Int32
def qmu (σ : qMem) (k j : Nat) (v : Int32) : qMem := fun a b => if a = k ∧ b = j then v else σ a b
def qcp (σ : qMem) (ka sp kb dp n : Nat) : qMem := fun a b => if a = kb ∧ dp ≤ b ∧ b < dp + n then σ ka (sp + (b - dp)) else σ a b
abbrev qRf : Type := Nat → Nat → Option Nat
def qru (ρ : qRf) (k j : Nat) (v : Option Nat) : qRf := fun a b => if a = k ∧ b = j then v else ρ a b
abbrev qi (x : Int32) : Nat := x.toNatClampNeg
def qin (i : Int32) (n : Nat) : Bool := !(decide (i < 0)) && decide (i.toNatClampNeg < n)
theorem qin_vp {i : Int32} {n : Nat} (h : qin i n = true) : vp_in i n := by
  unfold qin at h
  simp only [Bool.and_eq_true, Bool.not_eq_true', decide_eq_false_iff_not, decide_eq_true_eq] at h
  unfold vp_in
  rintro (q | q)
  · exact h.1 q
  · omega
def qfix {α β : Type} (F : (α → Option β) → α → Option β) : Nat → α → Option β
  | 0, _ => none
  | n + 1, a => F (qfix F n) a
theorem qfix_ind {α β : Type} {F : (α → Option β) → α → Option β} {P : α → β → Prop} (hF : ∀ k : α → Option β, (∀ a r, k a = some r → P a r) → ∀ a r, F k a = some r → P a r) : ∀ n a r, qfix F n a = some r → P a r
  | 0, _, _, h => by cases h
  | n + 1, a, r, h => hF (qfix F n) (qfix_ind hF n) a r h
theorem qbind {α β : Type} {o : Option α} {g : α → Option β} {q : β} (h : o.bind g = some q) : ∃ u, o = some u ∧ g u = some q := by
  cases o with
  | none => cases h
  | some u => exact ⟨u, rfl, h⟩
/-! the world -/
abbrev qKd : Type := Nat × Nat
abbrev qG : Type := va_G × (Nat → ClassId) × (Nat → Nat)
def qA (G : qG) : Nat → Prop := fun q => G.2.2 0 ≤ q
def qFt : Nat → Nat → FieldType := fun c => match c with
  | 0 => qY0 | 1 => qY1 | 2 => qY2 | 3 => qY3 | 4 => qY4 | 5 => qY5 | 6 => qY6 | 7 => qY7 | 8 => qY8 | 9 => qY9 | 10 => qY10 | 11 => qY11 | _ => qY12
def qisR (c j : Nat) : Bool := match qFt c j with
  | .array _ => true
  | .object _ => true
  | _ => false
def qfv (ad : Nat → Nat) (ρ : qRf) (σ : qMem) (c k j : Nat) : Value := if qisR c j = true then va_rf ((ρ k j).map ad) else .int (σ k j)
def qent (G : qG) (ρ : qRf) (σ : qMem) (k : Nat) (kd : qKd) : va_E :=
  if kd.1 < 100 then .inr (kd.1, (List.range kd.2).map (qfv G.2.2 ρ σ kd.1 k))
  else if kd.1 = 103 then .inl (G.2.1 103, kd.2, .inr (.inr (.inr (.inr (fun j => (ρ k j).map G.2.2)))))
  else .inl (G.2.1 kd.1, kd.2, .inl (σ k))
def qwd (G : qG) (ks : List qKd) (ρ : qRf) (σ : qMem) : va_W := ks.mapIdx (fun k kd => (G.2.2 k, qent G ρ σ k kd))
theorem qwd_get {G : qG} {ks : List qKd} {ρ : qRf} {σ : qMem} {k : Nat} {kd : qKd} (h : ks[k]? = some kd) : (qwd G ks ρ σ)[k]? = some (G.2.2 k, qent G ρ σ k kd) := by
  simp [qwd, List.getElem?_mapIdx, h]
theorem qwd_len {G : qG} {ks : List qKd} {ρ : qRf} {σ : qMem} : (qwd G ks ρ σ).length = ks.length := by simp [qwd]
theorem qwd_inv {G : qG} {ks : List qKd} {ρ : qRf} {σ : qMem} {k : Nat} {x : Nat × va_E} (h : (qwd G ks ρ σ)[k]? = some x) : ∃ kd, ks[k]? = some kd ∧ x = (G.2.2 k, qent G ρ σ k kd) := by
  simp only [qwd, List.getElem?_mapIdx, Option.map_eq_some_iff] at h
  obtain ⟨kd, h1, h2⟩ := h
  exact ⟨kd, h1, h2.symm⟩
theorem qwd_set {G : qG} {ks : List qKd} {ρ ρ' : qRf} {σ σ' : qMem} {k : Nat} {kd : qKd} {e : va_E} (hk : ks[k]? = some kd) (he : qent G ρ' σ' k kd = e) (ho : ∀ k' kd', k' ≠ k → qent G ρ' σ' k' kd' = qent G ρ σ k' kd') : (qwd G ks ρ σ).set k (G.2.2 k, e) = qwd G ks ρ' σ' := by
  apply List.ext_getElem?
  intro i
  rw [List.getElem?_set]
  have hlt : k < ks.length := (List.getElem?_eq_some_iff.mp hk).1
  by_cases h : k = i
  · subst h
    rw [qwd_get (G := G) (ρ := ρ') (σ := σ') hk, he]
    simp [qwd_len, hlt]
  · rw [if_neg h]
    simp only [qwd, List.getElem?_mapIdx]
    cases hi : ks[i]? with
    | none => rfl
    | some x => simp [ho i x (Ne.symm h)]
theorem qmu_ne {σ : qMem} {k j : Nat} {v : Int32} {k' : Nat} (h : k' ≠ k) : qmu σ k j v k' = σ k' := by
  funext b
  simp [qmu, h]
theorem qent_mu {G : qG} {ρ : qRf} {σ : qMem} {k j : Nat} {v : Int32} {k' : Nat} {kd : qKd} (h : k' ≠ k) : qent G ρ (qmu σ k j v) k' kd = qent G ρ σ k' kd := by
  unfold qent qfv
  rw [qmu_ne h]
theorem qent_i {G : qG} {ρ : qRf} {σ : qMem} {k t n : Nat} (h1 : ¬ t < 100) (h2 : ¬ t = 103) : qent G ρ σ k (t, n) = .inl (G.2.1 t, n, .inl (σ k)) := by
  unfold qent
  rw [if_neg h1, if_neg h2]
theorem qent_o {G : qG} {ρ : qRf} {σ : qMem} {k t n : Nat} (h1 : t < 100) : qent G ρ σ k (t, n) = .inr (t, (List.range n).map (qfv G.2.2 ρ σ t k)) := by
  unfold qent
  rw [if_pos h1]
theorem qent_r {G : qG} {ρ : qRf} {σ : qMem} {k n : Nat} : qent G ρ σ k (103, n) = .inl (G.2.1 103, n, .inr (.inr (.inr (.inr (fun j => (ρ k j).map G.2.2))))) := rfl
theorem qmu_self {σ : qMem} {k j : Nat} {v : Int32} : qmu σ k j v k = upd (σ k) j v := by
  funext b
  by_cases h : b = j
  · subst h; simp [qmu, upd]
  · simp [qmu, upd, h]
/-! what is known of the tables, of the constants, of the statics -/
def qAW : List Cond := lw_tbl.filter goodWord
def qTys (G : qG) : List (ClassId × FieldType) := [(G.2.1 100, .int), (G.2.1 101, .byte), (G.2.1 102, .boolean), (G.2.1 103, .array .int)]
def qNW : List Cond := lw_tbl.filter (fun w => match w with | .methodLinkNest .. => true | _ => false)
def qSi : List Nat := [50, 56, 106, 108, 110, 112, 114, 116, 118, 120, 122, 124]
def qSt : List String := ["obit", "mass", "soul", "altar", "priest", "each", "from", "till", "house", "pays", "bread", "candle"]
def qSb : List (List Int32) := [[111, 98, 105, 116], [109, 97, 115, 115], [115, 111, 117, 108], [97, 108, 116, 97, 114], [112, 114, 105, 101, 115, 116], [101, 97, 99, 104], [102, 114, 111, 109], [116, 105, 108, 108], [104, 111, 117, 115, 101], [112, 97, 121, 115], [98, 114, 101, 97, 100], [99, 97, 110, 100, 108, 101]]
def qSl : List Nat := [4, 4, 4, 5, 6, 4, 4, 4, 5, 4, 5, 6]
def qLeast : List Int32 := [0, 0, 0, 0, 1, 0, 0, 0, 0, 0, 0]
def qMost : List Int32 := [1, 99, 3, 7, 360, 9999, 9999, 5, 100, 99, 99]
def qKs (G : qG) (U : State) : Prop :=
  (∀ i, i < 12 → vk_R "ChantryRolls$Deeds" (qSi.getD i 0) (qSt.getD i "") (G.2.2 (1048576 + i)) U) ∧ vk_S 12 qSl qSb (fun i => G.2.2 (1048576 + i)) (fun i => G.2.2 (1048676 + i)) (qA G) U U.heap ∧ va_Z "java/lang/String" "COMPACT_STRINGS" "Z" (.int 1) (qA G) U U.heap ∧
  va_Z "ChantryRolls$Deeds" "LEAST" "[I" (.ref (G.2.2 1048776)) (qA G) U U.heap ∧ va_Z "ChantryRolls$Deeds" "MOST" "[I" (.ref (G.2.2 1048777)) (qA G) U U.heap ∧ va_T .int (G.2.2 1048776) 11 (fun j => .int (qLeast.getD j 0)) (qA G) U U.heap ∧ va_T .int (G.2.2 1048777) 11 (fun j => .int (qMost.getD j 0)) (qA G) U U.heap ∧
  (va_Z "jdk/internal/util/Preconditions" "SIOOBE_FORMATTER" "Ljava/util/function/BiFunction;" .null (qA G) U U.heap ∨ va_Z "jdk/internal/util/Preconditions" "SIOOBE_FORMATTER" "Ljava/util/function/BiFunction;" (.ref (G.2.2 1048900)) (qA G) U U.heap)
def qKn (G : qG) (U : State) : Prop := va_K G.1 qCl (qTys G) U ∧ (∀ w ∈ qNW, va_Nw w U) ∧ va_Nw (.arrayOver (.array .int)) U ∧ qKs G U
theorem qNW_warm {w : Cond} (hw : w ∈ qNW) {s U : State} (hW : s.WarmedH U.vm) (h : va_Nw w s) : va_Nw w U := by
  have h2 := (List.mem_filter.mp hw).2
  cases w with
  | methodLinkNest a i x hh => exact va_Nw.warmM hW h
  | _ => cases h2
theorem qKs.move {G : qG} {s U : State} {locs : List Loc} (h : qKs G s) (hW : s.WarmedH U.vm) (hS : va_S (qA G) s.heap U.heap locs) : qKs G U := by
  obtain ⟨h1, h2, h3, h4, h5, h6, h7, h8⟩ := h
  exact ⟨fun i hi => (h1 i hi).warm hW, (h2.moved hW.alike).kept hS.2.1, (h3.moved hW.alike).kept hS.2.1, (h4.moved hW.alike).kept hS.2.1, (h5.moved hW.alike).kept hS.2.1, (h6.moved hW.alike).kept hS.2.1, (h7.moved hW.alike).kept hS.2.1, h8.elim (fun h => Or.inl ((h.moved hW.alike).kept hS.2.1)) (fun h => Or.inr ((h.moved hW.alike).kept hS.2.1))⟩
theorem qAO.moved {u U : State} (hvm : u.vm.Alike U.vm) (h : va_Nw (.arrayOver (.array .int)) u) : va_Nw (.arrayOver (.array .int)) U := by
  unfold va_Nw Cond.before Cond.holds at h ⊢
  simp only [Cond.value, beq_iff_eq] at h ⊢
  rw [hvm.findClass]
  cases hc : u.vm.findClass (FieldType.array .int).toString with
  | none => simp [hc] at h
  | some comp =>
    simp only [hc, Option.bind_some, Option.bind_eq_some_iff, Option.map_eq_some_iff] at h
    obtain ⟨c, hi, k, hk, hb⟩ := h
    obtain ⟨k', hk', he⟩ := hvm.2.2 _ _ hk
    have hi2 : (U.vm.classes.findIdx? fun (x : Class) => match x.kind with | .array component _ => component == comp | _ => false) = some c := by
      refine (va_idx_bare U.vm comp).symm.trans ?_
      first | rw [hvm.bare_eq] | rw [← hvm.bare_eq]
      exact (va_idx_bare u.vm comp).trans hi
    have hkd : k'.kind = k.kind := by rw [he]
    refine (congrArg (fun o : Option Nat => (o.bind (fun c => (U.vm.classes[c]?).map fun (k : Class) => match k.kind with | .array _ ty => decide (ty = FieldType.array .int) && decide (U.vm.findClass ("[" ++ (FieldType.array .int).toString) = some c) | _ => false))) hi2).trans ?_
    rw [Option.bind_some, hk', Option.map_some, hkd]
    first | rw [hvm.findClass, hb] | (rw [hvm.findClass]; exact congrArg some hb)
theorem qKn.move {G : qG} {s U : State} {locs : List Loc} (h : qKn G s) (hW : s.WarmedH U.vm) (hS : va_S (qA G) s.heap U.heap locs) : qKn G U := by
  obtain ⟨h1, h2, h3, h4⟩ := h
  exact ⟨h1.moved hW.alike, fun w hw => qNW_warm hw hW (h2 w hw), qAO.moved hW.alike h3, h4.move hW hS⟩
end
section
/-! the judgement: memory, place, locals, stack -/
def qv (ad : Nat → Nat) : Value → Value
  | .ref k => .ref (ad k)
  | v => v
theorem qv_cat (ad : Nat → Nat) (v : Value) : (qv ad v).category = v.category := by cases v <;> rfl
abbrev qX : Type := Program × Launch × Env × Room × State × MethodId × Array Value × List Frame × Method × Code × (State → Prop)
abbrev qX.p (X : qX) : Program := X.1
abbrev qX.l (X : qX) : Launch := X.2.1
abbrev qX.e (X : qX) : Env := X.2.2.1
abbrev qX.R (X : qX) : Room := X.2.2.2.1
abbrev qX.s (X : qX) : State := X.2.2.2.2.1
abbrev qX.m (X : qX) : MethodId := X.2.2.2.2.2.1
abbrev qX.args (X : qX) : Array Value := X.2.2.2.2.2.2.1
abbrev qX.below (X : qX) : List Frame := X.2.2.2.2.2.2.2.1
abbrev qX.meth (X : qX) : Method := X.2.2.2.2.2.2.2.2.1
abbrev qX.c (X : qX) : Code := X.2.2.2.2.2.2.2.2.2.1
abbrev qX.Q (X : qX) : State → Prop := X.2.2.2.2.2.2.2.2.2.2
abbrev qLv : Type := List (Option Value)
def qlh (ad : Nat → Nat) (ls : Array Slot) (nL : Nat) (lv : qLv) : Prop := ls.size = nL ∧ lv_wf ls ∧ ∀ (i : Nat) (v : Value), lv[i]? = some (some v) → ls[i]? = some (.val (qv ad v))
def qRp (G : qG) (ks : List qKd) (ρ : qRf) (σ : qMem) (H : Heap) : Prop := va_P G.1 qCl (qwd G ks ρ σ) H ∧ H.size = G.2.2 0 + ks.length
def qV (G : qG) (X : qX) (nc ns : Nat) (ks : List qKd) (ρ : qRf) (σ : qMem) (pc : Nat) (lv : qLv) (st : List Value) : Prop :=
  ∀ (H : Heap) (locs : List Loc) (ls : Array Slot), qRp G ks ρ σ H → va_S (qA G) X.s.heap H locs → qlh G.2.2 ls X.c.maxLocals lv → W X.p X.l X.e X.R X.s X.m X.args X.below X.meth X.c H locs nc ns X.Q (F0 X.m pc ls (st.map (qv G.2.2)))
def qAd (G : qG) : Prop := ∀ k, k < 1048576 → G.2.2 k = G.2.2 0 + k
def qOk (G : qG) (X : qX) (own : String) (cc : ByteArray) (nL : Nat) (ret : Option FieldType) (d : Nat) : Prop :=
  X.p.tables.exec = Jvm.exec ∧ X.c.code = cc ∧ X.meth.sig.returnType = ret ∧ X.s.vm.findClass own = some X.m.cls ∧ (∀ w ∈ qAW, w.before X.args X.s = true) ∧ X.meth.locks = false ∧ qKn G X.s ∧ qAd G ∧ G.2.2 0 ≤ X.s.heap.size ∧ d ≤ X.R.frames ∧ 100 * d ≤ X.R.locals ∧ X.c.maxLocals = nL
theorem qOk.ex {G X own cc nL ret d} (h : qOk G X own cc nL ret d) : X.p.tables.exec = Jvm.exec := h.1
theorem qOk.cd {G X own cc nL ret d} (h : qOk G X own cc nL ret d) : X.c.code = cc := h.2.1
theorem qOk.rt {G X own cc nL ret d} (h : qOk G X own cc nL ret d) : X.meth.sig.returnType = ret := h.2.2.1
theorem qOk.ow {G X own cc nL ret d} (h : qOk G X own cc nL ret d) : X.s.vm.findClass own = some X.m.cls := h.2.2.2.1
theorem qOk.ts {G X own cc nL ret d} (h : qOk G X own cc nL ret d) : ∀ w ∈ qAW, w.before X.args X.s = true := h.2.2.2.2.1
theorem qOk.lk {G X own cc nL ret d} (h : qOk G X own cc nL ret d) : X.meth.locks = false := h.2.2.2.2.2.1
theorem qOk.kn {G X own cc nL ret d} (h : qOk G X own cc nL ret d) : qKn G X.s := h.2.2.2.2.2.2.1
theorem qOk.ad {G X own cc nL ret d} (h : qOk G X own cc nL ret d) : qAd G := h.2.2.2.2.2.2.2.1
theorem qOk.sz {G X own cc nL ret d} (h : qOk G X own cc nL ret d) : G.2.2 0 ≤ X.s.heap.size := h.2.2.2.2.2.2.2.2.1
theorem qOk.fr {G X own cc nL ret d} (h : qOk G X own cc nL ret d) : d ≤ X.R.frames := h.2.2.2.2.2.2.2.2.2.1
theorem qOk.lo {G X own cc nL ret d} (h : qOk G X own cc nL ret d) : 100 * d ≤ X.R.locals := h.2.2.2.2.2.2.2.2.2.2.1
theorem qOk.ml {G X own cc nL ret d} (h : qOk G X own cc nL ret d) : X.c.maxLocals = nL := h.2.2.2.2.2.2.2.2.2.2.2
abbrev qd (cc : ByteArray) (pc : Nat) (i : Instr) (len pc' : Nat) : Prop := decode cc pc = .ok (i, len) ∧ pc + len = pc'
theorem qw {w : Cond} (i : Nat) (h : lw_tbl[i]? = some w) (hg : goodWord w = true) : w ∈ qAW := List.mem_filter.mpr ⟨List.mem_of_getElem? h, hg⟩
/-! locals -/
def qok1 (lv : qLv) : Nat → Bool
  | 0 => true
  | i + 1 => match lv[i]? with
    | some (some w) => w.category == 1
    | _ => true
def qll (ad : Nat → Nat) (lv : qLv) : List (Nat × Value) := (List.range lv.length).filterMap (fun i => (lv[i]?.join).map (fun v => (i, qv ad v)))
theorem qll_mem {ad : Nat → Nat} {lv : qLv} {i : Nat} {w : Value} : (i, w) ∈ qll ad lv ↔ ∃ v, lv[i]? = some (some v) ∧ w = qv ad v := by
  unfold qll
  rw [List.mem_filterMap]
  constructor
  · rintro ⟨j, hj, h⟩
    rw [Option.map_eq_some_iff] at h
    obtain ⟨v, h1, h2⟩ := h
    cases h2
    refine ⟨v, ?_, rfl⟩
    cases h3 : lv[i]? with
    | none => simp [h3] at h1
    | some y => rw [h3] at h1; exact congrArg some h1
  · rintro ⟨v, h1, rfl⟩
    exact ⟨i, List.mem_range.mpr (List.getElem?_eq_some_iff.mp h1).1, by simp [h1]⟩
theorem qlh.has {ad : Nat → Nat} {ls : Array Slot} {nL : Nat} {lv : qLv} (h : qlh ad ls nL lv) : lv_has ls nL (qll ad lv) := by
  refine ⟨h.1, h.2.1, fun q hq => ?_⟩
  obtain ⟨i, w⟩ := q
  obtain ⟨v, h1, rfl⟩ := qll_mem.mp hq
  exact h.2.2 i v h1
theorem qlh_st1 {ad : Nat → Nat} {ls' : Array Slot} {nL : Nat} {lv : qLv} {i : Nat} {v : Value} (hok : qok1 lv i = true) (h : lv_has ls' nL ((i, qv ad v) :: (qll ad lv).filter (fun q => !(q.1 == i) && !(q.1 + 1 == i && q.2.category == 2)))) : qlh ad ls' nL (lv.set i (some v)) := by
  refine ⟨h.1, h.2.1, fun j w hj => ?_⟩
  rw [List.getElem?_set] at hj
  by_cases e : i = j
  · subst e
    rw [if_pos rfl] at hj
    by_cases hl : i < lv.length
    · rw [if_pos hl] at hj
      cases hj
      exact h.2.2 (i, qv ad v) List.mem_cons_self
    · rw [if_neg hl] at hj
      cases hj
  · rw [if_neg e] at hj
    refine h.2.2 (j, qv ad w) (List.mem_cons_of_mem _ (List.mem_filter.mpr ⟨qll_mem.mpr ⟨w, hj, rfl⟩, ?_⟩))
    simp only [Bool.and_eq_true, Bool.not_eq_true', beq_eq_false_iff_ne, ne_eq, Bool.and_eq_false_iff, qv_cat]
    refine ⟨fun q => e q.symm, ?_⟩
    by_cases e2 : j + 1 = i
    · right
      subst e2
      unfold qok1 at hok
      simp only [hj] at hok
      have : w.category = 1 := by simpa using hok
      omega
    · exact Or.inl e2
theorem qlh_st2 {ad : Nat → Nat} {ls' : Array Slot} {nL : Nat} {lv : qLv} {i : Nat} {v : Value} (hok : qok1 lv i = true) (h : lv_has ls' nL ((i, qv ad v) :: (qll ad lv).filter (fun q => !(q.1 == i) && (!(q.1 == i + 1) && !(q.1 + 1 == i && q.2.category == 2))))) : qlh ad ls' nL ((lv.set i (some v)).set (i + 1) none) := by
  refine ⟨h.1, h.2.1, fun j w hj => ?_⟩
  rw [List.getElem?_set] at hj
  by_cases e1 : i + 1 = j
  · rw [if_pos e1] at hj
    split at hj <;> cases hj
  rw [if_neg e1, List.getElem?_set] at hj
  by_cases e : i = j
  · subst e
    rw [if_pos rfl] at hj
    by_cases hl : i < lv.length
    · rw [if_pos hl] at hj
      cases hj
      exact h.2.2 (i, qv ad v) List.mem_cons_self
    · rw [if_neg hl] at hj
      cases hj
  · rw [if_neg e] at hj
    refine h.2.2 (j, qv ad w) (List.mem_cons_of_mem _ (List.mem_filter.mpr ⟨qll_mem.mpr ⟨w, hj, rfl⟩, ?_⟩))
    simp only [Bool.and_eq_true, Bool.not_eq_true', beq_eq_false_iff_ne, ne_eq, Bool.and_eq_false_iff, qv_cat]
    refine ⟨fun q => e q.symm, fun q => e1 q.symm, ?_⟩
    by_cases e2 : j + 1 = i
    · right
      subst e2
      unfold qok1 at hok
      simp only [hj] at hok
      have : w.category = 1 := by simpa using hok
      omega
    · exact Or.inl e2
section QROWS
variable {G : qG} {X : qX} {own : String} {cc : ByteArray} {nL : Nat} {ret : Option FieldType} {d nc ns : Nat} {ks : List qKd} {ρ : qRf} {σ : qMem} {pc pc' : Nat} {lv lv' : qLv} {st : List Value}
theorem q_iconst (hX : qOk G X own cc nL ret d) {n : Int} {v : Int32} (hd : qd cc pc (.iconst n) 1 pc') (hv : Int32.ofInt n = v) (k : qV G X nc ns ks ρ σ pc' lv (.int v :: st)) : qV G X nc ns ks ρ σ pc lv st := by
  obtain ⟨hd, rfl⟩ := hd
  exact fun H locs ls hR hS hl => lv_iconst hX.ex hX.cd hd hv (k H locs ls hR hS hl)
theorem q_bipush (hX : qOk G X own cc nL ret d) {n : Int} {v : Int32} (hd : qd cc pc (.bipush n) 2 pc') (hv : (Int8.ofInt n).toInt32 = v) (k : qV G X nc ns ks ρ σ pc' lv (.int v :: st)) : qV G X nc ns ks ρ σ pc lv st := by
  obtain ⟨hd, rfl⟩ := hd
  exact fun H locs ls hR hS hl => lv_bipush hX.ex hX.cd hd hv (k H locs ls hR hS hl)
theorem q_sipush (hX : qOk G X own cc nL ret d) {n : Int} {v : Int32} (hd : qd cc pc (.sipush n) 3 pc') (hv : (Int16.ofInt n).toInt32 = v) (k : qV G X nc ns ks ρ σ pc' lv (.int v :: st)) : qV G X nc ns ks ρ σ pc lv st := by
  obtain ⟨hd, rfl⟩ := hd
  exact fun H locs ls hR hS hl => lv_sipush hX.ex hX.cd hd hv (k H locs ls hR hS hl)
theorem q_lconst (hX : qOk G X own cc nL ret d) {n : Fin 2} {v : Int64} (hd : qd cc pc (.lconst n) 1 pc') (hv : Int64.ofNat (n : Nat) = v) (k : qV G X nc ns ks ρ σ pc' lv (.long v :: st)) : qV G X nc ns ks ρ σ pc lv st := by
  obtain ⟨hd, rfl⟩ := hd
  exact fun H locs ls hR hS hl => lv_lconst hX.ex hX.cd hd hv (k H locs ls hR hS hl)
theorem q_ldc (hX : qOk G X own cc nL ret d) {i : Nat} {v : Int32} (hw : Cond.constant own i v ∈ qAW) (hd : qd cc pc (.ldc i) 2 pc') (k : qV G X nc ns ks ρ σ pc' lv (.int v :: st)) : qV G X nc ns ks ρ σ pc lv st := by
  obtain ⟨hd, rfl⟩ := hd
  exact fun H locs ls hR hS hl => lv_ldc hX.ex hX.cd hX.ow (hX.ts _ hw) hd (k H locs ls hR hS hl)
theorem q_ldcw (hX : qOk G X own cc nL ret d) {i : Nat} {v : Int32} (hw : Cond.constant own i v ∈ qAW) (hd : qd cc pc (.ldc_w i) 3 pc') (k : qV G X nc ns ks ρ σ pc' lv (.int v :: st)) : qV G X nc ns ks ρ σ pc lv st := by
  obtain ⟨hd, rfl⟩ := hd
  exact fun H locs ls hR hS hl => lv_ldcw hX.ex hX.cd hX.ow (hX.ts _ hw) hd (k H locs ls hR hS hl)
theorem q_ldc2 (hX : qOk G X own cc nL ret d) {i : Nat} {v : Int64} (hw : Cond.constantLong own i v ∈ qAW) (hd : qd cc pc (.ldc2_w i) 3 pc') (k : qV G X nc ns ks ρ σ pc' lv (.long v :: st)) : qV G X nc ns ks ρ σ pc lv st := by
  obtain ⟨hd, rfl⟩ := hd
  exact fun H locs ls hR hS hl => lv_ldc2 hX.ex hX.cd hX.ow (hX.ts _ hw) hd (k H locs ls hR hS hl)
theorem q_iload_n (hX : qOk G X own cc nL ret d) {i : Fin 4} {x : Int32} (hd : qd cc pc (.iload_n i) 1 pc') (hk : lv[(i : Nat)]? = some (some (.int x))) (k : qV G X nc ns ks ρ σ pc' lv (.int x :: st)) : qV G X nc ns ks ρ σ pc lv st := by
  obtain ⟨hd, rfl⟩ := hd
  exact fun H locs ls hR hS hl => lv_iload_n hX.ex hX.cd hd rfl (hl.2.2 _ _ hk) (k H locs ls hR hS hl)
theorem q_iload (hX : qOk G X own cc nL ret d) {i : Nat} {x : Int32} (hd : qd cc pc (.iload i) 2 pc') (hk : lv[i]? = some (some (.int x))) (k : qV G X nc ns ks ρ σ pc' lv (.int x :: st)) : qV G X nc ns ks ρ σ pc lv st := by
  obtain ⟨hd, rfl⟩ := hd
  exact fun H locs ls hR hS hl => lv_iload hX.ex hX.cd hd (hl.2.2 _ _ hk) (k H locs ls hR hS hl)
theorem q_istore_n (hX : qOk G X own cc nL ret d) {i : Fin 4} {x : Int32} (hd : qd cc pc (.istore_n i) 1 pc') (hn : (i : Nat) < nL) (hok : qok1 lv (i : Nat) = true) (he : (lv.set (i : Nat) (some (.int x))) = lv') (k : qV G X nc ns ks ρ σ pc' lv' st) : qV G X nc ns ks ρ σ pc lv (.int x :: st) := by
  obtain ⟨hd, rfl⟩ := hd
  subst he
  exact fun H locs ls hR hS hl => lv_istore_n hX.ex hX.cd hd rfl (hl.has) (by rw [hX.ml]; exact hn) rfl (fun ls' hl' => k H locs ls' hR hS (qlh_st1 (v := .int x) hok hl'))
theorem q_istore (hX : qOk G X own cc nL ret d) {i : Nat} {x : Int32} (hd : qd cc pc (.istore i) 2 pc') (hn : (i : Nat) < nL) (hok : qok1 lv (i : Nat) = true) (he : (lv.set (i : Nat) (some (.int x))) = lv') (k : qV G X nc ns ks ρ σ pc' lv' st) : qV G X nc ns ks ρ σ pc lv (.int x :: st) := by
  obtain ⟨hd, rfl⟩ := hd
  subst he
  exact fun H locs ls hR hS hl => lv_istore hX.ex hX.cd hd (hl.has) (by rw [hX.ml]; exact hn) rfl (fun ls' hl' => k H locs ls' hR hS (qlh_st1 (v := .int x) hok hl'))
theorem q_lload_n (hX : qOk G X own cc nL ret d) {i : Fin 4} {x : Int64} (hd : qd cc pc (.lload_n i) 1 pc') (hk : lv[(i : Nat)]? = some (some (.long x))) (k : qV G X nc ns ks ρ σ pc' lv (.long x :: st)) : qV G X nc ns ks ρ σ pc lv st := by
  obtain ⟨hd, rfl⟩ := hd
  exact fun H locs ls hR hS hl => lv_lload_n hX.ex hX.cd hd rfl (hl.2.2 _ _ hk) (k H locs ls hR hS hl)
theorem q_lload (hX : qOk G X own cc nL ret d) {i : Nat} {x : Int64} (hd : qd cc pc (.lload i) 2 pc') (hk : lv[i]? = some (some (.long x))) (k : qV G X nc ns ks ρ σ pc' lv (.long x :: st)) : qV G X nc ns ks ρ σ pc lv st := by
  obtain ⟨hd, rfl⟩ := hd
  exact fun H locs ls hR hS hl => lv_lload hX.ex hX.cd hd (hl.2.2 _ _ hk) (k H locs ls hR hS hl)
theorem q_lstore_n (hX : qOk G X own cc nL ret d) {i : Fin 4} {x : Int64} (hd : qd cc pc (.lstore_n i) 1 pc') (hn : (i : Nat) + 1 < nL) (hok : qok1 lv (i : Nat) = true) (he : ((lv.set (i : Nat) (some (.long x))).set ((i : Nat) + 1) none) = lv') (k : qV G X nc ns ks ρ σ pc' lv' st) : qV G X nc ns ks ρ σ pc lv (.long x :: st) := by
  obtain ⟨hd, rfl⟩ := hd
  subst he
  exact fun H locs ls hR hS hl => lv_lstore_n hX.ex hX.cd hd rfl (hl.has) (by rw [hX.ml]; exact hn) rfl (fun ls' hl' => k H locs ls' hR hS (qlh_st2 (v := .long x) hok hl'))
theorem q_lstore (hX : qOk G X own cc nL ret d) {i : Nat} {x : Int64} (hd : qd cc pc (.lstore i) 2 pc') (hn : (i : Nat) + 1 < nL) (hok : qok1 lv (i : Nat) = true) (he : ((lv.set (i : Nat) (some (.long x))).set ((i : Nat) + 1) none) = lv') (k : qV G X nc ns ks ρ σ pc' lv' st) : qV G X nc ns ks ρ σ pc lv (.long x :: st) := by
  obtain ⟨hd, rfl⟩ := hd
  subst he
  exact fun H locs ls hR hS hl => lv_lstore hX.ex hX.cd hd (hl.has) (by rw [hX.ml]; exact hn) rfl (fun ls' hl' => k H locs ls' hR hS (qlh_st2 (v := .long x) hok hl'))
theorem q_aload_n (hX : qOk G X own cc nL ret d) {i : Fin 4} {x : Nat} (hd : qd cc pc (.aload_n i) 1 pc') (hk : lv[(i : Nat)]? = some (some (.ref x))) (k : qV G X nc ns ks ρ σ pc' lv (.ref x :: st)) : qV G X nc ns ks ρ σ pc lv st := by
  obtain ⟨hd, rfl⟩ := hd
  exact fun H locs ls hR hS hl => lv_aload_n hX.ex hX.cd hd rfl (hl.2.2 _ _ hk) (k H locs ls hR hS hl)
theorem q_aload (hX : qOk G X own cc nL ret d) {i : Nat} {x : Nat} (hd : qd cc pc (.aload i) 2 pc') (hk : lv[i]? = some (some (.ref x))) (k : qV G X nc ns ks ρ σ pc' lv (.ref x :: st)) : qV G X nc ns ks ρ σ pc lv st := by
  obtain ⟨hd, rfl⟩ := hd
  exact fun H locs ls hR hS hl => lv_aload hX.ex hX.cd hd (hl.2.2 _ _ hk) (k H locs ls hR hS hl)
theorem q_astore_n (hX : qOk G X own cc nL ret d) {i : Fin 4} {x : Nat} (hd : qd cc pc (.astore_n i) 1 pc') (hn : (i : Nat) < nL) (hok : qok1 lv (i : Nat) = true) (he : (lv.set (i : Nat) (some (.ref x))) = lv') (k : qV G X nc ns ks ρ σ pc' lv' st) : qV G X nc ns ks ρ σ pc lv (.ref x :: st) := by
  obtain ⟨hd, rfl⟩ := hd
  subst he
  exact fun H locs ls hR hS hl => lv_astore_n hX.ex hX.cd hd rfl (hl.has) (by rw [hX.ml]; exact hn) rfl (fun ls' hl' => k H locs ls' hR hS (qlh_st1 (v := .ref x) hok hl'))
theorem q_astore (hX : qOk G X own cc nL ret d) {i : Nat} {x : Nat} (hd : qd cc pc (.astore i) 2 pc') (hn : (i : Nat) < nL) (hok : qok1 lv (i : Nat) = true) (he : (lv.set (i : Nat) (some (.ref x))) = lv') (k : qV G X nc ns ks ρ σ pc' lv' st) : qV G X nc ns ks ρ σ pc lv (.ref x :: st) := by
  obtain ⟨hd, rfl⟩ := hd
  subst he
  exact fun H locs ls hR hS hl => lv_astore hX.ex hX.cd hd (hl.has) (by rw [hX.ml]; exact hn) rfl (fun ls' hl' => k H locs ls' hR hS (qlh_st1 (v := .ref x) hok hl'))
theorem q_iinc (hX : qOk G X own cc nL ret d) {i : Nat} {n : Int} {x v : Int32} (hd : qd cc pc (.iinc i n) 3 pc') (hk : lv[i]? = some (some (.int x))) (hv : x + Int32.ofInt n = v) (hn : i < nL) (hok : qok1 lv i = true) (he : lv.set i (some (.int v)) = lv') (k : qV G X nc ns ks ρ σ pc' lv' st) : qV G X nc ns ks ρ σ pc lv st := by
  obtain ⟨hd, rfl⟩ := hd
  subst he
  intro H locs ls hR hS hl
  obtain ⟨k2, hk2⟩ := List.getElem?_of_mem (qll_mem.mpr ⟨_, hk, rfl⟩ : (i, qv G.2.2 (.int x)) ∈ qll G.2.2 lv)
  exact lv_iinc hX.ex hX.cd hd (hl.has) hk2 hv (by rw [hX.ml]; exact hn) rfl (fun ls' hl' => k H locs ls' hR hS (qlh_st1 (v := .int v) hok hl'))
theorem q_iadd (hX : qOk G X own cc nL ret d) {x y : Int32} (hd : qd cc pc (.iadd) 1 pc') (k : qV G X nc ns ks ρ σ pc' lv (.int (x + y) :: st)) : qV G X nc ns ks ρ σ pc lv (.int y :: .int x :: st) := by
  obtain ⟨hd, rfl⟩ := hd
  exact fun H locs ls hR hS hl => lv_iadd hX.ex hX.cd hd (k H locs ls hR hS hl)
theorem q_isub (hX : qOk G X own cc nL ret d) {x y : Int32} (hd : qd cc pc (.isub) 1 pc') (k : qV G X nc ns ks ρ σ pc' lv (.int (x - y) :: st)) : qV G X nc ns ks ρ σ pc lv (.int y :: .int x :: st) := by
  obtain ⟨hd, rfl⟩ := hd
  exact fun H locs ls hR hS hl => lv_isub hX.ex hX.cd hd (k H locs ls hR hS hl)
theorem q_imul (hX : qOk G X own cc nL ret d) {x y : Int32} (hd : qd cc pc (.imul) 1 pc') (k : qV G X nc ns ks ρ σ pc' lv (.int (x * y) :: st)) : qV G X nc ns ks ρ σ pc lv (.int y :: .int x :: st) := by
  obtain ⟨hd, rfl⟩ := hd
  exact fun H locs ls hR hS hl => lv_imul hX.ex hX.cd hd (k H locs ls hR hS hl)
theorem q_iand (hX : qOk G X own cc nL ret d) {x y : Int32} (hd : qd cc pc (.iand) 1 pc') (k : qV G X nc ns ks ρ σ pc' lv (.int (x &&& y) :: st)) : qV G X nc ns ks ρ σ pc lv (.int y :: .int x :: st) := by
  obtain ⟨hd, rfl⟩ := hd
  exact fun H locs ls hR hS hl => lv_iand hX.ex hX.cd hd (k H locs ls hR hS hl)
theorem q_ior (hX : qOk G X own cc nL ret d) {x y : Int32} (hd : qd cc pc (.ior) 1 pc') (k : qV G X nc ns ks ρ σ pc' lv (.int (x ||| y) :: st)) : qV G X nc ns ks ρ σ pc lv (.int y :: .int x :: st) := by
  obtain ⟨hd, rfl⟩ := hd
  exact fun H locs ls hR hS hl => lv_ior hX.ex hX.cd hd (k H locs ls hR hS hl)
theorem q_ixor (hX : qOk G X own cc nL ret d) {x y : Int32} (hd : qd cc pc (.ixor) 1 pc') (k : qV G X nc ns ks ρ σ pc' lv (.int (x ^^^ y) :: st)) : qV G X nc ns ks ρ σ pc lv (.int y :: .int x :: st) := by
  obtain ⟨hd, rfl⟩ := hd
  exact fun H locs ls hR hS hl => lv_ixor hX.ex hX.cd hd (k H locs ls hR hS hl)
theorem q_ishl (hX : qOk G X own cc nL ret d) {x y : Int32} (hd : qd cc pc (.ishl) 1 pc') (k : qV G X nc ns ks ρ σ pc' lv (.int (x <<< (y &&& 31)) :: st)) : qV G X nc ns ks ρ σ pc lv (.int y :: .int x :: st) := by
  obtain ⟨hd, rfl⟩ := hd
  exact fun H locs ls hR hS hl => lv_ishl hX.ex hX.cd hd (k H locs ls hR hS hl)
theorem q_ishr (hX : qOk G X own cc nL ret d) {x y : Int32} (hd : qd cc pc (.ishr) 1 pc') (k : qV G X nc ns ks ρ σ pc' lv (.int (x >>> (y &&& 31)) :: st)) : qV G X nc ns ks ρ σ pc lv (.int y :: .int x :: st) := by
  obtain ⟨hd, rfl⟩ := hd
  exact fun H locs ls hR hS hl => lv_ishr hX.ex hX.cd hd (k H locs ls hR hS hl)
theorem q_idiv (hX : qOk G X own cc nL ret d) {x y : Int32} (hd : qd cc pc (.idiv) 1 pc') (hne : ¬ y = 0) (k : qV G X nc ns ks ρ σ pc' lv (.int (x / y) :: st)) : qV G X nc ns ks ρ σ pc lv (.int y :: .int x :: st) := by
  obtain ⟨hd, rfl⟩ := hd
  exact fun H locs ls hR hS hl => lv_idiv hX.ex hX.cd hd hne (k H locs ls hR hS hl)
theorem q_irem (hX : qOk G X own cc nL ret d) {x y : Int32} (hd : qd cc pc (.irem) 1 pc') (hne : ¬ y = 0) (k : qV G X nc ns ks ρ σ pc' lv (.int (x - x / y * y) :: st)) : qV G X nc ns ks ρ σ pc lv (.int y :: .int x :: st) := by
  obtain ⟨hd, rfl⟩ := hd
  exact fun H locs ls hR hS hl => lv_irem hX.ex hX.cd hd hne (k H locs ls hR hS hl)
theorem q_ineg (hX : qOk G X own cc nL ret d) {x : Int32} (hd : qd cc pc (.ineg) 1 pc') (k : qV G X nc ns ks ρ σ pc' lv (.int (-x) :: st)) : qV G X nc ns ks ρ σ pc lv (.int x :: st) := by
  obtain ⟨hd, rfl⟩ := hd
  exact fun H locs ls hR hS hl => lv_ineg hX.ex hX.cd hd (k H locs ls hR hS hl)
theorem q_iushr (hX : qOk G X own cc nL ret d) {x y : Int32} (hd : qd cc pc (.iushr) 1 pc') (k : qV G X nc ns ks ρ σ pc' lv (.int ((x.toUInt32 >>> (y.toUInt32 &&& Int32.toUInt32 31)).toInt32) :: st)) : qV G X nc ns ks ρ σ pc lv (.int y :: .int x :: st) := by
  obtain ⟨hd, rfl⟩ := hd
  exact fun H locs ls hR hS hl => lv_iushr hX.ex hX.cd hd rfl (k H locs ls hR hS hl)
theorem q_ladd (hX : qOk G X own cc nL ret d) {x y : Int64} (hd : qd cc pc (.ladd) 1 pc') (k : qV G X nc ns ks ρ σ pc' lv (.long (x + y) :: st)) : qV G X nc ns ks ρ σ pc lv (.long y :: .long x :: st) := by
  obtain ⟨hd, rfl⟩ := hd
  exact fun H locs ls hR hS hl => lv_ladd hX.ex hX.cd hd (k H locs ls hR hS hl)
theorem q_lsub (hX : qOk G X own cc nL ret d) {x y : Int64} (hd : qd cc pc (.lsub) 1 pc') (k : qV G X nc ns ks ρ σ pc' lv (.long (x - y) :: st)) : qV G X nc ns ks ρ σ pc lv (.long y :: .long x :: st) := by
  obtain ⟨hd, rfl⟩ := hd
  exact fun H locs ls hR hS hl => lv_lsub hX.ex hX.cd hd (k H locs ls hR hS hl)
theorem q_lmul (hX : qOk G X own cc nL ret d) {x y : Int64} (hd : qd cc pc (.lmul) 1 pc') (k : qV G X nc ns ks ρ σ pc' lv (.long (x * y) :: st)) : qV G X nc ns ks ρ σ pc lv (.long y :: .long x :: st) := by
  obtain ⟨hd, rfl⟩ := hd
  exact fun H locs ls hR hS hl => lv_lmul hX.ex hX.cd hd (k H locs ls hR hS hl)
theorem q_land (hX : qOk G X own cc nL ret d) {x y : Int64} (hd : qd cc pc (.land) 1 pc') (k : qV G X nc ns ks ρ σ pc' lv (.long (x &&& y) :: st)) : qV G X nc ns ks ρ σ pc lv (.long y :: .long x :: st) := by
  obtain ⟨hd, rfl⟩ := hd
  exact fun H locs ls hR hS hl => lv_land hX.ex hX.cd hd (k H locs ls hR hS hl)
theorem q_lor (hX : qOk G X own cc nL ret d) {x y : Int64} (hd : qd cc pc (.lor) 1 pc') (k : qV G X nc ns ks ρ σ pc' lv (.long (x ||| y) :: st)) : qV G X nc ns ks ρ σ pc lv (.long y :: .long x :: st) := by
  obtain ⟨hd, rfl⟩ := hd
  exact fun H locs ls hR hS hl => lv_lor hX.ex hX.cd hd (k H locs ls hR hS hl)
theorem q_lshl (hX : qOk G X own cc nL ret d) {x : Int64} {y : Int32} (hd : qd cc pc (.lshl) 1 pc') (k : qV G X nc ns ks ρ σ pc' lv (.long (x <<< (y.toInt64 &&& 63)) :: st)) : qV G X nc ns ks ρ σ pc lv (.int y :: .long x :: st) := by
  obtain ⟨hd, rfl⟩ := hd
  exact fun H locs ls hR hS hl => lv_lshl hX.ex hX.cd hd rfl (k H locs ls hR hS hl)
theorem q_lshr (hX : qOk G X own cc nL ret d) {x : Int64} {y : Int32} (hd : qd cc pc (.lshr) 1 pc') (k : qV G X nc ns ks ρ σ pc' lv (.long (x >>> (y.toInt64 &&& 63)) :: st)) : qV G X nc ns ks ρ σ pc lv (.int y :: .long x :: st) := by
  obtain ⟨hd, rfl⟩ := hd
  exact fun H locs ls hR hS hl => lv_lshr hX.ex hX.cd hd rfl (k H locs ls hR hS hl)
theorem q_i2l (hX : qOk G X own cc nL ret d) {x : Int32} (hd : qd cc pc (.i2l) 1 pc') (k : qV G X nc ns ks ρ σ pc' lv (.long x.toInt64 :: st)) : qV G X nc ns ks ρ σ pc lv (.int x :: st) := by
  obtain ⟨hd, rfl⟩ := hd
  exact fun H locs ls hR hS hl => lv_i2l hX.ex hX.cd hd rfl (k H locs ls hR hS hl)
theorem q_l2i (hX : qOk G X own cc nL ret d) {x : Int64} (hd : qd cc pc (.l2i) 1 pc') (k : qV G X nc ns ks ρ σ pc' lv (.int x.toInt32 :: st)) : qV G X nc ns ks ρ σ pc lv (.long x :: st) := by
  obtain ⟨hd, rfl⟩ := hd
  exact fun H locs ls hR hS hl => lv_l2i hX.ex hX.cd hd rfl (k H locs ls hR hS hl)
theorem q_i2b (hX : qOk G X own cc nL ret d) {x : Int32} (hd : qd cc pc (.i2b) 1 pc') (k : qV G X nc ns ks ρ σ pc' lv (.int x.toInt8.toInt32 :: st)) : qV G X nc ns ks ρ σ pc lv (.int x :: st) := by
  obtain ⟨hd, rfl⟩ := hd
  exact fun H locs ls hR hS hl => lv_i2b hX.ex hX.cd hd rfl (k H locs ls hR hS hl)
theorem q_i2s (hX : qOk G X own cc nL ret d) {x : Int32} (hd : qd cc pc (.i2s) 1 pc') (k : qV G X nc ns ks ρ σ pc' lv (.int x.toInt16.toInt32 :: st)) : qV G X nc ns ks ρ σ pc lv (.int x :: st) := by
  obtain ⟨hd, rfl⟩ := hd
  exact fun H locs ls hR hS hl => lv_i2s hX.ex hX.cd hd rfl (k H locs ls hR hS hl)
theorem q_i2c (hX : qOk G X own cc nL ret d) {x : Int32} (hd : qd cc pc (.i2c) 1 pc') (k : qV G X nc ns ks ρ σ pc' lv (.int (x.toUInt32 % 65536).toInt32 :: st)) : qV G X nc ns ks ρ σ pc lv (.int x :: st) := by
  obtain ⟨hd, rfl⟩ := hd
  exact fun H locs ls hR hS hl => lv_i2c hX.ex hX.cd hd rfl (k H locs ls hR hS hl)
theorem q_lcmp (hX : qOk G X own cc nL ret d) {x y : Int64} (hd : qd cc pc (.lcmp) 1 pc') (k : qV G X nc ns ks ρ σ pc' lv (.int (lg_cmp x y) :: st)) : qV G X nc ns ks ρ σ pc lv (.long y :: .long x :: st) := by
  obtain ⟨hd, rfl⟩ := hd
  exact fun H locs ls hR hS hl => W.lcmp hX.ex hX.cd hd (k H locs ls hR hS hl)
theorem q_dup (hX : qOk G X own cc nL ret d) {v : Value} (hv : v.category = 1) (hd : qd cc pc (.dup) 1 pc') (k : qV G X nc ns ks ρ σ pc' lv (v :: v :: st)) : qV G X nc ns ks ρ σ pc lv (v :: st) := by
  obtain ⟨hd, rfl⟩ := hd
  exact fun H locs ls hR hS hl => lv_dup hX.ex hX.cd hd (by rw [qv_cat]; exact hv) (k H locs ls hR hS hl)
theorem q_pop (hX : qOk G X own cc nL ret d) {v : Value} (hv : v.category = 1) (hd : qd cc pc (.pop) 1 pc') (k : qV G X nc ns ks ρ σ pc' lv st) : qV G X nc ns ks ρ σ pc lv (v :: st) := by
  obtain ⟨hd, rfl⟩ := hd
  exact fun H locs ls hR hS hl => lv_pop hX.ex hX.cd hd (by rw [qv_cat]; exact hv) (k H locs ls hR hS hl)
theorem q_dup2 (hX : qOk G X own cc nL ret d) {v w : Value} (hv : v.category = 1) (hw : w.category = 1) (hd : qd cc pc (.dup2) 1 pc') (k : qV G X nc ns ks ρ σ pc' lv (v :: w :: v :: w :: st)) : qV G X nc ns ks ρ σ pc lv (v :: w :: st) := by
  obtain ⟨hd, rfl⟩ := hd
  exact fun H locs ls hR hS hl => lv_dup2_11 hX.ex hX.cd hd (by rw [qv_cat]; exact hv) (by rw [qv_cat]; exact hw) (k H locs ls hR hS hl)
theorem q_goto (hX : qOk G X own cc nL ret d) {off : Int} {tgt : Nat} (hd : qd cc pc (.goto off) 3 pc') (ht : (pc : Int) + off = (tgt : Int)) (k : qV G X nc ns ks ρ σ tgt lv st) : qV G X nc ns ks ρ σ pc lv st := fun H locs ls hR hS hl => lv_goto hX.ex hX.cd hd.1 ht (k H locs ls hR hS hl)
theorem q_if_eq (hX : qOk G X own cc nL ret d) {x : Int32} {off : Int} {tgt : Nat} (hd : qd cc pc (.ifCond .eq off) 3 pc') (ht : (pc : Int) + off = (tgt : Int)) {α : Type} {a b : Option α} {q : α} (h : (if x = 0 then a else b) = some q) (kt : x = 0 → a = some q → qV G X nc ns ks ρ σ tgt lv st) (kf : ¬ x = 0 → b = some q → qV G X nc ns ks ρ σ pc' lv st) : qV G X nc ns ks ρ σ pc lv (.int x :: st) := by
  obtain ⟨hd, rfl⟩ := hd
  exact fun H locs ls hR hS hl => lv_if_eq hX.ex hX.cd hd ht (fun z => kt z (by rw [if_pos z] at h; exact h) H locs ls hR hS hl) (fun z => kf z (by rw [if_neg z] at h; exact h) H locs ls hR hS hl)
theorem q_icmp_eq (hX : qOk G X own cc nL ret d) {x y : Int32} {off : Int} {tgt : Nat} (hd : qd cc pc (.if_icmp .eq off) 3 pc') (ht : (pc : Int) + off = (tgt : Int)) {α : Type} {a b : Option α} {q : α} (h : (if x = y then a else b) = some q) (kt : x = y → a = some q → qV G X nc ns ks ρ σ tgt lv st) (kf : ¬ x = y → b = some q → qV G X nc ns ks ρ σ pc' lv st) : qV G X nc ns ks ρ σ pc lv (.int y :: .int x :: st) := by
  obtain ⟨hd, rfl⟩ := hd
  exact fun H locs ls hR hS hl => lv_icmp_eq hX.ex hX.cd hd ht (fun z => kt z (by rw [if_pos z] at h; exact h) H locs ls hR hS hl) (fun z => kf z (by rw [if_neg z] at h; exact h) H locs ls hR hS hl)
theorem q_if_ne (hX : qOk G X own cc nL ret d) {x : Int32} {off : Int} {tgt : Nat} (hd : qd cc pc (.ifCond .ne off) 3 pc') (ht : (pc : Int) + off = (tgt : Int)) {α : Type} {a b : Option α} {q : α} (h : (if x = 0 then b else a) = some q) (kt : ¬ x = 0 → a = some q → qV G X nc ns ks ρ σ tgt lv st) (kf : x = 0 → b = some q → qV G X nc ns ks ρ σ pc' lv st) : qV G X nc ns ks ρ σ pc lv (.int x :: st) := by
  obtain ⟨hd, rfl⟩ := hd
  exact fun H locs ls hR hS hl => lv_if_ne hX.ex hX.cd hd ht (fun z => kt z (by rw [if_neg z] at h; exact h) H locs ls hR hS hl) (fun z => kf z (by rw [if_pos z] at h; exact h) H locs ls hR hS hl)
theorem q_icmp_ne (hX : qOk G X own cc nL ret d) {x y : Int32} {off : Int} {tgt : Nat} (hd : qd cc pc (.if_icmp .ne off) 3 pc') (ht : (pc : Int) + off = (tgt : Int)) {α : Type} {a b : Option α} {q : α} (h : (if x = y then b else a) = some q) (kt : ¬ x = y → a = some q → qV G X nc ns ks ρ σ tgt lv st) (kf : x = y → b = some q → qV G X nc ns ks ρ σ pc' lv st) : qV G X nc ns ks ρ σ pc lv (.int y :: .int x :: st) := by
  obtain ⟨hd, rfl⟩ := hd
  exact fun H locs ls hR hS hl => lv_icmp_ne hX.ex hX.cd hd ht (fun z => kt z (by rw [if_neg z] at h; exact h) H locs ls hR hS hl) (fun z => kf z (by rw [if_pos z] at h; exact h) H locs ls hR hS hl)
theorem q_if_lt (hX : qOk G X own cc nL ret d) {x : Int32} {off : Int} {tgt : Nat} (hd : qd cc pc (.ifCond .lt off) 3 pc') (ht : (pc : Int) + off = (tgt : Int)) {α : Type} {a b : Option α} {q : α} (h : (if x < 0 then a else b) = some q) (kt : x < 0 → a = some q → qV G X nc ns ks ρ σ tgt lv st) (kf : ¬ x < 0 → b = some q → qV G X nc ns ks ρ σ pc' lv st) : qV G X nc ns ks ρ σ pc lv (.int x :: st) := by
  obtain ⟨hd, rfl⟩ := hd
  exact fun H locs ls hR hS hl => lv_if_lt hX.ex hX.cd hd ht (fun z => kt z (by rw [if_pos z] at h; exact h) H locs ls hR hS hl) (fun z => kf z (by rw [if_neg z] at h; exact h) H locs ls hR hS hl)
theorem q_icmp_lt (hX : qOk G X own cc nL ret d) {x y : Int32} {off : Int} {tgt : Nat} (hd : qd cc pc (.if_icmp .lt off) 3 pc') (ht : (pc : Int) + off = (tgt : Int)) {α : Type} {a b : Option α} {q : α} (h : (if x < y then a else b) = some q) (kt : x < y → a = some q → qV G X nc ns ks ρ σ tgt lv st) (kf : ¬ x < y → b = some q → qV G X nc ns ks ρ σ pc' lv st) : qV G X nc ns ks ρ σ pc lv (.int y :: .int x :: st) := by
  obtain ⟨hd, rfl⟩ := hd
  exact fun H locs ls hR hS hl => lv_icmp_lt hX.ex hX.cd hd ht (fun z => kt z (by rw [if_pos z] at h; exact h) H locs ls hR hS hl) (fun z => kf z (by rw [if_neg z] at h; exact h) H locs ls hR hS hl)
theorem q_if_ge (hX : qOk G X own cc nL ret d) {x : Int32} {off : Int} {tgt : Nat} (hd : qd cc pc (.ifCond .ge off) 3 pc') (ht : (pc : Int) + off = (tgt : Int)) {α : Type} {a b : Option α} {q : α} (h : (if 0 ≤ x then a else b) = some q) (kt : 0 ≤ x → a = some q → qV G X nc ns ks ρ σ tgt lv st) (kf : ¬ 0 ≤ x → b = some q → qV G X nc ns ks ρ σ pc' lv st) : qV G X nc ns ks ρ σ pc lv (.int x :: st) := by
  obtain ⟨hd, rfl⟩ := hd
  exact fun H locs ls hR hS hl => lv_if_ge hX.ex hX.cd hd ht (fun z => kt z (by rw [if_pos z] at h; exact h) H locs ls hR hS hl) (fun z => kf z (by rw [if_neg z] at h; exact h) H locs ls hR hS hl)
theorem q_icmp_ge (hX : qOk G X own cc nL ret d) {x y : Int32} {off : Int} {tgt : Nat} (hd : qd cc pc (.if_icmp .ge off) 3 pc') (ht : (pc : Int) + off = (tgt : Int)) {α : Type} {a b : Option α} {q : α} (h : (if y ≤ x then a else b) = some q) (kt : y ≤ x → a = some q → qV G X nc ns ks ρ σ tgt lv st) (kf : ¬ y ≤ x → b = some q → qV G X nc ns ks ρ σ pc' lv st) : qV G X nc ns ks ρ σ pc lv (.int y :: .int x :: st) := by
  obtain ⟨hd, rfl⟩ := hd
  exact fun H locs ls hR hS hl => lv_icmp_ge hX.ex hX.cd hd ht (fun z => kt z (by rw [if_pos z] at h; exact h) H locs ls hR hS hl) (fun z => kf z (by rw [if_neg z] at h; exact h) H locs ls hR hS hl)
theorem q_if_gt (hX : qOk G X own cc nL ret d) {x : Int32} {off : Int} {tgt : Nat} (hd : qd cc pc (.ifCond .gt off) 3 pc') (ht : (pc : Int) + off = (tgt : Int)) {α : Type} {a b : Option α} {q : α} (h : (if 0 < x then a else b) = some q) (kt : 0 < x → a = some q → qV G X nc ns ks ρ σ tgt lv st) (kf : ¬ 0 < x → b = some q → qV G X nc ns ks ρ σ pc' lv st) : qV G X nc ns ks ρ σ pc lv (.int x :: st) := by
  obtain ⟨hd, rfl⟩ := hd
  exact fun H locs ls hR hS hl => lv_if_gt hX.ex hX.cd hd ht (fun z => kt z (by rw [if_pos z] at h; exact h) H locs ls hR hS hl) (fun z => kf z (by rw [if_neg z] at h; exact h) H locs ls hR hS hl)
theorem q_icmp_gt (hX : qOk G X own cc nL ret d) {x y : Int32} {off : Int} {tgt : Nat} (hd : qd cc pc (.if_icmp .gt off) 3 pc') (ht : (pc : Int) + off = (tgt : Int)) {α : Type} {a b : Option α} {q : α} (h : (if y < x then a else b) = some q) (kt : y < x → a = some q → qV G X nc ns ks ρ σ tgt lv st) (kf : ¬ y < x → b = some q → qV G X nc ns ks ρ σ pc' lv st) : qV G X nc ns ks ρ σ pc lv (.int y :: .int x :: st) := by
  obtain ⟨hd, rfl⟩ := hd
  exact fun H locs ls hR hS hl => lv_icmp_gt hX.ex hX.cd hd ht (fun z => kt z (by rw [if_pos z] at h; exact h) H locs ls hR hS hl) (fun z => kf z (by rw [if_neg z] at h; exact h) H locs ls hR hS hl)
theorem q_if_le (hX : qOk G X own cc nL ret d) {x : Int32} {off : Int} {tgt : Nat} (hd : qd cc pc (.ifCond .le off) 3 pc') (ht : (pc : Int) + off = (tgt : Int)) {α : Type} {a b : Option α} {q : α} (h : (if x ≤ 0 then a else b) = some q) (kt : x ≤ 0 → a = some q → qV G X nc ns ks ρ σ tgt lv st) (kf : ¬ x ≤ 0 → b = some q → qV G X nc ns ks ρ σ pc' lv st) : qV G X nc ns ks ρ σ pc lv (.int x :: st) := by
  obtain ⟨hd, rfl⟩ := hd
  exact fun H locs ls hR hS hl => lv_if_le hX.ex hX.cd hd ht (fun z => kt z (by rw [if_pos z] at h; exact h) H locs ls hR hS hl) (fun z => kf z (by rw [if_neg z] at h; exact h) H locs ls hR hS hl)
theorem q_icmp_le (hX : qOk G X own cc nL ret d) {x y : Int32} {off : Int} {tgt : Nat} (hd : qd cc pc (.if_icmp .le off) 3 pc') (ht : (pc : Int) + off = (tgt : Int)) {α : Type} {a b : Option α} {q : α} (h : (if x ≤ y then a else b) = some q) (kt : x ≤ y → a = some q → qV G X nc ns ks ρ σ tgt lv st) (kf : ¬ x ≤ y → b = some q → qV G X nc ns ks ρ σ pc' lv st) : qV G X nc ns ks ρ σ pc lv (.int y :: .int x :: st) := by
  obtain ⟨hd, rfl⟩ := hd
  exact fun H locs ls hR hS hl => lv_icmp_le hX.ex hX.cd hd ht (fun z => kt z (by rw [if_pos z] at h; exact h) H locs ls hR hS hl) (fun z => kf z (by rw [if_neg z] at h; exact h) H locs ls hR hS hl)
/-- fewer locals -/
def qmask : List Bool → qLv → qLv
  | true :: bs, v :: lv => v :: qmask bs lv
  | false :: bs, _ :: lv => none :: qmask bs lv
  | _, _ => []
theorem qmask_get : ∀ (bs : List Bool) (lv : qLv) (i : Nat) (v : Value), (qmask bs lv)[i]? = some (some v) → lv[i]? = some (some v)
  | true :: bs, w :: lv, 0, v, h => h
  | false :: bs, w :: lv, 0, v, h => by cases h
  | true :: bs, w :: lv, i + 1, v, h => qmask_get bs lv i v h
  | false :: bs, w :: lv, i + 1, v, h => qmask_get bs lv i v h
  | [], _, i, v, h => by simp [qmask] at h
  | true :: _, [], i, v, h => by simp [qmask] at h
  | false :: _, [], i, v, h => by simp [qmask] at h
theorem q_mask (bs : List Bool) (he : qmask bs lv = lv') (k : qV G X nc ns ks ρ σ pc lv' st) : qV G X nc ns ks ρ σ pc lv st := by
  subst he
  exact fun H locs ls hR hS hl => k H locs ls hR hS ⟨hl.1, hl.2.1, fun i v h => hl.2.2 i v (qmask_get bs lv i v h)⟩
end QROWS
end
section
/-! rows of the heap -/
theorem qIn0 : ∀ w ∈ u_ws qR0 qT0 17, w ∈ qAW := by decide +kernel
theorem qIn1 : ∀ w ∈ u_ws qR1 qT1 3, w ∈ qAW := by decide +kernel
theorem qIn2 : ∀ w ∈ u_ws qR2 qT2 2, w ∈ qAW := by decide +kernel
theorem qIn3 : ∀ w ∈ u_ws qR3 qT3 6, w ∈ qAW := by decide +kernel
theorem qIn4 : ∀ w ∈ u_ws qR4 qT4 4, w ∈ qAW := by decide +kernel
theorem qIn5 : ∀ w ∈ u_ws qR5 qT5 4, w ∈ qAW := by decide +kernel
theorem qIn6 : ∀ w ∈ u_ws qR6 qT6 6, w ∈ qAW := by decide +kernel
theorem qIn7 : ∀ w ∈ u_ws qR7 qT7 10, w ∈ qAW := by decide +kernel
theorem qIn8 : ∀ w ∈ u_ws qR8 qT8 5, w ∈ qAW := by decide +kernel
theorem qIn9 : ∀ w ∈ u_ws qR9 qT9 11, w ∈ qAW := by decide +kernel
theorem qIn10 : ∀ w ∈ u_ws qR10 qT10 4, w ∈ qAW := by decide +kernel
theorem qIn11 : ∀ w ∈ u_ws qR11 qT11 11, w ∈ qAW := by decide +kernel
theorem qIn12 : ∀ w ∈ u_ws qR12 qT12 65, w ∈ qAW := by decide +kernel
end
section
/-! rows of the heap -/
theorem qIn {c : Nat} {q : vw_C} (h : qCl[c]? = some q) : ∀ w ∈ u_ws q.1 q.2.1 q.2.2, w ∈ qAW := by
  have hc : c < 13 := (List.getElem?_eq_some_iff.mp h).1
  match c, hc, h with
  | 0, _, h => cases h; exact qIn0
  | 1, _, h => cases h; exact qIn1
  | 2, _, h => cases h; exact qIn2
  | 3, _, h => cases h; exact qIn3
  | 4, _, h => cases h; exact qIn4
  | 5, _, h => cases h; exact qIn5
  | 6, _, h => cases h; exact qIn6
  | 7, _, h => cases h; exact qIn7
  | 8, _, h => cases h; exact qIn8
  | 9, _, h => cases h; exact qIn9
  | 10, _, h => cases h; exact qIn10
  | 11, _, h => cases h; exact qIn11
  | 12, _, h => cases h; exact qIn12
theorem qTy {c : Nat} {C : String} {T : u_T} {n : Nat} (h : qCl[c]? = some (C, T, n)) : ∀ k, k < n → parseFieldDescriptor (T k).2.2.1 = some (qFt c k) := by
  have hc : c < 13 := (List.getElem?_eq_some_iff.mp h).1
  match c, hc, h with
  | 0, _, h => cases h; exact qY0_ok
  | 1, _, h => cases h; exact qY1_ok
  | 2, _, h => cases h; exact qY2_ok
  | 3, _, h => cases h; exact qY3_ok
  | 4, _, h => cases h; exact qY4_ok
  | 5, _, h => cases h; exact qY5_ok
  | 6, _, h => cases h; exact qY6_ok
  | 7, _, h => cases h; exact qY7_ok
  | 8, _, h => cases h; exact qY8_ok
  | 9, _, h => cases h; exact qY9_ok
  | 10, _, h => cases h; exact qY10_ok
  | 11, _, h => cases h; exact qY11_ok
  | 12, _, h => cases h; exact qY12_ok
theorem qNm {c : Nat} {C : String} {T : u_T} {n : Nat} (h : qCl[c]? = some (C, T, n)) : ∀ a, a < n → ∀ b, b < n → a ≠ b → (T a).2.1 ≠ (T b).2.1 := by
  have hc : c < 13 := (List.getElem?_eq_some_iff.mp h).1
  match c, hc, h with
  | 0, _, h => cases h; exact qN0_ok
  | 1, _, h => cases h; exact qN1_ok
  | 2, _, h => cases h; exact qN2_ok
  | 3, _, h => cases h; exact qN3_ok
  | 4, _, h => cases h; exact qN4_ok
  | 5, _, h => cases h; exact qN5_ok
  | 6, _, h => cases h; exact qN6_ok
  | 7, _, h => cases h; exact qN7_ok
  | 8, _, h => cases h; exact qN8_ok
  | 9, _, h => cases h; exact qN9_ok
  | 10, _, h => cases h; exact qN10_ok
  | 11, _, h => cases h; exact qN11_ok
  | 12, _, h => cases h; exact qN12_ok
theorem qc13 {c : Nat} {q : vw_C} (h : qCl[c]? = some q) : c < 100 := by
  have hc : c < 13 := (List.getElem?_eq_some_iff.mp h).1
  omega
/-- a field link: the pool's index i in own is field j of the objects of number c, of n fields; whether it is a reference, whether it is final -/
def qFl (own : String) (i c j n : Nat) (r fin : Bool) : Prop := ∃ (C : String) (T : u_T), qCl[c]? = some (C, T, n) ∧ j < n ∧ qisR c j = r ∧ Cond.fieldLink own i (T j).1 (T j).2.1 (T j).2.2.1 ∈ qAW ∧ (T j).2.2.2 = fin
theorem qD {G : qG} (hA : qAd G) {ks : List qKd} (hl : ks.length ≤ 1048576) {ρ : qRf} {σ : qMem} : va_D (qA G) (qwd G ks ρ σ) := by
  refine ⟨fun i j p q hp hq e => ?_, fun k q hq => ?_⟩
  · obtain ⟨kd, h1, rfl⟩ := qwd_inv hp
    obtain ⟨kd', h2, rfl⟩ := qwd_inv hq
    have hi : i < ks.length := (List.getElem?_eq_some_iff.mp h1).1
    have hj : j < ks.length := (List.getElem?_eq_some_iff.mp h2).1
    have e' : G.2.2 i = G.2.2 j := e
    rw [hA i (by omega), hA j (by omega)] at e'
    omega
  · obtain ⟨kd, h1, rfl⟩ := qwd_inv hq
    have hi : k < ks.length := (List.getElem?_eq_some_iff.mp h1).1
    show G.2.2 0 ≤ G.2.2 k
    rw [hA k (by omega)]
    omega
theorem qfv_mu {ad : Nat → Nat} {ρ : qRf} {σ : qMem} {c k j n : Nat} {v : Int32} (hr : qisR c j = false) : (List.range n).map (qfv ad ρ (qmu σ k j v) c k) = ((List.range n).map (qfv ad ρ σ c k)).set j (.int v) := by
  apply List.ext_getElem?
  intro i
  rw [List.getElem?_set]
  by_cases h : j = i
  · subst h
    by_cases hl : j < n
    · simp [hl, qfv, hr, qmu]
    · simp [hl]
  · rw [if_neg h]
    by_cases hl : i < n
    · simp only [List.getElem?_map, List.getElem?_range hl, Option.map_some, qfv, qmu]
      have : ¬ i = j := fun q => h q.symm
      simp [this]
    · simp [hl]
theorem qfv_ru {ad : Nat → Nat} {ρ : qRf} {σ : qMem} {c k j n : Nat} {v : Option Nat} (hr : qisR c j = true) : (List.range n).map (qfv ad (qru ρ k j v) σ c k) = ((List.range n).map (qfv ad ρ σ c k)).set j (va_rf (v.map ad)) := by
  apply List.ext_getElem?
  intro i
  rw [List.getElem?_set]
  by_cases h : j = i
  · subst h
    by_cases hl : j < n
    · simp [hl, qfv, hr, qru]
    · simp [hl]
  · rw [if_neg h]
    by_cases hl : i < n
    · simp only [List.getElem?_map, List.getElem?_range hl, Option.map_some, qfv, qru]
      have : ¬ i = j := fun q => h q.symm
      simp [this]
    · simp [hl]
theorem qent_ru {G : qG} {ρ : qRf} {σ : qMem} {k j : Nat} {v : Option Nat} {k' : Nat} {kd : qKd} (h : k' ≠ k) : qent G (qru ρ k j v) σ k' kd = qent G ρ σ k' kd := by
  have e : qru ρ k j v k' = ρ k' := by
    funext b
    simp [qru, h]
  unfold qent qfv
  rw [e]
theorem qg_pos {c : Bool} {α : Type} {a : Option α} {q : α} (h : (if c = true then a else none) = some q) : c = true ∧ a = some q := by
  cases c with
  | true => exact ⟨rfl, h⟩
  | false => cases h
section QHEAP
variable {G : qG} {X : qX} {own : String} {cc : ByteArray} {nL : Nat} {ret : Option FieldType} {d nc ns : Nat} {ks : List qKd} {ρ : qRf} {σ : qMem} {pc pc' : Nat} {lv lv' : qLv} {st : List Value}
theorem q_getI (hX : qOk G X own cc nL ret d) {i c j n k : Nat} {fin : Bool} (hf : qFl own i c j n false fin) (hk : ks[k]? = some (c, n)) (hd : qd cc pc (.getfield i) 3 pc') (K : qV G X nc ns ks ρ σ pc' lv (.int (σ k j) :: st)) : qV G X nc ns ks ρ σ pc lv (.ref k :: st) := by
  obtain ⟨hd, rfl⟩ := hd
  obtain ⟨C, T, hc, hj, hr, hw, -⟩ := hf
  intro H locs ls hR hS hl
  refine va_get (v := .int (σ k j)) hX.ex hX.cd hX.ts (qIn hc) hX.ow hX.kn.1 hR.1 k ((qwd_get hk).trans (by rw [qent_o (qc13 hc)])) hc j hj (hX.ts _ hw) (fun _ h => h) ?_ hd (K H locs ls hR hS hl)
  simp [hj, qfv, hr]
theorem q_getR (hX : qOk G X own cc nL ret d) {i c j n k t : Nat} {fin : Bool} (hf : qFl own i c j n true fin) (hk : ks[k]? = some (c, n)) (ht : ρ k j = some t) (hd : qd cc pc (.getfield i) 3 pc') (K : qV G X nc ns ks ρ σ pc' lv (.ref t :: st)) : qV G X nc ns ks ρ σ pc lv (.ref k :: st) := by
  obtain ⟨hd, rfl⟩ := hd
  obtain ⟨C, T, hc, hj, hr, hw, -⟩ := hf
  intro H locs ls hR hS hl
  refine va_get (v := .ref (G.2.2 t)) hX.ex hX.cd hX.ts (qIn hc) hX.ow hX.kn.1 hR.1 k ((qwd_get hk).trans (by rw [qent_o (qc13 hc)])) hc j hj (hX.ts _ hw) (fun _ h => h) ?_ hd (K H locs ls hR hS hl)
  simp [hj, qfv, hr, ht, va_rf]
theorem qRp.put {H H1 : Heap} (hR : qRp G ks ρ σ H) (hA : qAd G) (hlen : ks.length ≤ 1048576) {k : Nat} {kd : qKd} {ρ' : qRf} {σ' : qMem} (hk : ks[k]? = some kd) (he : va_at G.1 qCl (G.2.2 k, qent G ρ' σ' k kd) H1) (z : H1.size = H.size) (oq : ∀ q, q ≠ G.2.2 k → H1[q]? = H[q]?) (ho : ∀ k' kd', k' ≠ k → qent G ρ' σ' k' kd' = qent G ρ σ k' kd') : qRp G ks ρ' σ' H1 := by
  have h1 := hR.1.set (qD hA hlen) (qwd_get hk) he oq
  rw [qwd_set hk rfl ho] at h1
  exact ⟨h1, by rw [z]; exact hR.2⟩
theorem qA_at (hA : qAd G) (hlen : ks.length ≤ 1048576) {k : Nat} {kd : qKd} (hk : ks[k]? = some kd) : qA G (G.2.2 k) := (qD (ρ := fun _ _ => none) (σ := fun _ _ => 0) hA hlen).2 k _ (qwd_get hk)
theorem q_putI (hX : qOk G X own cc nL ret d) {i c j n k : Nat} {v : Int32} (hf : qFl own i c j n false false) (hk : ks[k]? = some (c, n)) (hty : qFt c j = .int) (hlen : ks.length ≤ 1048576) (hd : qd cc pc (.putfield i) 3 pc') (K : qV G X nc ns ks ρ (qmu σ k j v) pc' lv st) : qV G X nc ns ks ρ σ pc lv (.int v :: .ref k :: st) := by
  obtain ⟨hd, rfl⟩ := hd
  obtain ⟨C, T, hc, hj, hr, hw, hfin⟩ := hf
  intro H locs ls hR hS hl
  have he : (qwd G ks ρ σ)[k]? = some (G.2.2 k, .inr (c, (List.range n).map (qfv G.2.2 ρ σ c k))) := (qwd_get hk).trans (by rw [qent_o (qc13 hc)])
  have hap := va_apart (own := own) hX.ts (qIn hc) (qFt c) (qTy hc) (qNm hc) hX.kn.1 hc
  obtain ⟨r, h1, cell, q1, q2, q3, q4⟩ := hR.1 k _ he
  have hr2 : r = (C, T, n) := Option.some.inj (h1.symm.trans hc)
  subst hr2
  obtain ⟨hS2, hfc, kC, hkC, hkind⟩ := hX.kn.1.1 c _ hc
  obtain ⟨cf, kf, fi, f, hi, hsl⟩ := hS2 j hj
  have hlay := hX.ts _ (qIn hc _ (u_in_lay hj))
  unfold u_lay at hlay
  rw [if_neg (by rw [hfin]; decide)] at hlay
  have hst := (u_facts hfc hkC (u_lays hX.ts (qIn hc) hj) hi).1
  have h6 := u_store hfc hkC hkind hlay hi (by rw [qTy hc j hj, hty]) (v := .int v) rfl rfl
  refine W.putK hX.ex hX.cd (f := f) ⟨hX.ow, hX.ts _ hw, ⟨_, _, _, hi⟩, hst⟩ (by rw [q2]; exact h6) q1 q3 (by rw [hsl]; exact k2_hasslot (q4 j hj)) rfl rfl hd fun H' e1 e2 e3 => ?_
  rw [hsl] at e1 ⊢
  refine K H' _ ls (hR.put (σ' := qmu σ k j v) hX.ad hlen hk ?_ e2 e3 (fun k' kd' h => qent_mu h)) (hS.put e2 e3 (qA_at hX.ad hlen hk)) hl
  rw [qent_o (qc13 hc), qfv_mu hr]
  exact ⟨_, hc, t_OB.to (V := updV (vp_V _) j (.int v)) ⟨_, e1, q2, q3, t_set q4 hap hj (.int v)⟩ (fun j _ => vp_updV_set (by simp [hj]) (.int v) j)⟩
theorem q_iald (hX : qOk G X own cc nL ret d) {n k : Nat} {i : Int32} (hk : ks[k]? = some (100, n)) (hd : qd cc pc (.iaload) 1 pc') {α : Type} {a : Option α} {q : α} (h : (if qin i n = true then a else none) = some q) (K : qin i n = true → a = some q → qV G X nc ns ks ρ σ pc' lv (.int (σ k (qi i)) :: st)) : qV G X nc ns ks ρ σ pc lv (.int i :: .ref k :: st) := by
  obtain ⟨hd, rfl⟩ := hd
  obtain ⟨hin, h⟩ := qg_pos h
  exact fun H locs ls hR hS hl => va_iald hX.ex hX.cd hX.kn.1 hR.1 k 0 ((qwd_get hk).trans (by rw [qent_i (by decide) (by decide)])) rfl (qin_vp hin) hd (K hin h H locs ls hR hS hl)
theorem q_bald (hX : qOk G X own cc nL ret d) {n k : Nat} {i : Int32} (hk : ks[k]? = some (101, n)) (hd : qd cc pc (.baload) 1 pc') {α : Type} {a : Option α} {q : α} (h : (if qin i n = true then a else none) = some q) (K : qin i n = true → a = some q → qV G X nc ns ks ρ σ pc' lv (.int (σ k (qi i)) :: st)) : qV G X nc ns ks ρ σ pc lv (.int i :: .ref k :: st) := by
  obtain ⟨hd, rfl⟩ := hd
  obtain ⟨hin, h⟩ := qg_pos h
  exact fun H locs ls hR hS hl => va_bald hX.ex hX.cd hX.kn.1 hR.1 k 1 ((qwd_get hk).trans (by rw [qent_i (by decide) (by decide)])) rfl (qin_vp hin) hd (K hin h H locs ls hR hS hl)
theorem q_zald (hX : qOk G X own cc nL ret d) {n k : Nat} {i : Int32} (hk : ks[k]? = some (102, n)) (hd : qd cc pc (.baload) 1 pc') {α : Type} {a : Option α} {q : α} (h : (if qin i n = true then a else none) = some q) (K : qin i n = true → a = some q → qV G X nc ns ks ρ σ pc' lv (.int (σ k (qi i)) :: st)) : qV G X nc ns ks ρ σ pc lv (.int i :: .ref k :: st) := by
  obtain ⟨hd, rfl⟩ := hd
  obtain ⟨hin, h⟩ := qg_pos h
  exact fun H locs ls hR hS hl => va_zald hX.ex hX.cd hX.kn.1 hR.1 k 2 ((qwd_get hk).trans (by rw [qent_i (by decide) (by decide)])) rfl (qin_vp hin) hd (K hin h H locs ls hR hS hl)
theorem q_aald (hX : qOk G X own cc nL ret d) {n k t : Nat} {i : Int32} (hk : ks[k]? = some (103, n)) (hd : qd cc pc (.aaload) 1 pc') {α : Type} {a : Option α} {q : α} (h : (if qin i n = true then a else none) = some q) (ht : qin i n = true → ρ k (qi i) = some t) (K : qin i n = true → a = some q → qV G X nc ns ks ρ σ pc' lv (.ref t :: st)) : qV G X nc ns ks ρ σ pc lv (.int i :: .ref k :: st) := by
  obtain ⟨hd, rfl⟩ := hd
  obtain ⟨hin, h⟩ := qg_pos h
  intro H locs ls hR hS hl
  have hv := qin_vp hin
  have hlt : i.toNatClampNeg < n := Nat.not_le.mp fun q => hv (Or.inr q)
  have hc : H[G.2.2 k]? = some (vp_cell (G.2.1 103) (n, .inr (.inr (.inr (.inr (fun j => (ρ k j).map G.2.2)))))) := hR.1 k _ (qwd_get hk)
  refine W.aald (v := .ref (G.2.2 t)) (ty := .array .int) hX.ex hX.cd hc ((hX.kn.1.2 3 _ rfl).1 n (fun j => va_rf ((ρ k j).map G.2.2))) rfl (fun q => by cases q) (by show ¬ (i < 0 ∨ (arrV _ _ _).slots.size ≤ _); rw [arrV_size]; exact hv) ?_ rfl rfl hd (K hin h H locs ls hR hS hl)
  show (arrV _ _ _).slots[_]? = _
  rw [arrV_read _ _ hlt]
  have e : ρ k i.toNatClampNeg = some t := ht hin
  show some (va_rf ((ρ k i.toNatClampNeg).map G.2.2)) = _
  rw [e]
  rfl
theorem q_alen (hX : qOk G X own cc nL ret d) {tg n k : Nat} {v : Int32} (hk : ks[k]? = some (tg, n)) (ht : tg = 100 ∨ tg = 101 ∨ tg = 102) (hv : Int32.ofNat n = v) (hd : qd cc pc (.arraylength) 1 pc') (K : qV G X nc ns ks ρ σ pc' lv (.int v :: st)) : qV G X nc ns ks ρ σ pc lv (.ref k :: st) := by
  obtain ⟨hd, rfl⟩ := hd
  intro H locs ls hR hS hl
  rcases ht with rfl | rfl | rfl
  · exact va_alen hX.ex hX.cd hX.kn.1 hR.1 k 0 ((qwd_get hk).trans (by rw [qent_i (by decide) (by decide)])) rfl hv hd (K H locs ls hR hS hl)
  · exact va_alen hX.ex hX.cd hX.kn.1 hR.1 k 1 ((qwd_get hk).trans (by rw [qent_i (by decide) (by decide)])) rfl hv hd (K H locs ls hR hS hl)
  · exact va_alen hX.ex hX.cd hX.kn.1 hR.1 k 2 ((qwd_get hk).trans (by rw [qent_i (by decide) (by decide)])) rfl hv hd (K H locs ls hR hS hl)
theorem q_iast (hX : qOk G X own cc nL ret d) {n k : Nat} {i x : Int32} (hk : ks[k]? = some (100, n)) (hlen : ks.length ≤ 1048576) (hd : qd cc pc (.iastore) 1 pc') {α : Type} {a : Option α} {q : α} (h : (if qin i n = true then a else none) = some q) (K : qin i n = true → a = some q → qV G X nc ns ks ρ (qmu σ k (qi i) x) pc' lv st) : qV G X nc ns ks ρ σ pc lv (.int x :: .int i :: .ref k :: st) := by
  obtain ⟨hd, rfl⟩ := hd
  obtain ⟨hin, h⟩ := qg_pos h
  intro H locs ls hR hS hl
  have hv := qin_vp hin
  have hc : H[G.2.2 k]? = some (vp_cell (G.2.1 100) (n, .inl (σ k))) := by
    have h1 := hR.1 k _ (qwd_get hk)
    rw [qent_i (by decide) (by decide)] at h1
    exact h1
  refine W.iast hX.ex hX.cd hc ((hX.kn.1.2 0 _ rfl).1 n (fun j => .int (σ k j))) (fun q => by cases q) (by show ¬ (i < 0 ∨ (arrV _ _ _).slots.size ≤ _); rw [arrV_size]; exact hv) rfl rfl hd fun H1 e z oq => ?_
  refine K hin h H1 _ ls (hR.put (σ' := qmu σ k (qi i) x) hX.ad hlen hk ?_ z oq (fun k' kd' h => qent_mu h)) (hS.put z oq (qA_at hX.ad hlen hk)) hl
  rw [qent_i (by decide) (by decide), qmu_self]
  show H1[G.2.2 k]? = some (vp_cell _ _)
  rw [e, vp_cell_i, vp_cell_i, arrV_store]
  congr 2
  funext q
  by_cases hq : q = i.toNatClampNeg
  · subst hq
    simp [updV, upd]
  · simp [updV, upd, hq]
theorem q_bast (hX : qOk G X own cc nL ret d) {n k : Nat} {i x : Int32} (hk : ks[k]? = some (101, n)) (hlen : ks.length ≤ 1048576) (hd : qd cc pc (.bastore) 1 pc') {α : Type} {a : Option α} {q : α} (h : (if qin i n = true then a else none) = some q) (K : qin i n = true → a = some q → qV G X nc ns ks ρ (qmu σ k (qi i) (vp_nar .byte x)) pc' lv st) : qV G X nc ns ks ρ σ pc lv (.int x :: .int i :: .ref k :: st) := by
  obtain ⟨hd, rfl⟩ := hd
  obtain ⟨hin, h⟩ := qg_pos h
  intro H locs ls hR hS hl
  have hv := qin_vp hin
  have hc : H[G.2.2 k]? = some (vp_cell (G.2.1 101) (n, .inl (σ k))) := by
    have h1 := hR.1 k _ (qwd_get hk)
    rw [qent_i (by decide) (by decide)] at h1
    exact h1
  refine W.bast hX.ex hX.cd hc ((hX.kn.1.2 1 _ rfl).1 n (fun j => .int (σ k j))) (fun q => by cases q) (by show ¬ (i < 0 ∨ (arrV _ _ _).slots.size ≤ _); rw [arrV_size]; exact hv) rfl rfl hd fun H1 e z oq => ?_
  refine K hin h H1 _ ls (hR.put (σ' := qmu σ k (qi i) (vp_nar .byte x)) hX.ad hlen hk ?_ z oq (fun k' kd' h => qent_mu h)) (hS.put z oq (qA_at hX.ad hlen hk)) hl
  rw [qent_i (by decide) (by decide), qmu_self]
  show H1[G.2.2 k]? = some (vp_cell _ _)
  rw [e, vp_cell_i, vp_cell_i, arrV_store]
  congr 2
  funext q
  by_cases hq : q = i.toNatClampNeg
  · subst hq
    simp [updV, upd, vp_nar]
    try rfl
  · simp [updV, upd, hq]
theorem q_zast (hX : qOk G X own cc nL ret d) {n k : Nat} {i x : Int32} (hk : ks[k]? = some (102, n)) (hlen : ks.length ≤ 1048576) (hd : qd cc pc (.bastore) 1 pc') {α : Type} {a : Option α} {q : α} (h : (if qin i n = true then a else none) = some q) (K : qin i n = true → a = some q → qV G X nc ns ks ρ (qmu σ k (qi i) (vp_nar .boolean x)) pc' lv st) : qV G X nc ns ks ρ σ pc lv (.int x :: .int i :: .ref k :: st) := by
  obtain ⟨hd, rfl⟩ := hd
  obtain ⟨hin, h⟩ := qg_pos h
  intro H locs ls hR hS hl
  have hv := qin_vp hin
  have hc : H[G.2.2 k]? = some (vp_cell (G.2.1 102) (n, .inl (σ k))) := by
    have h1 := hR.1 k _ (qwd_get hk)
    rw [qent_i (by decide) (by decide)] at h1
    exact h1
  refine W.zast hX.ex hX.cd hc ((hX.kn.1.2 2 _ rfl).1 n (fun j => .int (σ k j))) (fun q => by cases q) (by show ¬ (i < 0 ∨ (arrV _ _ _).slots.size ≤ _); rw [arrV_size]; exact hv) rfl rfl hd fun H1 e z oq => ?_
  refine K hin h H1 _ ls (hR.put (σ' := qmu σ k (qi i) (vp_nar .boolean x)) hX.ad hlen hk ?_ z oq (fun k' kd' h => qent_mu h)) (hS.put z oq (qA_at hX.ad hlen hk)) hl
  rw [qent_i (by decide) (by decide), qmu_self]
  show H1[G.2.2 k]? = some (vp_cell _ _)
  rw [e, vp_cell_i, vp_cell_i, arrV_store]
  congr 2
  funext q
  by_cases hq : q = i.toNatClampNeg
  · subst hq
    simp [updV, upd, vp_nar]
    try rfl
  · simp [updV, upd, hq]
end QHEAP
end
section
/-! contracts, returns, calls -/
def qrm (d mc ms : Nat) : Room := { frames := d, cells := mc, slots := ms, locals := 100 * d }
def qPc (G : qG) (ks : List qKd) (ρ : qRf) (σ : qMem) (av : List Value) : Array Value → State → Prop := fun v U => v = (av.map (qv G.2.2)).toArray ∧ qKn G U ∧ qRp G ks ρ σ U.heap
def qQc (G : qG) (ks : List qKd) (ρ : qRf) (σ : qMem) (r : Option Value) : Array Value → State → Outcome → State → Prop := fun _ st o t => o = .returned (r.map (qv G.2.2)) ∧ qRp G ks ρ σ t.heap ∧ va_F (qA G) st t
def qCt (l : Launch) (y : MethodName) (cc : ByteArray) (nL : Nat) (ret : Option FieldType) (d : Nat) (G : qG) (ks : List qKd) (ρ : qRf) (σ : qMem) (av : List Value) (r : Option Value) (ks' : List qKd) (ρ' : qRf) (σ' : qMem) (mc ms : Nat) : Prop :=
  Met l y (Cond.code y cc nL ret :: qAW) (qrm d mc ms) (qPc G ks ρ σ av) (qQc G ks' ρ' σ' r) mc ms (qA G)
def qTg (G : qG) (X : qX) (mc ms : Nat) (ks : List qKd) (ρ : qRf) (σ : qMem) (r : Option Value) : Prop := X.Q = MQ X.below (qQc G ks ρ σ r) X.args X.s mc ms (qA G)
theorem qAW_good {w : Cond} (h : w ∈ qAW) : (w.onTables && w.keeps) = true ∨ ∃ ty, w = .arrayClass ty := good_of_word (List.mem_filter.mp h).2
theorem qKn.same {G : qG} {U U' : State} (h : qKn G U) (hv : U.vm = U'.vm) (hh : U.heap = U'.heap) : qKn G U' := by
  have ha : U.vm.Alike U'.vm := by rw [hv]; exact Vm.Alike.refl _
  obtain ⟨h1, h2, h3, k1, k2, k3, k4, k5, k6, k7, k8⟩ := h
  rw [hh] at k2 k3 k4 k5 k6 k7 k8
  refine ⟨h1.moved ha, fun w hw => ?_, qAO.moved ha h3, fun i hi => (k1 i hi).same hv.symm, k2.moved ha, k3.moved ha, k4.moved ha, k5.moved ha, k6.moved ha, k7.moved ha, k8.elim (fun h => Or.inl (h.moved ha)) (fun h => Or.inr (h.moved ha))⟩
  have h4 := (List.mem_filter.mp hw).2
  have h5 := h2 w hw
  cases w with
  | methodLinkNest a i x hh => exact va_Nw.same rfl hv h5
  | _ => cases h4
theorem qBlind {G : qG} {ks : List qKd} {ρ : qRf} {σ : qMem} {av : List Value} : FrameBlind (qPc G ks ρ σ av) := fun a U g mk h => ⟨h.1, h.2.1.same rfl rfl, h.2.2⟩
/-- the locals at a method's beginning -/
def qen : List Value → qLv
  | [] => []
  | v :: vs => if v.category = 2 then some v :: none :: qen vs else some v :: qen vs
theorem qen_in {ad : Nat → Nat} : ∀ (av : List Value) (k i : Nat) (v : Value), (qen av)[i]? = some (some v) → (k + i, qv ad v) ∈ lv_args k (av.map (qv ad))
  | [], k, i, v, h => by simp [qen] at h
  | w :: vs, k, i, v, h => by
    unfold qen at h
    simp only [List.map_cons, lv_args, qv_cat]
    by_cases hc : w.category = 2
    · rw [if_pos hc] at h ⊢
      match i, h with
      | 0, h => simp at h; subst h; exact List.mem_cons_self
      | 1, h => simp at h
      | i + 2, h =>
        have h2 : (qen vs)[i]? = some (some v) := by simpa using h
        have := qen_in (ad := ad) vs (k + 2) i v h2
        rw [show k + (i + 2) = k + 2 + i by omega]
        exact List.mem_cons_of_mem _ this
    · rw [if_neg hc] at h ⊢
      match i, h with
      | 0, h => simp at h; subst h; exact List.mem_cons_self
      | i + 1, h =>
        have h2 : (qen vs)[i]? = some (some v) := by simpa using h
        have := qen_in (ad := ad) vs (k + 1) i v h2
        rw [show k + (i + 1) = k + 1 + i by omega]
        exact List.mem_cons_of_mem _ this
theorem qen_len {ad : Nat → Nat} : ∀ (av : List Value), (lg_sl (av.map (qv ad))).length = (qen av).length
  | [] => rfl
  | w :: vs => by
    have ih := qen_len (ad := ad) vs
    unfold lg_sl at ih ⊢
    simp only [List.map_cons, List.flatMap_cons, List.length_append, qv_cat, ih, qen]
    by_cases hc : w.category = 2
    · simp [hc]; omega
    · simp [hc]; omega
theorem qCt.of {l : Launch} {y : MethodName} {cc : ByteArray} {nL : Nat} {ret : Option FieldType} {d : Nat} {G : qG} {ks : List qKd} {ρ : qRf} {σ : qMem} {av : List Value} {r : Option Value} {ks' : List qKd} {ρ' : qRf} {σ' : qMem} {mc ms : Nat} {lv : qLv} (hy : plainName y.cls = true) (hA : qAd G) (hn : (qen av).length ≤ nL) (hlv : qen av ++ List.replicate (nL - (qen av).length) none = lv)
    (body : ∀ X : qX, X.l = l → X.R.cells = mc → X.R.slots = ms → (y.name = "<init>" → X.meth.name = "<init>") → qOk G X y.cls cc nL ret d → qTg G X mc ms ks' ρ' σ' r → qV G X 0 0 ks ρ σ 0 lv []) : qCt l y cc nL ret d G ks ρ σ av r ks' ρ' σ' mc ms := by
  refine Met.ofW (cc := cc) (maxL := nL) (ret := ret) hy rfl ?_
  intro p e s m args below meth c s₁ B hml hv
  obtain ⟨rfl, hKn, hRp⟩ := hv
  have hts := atoms_spec (ws := Cond.code y cc nL ret :: qAW) B.pre
  have hown : s.vm.findClass y.cls = some m.cls := findClass_of_methodNamed B.named
  have hX : qOk G (p, l, e, (headSpec (Cond.code y cc nL ret :: qAW) (qrm d mc ms)).room, s, m, (av.map (qv G.2.2)).toArray, below, meth, c, MQ below (qQc G ks' ρ' σ' r) (av.map (qv G.2.2)).toArray s mc ms (qA G)) y.cls cc nL ret d :=
    ⟨B.exec, B.bytes, B.returns, hown, fun w hw => hts w (List.mem_cons_of_mem _ hw), B.notSynchronized, hKn, hA, by rw [hRp.2]; exact Nat.le_add_right _ _, Nat.le_refl _, Nat.le_refl _, hml⟩
  have hw := body _ rfl rfl rfl (fun h => (name_of_methodNamed B.named B.method).1.trans h) hX rfl
  have hle : (lg_sl (av.map (qv G.2.2))).length ≤ nL := by rw [qen_len]; exact hn
  have hl := lv_entry (av.map (qv G.2.2)) hle
  rw [lg_entry_eq]
  refine hw s.heap [] _ hRp va_S.rf ⟨?_, hl.2.1, ?_⟩
  · show _ = c.maxLocals
    rw [hml]
    exact hl.1
  · intro i v hi
    rw [← hlv] at hi
    by_cases hb : i < (qen av).length
    · rw [List.getElem?_append_left hb] at hi
      have h2 := hl.2.2 _ (qen_in av 0 i v hi)
      simpa using h2
    · rw [List.getElem?_append_right (by omega)] at hi
      have := List.eq_of_mem_replicate (List.mem_of_getElem? hi)
      cases this
section QRET
variable {G : qG} {X : qX} {own : String} {cc : ByteArray} {nL : Nat} {ret : Option FieldType} {d nc ns : Nat} {ks : List qKd} {ρ : qRf} {σ : qMem} {pc pc' : Nat} {lv lv' : qLv} {st : List Value}
theorem q_widen {nc' ns' : Nat} (h1 : nc ≤ nc') (h2 : ns ≤ ns') (K : qV G X nc' ns' ks ρ σ pc lv st) : qV G X nc ns ks ρ σ pc lv st := fun H locs ls hR hS hl => W.widen h1 h2 (K H locs ls hR hS hl)
theorem q_iret (hX : qOk G X own cc nL (some .int) d) {v : Int32} (hT : qTg G X nc ns ks ρ σ (some (.int v))) (hd : qd cc pc .ireturn 1 pc') : qV G X nc ns ks ρ σ pc lv [.int v] := by
  intro H locs ls hR hS hl
  unfold qTg at hT
  rw [hT]
  exact W.iret hX.ex hX.cd hX.rt (fun t ht hW => ⟨rfl, by rw [ht]; exact hR, hS.F ht⟩) hS.2.2 hd.1 hX.lk
theorem q_lret (hX : qOk G X own cc nL (some .long) d) {v : Int64} (hT : qTg G X nc ns ks ρ σ (some (.long v))) (hd : qd cc pc .lreturn 1 pc') : qV G X nc ns ks ρ σ pc lv [.long v] := by
  intro H locs ls hR hS hl
  unfold qTg at hT
  rw [hT]
  exact W.lret hX.ex hX.cd hX.rt (fun t ht hW => ⟨rfl, by rw [ht]; exact hR, hS.F ht⟩) hS.2.2 hd.1 hX.lk
theorem q_vret (hX : qOk G X own cc nL none d) (hT : qTg G X nc ns ks ρ σ none) (hd : qd cc pc .return_ 1 pc') : qV G X nc ns ks ρ σ pc lv [] := by
  intro H locs ls hR hS hl
  unfold qTg at hT
  rw [hT]
  exact W.vret hX.ex hX.cd hX.rt (fun t ht hW => ⟨rfl, by rw [ht]; exact hR, hS.F ht⟩) hS.2.2 hd.1 hX.lk
theorem q_aret {C : String} (hX : qOk G X own cc nL (some (.object C)) d) {v : Nat} (hT : qTg G X nc ns ks ρ σ (some (.ref v))) (hd : qd cc pc .areturn 1 pc') : qV G X nc ns ks ρ σ pc lv [.ref v] := by
  intro H locs ls hR hS hl
  unfold qTg at hT
  rw [hT]
  exact W.aret hX.ex hX.cd hX.rt (Or.inl ⟨_, rfl⟩) (Or.inr ⟨_, rfl⟩) (fun t ht hW => ⟨rfl, by rw [ht]; exact hR, hS.F ht⟩) hS.2.2 hd.1 hX.lk
theorem qW_zret {p : Program} {l : Launch} {e : Env} {R : Room} {s : State} {m : MethodId} {args : Array Value} {below : List Frame} {meth : Method} {c : Code} {H : Heap} {locs : List Loc} {cells slots : Nat} {cc : ByteArray} {Qc : Array Value → State → Outcome → State → Prop} {free : Addr → Prop} {v v' : Int32} {ty : FieldType} (hexec : p.tables.exec = Jvm.exec) (hb : c.code = cc) (hr : meth.sig.returnType = some ty) (hn : narrow ty (.int v) = .int v')
    (hq : ∀ t : State, t.heap = H → s.WarmedH t.vm → Qc args s (.returned (some (.int v'))) t) (hf : ∀ q ∈ locs, free q.base)
    {pc : Nat} {ls : Array Slot} (hdg : decode cc pc = .ok (.ireturn, 1)) (hlocks : meth.locks = false) : W p l e R s m args below meth c H locs cells slots (MQ below Qc args s cells slots free) (F0 m pc ls [.int v]) := by
  intro T hT X
  obtain ⟨fs, hret, hrun, hended, hW, hframe⟩ := X.leave (v := some (.int v')) (hlocks := hlocks) (fun h => by rw [hr] at h; cases h)
  have hmeth' : T.vm.method? m = some meth := X.method'
  refine ⟨T.setFrames fs, ?_, .returned (some (.int v')), hrun, hended, hq _ hT hW, locs, ⟨⟨_, rfl⟩, hW, hframe⟩, hf⟩
  jvm_step X.here [X.here.top, hexec, hb, hdg, hmeth', hr, hn]
  (try refine ⟨rfl, ?_⟩); (try refine ⟨rfl, ?_⟩)
  first | (intro acts; rw [hret _ acts rfl rfl rfl]) | rw [hret _ _ rfl rfl rfl]
  exact Steps.refl _
theorem q_zret (hX : qOk G X own cc nL (some .boolean) d) {v v' : Int32} (hv : vp_nar .boolean v = v') (hT : qTg G X nc ns ks ρ σ (some (.int v'))) (hd : qd cc pc .ireturn 1 pc') : qV G X nc ns ks ρ σ pc lv [.int v] := by
  intro H locs ls hR hS hl
  unfold qTg at hT
  rw [hT]
  exact qW_zret hX.ex hX.cd hX.rt (by rw [← hv]; rfl) (fun t ht hW => ⟨rfl, by rw [ht]; exact hR, hS.F ht⟩) hS.2.2 hd.1 hX.lk
/-! switches -/
theorem q_tabIn (hX : qOk G X own cc nL ret d) {dflt lo hi off : Int} {offs : Array Int} {len tgt : Nat} {x v : Int32} (hx : x = v) (hd : qd cc pc (.tableswitch dflt lo hi offs) len pc') (h1 : ¬ v.toInt < lo) (h2 : ¬ hi < v.toInt) (ho : offs[(v.toInt - lo).toNat]? = some off) (ht : (pc : Int) + off = (tgt : Int)) (K : qV G X nc ns ks ρ σ tgt lv st) : qV G X nc ns ks ρ σ pc lv (.int x :: st) := by
  subst hx
  exact fun H locs ls hR hS hl => lv_tableIn hX.ex hX.cd hd.1 h1 h2 ho ht (K H locs ls hR hS hl)
theorem q_tabOut (hX : qOk G X own cc nL ret d) {dflt lo hi : Int} {offs : Array Int} {len tgt : Nat} {x : Int32} (h : x.toInt < lo ∨ hi < x.toInt) (hd : qd cc pc (.tableswitch dflt lo hi offs) len pc') (ht : (pc : Int) + dflt = (tgt : Int)) (K : qV G X nc ns ks ρ σ tgt lv st) : qV G X nc ns ks ρ σ pc lv (.int x :: st) :=
  fun H locs ls hR hS hl => lv_tableOut hX.ex hX.cd hd.1 h ht (K H locs ls hR hS hl)
theorem q_lsw (hX : qOk G X own cc nL ret d) {dflt off : Int} {ps : Array (Int × Int)} {len tgt : Nat} {x : Int32} (hp : (ps.toList.zip (ps.toList.drop 1)).all (fun (a, next) => a.1 < next.1) = true) (ho : Op.lookupswitch.offset ps.toList dflt x.toInt = off) (hd : qd cc pc (.lookupswitch dflt ps) len pc') (ht : (pc : Int) + off = (tgt : Int)) (K : qV G X nc ns ks ρ σ tgt lv st) : qV G X nc ns ks ρ σ pc lv (.int x :: st) :=
  fun H locs ls hR hS hl => lv_lookup hX.ex hX.cd hd.1 hp ho ht (K H locs ls hR hS hl)
/-! calls -/
theorem q_run {ks' : List qKd} {ρ' : qRf} {σ' : qMem} {r : Option Value} {mc ms : Nat} {a0 : Array Value} {H : Heap} {locs : List Loc} {ls : Array Slot} {st0 : List Value} (hr : va_Run X.p X.l X.e X.R X.s X.m X.args X.below X.meth X.c H locs nc ns mc ms (F0 X.m pc ls st0) (st.map (qv G.2.2)) (qQc G ks' ρ' σ' r a0) (qA G)) (hS : va_S (qA G) X.s.heap H locs) (hl : qlh G.2.2 ls X.c.maxLocals lv)
    (K : qV G X (nc + mc) (ns + ms) ks' ρ' σ' (pc + 3) lv (r.toList ++ st)) : W X.p X.l X.e X.R X.s X.m X.args X.below X.meth X.c H locs nc ns X.Q (F0 X.m pc ls st0) := by
  intro T hT Xs
  obtain ⟨v, st₀, t, T', L, h0, X', hL, e1, e2, ⟨hv, hp, hz, hk⟩, stp⟩ := hr T hT Xs
  cases hv
  rw [h0] at hz hk
  rw [← e1] at hp hz hk
  obtain ⟨t2, a1, b1⟩ := K T'.heap (locs ++ L) ls hp ⟨Nat.le_trans hS.1 hz, fun q h1 h2 => by rw [hk q (Nat.lt_of_lt_of_le h1 hS.1) h2]; exact hS.2.1 q h1 h2, fun q hq => by
      rcases List.mem_append.mp hq with h | h
      · exact hS.2.2 q h
      · exact hL q h⟩ hl T' rfl X'
  refine ⟨t2, stp t2 ?_, b1⟩
  have e : (Option.map (qv G.2.2) r).toList ++ st.map (qv G.2.2) = (r.toList ++ st).map (qv G.2.2) := by cases r <;> simp
  rw [e]
  exact a1
/-- the words of a call -/
def qVw (own : String) (i : Nat) (C : String) (y : MethodName) (bytes : ByteArray) (maxL : Nat) (rt : Option FieldType) (n : Nat) : Prop :=
  (Cond.methodLink own i y ∈ qAW ∧ Cond.instanceMethod y ∈ qAW ∧ Cond.selects C y y ∈ qAW ∧ Cond.initialized C ∈ qAW ∧ Cond.code y bytes maxL rt ∈ qAW) ∧ y.cls = C ∧ (y.cls ≠ "java/lang/invoke/MethodHandle" ∧ y.cls ≠ "java/lang/invoke/VarHandle" ∧ (parseMethodDescriptor y.desc).map (fun d => d.parameters.length) = some n) ∧ maxL ≤ 81
def qSw (own : String) (i : Nat) (y : MethodName) (bytes : ByteArray) (maxL : Nat) (rt : Option FieldType) (n : Nat) : Prop :=
  (Cond.methodLink own i y ∈ qAW ∧ Cond.static y ∈ qAW ∧ Cond.initialized y.cls ∈ qAW ∧ Cond.code y bytes maxL rt ∈ qAW) ∧ (y.cls ≠ "java/lang/invoke/MethodHandle" ∧ y.cls ≠ "java/lang/invoke/VarHandle" ∧ (parseMethodDescriptor y.desc).map (fun d => d.parameters.length) = some n) ∧ maxL ≤ 81
def qSNw (own : String) (i : Nat) (y : MethodName) (host : String) (bytes : ByteArray) (maxL : Nat) (rt : Option FieldType) (n : Nat) : Prop :=
  (Cond.methodLinkNest own i y host ∈ qNW ∧ Cond.static y ∈ qAW ∧ Cond.initialized y.cls ∈ qAW ∧ Cond.code y bytes maxL rt ∈ qAW) ∧ (y.cls ≠ "java/lang/invoke/MethodHandle" ∧ y.cls ≠ "java/lang/invoke/VarHandle" ∧ (parseMethodDescriptor y.desc).map (fun d => d.parameters.length) = some n) ∧ maxL ≤ 81
def qIw (own : String) (i : Nat) (y : MethodName) (bytes : ByteArray) (maxL : Nat) (n : Nat) : Prop :=
  (Cond.methodLink own i y ∈ qAW ∧ Cond.instanceMethod y ∈ qAW ∧ Cond.initialized y.cls ∈ qAW ∧ Cond.code y bytes maxL none ∈ qAW) ∧ (y.cls ≠ "java/lang/invoke/MethodHandle" ∧ y.cls ≠ "java/lang/invoke/VarHandle" ∧ (parseMethodDescriptor y.desc).map (fun d => d.parameters.length) = some n) ∧ maxL ≤ 81 ∧ y.name = "<init>"
def qINw (own : String) (i : Nat) (y : MethodName) (host : String) (bytes : ByteArray) (maxL : Nat) (n : Nat) : Prop :=
  (Cond.methodLinkNest own i y host ∈ qNW ∧ Cond.instanceMethod y ∈ qAW ∧ Cond.initialized y.cls ∈ qAW ∧ Cond.code y bytes maxL none ∈ qAW) ∧ (y.cls ≠ "java/lang/invoke/MethodHandle" ∧ y.cls ≠ "java/lang/invoke/VarHandle" ∧ (parseMethodDescriptor y.desc).map (fun d => d.parameters.length) = some n) ∧ maxL ≤ 81 ∧ y.name = "<init>"
theorem qGood {y : MethodName} {bytes : ByteArray} {maxL : Nat} {rt : Option FieldType} (h : Cond.code y bytes maxL rt ∈ qAW) : GoodIn qAW (Cond.code y bytes maxL rt :: qAW) := fun w hw => by
  rcases List.mem_cons.mp hw with rfl | hw
  · exact ⟨h, qAW_good h⟩
  · exact ⟨hw, qAW_good hw⟩
theorem qcat (ad : Nat → Nat) (st : List Value) : ((st.map (qv ad)).map fun v => v.category).sum = (st.map fun v => v.category).sum := by
  rw [List.map_map]
  congr 1
  exact List.map_congr_left (fun v _ => qv_cat ad v)
theorem qmaprev (ad : Nat → Nat) (As st : List Value) : (As.reverse ++ st).map (qv ad) = (As.map (qv ad)).reverse ++ st.map (qv ad) := by simp
theorem q_callV (hX : qOk G X own cc nL ret d) {i n c nf maxL d' b : Nat} {C : String} {T : u_T} {y : MethodName} {bytes : ByteArray} {rt : Option FieldType} {As : List Value} {r : Option Value} {ks' : List qKd} {ρ' : qRf} {σ' : qMem} {mc ms : Nat} {stk : List Value}
    (hC : qCt X.l y bytes maxL rt d' G ks ρ σ (.ref b :: As) r ks' ρ' σ' mc ms) (hw : qVw own i C y bytes maxL rt n) (hn : As.length = n) (hb : ks[b]? = some (c, nf)) (hc : qCl[c]? = some (C, T, nf)) (hdd : d' + 1 ≤ d) (hstk : stk = As.reverse ++ .ref b :: st) (hcat : (st.map fun v => v.category).sum ≤ 8) (hce : nc + mc ≤ X.R.cells ∧ ns + ms ≤ X.R.slots)
    (hd : qd cc pc (.invokevirtual i) 3 pc') (K : qV G X (nc + mc) (ns + ms) ks' ρ' σ' pc' lv (r.toList ++ st)) : qV G X nc ns ks ρ σ pc lv stk := by
  obtain ⟨hd, rfl⟩ := hd
  subst hstk
  obtain ⟨⟨w1, w2, w3, w4, w5⟩, hyC, hdd2, hmL⟩ := hw
  intro H locs ls hR hS hl
  have hfr := hX.fr
  have hlo := hX.lo
  rw [qmaprev]
  refine q_run (va_runV (As := As.map (qv G.2.2)) (rest := st.map (qv G.2.2)) (n := n) ⟨hX.ex, hX.cd, hX.ml, hX.ow, hX.ts⟩ hC (cwV (C := C) n hX.ts (fun w hw => ?_) rfl rfl rfl ⟨hyC, hdd2⟩ ⟨by show d' + 1 ≤ _; omega, by show 8 + (maxL + 11) + 100 * d' ≤ _; omega⟩) ⟨qBlind, va_recv hX.kn.1 hR.1 (ci := c) (q0 := b) hc ((qwd_get hb).trans (by rw [qent_o (qc13 hc)])), fun U hU hW => ⟨rfl, hX.kn.move hW (by rw [hU]; exact hS), by rw [hU]; exact hR⟩⟩ rfl (by simp [hn]) (by rw [← hX.ml]; exact hl.1) rfl (lv_room (by rw [qcat]; exact hcat)) hd hce) hS hl K
  unfold wsV at hw
  rcases List.mem_append.mp hw with hw | hw
  · have hm : w ∈ qAW := by
      simp only [List.mem_cons, List.not_mem_nil, or_false] at hw
      rcases hw with rfl | rfl | rfl | rfl
      · exact w1
      · exact w2
      · exact w3
      · exact w4
    exact ⟨hm, qAW_good hm⟩
  · exact qGood w5 w hw
theorem q_callS (hX : qOk G X own cc nL ret d) {i n maxL d' : Nat} {y : MethodName} {bytes : ByteArray} {rt : Option FieldType} {As : List Value} {r : Option Value} {ks' : List qKd} {ρ' : qRf} {σ' : qMem} {mc ms : Nat} {stk : List Value}
    (hC : qCt X.l y bytes maxL rt d' G ks ρ σ As r ks' ρ' σ' mc ms) (hw : qSw own i y bytes maxL rt n) (hn : As.length = n) (hdd : d' + 1 ≤ d) (hstk : stk = As.reverse ++ st) (hcat : (st.map fun v => v.category).sum ≤ 8) (hce : nc + mc ≤ X.R.cells ∧ ns + ms ≤ X.R.slots)
    (hd : qd cc pc (.invokestatic i) 3 pc') (K : qV G X (nc + mc) (ns + ms) ks' ρ' σ' pc' lv (r.toList ++ st)) : qV G X nc ns ks ρ σ pc lv stk := by
  obtain ⟨hd, rfl⟩ := hd
  subst hstk
  obtain ⟨⟨w1, w2, w3, w4⟩, hdd2, hmL⟩ := hw
  intro H locs ls hR hS hl
  have hfr := hX.fr
  have hlo := hX.lo
  rw [qmaprev]
  refine q_run (va_runS (As := As.map (qv G.2.2)) (rest := st.map (qv G.2.2)) (n := n) ⟨hX.ex, hX.cd, hX.ml, hX.ow, hX.ts⟩ hC (va_cwS n hX.ts (fun w hw => ?_) rfl rfl rfl hdd2 ⟨by show d' + 1 ≤ _; omega, by show 8 + (maxL + 11) + 100 * d' ≤ _; omega⟩) ⟨qBlind, fun U hU hW => ⟨rfl, hX.kn.move hW (by rw [hU]; exact hS), by rw [hU]; exact hR⟩⟩ rfl (by simp [hn]) (by rw [← hX.ml]; exact hl.1) rfl (lv_room (by rw [qcat]; exact hcat)) hd hce) hS hl K
  unfold va_wsS at hw
  rcases List.mem_append.mp hw with hw | hw
  · have hm : w ∈ qAW := by
      simp only [List.mem_cons, List.not_mem_nil, or_false] at hw
      rcases hw with rfl | rfl | rfl
      · exact w1
      · exact w2
      · exact w3
    exact ⟨hm, qAW_good hm⟩
  · exact qGood w4 w hw
theorem q_callSN (hX : qOk G X own cc nL ret d) {i n maxL d' : Nat} {host : String} {y : MethodName} {bytes : ByteArray} {rt : Option FieldType} {As : List Value} {r : Option Value} {ks' : List qKd} {ρ' : qRf} {σ' : qMem} {mc ms : Nat} {stk : List Value}
    (hC : qCt X.l y bytes maxL rt d' G ks ρ σ As r ks' ρ' σ' mc ms) (hw : qSNw own i y host bytes maxL rt n) (hn : As.length = n) (hdd : d' + 1 ≤ d) (hstk : stk = As.reverse ++ st) (hcat : (st.map fun v => v.category).sum ≤ 8) (hce : nc + mc ≤ X.R.cells ∧ ns + ms ≤ X.R.slots)
    (hd : qd cc pc (.invokestatic i) 3 pc') (K : qV G X (nc + mc) (ns + ms) ks' ρ' σ' pc' lv (r.toList ++ st)) : qV G X nc ns ks ρ σ pc lv stk := by
  obtain ⟨hd, rfl⟩ := hd
  subst hstk
  obtain ⟨⟨w1, w2, w3, w4⟩, hdd2, hmL⟩ := hw
  intro H locs ls hR hS hl
  have hfr := hX.fr
  have hlo := hX.lo
  rw [qmaprev]
  exact q_run (va_runSN (As := As.map (qv G.2.2)) (rest := st.map (qv G.2.2)) (n := n) ⟨hX.ex, hX.cd, hX.ml, hX.ow, hX.ts⟩ hC ⟨va_cnB n hX.ts (qGood w4) rfl rfl rfl (hX.kn.2.1 _ w1) (hX.ts _ w3) hdd2 ⟨by show d' + 1 ≤ _; omega, by show 8 + (maxL + 11) + 100 * d' ≤ _; omega⟩, hX.ts _ w2, trivial⟩ ⟨qBlind, fun U hU hW => ⟨rfl, hX.kn.move hW (by rw [hU]; exact hS), by rw [hU]; exact hR⟩⟩ rfl (by simp [hn]) (by rw [← hX.ml]; exact hl.1) rfl (lv_room (by rw [qcat]; exact hcat)) hd hce) hS hl K
theorem q_callI (hX : qOk G X own cc nL ret d) {i n maxL d' b : Nat} {y : MethodName} {bytes : ByteArray} {As : List Value} {r : Option Value} {ks' : List qKd} {ρ' : qRf} {σ' : qMem} {mc ms : Nat} {stk : List Value}
    (hC : qCt X.l y bytes maxL none d' G ks ρ σ (.ref b :: As) r ks' ρ' σ' mc ms) (hw : qIw own i y bytes maxL n) (hn : As.length = n) (hdd : d' + 1 ≤ d) (hstk : stk = As.reverse ++ .ref b :: st) (hcat : (st.map fun v => v.category).sum ≤ 8) (hce : nc + mc ≤ X.R.cells ∧ ns + ms ≤ X.R.slots)
    (hd : qd cc pc (.invokespecial i) 3 pc') (K : qV G X (nc + mc) (ns + ms) ks' ρ' σ' pc' lv (r.toList ++ st)) : qV G X nc ns ks ρ σ pc lv stk := by
  obtain ⟨hd, rfl⟩ := hd
  subst hstk
  obtain ⟨⟨w1, w2, w3, w4⟩, hdd2, hmL, hyn⟩ := hw
  intro H locs ls hR hS hl
  have hfr := hX.fr
  have hlo := hX.lo
  rw [qmaprev]
  exact q_run (va_runI (As := As.map (qv G.2.2)) (rest := st.map (qv G.2.2)) (n := n) ⟨hX.ex, hX.cd, hX.ml, hX.ow, hX.ts⟩ hC (cwI n hX.ts (qGood w4) rfl rfl rfl (hX.ts _ w3) (hX.ts _ w1) (hX.ts _ w2) hyn hdd2 ⟨by show d' + 1 ≤ _; omega, by show 8 + (maxL + 11) + 100 * d' ≤ _; omega⟩) ⟨qBlind, fun U hU hW => ⟨rfl, hX.kn.move hW (by rw [hU]; exact hS), by rw [hU]; exact hR⟩⟩ rfl (by simp [hn]) (by rw [← hX.ml]; exact hl.1) rfl (lv_room (by rw [qcat]; exact hcat)) hd hce) hS hl K
theorem q_callIN (hX : qOk G X own cc nL ret d) {i n maxL d' b : Nat} {host : String} {y : MethodName} {bytes : ByteArray} {As : List Value} {r : Option Value} {ks' : List qKd} {ρ' : qRf} {σ' : qMem} {mc ms : Nat} {stk : List Value}
    (hC : qCt X.l y bytes maxL none d' G ks ρ σ (.ref b :: As) r ks' ρ' σ' mc ms) (hw : qINw own i y host bytes maxL n) (hn : As.length = n) (hdd : d' + 1 ≤ d) (hstk : stk = As.reverse ++ .ref b :: st) (hcat : (st.map fun v => v.category).sum ≤ 8) (hce : nc + mc ≤ X.R.cells ∧ ns + ms ≤ X.R.slots)
    (hd : qd cc pc (.invokespecial i) 3 pc') (K : qV G X (nc + mc) (ns + ms) ks' ρ' σ' pc' lv (r.toList ++ st)) : qV G X nc ns ks ρ σ pc lv stk := by
  obtain ⟨hd, rfl⟩ := hd
  subst hstk
  obtain ⟨⟨w1, w2, w3, w4⟩, hdd2, hmL, hyn⟩ := hw
  intro H locs ls hR hS hl
  have hfr := hX.fr
  have hlo := hX.lo
  rw [qmaprev]
  exact q_run (va_runIN (As := As.map (qv G.2.2)) (rest := st.map (qv G.2.2)) (n := n) ⟨hX.ex, hX.cd, hX.ml, hX.ow, hX.ts⟩ hC ⟨va_cnB n hX.ts (qGood w4) rfl rfl rfl (hX.kn.2.1 _ w1) (hX.ts _ w3) hdd2 ⟨by show d' + 1 ≤ _; omega, by show 8 + (maxL + 11) + 100 * d' ≤ _; omega⟩, hyn, hX.ts _ w2⟩ ⟨qBlind, fun U hU hW => ⟨rfl, hX.kn.move hW (by rw [hU]; exact hS), by rw [hU]; exact hR⟩⟩ rfl (by simp [hn]) (by rw [← hX.ml]; exact hl.1) rfl (lv_room (by rw [qcat]; exact hcat)) hd hce) hS hl K
end QRET
end
section
/-! rows of the running phase: nothing is made -/
theorem q00 {R : Room} : 0 + 0 ≤ R.cells ∧ 0 + 0 ≤ R.slots := ⟨Nat.zero_le _, Nat.zero_le _⟩
section QRUN
variable {G : qG} {X : qX} {own : String} {cc : ByteArray} {nL : Nat} {ret : Option FieldType} {d : Nat} {ks : List qKd} {ρ : qRf} {σ : qMem} {pc pc' : Nat} {lv lv' : qLv} {st : List Value}
theorem q_cVr (hX : qOk G X own cc nL ret d) {i n c nf maxL d' b : Nat} {C : String} {T : u_T} {y : MethodName} {bytes : ByteArray} {rt : Option FieldType} {As : List Value} {v : Value} {σ' : qMem} {stk : List Value} (hC : qCt X.l y bytes maxL rt d' G ks ρ σ (.ref b :: As) (some v) ks ρ σ' 0 0) (hw : qVw own i C y bytes maxL rt n) (hn : As.length = n) (hb : ks[b]? = some (c, nf)) (hc : qCl[c]? = some (C, T, nf)) (hdd : d' + 1 ≤ d) (hstk : stk = As.reverse ++ .ref b :: st) (hcat : (st.map fun v => v.category).sum ≤ 8) (hd : qd cc pc (.invokevirtual i) 3 pc') (K : qV G X 0 0 ks ρ σ' pc' lv (v :: st)) : qV G X 0 0 ks ρ σ pc lv stk := q_callV hX hC hw hn hb hc hdd hstk hcat q00 hd K
theorem q_cVv (hX : qOk G X own cc nL ret d) {i n c nf maxL d' b : Nat} {C : String} {T : u_T} {y : MethodName} {bytes : ByteArray} {rt : Option FieldType} {As : List Value} {σ' : qMem} {stk : List Value} (hC : qCt X.l y bytes maxL rt d' G ks ρ σ (.ref b :: As) none ks ρ σ' 0 0) (hw : qVw own i C y bytes maxL rt n) (hn : As.length = n) (hb : ks[b]? = some (c, nf)) (hc : qCl[c]? = some (C, T, nf)) (hdd : d' + 1 ≤ d) (hstk : stk = As.reverse ++ .ref b :: st) (hcat : (st.map fun v => v.category).sum ≤ 8) (hd : qd cc pc (.invokevirtual i) 3 pc') (K : qV G X 0 0 ks ρ σ' pc' lv (st)) : qV G X 0 0 ks ρ σ pc lv stk := q_callV hX hC hw hn hb hc hdd hstk hcat q00 hd K
theorem q_cSr (hX : qOk G X own cc nL ret d) {i n maxL d' : Nat} {y : MethodName} {bytes : ByteArray} {rt : Option FieldType} {As : List Value} {v : Value} {σ' : qMem} {stk : List Value} (hC : qCt X.l y bytes maxL rt d' G ks ρ σ As (some v) ks ρ σ' 0 0) (hw : qSw own i y bytes maxL rt n) (hn : As.length = n) (hdd : d' + 1 ≤ d) (hstk : stk = As.reverse ++ st) (hcat : (st.map fun v => v.category).sum ≤ 8) (hd : qd cc pc (.invokestatic i) 3 pc') (K : qV G X 0 0 ks ρ σ' pc' lv (v :: st)) : qV G X 0 0 ks ρ σ pc lv stk := q_callS hX hC hw hn hdd hstk hcat q00 hd K
theorem q_cSv (hX : qOk G X own cc nL ret d) {i n maxL d' : Nat} {y : MethodName} {bytes : ByteArray} {rt : Option FieldType} {As : List Value} {σ' : qMem} {stk : List Value} (hC : qCt X.l y bytes maxL rt d' G ks ρ σ As none ks ρ σ' 0 0) (hw : qSw own i y bytes maxL rt n) (hn : As.length = n) (hdd : d' + 1 ≤ d) (hstk : stk = As.reverse ++ st) (hcat : (st.map fun v => v.category).sum ≤ 8) (hd : qd cc pc (.invokestatic i) 3 pc') (K : qV G X 0 0 ks ρ σ' pc' lv (st)) : qV G X 0 0 ks ρ σ pc lv stk := q_callS hX hC hw hn hdd hstk hcat q00 hd K
theorem q_cSNr (hX : qOk G X own cc nL ret d) {i n maxL d' : Nat} {host : String} {y : MethodName} {bytes : ByteArray} {rt : Option FieldType} {As : List Value} {v : Value} {σ' : qMem} {stk : List Value} (hC : qCt X.l y bytes maxL rt d' G ks ρ σ As (some v) ks ρ σ' 0 0) (hw : qSNw own i y host bytes maxL rt n) (hn : As.length = n) (hdd : d' + 1 ≤ d) (hstk : stk = As.reverse ++ st) (hcat : (st.map fun v => v.category).sum ≤ 8) (hd : qd cc pc (.invokestatic i) 3 pc') (K : qV G X 0 0 ks ρ σ' pc' lv (v :: st)) : qV G X 0 0 ks ρ σ pc lv stk := q_callSN hX hC hw hn hdd hstk hcat q00 hd K
theorem q_cSNv (hX : qOk G X own cc nL ret d) {i n maxL d' : Nat} {host : String} {y : MethodName} {bytes : ByteArray} {rt : Option FieldType} {As : List Value} {σ' : qMem} {stk : List Value} (hC : qCt X.l y bytes maxL rt d' G ks ρ σ As none ks ρ σ' 0 0) (hw : qSNw own i y host bytes maxL rt n) (hn : As.length = n) (hdd : d' + 1 ≤ d) (hstk : stk = As.reverse ++ st) (hcat : (st.map fun v => v.category).sum ≤ 8) (hd : qd cc pc (.invokestatic i) 3 pc') (K : qV G X 0 0 ks ρ σ' pc' lv (st)) : qV G X 0 0 ks ρ σ pc lv stk := q_callSN hX hC hw hn hdd hstk hcat q00 hd K
theorem q_iretR (hX : qOk G X own cc nL (some .int) d) {v r : Int32} (h : some v = some r) (hT : qTg G X 0 0 ks ρ σ (some (.int r))) (hd : qd cc pc .ireturn 1 pc') : qV G X 0 0 ks ρ σ pc lv [.int v] := by
  cases h
  exact q_iret hX hT hd
theorem q_iretW (hX : qOk G X own cc nL (some .int) d) {v : Int32} {u : Int32 × qMem} (h : some (v, σ) = some u) (hT : qTg G X 0 0 ks ρ u.2 (some (.int u.1))) (hd : qd cc pc .ireturn 1 pc') : qV G X 0 0 ks ρ σ pc lv [.int v] := by
  cases h
  exact q_iret hX hT hd
theorem q_zretR (hX : qOk G X own cc nL (some .boolean) d) {v v' r : Int32} (hv : vp_nar .boolean v = v') (h : some v' = some r) (hT : qTg G X 0 0 ks ρ σ (some (.int r))) (hd : qd cc pc .ireturn 1 pc') : qV G X 0 0 ks ρ σ pc lv [.int v] := by
  cases h
  exact q_zret hX hv hT hd
theorem q_zretW (hX : qOk G X own cc nL (some .boolean) d) {v v' : Int32} {u : Int32 × qMem} (hv : vp_nar .boolean v = v') (h : some (v', σ) = some u) (hT : qTg G X 0 0 ks ρ u.2 (some (.int u.1))) (hd : qd cc pc .ireturn 1 pc') : qV G X 0 0 ks ρ σ pc lv [.int v] := by
  cases h
  exact q_zret hX hv hT hd
theorem q_lretR (hX : qOk G X own cc nL (some .long) d) {v r : Int64} (h : some v = some r) (hT : qTg G X 0 0 ks ρ σ (some (.long r))) (hd : qd cc pc .lreturn 1 pc') : qV G X 0 0 ks ρ σ pc lv [.long v] := by
  cases h
  exact q_lret hX hT hd
theorem q_aretR {C : String} (hX : qOk G X own cc nL (some (.object C)) d) {v r : Nat} (h : some v = some r) (hT : qTg G X 0 0 ks ρ σ (some (.ref (1048576 + r)))) (hd : qd cc pc .areturn 1 pc') : qV G X 0 0 ks ρ σ pc lv [.ref (1048576 + v)] := by
  cases h
  exact q_aret hX hT hd
theorem q_vretW (hX : qOk G X own cc nL none d) {u : qMem} (h : some σ = some u) (hT : qTg G X 0 0 ks ρ u none) (hd : qd cc pc .return_ 1 pc') : qV G X 0 0 ks ρ σ pc lv [] := by
  cases h
  exact q_vret hX hT hd
theorem q_ldcS (hX : qOk G X "ChantryRolls$Deeds" cc nL ret d) {i w : Nat} (hw : w < 12) (hi : qSi.getD w 0 = i) (hd : qd cc pc (.ldc i) 2 pc') {nc ns : Nat} (K : qV G X nc ns ks ρ σ pc' lv (.ref (1048576 + w) :: st)) : qV G X nc ns ks ρ σ pc lv st := by
  obtain ⟨hd, rfl⟩ := hd
  subst hi
  exact fun H locs ls hR hS hl => va_ldcS hX.ex hX.cd hX.ow (hX.kn.2.2.2.1 w hw) hd (K H locs ls hR hS hl)
theorem q_ne32 {x v : Int32} (h : ¬ x = v) : x.toInt ≠ v.toInt := fun e => h (Int32.toInt_inj.mp e)
theorem q_dec0 {α : Type} {c : Prop} [Decidable c] {a b : Option α} {q : α} (h : (if c then a else b) = some q) (hc : c) : a = some q := by rw [if_pos hc] at h; exact h
theorem q_dec1 {α : Type} {c : Prop} [Decidable c] {a b : Option α} {q : α} (h : (if c then a else b) = some q) (hc : ¬ c) : b = some q := by rw [if_neg hc] at h; exact h
end QRUN
end
section
/-! static arrays, arraycopy, String.length and charAt -/
def qcg (sp dp n : Int32) (na nb : Nat) : Bool := !(decide (sp < 0)) && (!(decide (dp < 0)) && (!(decide (n < 0)) && (decide (sp.toNatClampNeg + n.toNatClampNeg ≤ na) && decide (dp.toNatClampNeg + n.toNatClampNeg ≤ nb))))
section QPRIM
variable {G : qG} {X : qX} {own : String} {cc : ByteArray} {nL : Nat} {ret : Option FieldType} {d nc ns : Nat} {ks : List qKd} {ρ : qRf} {σ : qMem} {pc pc' : Nat} {lv lv' : qLv} {st : List Value}
theorem q_getsL (hX : qOk G X "ChantryRolls$Deeds" cc nL ret d) {i : Nat} (hw : Cond.fieldLink "ChantryRolls$Deeds" i "ChantryRolls$Deeds" "LEAST" "[I" ∈ qAW) (hd : qd cc pc (.getstatic i) 3 pc') (K : qV G X nc ns ks ρ σ pc' lv (.ref 1048776 :: st)) : qV G X nc ns ks ρ σ pc lv st := by
  obtain ⟨hd, rfl⟩ := hd
  obtain ⟨-, -, -, -, -, -, k4, k5, k6, k7, k8⟩ := hX.kn
  exact fun H locs ls hR hS hl => va_gets hX.ex hX.cd k4 hS hX.ow (hX.ts _ hw) (fun _ h => h) hd (K H locs ls hR hS hl)
theorem q_getsM (hX : qOk G X "ChantryRolls$Deeds" cc nL ret d) {i : Nat} (hw : Cond.fieldLink "ChantryRolls$Deeds" i "ChantryRolls$Deeds" "MOST" "[I" ∈ qAW) (hd : qd cc pc (.getstatic i) 3 pc') (K : qV G X nc ns ks ρ σ pc' lv (.ref 1048777 :: st)) : qV G X nc ns ks ρ σ pc lv st := by
  obtain ⟨hd, rfl⟩ := hd
  obtain ⟨-, -, -, -, -, -, k4, k5, k6, k7, k8⟩ := hX.kn
  exact fun H locs ls hR hS hl => va_gets hX.ex hX.cd k5 hS hX.ow (hX.ts _ hw) (fun _ h => h) hd (K H locs ls hR hS hl)
theorem q_taldL (hX : qOk G X own cc nL ret d) {i : Int32} (hd : qd cc pc (.iaload) 1 pc') {α : Type} {a : Option α} {q : α} (h : (if qin i 11 = true then a else none) = some q) (K : qin i 11 = true → a = some q → qV G X nc ns ks ρ σ pc' lv (.int (qLeast.getD (qi i) 0) :: st)) : qV G X nc ns ks ρ σ pc lv (.int i :: .ref 1048776 :: st) := by
  obtain ⟨hd, rfl⟩ := hd
  obtain ⟨hin, h⟩ := qg_pos h
  obtain ⟨-, -, -, -, -, -, k4, k5, k6, k7, k8⟩ := hX.kn
  exact fun H locs ls hR hS hl => va_ti hX.ex hX.cd k6 hS (qin_vp hin) rfl hd (K hin h H locs ls hR hS hl)
theorem q_taldM (hX : qOk G X own cc nL ret d) {i : Int32} (hd : qd cc pc (.iaload) 1 pc') {α : Type} {a : Option α} {q : α} (h : (if qin i 11 = true then a else none) = some q) (K : qin i 11 = true → a = some q → qV G X nc ns ks ρ σ pc' lv (.int (qMost.getD (qi i) 0) :: st)) : qV G X nc ns ks ρ σ pc lv (.int i :: .ref 1048777 :: st) := by
  obtain ⟨hd, rfl⟩ := hd
  obtain ⟨hin, h⟩ := qg_pos h
  obtain ⟨-, -, -, -, -, -, k4, k5, k6, k7, k8⟩ := hX.kn
  exact fun H locs ls hR hS hl => va_ti hX.ex hX.cd k7 hS (qin_vp hin) rfl hd (K hin h H locs ls hR hS hl)
theorem qent_cp {G : qG} {ρ : qRf} {σ : qMem} {ka sp kb dp n : Nat} {k' : Nat} {kd : qKd} (h : k' ≠ kb) : qent G ρ (qcp σ ka sp kb dp n) k' kd = qent G ρ σ k' kd := by
  have e : qcp σ ka sp kb dp n k' = σ k' := by
    funext b
    simp [qcp, h]
  unfold qent qfv
  rw [e]
theorem qcp_self {σ : qMem} {ka sp kb dp n : Nat} : qcp σ ka sp kb dp n kb = va_cpy (σ ka) (σ kb) sp dp n := by
  funext b
  simp [qcp, va_cpy]
theorem q_copy (hX : qOk G X own cc nL ret d) {i ka kb na nb : Nat} {sp dp n : Int32} (hka : ks[ka]? = some (100, na)) (hkb : ks[kb]? = some (100, nb)) (hlen : ks.length ≤ 1048576) (w1 : Cond.methodLink own i arraycopyName ∈ qAW) (w2 : Cond.native arraycopyName ∈ qAW) (w3 : Cond.static arraycopyName ∈ qAW) (w4 : Cond.initialized "java/lang/System" ∈ qAW) (hdd : 1 ≤ d) (hcat : (st.map fun v => v.category).sum ≤ 8) (hd : qd cc pc (.invokestatic i) 3 pc')
    {α : Type} {a : Option α} {q : α} (h : (if qcg sp dp n na nb = true then a else none) = some q) (K : a = some q → qV G X nc ns ks ρ (qcp σ ka (qi sp) kb (qi dp) (qi n)) pc' lv st) : qV G X nc ns ks ρ σ pc lv (.int n :: .int dp :: .ref kb :: .int sp :: .ref ka :: st) := by
  obtain ⟨hd, rfl⟩ := hd
  obtain ⟨hg, h⟩ := qg_pos h
  unfold qcg at hg
  simp only [Bool.and_eq_true, Bool.not_eq_true', decide_eq_false_iff_not, decide_eq_true_eq] at hg
  obtain ⟨h1, h2, h3, h4, h5⟩ := hg
  have hfr := hX.fr
  have hlo := hX.lo
  intro H locs ls hR hS hl
  have nn : ∀ z : Int32, ¬ z < 0 → z.toInt = (z.toNatClampNeg : Int) := by
    intro z hz
    have hz0 : (0 : Int) ≤ z.toInt := by
      have := Int32.not_lt.mp hz
      simpa using Int32.le_iff_toInt_le.mp this
    show z.toInt = ((z.toInt.toNat : Nat) : Int)
    omega
  have hc0 : H[G.2.2 ka]? = some (vp_cell (G.2.1 100) (na, .inl (σ ka))) := by
    have h1 := hR.1 ka _ (qwd_get hka)
    rw [qent_i (by decide) (by decide)] at h1
    exact h1
  have hc1 : H[G.2.2 kb]? = some (vp_cell (G.2.1 100) (nb, .inl (σ kb))) := by
    have h1 := hR.1 kb _ (qwd_get hkb)
    rw [qent_i (by decide) (by decide)] at h1
    exact h1
  intro T hT Xs
  obtain ⟨-, k0, hk0, cm0, hkk0⟩ := (hX.kn.1.2 0 _ rfl).1 na (fun j => .int (σ ka j))
  obtain ⟨-, k1, hk1, cm1, hkk1⟩ := (hX.kn.1.2 0 _ rfl).1 nb (fun j => .int (σ kb j))
  obtain ⟨vm', X', step⟩ := Xs.arraycopy hX.ex hX.ow (hX.ts _ w1) (hX.ts _ w2) (hX.ts _ w3) (hX.ts _ w4) (src := G.2.2 ka) (dst := G.2.2 kb) (cs := vp_cell (G.2.1 100) (na, .inl (σ ka))) (cd := vp_cell (G.2.1 100) (nb, .inl (σ kb))) (srcPos := sp) (destPos := dp) (n := n) (by rw [hT]; exact hc0) (by rw [hT]; exact hc1)
    (fun _ h => by cases h) (fun _ h => by cases h) (fun h => by cases h) (fun h => by cases h) hk0 hk1 hkk0 hkk1 (by simp [refKind]) h1 h2 h3
    (by rw [nn sp h1, nn n h3]; show ¬ _ > ((arrV (G.2.1 100) na (fun j => .int (σ ka j))).slots.size : Int); rw [arrV_size]; omega)
    (by rw [nn dp h2, nn n h3]; show ¬ _ > ((arrV (G.2.1 100) nb (fun j => .int (σ kb j))).slots.size : Int); rw [arrV_size]; omega)
    (fun vm₁ _ i hi => by
      have e : (vp_cell (G.2.1 100) (na, .inl (σ ka))).slots.getD (sp.toNatClampNeg + i) .null = .int (σ ka (sp.toNatClampNeg + i)) := by
        show (arrV (G.2.1 100) na (fun j => .int (σ ka j))).slots.getD _ _ = _
        rw [Array.getD_eq_getD_getElem?, arrV_read _ _ (by omega)]
        rfl
      refine ⟨?_, ?_⟩
      · rw [e]
        rfl
      · rw [e]
        exact trivial)
    (g := F0 X.m pc ls ((Value.int n :: .int dp :: .ref kb :: .int sp :: .ref ka :: st).map (qv G.2.2))) rfl (by rw [← hl.1]) (rest := st.map (qv G.2.2)) rfl (by rw [hX.cd]; exact hd) (by omega) (by
      show 2 * 0 + _ + _ ≤ _
      rw [qcat]
      have e9 : nativeFrameWords "java/lang/System" "arraycopy" 5 + 11 ≤ 90 := by decide
      omega)
  have e1 : copied (vp_cell (G.2.1 100) (na, .inl (σ ka))) (vp_cell (G.2.1 100) (nb, .inl (σ kb))) sp dp n = vp_cell (G.2.1 100) (nb, .inl (va_cpy (σ ka) (σ kb) sp.toNatClampNeg dp.toNatClampNeg n.toNatClampNeg)) := va_copied (fun z => .int z) _ _ (σ ka) (σ kb) h4
  rw [e1] at X' step
  have hlt : G.2.2 kb < H.size := (Array.getElem?_eq_some_iff.mp hc1).1
  have hheap : ((T.setVm vm').setCell (G.2.2 kb) (vp_cell (G.2.1 100) (nb, .inl (va_cpy (σ ka) (σ kb) sp.toNatClampNeg dp.toNatClampNeg n.toNatClampNeg)))).heap = H.setIfInBounds (G.2.2 kb) (vp_cell (G.2.1 100) (nb, .inl (va_cpy (σ ka) (σ kb) sp.toNatClampNeg dp.toNatClampNeg n.toNatClampNeg))) := by rw [← hT]; rfl
  have oq : ∀ q : Nat, q ≠ G.2.2 kb → (H.setIfInBounds (G.2.2 kb) (vp_cell (G.2.1 100) (nb, .inl (va_cpy (σ ka) (σ kb) sp.toNatClampNeg dp.toNatClampNeg n.toNatClampNeg))))[q]? = H[q]? := fun q hq => by simp [Array.getElem?_setIfInBounds, Ne.symm hq]
  have hAk := qA_at hX.ad hlen hkb
  obtain ⟨t, a1, b1⟩ := K h _ _ ls (hR.put (σ' := qcp σ ka (qi sp) kb (qi dp) (qi n)) hX.ad hlen hkb (by
      rw [qent_i (by decide) (by decide), qcp_self]
      show (H.setIfInBounds (G.2.2 kb) _)[G.2.2 kb]? = some _
      simp [Array.getElem?_setIfInBounds, hlt]) (by simp) oq (fun k' kd' h => qent_cp h)) ⟨by simp; exact hS.1, fun q g1 g2 => by
      rw [oq q (fun e => g2 (by rw [e]; exact hAk))]
      exact hS.2.1 q g1 g2, fun q hq => by
      rcases List.mem_append.mp hq with h | h
      · exact hS.2.2 q h
      · obtain ⟨z, -, hz⟩ := List.mem_map.mp h
        rw [← hz]
        exact hAk⟩ hl _ hheap X'
  exact ⟨t, step t a1, b1⟩
end QPRIM
end
section
/-! constants -/
theorem ic_m1 : Int32.ofInt (-1) = (-1 : Int32) := by decide +kernel
theorem ic_0 : Int32.ofInt 0 = (0 : Int32) := by decide +kernel
theorem ic_1 : Int32.ofInt 1 = (1 : Int32) := by decide +kernel
theorem ic_2 : Int32.ofInt 2 = (2 : Int32) := by decide +kernel
theorem ic_3 : Int32.ofInt 3 = (3 : Int32) := by decide +kernel
theorem ic_4 : Int32.ofInt 4 = (4 : Int32) := by decide +kernel
theorem ic_5 : Int32.ofInt 5 = (5 : Int32) := by decide +kernel
theorem bp_6 : (Int8.ofInt 6).toInt32 = (6 : Int32) := by decide +kernel
theorem bp_7 : (Int8.ofInt 7).toInt32 = (7 : Int32) := by decide +kernel
theorem bp_8 : (Int8.ofInt 8).toInt32 = (8 : Int32) := by decide +kernel
theorem bp_9 : (Int8.ofInt 9).toInt32 = (9 : Int32) := by decide +kernel
theorem bp_10 : (Int8.ofInt 10).toInt32 = (10 : Int32) := by decide +kernel
theorem bp_11 : (Int8.ofInt 11).toInt32 = (11 : Int32) := by decide +kernel
theorem bp_12 : (Int8.ofInt 12).toInt32 = (12 : Int32) := by decide +kernel
theorem bp_13 : (Int8.ofInt 13).toInt32 = (13 : Int32) := by decide +kernel
theorem bp_14 : (Int8.ofInt 14).toInt32 = (14 : Int32) := by decide +kernel
theorem bp_16 : (Int8.ofInt 16).toInt32 = (16 : Int32) := by decide +kernel
theorem bp_20 : (Int8.ofInt 20).toInt32 = (20 : Int32) := by decide +kernel
theorem bp_21 : (Int8.ofInt 21).toInt32 = (21 : Int32) := by decide +kernel
theorem bp_22 : (Int8.ofInt 22).toInt32 = (22 : Int32) := by decide +kernel
theorem bp_23 : (Int8.ofInt 23).toInt32 = (23 : Int32) := by decide +kernel
theorem bp_27 : (Int8.ofInt 27).toInt32 = (27 : Int32) := by decide +kernel
theorem bp_28 : (Int8.ofInt 28).toInt32 = (28 : Int32) := by decide +kernel
theorem bp_30 : (Int8.ofInt 30).toInt32 = (30 : Int32) := by decide +kernel
theorem bp_32 : (Int8.ofInt 32).toInt32 = (32 : Int32) := by decide +kernel
theorem bp_48 : (Int8.ofInt 48).toInt32 = (48 : Int32) := by decide +kernel
theorem bp_57 : (Int8.ofInt 57).toInt32 = (57 : Int32) := by decide +kernel
theorem bp_59 : (Int8.ofInt 59).toInt32 = (59 : Int32) := by decide +kernel
theorem bp_60 : (Int8.ofInt 60).toInt32 = (60 : Int32) := by decide +kernel
theorem bp_63 : (Int8.ofInt 63).toInt32 = (63 : Int32) := by decide +kernel
theorem bp_97 : (Int8.ofInt 97).toInt32 = (97 : Int32) := by decide +kernel
theorem bp_99 : (Int8.ofInt 99).toInt32 = (99 : Int32) := by decide +kernel
theorem bp_100 : (Int8.ofInt 100).toInt32 = (100 : Int32) := by decide +kernel
theorem bp_122 : (Int8.ofInt 122).toInt32 = (122 : Int32) := by decide +kernel
theorem sp_200 : (Int16.ofInt 200).toInt32 = (200 : Int32) := by decide +kernel
theorem sp_359 : (Int16.ofInt 359).toInt32 = (359 : Int32) := by decide +kernel
theorem sp_360 : (Int16.ofInt 360).toInt32 = (360 : Int32) := by decide +kernel
theorem sp_400 : (Int16.ofInt 400).toInt32 = (400 : Int32) := by decide +kernel
theorem sp_500 : (Int16.ofInt 500).toInt32 = (500 : Int32) := by decide +kernel
theorem sp_9999 : (Int16.ofInt 9999).toInt32 = (9999 : Int32) := by decide +kernel
theorem sp_10000 : (Int16.ofInt 10000).toInt32 = (10000 : Int32) := by decide +kernel
theorem ii_m1 (x : Int32) : x + Int32.ofInt (-1) = x + (-1 : Int32) := congrArg (fun z => x + z) (by decide +kernel)
theorem ii_1 (x : Int32) : x + Int32.ofInt 1 = x + (1 : Int32) := congrArg (fun z => x + z) (by decide +kernel)
theorem ii_2 (x : Int32) : x + Int32.ofInt 2 = x + (2 : Int32) := congrArg (fun z => x + z) (by decide +kernel)
theorem ii_3 (x : Int32) : x + Int32.ofInt 3 = x + (3 : Int32) := congrArg (fun z => x + z) (by decide +kernel)
theorem lc_0 : Int64.ofNat ((0 : Fin 2) : Nat) = (0 : Int64) := by decide +kernel
theorem lc_1 : Int64.ofNat ((1 : Fin 2) : Nat) = (1 : Int64) := by decide +kernel
theorem zn_0 : vp_nar .boolean (0 : Int32) = (0 : Int32) := by decide +kernel
theorem zn_1 : vp_nar .boolean (1 : Int32) = (1 : Int32) := by decide +kernel
theorem qg_nz {y : Int32} {α : Type} {a : Option α} {q : α} (h : (if y = 0 then none else a) = some q) : ¬ y = 0 ∧ a = some q := by
  by_cases e : y = 0
  · rw [if_pos e] at h; cases h
  · rw [if_neg e] at h; exact ⟨e, h⟩
end
section
/-! loops: the least fixed point by fuel, curried -/
def qfix1 {A0 R : Type} (F : (A0 → Option R) → A0 → Option R) : Nat → A0 → Option R
  | 0, _ => none
  | n + 1, a0 => F (qfix1 F n) a0
theorem qfix1_ind {A0 R : Type} {F : (A0 → Option R) → A0 → Option R} {u : R} {P : A0 → Prop} (hF : ∀ k : A0 → Option R, (∀ a0, k a0 = some u → P a0) → ∀ a0, F k a0 = some u → P a0) : ∀ n a0, qfix1 F n a0 = some u → P a0
  | 0, _, h => by cases h
  | n + 1, a0, h => hF (qfix1 F n) (qfix1_ind hF n) a0 h
theorem qfix1_s {A0 R : Type} {F : (A0 → Option R) → A0 → Option R} {n : Nat} {a0 : A0} : qfix1 F (n + 1) a0 = F (qfix1 F n) a0 := rfl
def qfix2 {A0 A1 R : Type} (F : (A0 → A1 → Option R) → A0 → A1 → Option R) : Nat → A0 → A1 → Option R
  | 0, _, _ => none
  | n + 1, a0, a1 => F (qfix2 F n) a0 a1
theorem qfix2_ind {A0 A1 R : Type} {F : (A0 → A1 → Option R) → A0 → A1 → Option R} {u : R} {P : A0 → A1 → Prop} (hF : ∀ k : A0 → A1 → Option R, (∀ a0 a1, k a0 a1 = some u → P a0 a1) → ∀ a0 a1, F k a0 a1 = some u → P a0 a1) : ∀ n a0 a1, qfix2 F n a0 a1 = some u → P a0 a1
  | 0, _, _, h => by cases h
  | n + 1, a0, a1, h => hF (qfix2 F n) (qfix2_ind hF n) a0 a1 h
theorem qfix2_s {A0 A1 R : Type} {F : (A0 → A1 → Option R) → A0 → A1 → Option R} {n : Nat} {a0 : A0} {a1 : A1} : qfix2 F (n + 1) a0 a1 = F (qfix2 F n) a0 a1 := rfl
def qfix3 {A0 A1 A2 R : Type} (F : (A0 → A1 → A2 → Option R) → A0 → A1 → A2 → Option R) : Nat → A0 → A1 → A2 → Option R
  | 0, _, _, _ => none
  | n + 1, a0, a1, a2 => F (qfix3 F n) a0 a1 a2
theorem qfix3_ind {A0 A1 A2 R : Type} {F : (A0 → A1 → A2 → Option R) → A0 → A1 → A2 → Option R} {u : R} {P : A0 → A1 → A2 → Prop} (hF : ∀ k : A0 → A1 → A2 → Option R, (∀ a0 a1 a2, k a0 a1 a2 = some u → P a0 a1 a2) → ∀ a0 a1 a2, F k a0 a1 a2 = some u → P a0 a1 a2) : ∀ n a0 a1 a2, qfix3 F n a0 a1 a2 = some u → P a0 a1 a2
  | 0, _, _, _, h => by cases h
  | n + 1, a0, a1, a2, h => hF (qfix3 F n) (qfix3_ind hF n) a0 a1 a2 h
theorem qfix3_s {A0 A1 A2 R : Type} {F : (A0 → A1 → A2 → Option R) → A0 → A1 → A2 → Option R} {n : Nat} {a0 : A0} {a1 : A1} {a2 : A2} : qfix3 F (n + 1) a0 a1 a2 = F (qfix3 F n) a0 a1 a2 := rfl
def qfix4 {A0 A1 A2 A3 R : Type} (F : (A0 → A1 → A2 → A3 → Option R) → A0 → A1 → A2 → A3 → Option R) : Nat → A0 → A1 → A2 → A3 → Option R
  | 0, _, _, _, _ => none
  | n + 1, a0, a1, a2, a3 => F (qfix4 F n) a0 a1 a2 a3
theorem qfix4_ind {A0 A1 A2 A3 R : Type} {F : (A0 → A1 → A2 → A3 → Option R) → A0 → A1 → A2 → A3 → Option R} {u : R} {P : A0 → A1 → A2 → A3 → Prop} (hF : ∀ k : A0 → A1 → A2 → A3 → Option R, (∀ a0 a1 a2 a3, k a0 a1 a2 a3 = some u → P a0 a1 a2 a3) → ∀ a0 a1 a2 a3, F k a0 a1 a2 a3 = some u → P a0 a1 a2 a3) : ∀ n a0 a1 a2 a3, qfix4 F n a0 a1 a2 a3 = some u → P a0 a1 a2 a3
  | 0, _, _, _, _, h => by cases h
  | n + 1, a0, a1, a2, a3, h => hF (qfix4 F n) (qfix4_ind hF n) a0 a1 a2 a3 h
theorem qfix4_s {A0 A1 A2 A3 R : Type} {F : (A0 → A1 → A2 → A3 → Option R) → A0 → A1 → A2 → A3 → Option R} {n : Nat} {a0 : A0} {a1 : A1} {a2 : A2} {a3 : A3} : qfix4 F (n + 1) a0 a1 a2 a3 = F (qfix4 F n) a0 a1 a2 a3 := rfl
def qfix5 {A0 A1 A2 A3 A4 R : Type} (F : (A0 → A1 → A2 → A3 → A4 → Option R) → A0 → A1 → A2 → A3 → A4 → Option R) : Nat → A0 → A1 → A2 → A3 → A4 → Option R
  | 0, _, _, _, _, _ => none
  | n + 1, a0, a1, a2, a3, a4 => F (qfix5 F n) a0 a1 a2 a3 a4
theorem qfix5_ind {A0 A1 A2 A3 A4 R : Type} {F : (A0 → A1 → A2 → A3 → A4 → Option R) → A0 → A1 → A2 → A3 → A4 → Option R} {u : R} {P : A0 → A1 → A2 → A3 → A4 → Prop} (hF : ∀ k : A0 → A1 → A2 → A3 → A4 → Option R, (∀ a0 a1 a2 a3 a4, k a0 a1 a2 a3 a4 = some u → P a0 a1 a2 a3 a4) → ∀ a0 a1 a2 a3 a4, F k a0 a1 a2 a3 a4 = some u → P a0 a1 a2 a3 a4) : ∀ n a0 a1 a2 a3 a4, qfix5 F n a0 a1 a2 a3 a4 = some u → P a0 a1 a2 a3 a4
  | 0, _, _, _, _, _, h => by cases h
  | n + 1, a0, a1, a2, a3, a4, h => hF (qfix5 F n) (qfix5_ind hF n) a0 a1 a2 a3 a4 h
theorem qfix5_s {A0 A1 A2 A3 A4 R : Type} {F : (A0 → A1 → A2 → A3 → A4 → Option R) → A0 → A1 → A2 → A3 → A4 → Option R} {n : Nat} {a0 : A0} {a1 : A1} {a2 : A2} {a3 : A3} {a4 : A4} : qfix5 F (n + 1) a0 a1 a2 a3 a4 = F (qfix5 F n) a0 a1 a2 a3 a4 := rfl
def qfix6 {A0 A1 A2 A3 A4 A5 R : Type} (F : (A0 → A1 → A2 → A3 → A4 → A5 → Option R) → A0 → A1 → A2 → A3 → A4 → A5 → Option R) : Nat → A0 → A1 → A2 → A3 → A4 → A5 → Option R
  | 0, _, _, _, _, _, _ => none
  | n + 1, a0, a1, a2, a3, a4, a5 => F (qfix6 F n) a0 a1 a2 a3 a4 a5
theorem qfix6_ind {A0 A1 A2 A3 A4 A5 R : Type} {F : (A0 → A1 → A2 → A3 → A4 → A5 → Option R) → A0 → A1 → A2 → A3 → A4 → A5 → Option R} {u : R} {P : A0 → A1 → A2 → A3 → A4 → A5 → Prop} (hF : ∀ k : A0 → A1 → A2 → A3 → A4 → A5 → Option R, (∀ a0 a1 a2 a3 a4 a5, k a0 a1 a2 a3 a4 a5 = some u → P a0 a1 a2 a3 a4 a5) → ∀ a0 a1 a2 a3 a4 a5, F k a0 a1 a2 a3 a4 a5 = some u → P a0 a1 a2 a3 a4 a5) : ∀ n a0 a1 a2 a3 a4 a5, qfix6 F n a0 a1 a2 a3 a4 a5 = some u → P a0 a1 a2 a3 a4 a5
  | 0, _, _, _, _, _, _, h => by cases h
  | n + 1, a0, a1, a2, a3, a4, a5, h => hF (qfix6 F n) (qfix6_ind hF n) a0 a1 a2 a3 a4 a5 h
theorem qfix6_s {A0 A1 A2 A3 A4 A5 R : Type} {F : (A0 → A1 → A2 → A3 → A4 → A5 → Option R) → A0 → A1 → A2 → A3 → A4 → A5 → Option R} {n : Nat} {a0 : A0} {a1 : A1} {a2 : A2} {a3 : A3} {a4 : A4} {a5 : A5} : qfix6 F (n + 1) a0 a1 a2 a3 a4 a5 = F (qfix6 F n) a0 a1 a2 a3 a4 a5 := rfl
def qfix7 {A0 A1 A2 A3 A4 A5 A6 R : Type} (F : (A0 → A1 → A2 → A3 → A4 → A5 → A6 → Option R) → A0 → A1 → A2 → A3 → A4 → A5 → A6 → Option R) : Nat → A0 → A1 → A2 → A3 → A4 → A5 → A6 → Option R
  | 0, _, _, _, _, _, _, _ => none
  | n + 1, a0, a1, a2, a3, a4, a5, a6 => F (qfix7 F n) a0 a1 a2 a3 a4 a5 a6
theorem qfix7_ind {A0 A1 A2 A3 A4 A5 A6 R : Type} {F : (A0 → A1 → A2 → A3 → A4 → A5 → A6 → Option R) → A0 → A1 → A2 → A3 → A4 → A5 → A6 → Option R} {u : R} {P : A0 → A1 → A2 → A3 → A4 → A5 → A6 → Prop} (hF : ∀ k : A0 → A1 → A2 → A3 → A4 → A5 → A6 → Option R, (∀ a0 a1 a2 a3 a4 a5 a6, k a0 a1 a2 a3 a4 a5 a6 = some u → P a0 a1 a2 a3 a4 a5 a6) → ∀ a0 a1 a2 a3 a4 a5 a6, F k a0 a1 a2 a3 a4 a5 a6 = some u → P a0 a1 a2 a3 a4 a5 a6) : ∀ n a0 a1 a2 a3 a4 a5 a6, qfix7 F n a0 a1 a2 a3 a4 a5 a6 = some u → P a0 a1 a2 a3 a4 a5 a6
  | 0, _, _, _, _, _, _, _, h => by cases h
  | n + 1, a0, a1, a2, a3, a4, a5, a6, h => hF (qfix7 F n) (qfix7_ind hF n) a0 a1 a2 a3 a4 a5 a6 h
theorem qfix7_s {A0 A1 A2 A3 A4 A5 A6 R : Type} {F : (A0 → A1 → A2 → A3 → A4 → A5 → A6 → Option R) → A0 → A1 → A2 → A3 → A4 → A5 → A6 → Option R} {n : Nat} {a0 : A0} {a1 : A1} {a2 : A2} {a3 : A3} {a4 : A4} {a5 : A5} {a6 : A6} : qfix7 F (n + 1) a0 a1 a2 a3 a4 a5 a6 = F (qfix7 F n) a0 a1 a2 a3 a4 a5 a6 := rfl
def qfix8 {A0 A1 A2 A3 A4 A5 A6 A7 R : Type} (F : (A0 → A1 → A2 → A3 → A4 → A5 → A6 → A7 → Option R) → A0 → A1 → A2 → A3 → A4 → A5 → A6 → A7 → Option R) : Nat → A0 → A1 → A2 → A3 → A4 → A5 → A6 → A7 → Option R
  | 0, _, _, _, _, _, _, _, _ => none
  | n + 1, a0, a1, a2, a3, a4, a5, a6, a7 => F (qfix8 F n) a0 a1 a2 a3 a4 a5 a6 a7
theorem qfix8_ind {A0 A1 A2 A3 A4 A5 A6 A7 R : Type} {F : (A0 → A1 → A2 → A3 → A4 → A5 → A6 → A7 → Option R) → A0 → A1 → A2 → A3 → A4 → A5 → A6 → A7 → Option R} {u : R} {P : A0 → A1 → A2 → A3 → A4 → A5 → A6 → A7 → Prop} (hF : ∀ k : A0 → A1 → A2 → A3 → A4 → A5 → A6 → A7 → Option R, (∀ a0 a1 a2 a3 a4 a5 a6 a7, k a0 a1 a2 a3 a4 a5 a6 a7 = some u → P a0 a1 a2 a3 a4 a5 a6 a7) → ∀ a0 a1 a2 a3 a4 a5 a6 a7, F k a0 a1 a2 a3 a4 a5 a6 a7 = some u → P a0 a1 a2 a3 a4 a5 a6 a7) : ∀ n a0 a1 a2 a3 a4 a5 a6 a7, qfix8 F n a0 a1 a2 a3 a4 a5 a6 a7 = some u → P a0 a1 a2 a3 a4 a5 a6 a7
  | 0, _, _, _, _, _, _, _, _, h => by cases h
  | n + 1, a0, a1, a2, a3, a4, a5, a6, a7, h => hF (qfix8 F n) (qfix8_ind hF n) a0 a1 a2 a3 a4 a5 a6 a7 h
theorem qfix8_s {A0 A1 A2 A3 A4 A5 A6 A7 R : Type} {F : (A0 → A1 → A2 → A3 → A4 → A5 → A6 → A7 → Option R) → A0 → A1 → A2 → A3 → A4 → A5 → A6 → A7 → Option R} {n : Nat} {a0 : A0} {a1 : A1} {a2 : A2} {a3 : A3} {a4 : A4} {a5 : A5} {a6 : A6} {a7 : A7} : qfix8 F (n + 1) a0 a1 a2 a3 a4 a5 a6 a7 = F (qfix8 F n) a0 a1 a2 a3 a4 a5 a6 a7 := rfl
def qfix9 {A0 A1 A2 A3 A4 A5 A6 A7 A8 R : Type} (F : (A0 → A1 → A2 → A3 → A4 → A5 → A6 → A7 → A8 → Option R) → A0 → A1 → A2 → A3 → A4 → A5 → A6 → A7 → A8 → Option R) : Nat → A0 → A1 → A2 → A3 → A4 → A5 → A6 → A7 → A8 → Option R
  | 0, _, _, _, _, _, _, _, _, _ => none
  | n + 1, a0, a1, a2, a3, a4, a5, a6, a7, a8 => F (qfix9 F n) a0 a1 a2 a3 a4 a5 a6 a7 a8
theorem qfix9_ind {A0 A1 A2 A3 A4 A5 A6 A7 A8 R : Type} {F : (A0 → A1 → A2 → A3 → A4 → A5 → A6 → A7 → A8 → Option R) → A0 → A1 → A2 → A3 → A4 → A5 → A6 → A7 → A8 → Option R} {u : R} {P : A0 → A1 → A2 → A3 → A4 → A5 → A6 → A7 → A8 → Prop} (hF : ∀ k : A0 → A1 → A2 → A3 → A4 → A5 → A6 → A7 → A8 → Option R, (∀ a0 a1 a2 a3 a4 a5 a6 a7 a8, k a0 a1 a2 a3 a4 a5 a6 a7 a8 = some u → P a0 a1 a2 a3 a4 a5 a6 a7 a8) → ∀ a0 a1 a2 a3 a4 a5 a6 a7 a8, F k a0 a1 a2 a3 a4 a5 a6 a7 a8 = some u → P a0 a1 a2 a3 a4 a5 a6 a7 a8) : ∀ n a0 a1 a2 a3 a4 a5 a6 a7 a8, qfix9 F n a0 a1 a2 a3 a4 a5 a6 a7 a8 = some u → P a0 a1 a2 a3 a4 a5 a6 a7 a8
  | 0, _, _, _, _, _, _, _, _, _, h => by cases h
  | n + 1, a0, a1, a2, a3, a4, a5, a6, a7, a8, h => hF (qfix9 F n) (qfix9_ind hF n) a0 a1 a2 a3 a4 a5 a6 a7 a8 h
theorem qfix9_s {A0 A1 A2 A3 A4 A5 A6 A7 A8 R : Type} {F : (A0 → A1 → A2 → A3 → A4 → A5 → A6 → A7 → A8 → Option R) → A0 → A1 → A2 → A3 → A4 → A5 → A6 → A7 → A8 → Option R} {n : Nat} {a0 : A0} {a1 : A1} {a2 : A2} {a3 : A3} {a4 : A4} {a5 : A5} {a6 : A6} {a7 : A7} {a8 : A8} : qfix9 F (n + 1) a0 a1 a2 a3 a4 a5 a6 a7 a8 = F (qfix9 F n) a0 a1 a2 a3 a4 a5 a6 a7 a8 := rfl
def qfix10 {A0 A1 A2 A3 A4 A5 A6 A7 A8 A9 R : Type} (F : (A0 → A1 → A2 → A3 → A4 → A5 → A6 → A7 → A8 → A9 → Option R) → A0 → A1 → A2 → A3 → A4 → A5 → A6 → A7 → A8 → A9 → Option R) : Nat → A0 → A1 → A2 → A3 → A4 → A5 → A6 → A7 → A8 → A9 → Option R
  | 0, _, _, _, _, _, _, _, _, _, _ => none
  | n + 1, a0, a1, a2, a3, a4, a5, a6, a7, a8, a9 => F (qfix10 F n) a0 a1 a2 a3 a4 a5 a6 a7 a8 a9
theorem qfix10_ind {A0 A1 A2 A3 A4 A5 A6 A7 A8 A9 R : Type} {F : (A0 → A1 → A2 → A3 → A4 → A5 → A6 → A7 → A8 → A9 → Option R) → A0 → A1 → A2 → A3 → A4 → A5 → A6 → A7 → A8 → A9 → Option R} {u : R} {P : A0 → A1 → A2 → A3 → A4 → A5 → A6 → A7 → A8 → A9 → Prop} (hF : ∀ k : A0 → A1 → A2 → A3 → A4 → A5 → A6 → A7 → A8 → A9 → Option R, (∀ a0 a1 a2 a3 a4 a5 a6 a7 a8 a9, k a0 a1 a2 a3 a4 a5 a6 a7 a8 a9 = some u → P a0 a1 a2 a3 a4 a5 a6 a7 a8 a9) → ∀ a0 a1 a2 a3 a4 a5 a6 a7 a8 a9, F k a0 a1 a2 a3 a4 a5 a6 a7 a8 a9 = some u → P a0 a1 a2 a3 a4 a5 a6 a7 a8 a9) : ∀ n a0 a1 a2 a3 a4 a5 a6 a7 a8 a9, qfix10 F n a0 a1 a2 a3 a4 a5 a6 a7 a8 a9 = some u → P a0 a1 a2 a3 a4 a5 a6 a7 a8 a9
  | 0, _, _, _, _, _, _, _, _, _, _, h => by cases h
  | n + 1, a0, a1, a2, a3, a4, a5, a6, a7, a8, a9, h => hF (qfix10 F n) (qfix10_ind hF n) a0 a1 a2 a3 a4 a5 a6 a7 a8 a9 h
theorem qfix10_s {A0 A1 A2 A3 A4 A5 A6 A7 A8 A9 R : Type} {F : (A0 → A1 → A2 → A3 → A4 → A5 → A6 → A7 → A8 → A9 → Option R) → A0 → A1 → A2 → A3 → A4 → A5 → A6 → A7 → A8 → A9 → Option R} {n : Nat} {a0 : A0} {a1 : A1} {a2 : A2} {a3 : A3} {a4 : A4} {a5 : A5} {a6 : A6} {a7 : A7} {a8 : A8} {a9 : A9} : qfix10 F (n + 1) a0 a1 a2 a3 a4 a5 a6 a7 a8 a9 = F (qfix10 F n) a0 a1 a2 a3 a4 a5 a6 a7 a8 a9 := rfl
def p_St_length (f : Nat) (σ : qMem) (w : Nat) : Option Int32 := if w < 12 then some (Int32.ofNat (qSl.getD w 0)) else none
def p_St_charAt (f : Nat) (σ : qMem) (w : Nat) (x1 : Int32) : Option Int32 := if w < 12 then (if qin x1 (qSl.getD w 0) = true then some ((qSb.getD w []).getD (qi x1) 0) else none) else none
def p_Ar_fill_l5 (f : Nat) (x0 : Nat) (nx0 : Nat) (x1 : Int32) (x3 : Int32) (k5 : qMem → Int32 → Option (qMem)) (σ : qMem) (x2 : Int32) : Option (qMem) :=
  if x3 ≤ x2 then
    some σ
  else
    if qin x2 nx0 = true then
    k5 (qmu σ x0 (qi x2) x1) (x2 + (1 : Int32))
    else none
def p_Ar_fill (f : Nat) (σ : qMem) (x0 : Nat) (nx0 : Nat) (x1 : Int32) : Option (qMem) :=
  qfix2 (p_Ar_fill_l5 f x0 nx0 x1 (Int32.ofNat nx0) ) f σ (0 : Int32)
def p_C_outside (f : Nat) (σ : qMem) (x0 : Int32) (x1 : Int32) (x2 : Int32) : Option (Int32) :=
  if x0 < x1 then
    some (1 : Int32)
  else
    if x0 ≤ x2 then
      some (0 : Int32)
    else
      some (1 : Int32)
def p_Sheets_noSuch (f : Nat) (σ : qMem) (x0 : Int32) : Option (Int32) :=
  (p_C_outside f σ x0 (0 : Int32) (7 : Int32)).bind fun u1 =>
  some (vp_nar .boolean u1)
def p_C_found (f : Nat) (σ : qMem) (x1 : Int32) : Option (Int32 × qMem) :=
  some (((-1000010 : Int32) - x1), (qmu σ 0 16 x1))
def p_Sheets_make (f : Nat) (σ : qMem) (x1 : Int32) (x2 : Int32) (x3 : Int32) : Option (qMem) :=
  if qin x1 8 = true then
  if qin x1 8 = true then
  if qin x1 8 = true then
  (p_Ar_fill f (qmu (qmu σ 2 (qi x1) x2) 3 (qi x1) x3) (5 + qi x1) 60 (0 : Int32)).bind fun u4 =>
  some u4
  else none
  else none
  else none
def p_C_foundNothing (f : Nat) (σ : qMem) (x1 : Int32) : Option (Int32 × qMem) :=
  some (x1, (qmu σ 0 16 (0 : Int32)))
def p_C_sheet (f : Nat) (σ : qMem) (x1 : Int32) (x2 : Int32) (x3 : Int32) : Option (Int32 × qMem) :=
  (p_Sheets_noSuch f σ x1).bind fun u1 =>
  if u1 = 0 then
    (p_C_outside f σ x2 (0 : Int32) (2 : Int32)).bind fun u3 =>
    if u3 = 0 then
      if x3 ≤ (60 : Int32) then
        if 0 ≤ x3 then
          (p_Sheets_make f σ x1 x2 x3).bind fun u5 =>
          (p_C_foundNothing f u5 x3).bind fun u7 =>
          some (u7.1, u7.2)
        else
          (p_C_found f σ (4 : Int32)).bind fun u9 =>
          some (u9.1, u9.2)
      else
        some ((-1000001 : Int32), σ)
    else
      some ((-1000001 : Int32), σ)
  else
    some ((-1000001 : Int32), σ)
def p_Sheets_missing (f : Nat) (σ : qMem) (x1 : Int32) : Option (Int32) :=
  if qin x1 8 = true then
  if (σ 2 (qi x1)) = (-1 : Int32) then
    some (1 : Int32)
  else
    some (0 : Int32)
  else none
def p_Sheets_holds (f : Nat) (σ : qMem) (x1 : Int32) (x2 : Int32) (x3 : Int32) : Option (Int32) :=
  if x2 < 0 then
    some (0 : Int32)
  else
    if x3 < 0 then
      some (0 : Int32)
    else
      if qin x1 8 = true then
      if (σ 3 (qi x1)) < x2 then
        some (0 : Int32)
      else
        if qin x1 8 = true then
        if ((σ 3 (qi x1)) - x2) < x3 then
          some (0 : Int32)
        else
          some (1 : Int32)
        else none
      else none
def p_Sheets_lowestBits (f : Nat) (σ : qMem) (x0 : Int32) (x1 : Int32) : Option (Int32) :=
  if x0 = 0 then
    some (x1).toInt8.toInt32
  else
    if x0 = (1 : Int32) then
      some (x1).toInt16.toInt32
    else
      some x1
def p_Sheets_put (f : Nat) (σ : qMem) (x1 : Int32) (x2 : Int32) (x3 : Int32) : Option (Int32 × qMem) :=
  if qin x1 8 = true then
  if qin x1 8 = true then
  (p_Sheets_lowestBits f σ (σ 2 (qi x1)) x3).bind fun u3 =>
  if qin x2 60 = true then
  if qin x1 8 = true then
  if qin x2 60 = true then
  some (((qmu σ (5 + qi x1) (qi x2) u3) (5 + qi x1) (qi x2)), (qmu σ (5 + qi x1) (qi x2) u3))
  else none
  else none
  else none
  else none
  else none
def p_C_set (f : Nat) (σ : qMem) (x1 : Int32) (x2 : Int32) (x3 : Int32) : Option (Int32 × qMem) :=
  (p_Sheets_noSuch f σ x1).bind fun u1 =>
  if u1 = 0 then
    (p_Sheets_missing f σ x1).bind fun u3 =>
    if u3 = 0 then
      (p_Sheets_holds f σ x1 x2 (1 : Int32)).bind fun u5 =>
      if u5 = 0 then
        (p_C_found f σ (2 : Int32)).bind fun u11 =>
        some (u11.1, u11.2)
      else
        (p_Sheets_put f σ x1 x2 x3).bind fun u7 =>
        (p_C_foundNothing f u7.2 u7.1).bind fun u9 =>
        some (u9.1, u9.2)
    else
      (p_C_found f σ (1 : Int32)).bind fun u13 =>
      some (u13.1, u13.2)
  else
    some ((-1000001 : Int32), σ)
def p_Sheets_alike (f : Nat) (σ : qMem) (x1 : Int32) (x2 : Int32) : Option (Int32) :=
  if qin x1 8 = true then
  if qin x2 8 = true then
  if (σ 2 (qi x1)) = (σ 2 (qi x2)) then
    some (1 : Int32)
  else
    some (0 : Int32)
  else none
  else none
def p_Sheets_move (f : Nat) (σ : qMem) (x1 : Int32) (x2 : Int32) (x3 : Int32) (x4 : Int32) (x5 : Int32) : Option (qMem) :=
  if qin x1 8 = true then
  if qin x3 8 = true then
  if qcg x2 x4 x5 60 60 = true then
  some (qcp σ (5 + qi x1) (qi x2) (5 + qi x3) (qi x4) (qi x5))
  else none
  else none
  else none
def p_C_copy_b39 (f : Nat) (σ : qMem) : Option (Int32 × qMem) :=
  (p_C_found f σ (1 : Int32)).bind fun u1 =>
  some (u1.1, u1.2)
def p_C_copy_b92 (f : Nat) (σ : qMem) : Option (Int32 × qMem) :=
  (p_C_found f σ (2 : Int32)).bind fun u3 =>
  some (u3.1, u3.2)
def p_C_copy (f : Nat) (σ : qMem) (x1 : Int32) (x2 : Int32) (x3 : Int32) (x4 : Int32) (x5 : Int32) : Option (Int32 × qMem) :=
  (p_Sheets_noSuch f σ x1).bind fun u5 =>
  if u5 = 0 then
    (p_Sheets_noSuch f σ x3).bind fun u7 =>
    if u7 = 0 then
      (p_Sheets_missing f σ x1).bind fun u9 =>
      if u9 = 0 then
        (p_Sheets_missing f σ x3).bind fun u11 =>
        if u11 = 0 then
          (p_Sheets_alike f σ x1 x3).bind fun u13 =>
          if u13 = 0 then
            (p_C_found f σ (5 : Int32)).bind fun u23 =>
            some (u23.1, u23.2)
          else
            (p_Sheets_holds f σ x1 x2 x5).bind fun u15 =>
            if u15 = 0 then
              p_C_copy_b92 f σ
            else
              (p_Sheets_holds f σ x3 x4 x5).bind fun u17 =>
              if u17 = 0 then
                p_C_copy_b92 f σ
              else
                (p_Sheets_move f σ x1 x2 x3 x4 x5).bind fun u19 =>
                (p_C_foundNothing f u19 x5).bind fun u21 =>
                some (u21.1, u21.2)
        else
          p_C_copy_b39 f σ
      else
        p_C_copy_b39 f σ
    else
      some ((-1000001 : Int32), σ)
  else
    some ((-1000001 : Int32), σ)
def p_Sheets_remove (f : Nat) (σ : qMem) (x1 : Int32) : Option (Int32 × qMem) :=
  if qin x1 8 = true then
  if qin x1 8 = true then
  some (((qmu σ 2 (qi x1) (-1 : Int32)) 3 (qi x1)), (qmu σ 2 (qi x1) (-1 : Int32)))
  else none
  else none
def p_C_drop (f : Nat) (σ : qMem) (x1 : Int32) : Option (Int32 × qMem) :=
  (p_Sheets_noSuch f σ x1).bind fun u1 =>
  if u1 = 0 then
    (p_Sheets_missing f σ x1).bind fun u3 =>
    if u3 = 0 then
      (p_Sheets_remove f σ x1).bind fun u5 =>
      (p_C_foundNothing f u5.2 u5.1).bind fun u7 =>
      some (u7.1, u7.2)
    else
      (p_C_found f σ (1 : Int32)).bind fun u9 =>
      some (u9.1, u9.2)
  else
    some ((-1000001 : Int32), σ)
def p_Deeds_take_l20 (f : Nat) (x1 : Int64) (k20 : qMem → Int32 → Option (Int32 × qMem)) (σ : qMem) (x4 : Int32) : Option (Int32 × qMem) :=
  if x4 < 0 then
    some ((σ 27 1), σ)
  else
    if qin (σ 27 1) 500 = true then
    k20 (qmu (qmu σ 28 (qi (σ 27 1)) (vp_nar .byte ((((x1 >>> ((((8 : Int32) * x4)).toInt64 &&& 63))).toInt32).toInt8.toInt32))) 27 1 (((qmu σ 28 (qi (σ 27 1)) (vp_nar .byte ((((x1 >>> ((((8 : Int32) * x4)).toInt64 &&& 63))).toInt32).toInt8.toInt32))) 27 1) + (1 : Int32))) (x4 + (-1 : Int32))
    else none
def p_Deeds_take (f : Nat) (σ : qMem) (x1 : Int64) (x3 : Int32) : Option (Int32 × qMem) :=
  if x3 ≤ ((500 : Int32) - (σ 27 1)) then
    qfix2 (p_Deeds_take_l20 f x1 ) f σ (x3 - (1 : Int32))
  else
    some ((-1000003 : Int32), σ)
def p_C_feed (f : Nat) (σ : qMem) (x1 : Int64) (x3 : Int32) : Option (Int32 × qMem) :=
  (p_C_outside f σ x3 (1 : Int32) (8 : Int32)).bind fun u1 =>
  if u1 = 0 then
    (p_Deeds_take f σ x1 x3).bind fun u3 =>
    some (u3.1, u3.2)
  else
    some ((-1000001 : Int32), σ)
def p_Promises_size (f : Nat) (σ : qMem) : Option (Int32) :=
  some (σ 13 1)
def p_Deeds_letter (f : Nat) (σ : qMem) (x1 : Int32) : Option (Int32) :=
  if qin x1 500 = true then
  if (σ 28 (qi x1)) < (97 : Int32) then
    some (0 : Int32)
  else
    if qin x1 500 = true then
    if (122 : Int32) < (σ 28 (qi x1)) then
      some (0 : Int32)
    else
      some (1 : Int32)
    else none
  else none
def p_Deeds_figure (f : Nat) (σ : qMem) (x1 : Int32) : Option (Int32) :=
  if qin x1 500 = true then
  if (σ 28 (qi x1)) < (48 : Int32) then
    some (0 : Int32)
  else
    if qin x1 500 = true then
    if (57 : Int32) < (σ 28 (qi x1)) then
      some (0 : Int32)
    else
      some (1 : Int32)
    else none
  else none
def p_Deeds_nextToken_l75 (f : Nat) (σ : qMem) (k75 : Int32 → Option (qMem)) (x1 : Int32) : Option (qMem) :=
  if (σ 27 1) ≤ x1 then
    some (qmu σ 27 5 x1)
  else
    (p_Deeds_letter f σ x1).bind fun u1 =>
    if u1 = 0 then
      some (qmu σ 27 5 x1)
    else
      k75 (x1 + (1 : Int32))
def p_Deeds_nextToken_b127 (f : Nat) (σ : qMem) (x1 : Int32) : Option (qMem) :=
  if (5 : Int32) < (x1 - (σ 27 4)) then
    some (qmu (qmu σ 27 3 (4 : Int32)) 27 5 x1)
  else
    some (qmu (qmu σ 27 3 (2 : Int32)) 27 5 x1)
def p_Deeds_nextToken_l105 (f : Nat) (σ : qMem) (k105 : Int32 → Option (qMem)) (x1 : Int32) : Option (qMem) :=
  if (σ 27 1) ≤ x1 then
    p_Deeds_nextToken_b127 f σ x1
  else
    (p_Deeds_figure f σ x1).bind fun u3 =>
    if u3 = 0 then
      p_Deeds_nextToken_b127 f σ x1
    else
      k105 (x1 + (1 : Int32))
def p_Deeds_nextToken_b41 (f : Nat) (σ : qMem) (x1 : Int32) : Option (qMem) :=
  if x1 < ((qmu σ 27 4 x1) 27 1) then
    (p_Deeds_letter f (qmu σ 27 4 x1) x1).bind fun u5 =>
    if u5 = 0 then
      (p_Deeds_figure f (qmu σ 27 4 x1) x1).bind fun u7 =>
      if u7 = 0 then
        if qin x1 500 = true then
        if ((qmu σ 27 4 x1) 28 (qi x1)) = (59 : Int32) then
          some (qmu (qmu (qmu σ 27 4 x1) 27 3 (3 : Int32)) 27 5 (x1 + (1 : Int32)))
        else
          some (qmu (qmu (qmu σ 27 4 x1) 27 3 (4 : Int32)) 27 5 (x1 + (1 : Int32)))
        else none
      else
        qfix1 (p_Deeds_nextToken_l105 f (qmu σ 27 4 x1) ) f x1
    else
      qfix1 (p_Deeds_nextToken_l75 f (qmu (qmu σ 27 4 x1) 27 3 (1 : Int32)) ) f x1
  else
    some (qmu (qmu (qmu σ 27 4 x1) 27 3 (0 : Int32)) 27 5 x1)
def p_Deeds_nextToken_l5 (f : Nat) (σ : qMem) (k5 : Int32 → Option (qMem)) (x1 : Int32) : Option (qMem) :=
  if (σ 27 1) ≤ x1 then
    p_Deeds_nextToken_b41 f σ x1
  else
    if qin x1 500 = true then
    if (σ 28 (qi x1)) = (32 : Int32) then
      k5 (x1 + (1 : Int32))
    else
      if qin x1 500 = true then
      if (σ 28 (qi x1)) = (10 : Int32) then
        k5 (x1 + (1 : Int32))
      else
        p_Deeds_nextToken_b41 f σ x1
      else none
    else none
def p_Deeds_nextToken (f : Nat) (σ : qMem) : Option (qMem) :=
  qfix1 (p_Deeds_nextToken_l5 f σ ) f (σ 27 5)
def p_Deeds_spells_l28 (f : Nat) (σ : qMem) (x1 : Nat) (k28 : Int32 → Option (Int32)) (x2 : Int32) : Option (Int32) :=
  (p_St_length f σ x1).bind fun u1 =>
  if u1 ≤ x2 then
    some (1 : Int32)
  else
    if qin ((σ 27 4) + x2) 500 = true then
    (p_St_charAt f σ x1 x2).bind fun u4 =>
    if (σ 28 (qi ((σ 27 4) + x2))) = u4 then
      k28 (x2 + (1 : Int32))
    else
      some (0 : Int32)
    else none
def p_Deeds_spells (f : Nat) (σ : qMem) (x1 : Nat) : Option (Int32) :=
  if (σ 27 3) = (1 : Int32) then
    (p_St_length f σ x1).bind fun u6 =>
    if ((σ 27 5) - (σ 27 4)) = u6 then
      qfix1 (p_Deeds_spells_l28 f σ x1 ) f (0 : Int32)
    else
      some (0 : Int32)
  else
    some (0 : Int32)
def p_Promises_begin (f : Nat) (σ : qMem) (x1 : Int32) (x2 : Int32) : Option (qMem) :=
  if qin x1 12 = true then
  (p_Ar_fill f σ (15 + qi x1) 11 (0 : Int32)).bind fun u2 =>
  if qin x1 12 = true then
  if x2 = 0 then
    if qin (0 : Int32) 11 = true then
    if qin x1 12 = true then
    if x2 = 0 then
      if qin (4 : Int32) 11 = true then
      if qin x1 12 = true then
      if qin (6 : Int32) 11 = true then
      some (qmu (qmu (qmu u2 (15 + qi x1) (qi (0 : Int32)) (0 : Int32)) (15 + qi x1) (qi (4 : Int32)) (1 : Int32)) (15 + qi x1) (qi (6 : Int32)) (9999 : Int32))
      else none
      else none
      else none
    else
      if qin (4 : Int32) 11 = true then
      if qin x1 12 = true then
      if qin (6 : Int32) 11 = true then
      some (qmu (qmu (qmu u2 (15 + qi x1) (qi (0 : Int32)) (0 : Int32)) (15 + qi x1) (qi (4 : Int32)) (360 : Int32)) (15 + qi x1) (qi (6 : Int32)) (9999 : Int32))
      else none
      else none
      else none
    else none
    else none
  else
    if qin (0 : Int32) 11 = true then
    if qin x1 12 = true then
    if x2 = 0 then
      if qin (4 : Int32) 11 = true then
      if qin x1 12 = true then
      if qin (6 : Int32) 11 = true then
      some (qmu (qmu (qmu u2 (15 + qi x1) (qi (0 : Int32)) (1 : Int32)) (15 + qi x1) (qi (4 : Int32)) (1 : Int32)) (15 + qi x1) (qi (6 : Int32)) (9999 : Int32))
      else none
      else none
      else none
    else
      if qin (4 : Int32) 11 = true then
      if qin x1 12 = true then
      if qin (6 : Int32) 11 = true then
      some (qmu (qmu (qmu u2 (15 + qi x1) (qi (0 : Int32)) (1 : Int32)) (15 + qi x1) (qi (4 : Int32)) (360 : Int32)) (15 + qi x1) (qi (6 : Int32)) (9999 : Int32))
      else none
      else none
      else none
    else none
    else none
  else none
  else none
def p_Deeds_wordFor (f : Nat) (σ : qMem) (x0 : Int32) : Option (Nat) :=
  if x0 = (1 : Int32) then
    some 2
  else if x0 = (2 : Int32) then
    some 3
  else if x0 = (3 : Int32) then
    some 4
  else if x0 = (4 : Int32) then
    some 5
  else if x0 = (5 : Int32) then
    some 6
  else if x0 = (6 : Int32) then
    some 7
  else if x0 = (7 : Int32) then
    some 8
  else if x0 = (8 : Int32) then
    some 9
  else if x0 = (9 : Int32) then
    some 10
  else
    some 11
def p_Deeds_termSpelt_l2 (f : Nat) (σ : qMem) (k2 : Int32 → Option (Int32)) (x1 : Int32) : Option (Int32) :=
  if (11 : Int32) ≤ x1 then
    some (-1000000 : Int32)
  else
    (p_Deeds_wordFor f σ x1).bind fun u1 =>
    (p_Deeds_spells f σ u1).bind fun u3 =>
    if u3 = 0 then
      k2 (x1 + (1 : Int32))
    else
      some x1
def p_Deeds_termSpelt (f : Nat) (σ : qMem) : Option (Int32) :=
  qfix1 (p_Deeds_termSpelt_l2 f σ ) f (1 : Int32)
def p_Deeds_numberRead_l7 (f : Nat) (σ : qMem) (k7 : Int32 → Int32 → Option (Int32)) (x1 : Int32) (x2 : Int32) : Option (Int32) :=
  if (σ 27 5) ≤ x2 then
    some x1
  else
    if qin x2 500 = true then
    k7 ((((10 : Int32) * x1) + (σ 28 (qi x2))) - (48 : Int32)) (x2 + (1 : Int32))
    else none
def p_Deeds_numberRead (f : Nat) (σ : qMem) : Option (Int32) :=
  qfix2 (p_Deeds_numberRead_l7 f σ ) f (0 : Int32) (σ 27 4)
def p_Promises_tell (f : Nat) (σ : qMem) (x1 : Int32) (x2 : Int32) (x3 : Int32) : Option (qMem) :=
  if qin x1 12 = true then
  if qin x2 11 = true then
  some (qmu σ (15 + qi x1) (qi x2) x3)
  else none
  else none
def p_Deeds_readTerm (f : Nat) (σ : qMem) (x2 : Int32) : Option (Int32 × qMem) :=
  (p_Deeds_termSpelt f σ).bind fun u1 =>
  if u1 = (-1000000 : Int32) then
    some ((1 : Int32), σ)
  else
    (p_Deeds_nextToken f σ).bind fun u3 =>
    if (u3 27 3) = (2 : Int32) then
      (p_Deeds_numberRead f u3).bind fun u5 =>
      if qin u1 11 = true then
      if qin u1 11 = true then
      (p_C_outside f u3 u5 (qLeast.getD (qi u1) 0) (qMost.getD (qi u1) 0)).bind fun u9 =>
      if u9 = 0 then
        (p_Promises_tell f u3 x2 u1 u5).bind fun u11 =>
        (p_Deeds_nextToken f u11).bind fun u13 =>
        some ((0 : Int32), u13)
      else
        some ((2 : Int32), u3)
      else none
      else none
    else
      some ((1 : Int32), u3)
def p_Deeds_readDeed_b86 (f : Nat) (σ : qMem) (x4 : Int32) : Option (Int32 × qMem) :=
  if x4 = 0 then
    (p_Deeds_nextToken f σ).bind fun u1 =>
    some (x4, u1)
  else
    some (x4, σ)
def p_Deeds_readDeed_l51 (f : Nat) (x2 : Int32) (k51 : qMem → Int32 → Int32 → Option (Int32 × qMem)) (σ : qMem) (x4 : Int32) (x5 : Int32) : Option (Int32 × qMem) :=
  if (500 : Int32) < x5 then
    p_Deeds_readDeed_b86 f σ x4
  else
    if x4 = 0 then
      if (σ 27 3) = (3 : Int32) then
        p_Deeds_readDeed_b86 f σ x4
      else
        (p_Deeds_readTerm f σ x2).bind fun u3 =>
        k51 u3.2 u3.1 (x5 + (1 : Int32))
    else
      p_Deeds_readDeed_b86 f σ x4
def p_Deeds_readDeed_b22 (f : Nat) (σ : qMem) (x2 : Int32) (x3 : Int32) : Option (Int32 × qMem) :=
  if x2 < (12 : Int32) then
    (p_Promises_begin f σ x2 x3).bind fun u5 =>
    (p_Deeds_nextToken f u5).bind fun u7 =>
    (p_Deeds_readTerm f u7 x2).bind fun u9 =>
    qfix3 (p_Deeds_readDeed_l51 f x2 ) f u9.2 u9.1 (1 : Int32)
  else
    some ((3 : Int32), σ)
def p_Deeds_readDeed (f : Nat) (σ : qMem) (x2 : Int32) : Option (Int32 × qMem) :=
  (p_Deeds_spells f σ 0).bind fun u11 =>
  if u11 = 0 then
    (p_Deeds_spells f σ 1).bind fun u13 =>
    if u13 = 0 then
      some ((1 : Int32), σ)
    else
      p_Deeds_readDeed_b22 f σ x2 u11
  else
    p_Deeds_readDeed_b22 f σ x2 u11
def p_Ma_min (f : Nat) (σ : qMem) (x0 : Int32) (x1 : Int32) : Option (Int32) :=
  if x1 < x0 then
    some x1
  else
    some x0
def p_Promises_keep (f : Nat) (σ : qMem) (x1 : Int32) : Option (qMem) :=
  (p_Ma_min f σ x1 (12 : Int32)).bind fun u1 =>
  some (qmu σ 13 1 u1)
def p_Deeds_read_b54 (f : Nat) (σ : qMem) (x2 : Int32) (x3 : Int32) : Option (Int32 × qMem) :=
  if x3 = 0 then
    (p_Promises_keep f (qmu σ 27 1 (0 : Int32)) x2).bind fun u1 =>
    some (x2, u1)
  else
    some (((-1000100 : Int32) - ((qmu (qmu σ 27 1 (0 : Int32)) 27 2 x3) 27 4)), (qmu (qmu σ 27 1 (0 : Int32)) 27 2 x3))
def p_Deeds_read_l19 (f : Nat) (k19 : qMem → Int32 → Int32 → Int32 → Option (Int32 × qMem)) (σ : qMem) (x2 : Int32) (x3 : Int32) (x4 : Int32) : Option (Int32 × qMem) :=
  if (500 : Int32) < x4 then
    p_Deeds_read_b54 f σ x2 x3
  else
    if x3 = 0 then
      if (σ 27 3) = 0 then
        p_Deeds_read_b54 f σ x2 x3
      else
        (p_Deeds_readDeed f σ x2).bind fun u3 =>
        k19 u3.2 (x2 + (1 : Int32)) u3.1 (x4 + (1 : Int32))
    else
      p_Deeds_read_b54 f σ x2 x3
def p_Deeds_read (f : Nat) (σ : qMem) : Option (Int32 × qMem) :=
  (p_Promises_size f σ).bind fun u5 =>
  (p_Deeds_nextToken f (qmu σ 27 5 (0 : Int32))).bind fun u7 =>
  qfix4 (p_Deeds_read_l19 f ) f u7 u5 (0 : Int32) (0 : Int32)
def p_C_deeds (f : Nat) (σ : qMem) : Option (Int32 × qMem) :=
  (p_Deeds_read f σ).bind fun u1 =>
  some (u1.1, u1.2)
def p_Deeds_latestFault (f : Nat) (σ : qMem) : Option (Int32) :=
  some (σ 27 2)
def p_C_fault (f : Nat) (σ : qMem) : Option (Int32) :=
  (p_Deeds_latestFault f σ).bind fun u1 =>
  some u1
def p_Promises_has (f : Nat) (σ : qMem) (x1 : Int32) : Option (Int32) :=
  if x1 < 0 then
    some (0 : Int32)
  else
    if (σ 13 1) ≤ x1 then
      some (0 : Int32)
    else
      some (1 : Int32)
def p_Promises_of (f : Nat) (σ : qMem) (x1 : Int32) (x2 : Int32) : Option (Int32) :=
  if qin x1 12 = true then
  if qin x2 11 = true then
  some (σ (15 + qi x1) (qi x2))
  else none
  else none
def p_C_told (f : Nat) (σ : qMem) (x1 : Int32) (x2 : Int32) : Option (Int32) :=
  (p_Promises_has f σ x1).bind fun u1 =>
  if u1 = 0 then
    some (-1000001 : Int32)
  else
    (p_C_outside f σ x2 (0 : Int32) (10 : Int32)).bind fun u3 =>
    if u3 = 0 then
      (p_Promises_of f σ x1 x2).bind fun u5 =>
      some u5
    else
      some (-1000001 : Int32)
def p_C_noDay (f : Nat) (σ : qMem) (x0 : Int32) : Option (Int32) :=
  (p_C_outside f σ x0 (0 : Int32) (9999 : Int32)).bind fun u1 =>
  some (vp_nar .boolean u1)
def p_Feasts_full (f : Nat) (σ : qMem) : Option (Int32) :=
  if (σ 29 3) < (30 : Int32) then
    some (0 : Int32)
  else
    some (1 : Int32)
def p_Ma_max (f : Nat) (σ : qMem) (x0 : Int32) (x1 : Int32) : Option (Int32) :=
  if x0 < x1 then
    some x1
  else
    some x0
def p_Feasts_insert_l6 (f : Nat) (x1 : Int32) (x2 : Int32) (x3 : Int32) (k6 : qMem → Int32 → Option (qMem)) (σ : qMem) (x4 : Int32) : Option (qMem) :=
  if x4 ≤ x1 then
    if qin x1 30 = true then
    if qin x1 30 = true then
    some (qmu (qmu (qmu σ 30 (qi x1) x2) 31 (qi x1) x3) 29 2 (((qmu (qmu σ 30 (qi x1) x2) 31 (qi x1) x3) 29 2) + (1 : Int32)))
    else none
    else none
  else
    if qin (x4 - (1 : Int32)) 30 = true then
    if qin x4 30 = true then
    if qin (x4 - (1 : Int32)) 30 = true then
    if qin x4 30 = true then
    k6 (qmu (qmu σ 30 (qi x4) (σ 30 (qi (x4 - (1 : Int32))))) 31 (qi x4) ((qmu σ 30 (qi x4) (σ 30 (qi (x4 - (1 : Int32))))) 31 (qi (x4 - (1 : Int32))))) (x4 + (-1 : Int32))
    else none
    else none
    else none
    else none
def p_Feasts_insert (f : Nat) (σ : qMem) (x1 : Int32) (x2 : Int32) (x3 : Int32) : Option (qMem) :=
  qfix2 (p_Feasts_insert_l6 f x1 x2 x3 ) f σ (σ 29 2)
def p_Feasts_add_b73 (f : Nat) (σ : qMem) (x1 : Int32) (x2 : Int32) (x3 : Int32) : Option (Int32 × qMem) :=
  (p_Feasts_insert f σ x3 x1 x2).bind fun u1 =>
  some ((u1 29 3), u1)
def p_Feasts_add_b36 (f : Nat) (σ : qMem) (x1 : Int32) (x2 : Int32) (x3 : Int32) : Option (Int32 × qMem) :=
  if (σ 29 2) ≤ x3 then
    p_Feasts_add_b73 f σ x1 x2 x3
  else
    if qin x3 30 = true then
    if (σ 30 (qi x3)) = x1 then
      if qin x3 30 = true then
      (p_Ma_max f σ (σ 31 (qi x3)) x2).bind fun u5 =>
      if qin x3 30 = true then
      some (((qmu σ 31 (qi x3) u5) 29 3), (qmu σ 31 (qi x3) u5))
      else none
      else none
    else
      p_Feasts_add_b73 f σ x1 x2 x3
    else none
def p_Feasts_add_l12 (f : Nat) (σ : qMem) (x1 : Int32) (x2 : Int32) (k12 : Int32 → Option (Int32 × qMem)) (x3 : Int32) : Option (Int32 × qMem) :=
  if (σ 29 2) ≤ x3 then
    p_Feasts_add_b36 f σ x1 x2 x3
  else
    if qin x3 30 = true then
    if x1 ≤ (σ 30 (qi x3)) then
      p_Feasts_add_b36 f σ x1 x2 x3
    else
      k12 (x3 + (1 : Int32))
    else none
def p_Feasts_add (f : Nat) (σ : qMem) (x1 : Int32) (x2 : Int32) : Option (Int32 × qMem) :=
  qfix1 (p_Feasts_add_l12 f (qmu σ 29 3 ((σ 29 3) + (1 : Int32))) x1 x2 ) f (0 : Int32)
def p_C_feast (f : Nat) (σ : qMem) (x1 : Int32) (x2 : Int32) : Option (Int32 × qMem) :=
  (p_C_noDay f σ x1).bind fun u1 =>
  if u1 = 0 then
    (p_C_outside f σ x2 (1 : Int32) (2 : Int32)).bind fun u3 =>
    if u3 = 0 then
      (p_Feasts_full f σ).bind fun u5 =>
      if u5 = 0 then
        (p_Feasts_add f σ x1 x2).bind fun u7 =>
        some (u7.1, u7.2)
      else
        some ((-1000003 : Int32), σ)
    else
      some ((-1000001 : Int32), σ)
  else
    some ((-1000001 : Int32), σ)
def p_Feasts_dayBehind_l13 (f : Nat) (σ : qMem) (k13 : Int32 → Int32 → Option (Int32)) (x2 : Int32) (x3 : Int32) : Option (Int32) :=
  if (σ 29 2) ≤ x3 then
    some x2
  else
    if qin x3 30 = true then
    if (σ 30 (qi x3)) = x2 then
      k13 (x2 + (1 : Int32)) (x3 + (1 : Int32))
    else
      some x2
    else none
def p_Feasts_dayBehind (f : Nat) (σ : qMem) (x1 : Int32) : Option (Int32) :=
  if qin x1 30 = true then
  qfix2 (p_Feasts_dayBehind_l13 f σ ) f ((σ 30 (qi x1)) + (1 : Int32)) (x1 + (1 : Int32))
  else none
def p_Feasts_wantedTill_b114 (f : Nat) (k34 : Int32 → Int32 → Option (Int32)) (σ : qMem) (x1 : Int32) (x3 : Int32) (x4 : Int32) (x5 : Int32) (x6 : Int32) (x7 : Int32) (x8 : Int32) (s0 : Int32) : Option (Int32) :=
  if x8 = 0 then
    k34 x6 (x7 + (1 : Int32))
  else
    if s0 = 0 then
      k34 (x6 + (-1 : Int32)) (x7 + (1 : Int32))
    else
      k34 x6 (x7 + (1 : Int32))
def p_Feasts_wantedTill_b113 (f : Nat) (k34 : Int32 → Int32 → Option (Int32)) (σ : qMem) (x1 : Int32) (x3 : Int32) (x4 : Int32) (x5 : Int32) (x6 : Int32) (x7 : Int32) (x8 : Int32) : Option (Int32) :=
  p_Feasts_wantedTill_b114 f k34 σ x1 x3 x4 x5 x6 x7 x8 (0 : Int32)
def p_Feasts_wantedTill_b85 (f : Nat) (k34 : Int32 → Int32 → Option (Int32)) (σ : qMem) (x1 : Int32) (x3 : Int32) (x4 : Int32) (x5 : Int32) (x6 : Int32) (x7 : Int32) (s0 : Int32) : Option (Int32) :=
  if qin x7 30 = true then
  if (σ 31 (qi x7)) = (1 : Int32) then
    (p_Feasts_dayBehind f σ x7).bind fun u2 =>
    if x4 < u2 then
      p_Feasts_wantedTill_b113 f k34 σ x1 x3 x4 x5 x6 x7 s0
    else
      p_Feasts_wantedTill_b114 f k34 σ x1 x3 x4 x5 x6 x7 s0 (1 : Int32)
  else
    p_Feasts_wantedTill_b113 f k34 σ x1 x3 x4 x5 x6 x7 s0
  else none
def p_Feasts_wantedTill_b84 (f : Nat) (k34 : Int32 → Int32 → Option (Int32)) (σ : qMem) (x1 : Int32) (x3 : Int32) (x4 : Int32) (x5 : Int32) (x6 : Int32) (x7 : Int32) : Option (Int32) :=
  p_Feasts_wantedTill_b85 f k34 σ x1 x3 x4 x5 x6 x7 (0 : Int32)
def p_Feasts_wantedTill_l34 (f : Nat) (σ : qMem) (x1 : Int32) (x3 : Int32) (x4 : Int32) (x5 : Int32) (k34 : Int32 → Int32 → Option (Int32)) (x6 : Int32) (x7 : Int32) : Option (Int32) :=
  if (σ 29 2) ≤ x7 then
    some x6
  else
    if qin x7 30 = true then
    if x5 < (σ 30 (qi x7)) then
      some x6
    else
      if qin x7 30 = true then
      if (σ 30 (qi x7)) < x1 then
        p_Feasts_wantedTill_b84 f k34 σ x1 x3 x4 x5 x6 x7
      else
        if qin x7 30 = true then
        if x3 = 0 then none else
        if (((σ 30 (qi x7)) - x1) - ((σ 30 (qi x7)) - x1) / x3 * x3) = 0 then
          p_Feasts_wantedTill_b85 f k34 σ x1 x3 x4 x5 x6 x7 (1 : Int32)
        else
          p_Feasts_wantedTill_b84 f k34 σ x1 x3 x4 x5 x6 x7
        else none
      else none
    else none
def p_Feasts_wantedTill (f : Nat) (σ : qMem) (x1 : Int32) (x2 : Int32) (x3 : Int32) (x4 : Int32) : Option (Int32) :=
  (p_Ma_min f σ x2 x4).bind fun u7 =>
  if x3 < (1 : Int32) then
    some (0 : Int32)
  else
    if x1 ≤ u7 then
      if x3 = 0 then none else
      qfix2 (p_Feasts_wantedTill_l34 f σ x1 x3 x4 u7 ) f (((u7 - x1) / x3) + (1 : Int32)) (0 : Int32)
    else
      some (0 : Int32)
def p_C_wantedTill (f : Nat) (σ : qMem) (x1 : Int32) (x2 : Int32) : Option (Int32) :=
  (p_Promises_of f σ x1 (5 : Int32)).bind fun u1 =>
  (p_Promises_of f σ x1 (6 : Int32)).bind fun u3 =>
  (p_Promises_of f σ x1 (4 : Int32)).bind fun u5 =>
  (p_Feasts_wantedTill f σ u1 u3 u5 x2).bind fun u7 =>
  some u7
def p_Joins_has (f : Nat) (σ : qMem) (x1 : Int32) (x2 : Int32) : Option (Int32) :=
  if qin x1 10 = true then
  if (σ 49 (qi x1)) = x2 then
    some (1 : Int32)
  else
    if qin x1 10 = true then
    if (σ 50 (qi x1)) = x2 then
      some (1 : Int32)
    else
      some (0 : Int32)
    else none
  else none
def p_Joins_otherOf_l2 (f : Nat) (σ : qMem) (x1 : Int32) (x2 : Int32) (k2 : Int32 → Option (Int32)) (x3 : Int32) : Option (Int32) :=
  if (σ 48 4) ≤ x3 then
    some (-1000000 : Int32)
  else
    (p_Joins_has f σ x3 x1).bind fun u1 =>
    if u1 = 0 then
      k2 (x3 + (1 : Int32))
    else
      if qin x3 10 = true then
      if x2 < (σ 51 (qi x3)) then
        k2 (x3 + (1 : Int32))
      else
        if qin x3 10 = true then
        if (σ 52 (qi x3)) ≤ x2 then
          k2 (x3 + (1 : Int32))
        else
          if qin x3 10 = true then
          if (σ 49 (qi x3)) = x1 then
            if qin x3 10 = true then
            some (σ 50 (qi x3))
            else none
          else
            if qin x3 10 = true then
            some (σ 49 (qi x3))
            else none
          else none
        else none
      else none
def p_Joins_otherOf (f : Nat) (σ : qMem) (x1 : Int32) (x2 : Int32) : Option (Int32) :=
  qfix1 (p_Joins_otherOf_l2 f σ x1 x2 ) f (0 : Int32)
def p_Lines_countTill_l6 (f : Nat) (σ : qMem) (x1 : Int32) (x2 : Int32) (k6 : Int32 → Int32 → Option (Int32)) (x4 : Int32) (x5 : Int32) : Option (Int32) :=
  if (σ 42 9) ≤ x5 then
    some x4
  else
    if qin x5 60 = true then
    if (σ 46 (qi x5)) = 0 then
      k6 x4 (x5 + (1 : Int32))
    else
      if qin x5 60 = true then
      if x2 < (σ 44 (qi x5)) then
        k6 x4 (x5 + (1 : Int32))
      else
        if qin x5 60 = true then
        if (σ 43 (qi x5)) = x1 then
          k6 (x4 + (1 : Int32)) (x5 + (1 : Int32))
        else
          if qin x5 60 = true then
          (p_Joins_otherOf f σ x1 (σ 44 (qi x5))).bind fun u5 =>
          if qin x5 60 = true then
          if u5 = (σ 43 (qi x5)) then
            k6 (x4 + (1 : Int32)) (x5 + (1 : Int32))
          else
            k6 x4 (x5 + (1 : Int32))
          else none
          else none
        else none
      else none
    else none
def p_Lines_countTill (f : Nat) (σ : qMem) (x1 : Int32) (x2 : Int32) : Option (Int32) :=
  qfix2 (p_Lines_countTill_l6 f σ x1 x2 ) f (0 : Int32) (0 : Int32)
def p_C_owedTill (f : Nat) (σ : qMem) (x1 : Int32) (x2 : Int32) : Option (Int32) :=
  (p_C_wantedTill f σ x1 x2).bind fun u1 =>
  (p_Lines_countTill f σ x1 x2).bind fun u3 =>
  (p_Ma_max f σ (0 : Int32) (u1 - u3)).bind fun u5 =>
  some u5
def p_C_count (f : Nat) (σ : qMem) (x1 : Int32) (x2 : Int32) (x3 : Int32) : Option (Int32) :=
  (p_Promises_has f σ x1).bind fun u1 =>
  if u1 = 0 then
    some (-1000001 : Int32)
  else
    (p_C_noDay f σ x2).bind fun u3 =>
    if u3 = 0 then
      (p_C_outside f σ x3 (0 : Int32) (2 : Int32)).bind fun u5 =>
      if u5 = 0 then
        if x3 = (0 : Int32) then
          (p_C_wantedTill f σ x1 x2).bind fun u7 =>
          some u7
        else if x3 = (1 : Int32) then
          (p_Lines_countTill f σ x1 x2).bind fun u9 =>
          some u9
        else
          (p_C_owedTill f σ x1 x2).bind fun u11 =>
          some u11
      else
        some (-1000001 : Int32)
    else
      some (-1000001 : Int32)
def p_Promises_isObit (f : Nat) (σ : qMem) (x1 : Int32) : Option (Int32) :=
  if qin x1 12 = true then
  if qin (0 : Int32) 11 = true then
  if (σ (15 + qi x1) (qi (0 : Int32))) = (1 : Int32) then
    some (1 : Int32)
  else
    some (0 : Int32)
  else none
  else none
def p_Acts_takes_b20 (f : Nat) (σ : qMem) (x1 : Int32) (x2 : Int32) (x3 : Int32) (s0 : Int32) : Option (Int32) :=
  if qin x1 10 = true then
  if (σ 38 (qi x1)) < x2 then
    some (0 : Int32)
  else
    if qin x1 10 = true then
    if x3 < (σ 39 (qi x1)) then
      some (0 : Int32)
    else
      if qin x1 10 = true then
      if (σ 40 (qi x1)) < x3 then
        some (0 : Int32)
      else
        if s0 = 0 then
          some (1 : Int32)
        else
          some (0 : Int32)
      else none
    else none
  else none
def p_Acts_takes_b19 (f : Nat) (σ : qMem) (x1 : Int32) (x2 : Int32) (x3 : Int32) : Option (Int32) :=
  p_Acts_takes_b20 f σ x1 x2 x3 (0 : Int32)
def p_Acts_takes (f : Nat) (σ : qMem) (x1 : Int32) (x2 : Int32) (x3 : Int32) (x4 : Int32) : Option (Int32) :=
  if x4 = 0 then
    p_Acts_takes_b19 f σ x1 x2 x3
  else
    if qin x1 10 = true then
    if (σ 41 (qi x1)) = (1 : Int32) then
      p_Acts_takes_b20 f σ x1 x2 x3 (1 : Int32)
    else
      p_Acts_takes_b19 f σ x1 x2 x3
    else none
def p_Acts_dayOfTaking_l37 (f : Nat) (σ : qMem) (x2 : Int32) (x3 : Int32) (x4 : Int32) (k37 : Int32 → Int32 → Option (Int32)) (x5 : Int32) (x6 : Int32) : Option (Int32) :=
  if (σ 37 5) ≤ x6 then
    some x5
  else
    (p_Acts_takes f σ x6 x2 x3 x4).bind fun u1 =>
    if u1 = 0 then
      k37 x5 (x6 + (1 : Int32))
    else
      if x5 = (-1000000 : Int32) then
        if qin x6 10 = true then
        k37 (σ 38 (qi x6)) (x6 + (1 : Int32))
        else none
      else
        if qin x6 10 = true then
        if x5 ≤ (σ 38 (qi x6)) then
          k37 x5 (x6 + (1 : Int32))
        else
          if qin x6 10 = true then
          k37 (σ 38 (qi x6)) (x6 + (1 : Int32))
          else none
        else none
def p_Acts_dayOfTaking (f : Nat) (σ : qMem) (x1 : Int32) : Option (Int32) :=
  (p_Promises_of f σ x1 (5 : Int32)).bind fun u6 =>
  (p_Promises_of f σ x1 (1 : Int32)).bind fun u8 =>
  (p_Promises_isObit f σ x1).bind fun u10 =>
  qfix2 (p_Acts_dayOfTaking_l37 f σ u6 u8 u10 ) f (-1000000 : Int32) (0 : Int32)
def p_Acts_takenBy (f : Nat) (σ : qMem) (x1 : Int32) (x2 : Int32) : Option (Int32) :=
  (p_Acts_dayOfTaking f σ x1).bind fun u1 =>
  if u1 = (-1000000 : Int32) then
    some (0 : Int32)
  else
    if x2 < u1 then
      some (0 : Int32)
    else
      some (1 : Int32)
def p_Acts_ended (f : Nat) (σ : qMem) (x1 : Int32) (x2 : Int32) : Option (Int32) :=
  (p_Promises_of f σ x1 (6 : Int32)).bind fun u1 =>
  if u1 < x2 then
    some (1 : Int32)
  else
    (p_Acts_takenBy f σ x1 x2).bind fun u3 =>
    if u3 = 0 then
      some (0 : Int32)
    else
      some (1 : Int32)
def p_Spans_covers_33_l2 (f : Nat) (σ : qMem) (x1 : Int32) (x2 : Int32) (k2 : Int32 → Option (Int32)) (x3 : Int32) : Option (Int32) :=
  if (σ 33 3) ≤ x3 then
    some (0 : Int32)
  else
    if qin x3 20 = true then
    if (σ 34 (qi x3)) = x1 then
      if qin x3 20 = true then
      if x2 < (σ 35 (qi x3)) then
        k2 (x3 + (1 : Int32))
      else
        if qin x3 20 = true then
        if (σ 36 (qi x3)) < x2 then
          k2 (x3 + (1 : Int32))
        else
          some (1 : Int32)
        else none
      else none
    else
      k2 (x3 + (1 : Int32))
    else none
def p_Spans_covers_33 (f : Nat) (σ : qMem) (x1 : Int32) (x2 : Int32) : Option (Int32) :=
  qfix1 (p_Spans_covers_33_l2 f σ x1 x2 ) f (0 : Int32)
def p_Lines_sameAltar (f : Nat) (σ : qMem) (x1 : Int32) (x2 : Int32) : Option (Int32) :=
  if qin x1 60 = true then
  (p_Promises_of f σ (σ 43 (qi x1)) (2 : Int32)).bind fun u2 =>
  if qin x2 60 = true then
  (p_Promises_of f σ (σ 43 (qi x2)) (2 : Int32)).bind fun u5 =>
  if u2 = u5 then
    some (1 : Int32)
  else
    some (0 : Int32)
  else none
  else none
def p_Lines_standsAt_b196 (f : Nat) (k84 : Int32 → Int32 → Option (Int32)) (σ : qMem) (x2 : Int32) (x4 : Int32) (x5 : Int32) (x6 : Int32) (x7 : Int32) (x8 : Int32) : Option (Int32) :=
  if x8 = 0 then
    k84 (x6 + (0 : Int32)) (x7 + (-1 : Int32))
  else
    k84 (x6 + (1 : Int32)) (x7 + (-1 : Int32))
def p_Lines_standsAt_b151 (f : Nat) (k84 : Int32 → Int32 → Option (Int32)) (σ : qMem) (x2 : Int32) (x4 : Int32) (x5 : Int32) (x6 : Int32) (x7 : Int32) (s0 : Int32) : Option (Int32) :=
  if qin x7 60 = true then
  if qin (σ 47 (qi x7)) 60 = true then
  if qin x2 60 = true then
  if (σ 45 (qi (σ 47 (qi x7)))) = (σ 45 (qi x2)) then
    if s0 = 0 then
      if qin x7 60 = true then
      (p_Lines_sameAltar f σ (σ 47 (qi x7)) x2).bind fun u5 =>
      if u5 = 0 then
        p_Lines_standsAt_b196 f k84 σ x2 x4 x5 x6 x7 s0
      else
        some (0 : Int32)
      else none
    else
      some (0 : Int32)
  else
    p_Lines_standsAt_b196 f k84 σ x2 x4 x5 x6 x7 s0
  else none
  else none
  else none
def p_Lines_standsAt_b217 (f : Nat) (σ : qMem) (x4 : Int32) (x6 : Int32) : Option (Int32) :=
  if qin x4 8 = true then
  if (σ 32 (qi x4)) ≤ x6 then
    some (0 : Int32)
  else
    some (1 : Int32)
  else none
def p_Lines_standsAt_l84 (f : Nat) (σ : qMem) (x2 : Int32) (x4 : Int32) (x5 : Int32) (k84 : Int32 → Int32 → Option (Int32)) (x6 : Int32) (x7 : Int32) : Option (Int32) :=
  if x7 < 0 then
    p_Lines_standsAt_b217 f σ x4 x6
  else
    if qin x7 60 = true then
    if qin (σ 47 (qi x7)) 60 = true then
    if (σ 44 (qi (σ 47 (qi x7)))) = x5 then
      if qin x7 60 = true then
      if qin (σ 47 (qi x7)) 60 = true then
      if (σ 46 (qi (σ 47 (qi x7)))) = 0 then
        k84 x6 (x7 + (-1 : Int32))
      else
        if qin x7 60 = true then
        if qin (σ 47 (qi x7)) 60 = true then
        (p_Promises_of f σ (σ 43 (qi (σ 47 (qi x7)))) (3 : Int32)).bind fun u14 =>
        if u14 = x4 then
          p_Lines_standsAt_b151 f k84 σ x2 x4 x5 x6 x7 (1 : Int32)
        else
          p_Lines_standsAt_b151 f k84 σ x2 x4 x5 x6 x7 (0 : Int32)
        else none
        else none
      else none
      else none
    else
      p_Lines_standsAt_b217 f σ x4 x6
    else none
    else none
def p_Lines_standsAt (f : Nat) (σ : qMem) (x1 : Int32) : Option (Int32) :=
  if qin x1 60 = true then
  if qin (σ 47 (qi x1)) 60 = true then
  (p_Promises_of f σ (σ 43 (qi (σ 47 (qi x1)))) (3 : Int32)).bind fun u18 =>
  if qin (σ 47 (qi x1)) 60 = true then
  (p_Promises_of f σ (σ 43 (qi (σ 47 (qi x1)))) (5 : Int32)).bind fun u21 =>
  if (σ 44 (qi (σ 47 (qi x1)))) < u21 then
    some (0 : Int32)
  else
    (p_Acts_ended f σ (σ 43 (qi (σ 47 (qi x1)))) (σ 44 (qi (σ 47 (qi x1))))).bind fun u23 =>
    if u23 = 0 then
      (p_Spans_covers_33 f σ u18 (σ 44 (qi (σ 47 (qi x1))))).bind fun u25 =>
      if u25 = 0 then
        qfix2 (p_Lines_standsAt_l84 f σ (σ 47 (qi x1)) u18 (σ 44 (qi (σ 47 (qi x1)))) ) f (0 : Int32) (x1 - (1 : Int32))
      else
        some (0 : Int32)
    else
      some (0 : Int32)
  else none
  else none
  else none
def p_Lines_judge_l2 (f : Nat) (k2 : qMem → Int32 → Option (qMem)) (σ : qMem) (x1 : Int32) : Option (qMem) :=
  if (σ 42 9) ≤ x1 then
    some σ
  else
    if qin x1 60 = true then
    (p_Lines_standsAt f σ x1).bind fun u2 =>
    if qin (σ 47 (qi x1)) 60 = true then
    k2 (qmu σ 46 (qi (σ 47 (qi x1))) (vp_nar .boolean u2)) (x1 + (1 : Int32))
    else none
    else none
def p_Lines_judge (f : Nat) (σ : qMem) : Option (qMem) :=
  qfix2 (p_Lines_judge_l2 f ) f σ (0 : Int32)
def p_C_vow (f : Nat) (σ : qMem) (x1 : Int32) (x2 : Int32) : Option (Int32 × qMem) :=
  (p_C_outside f σ x1 (0 : Int32) (7 : Int32)).bind fun u1 =>
  if u1 = 0 then
    (p_C_outside f σ x2 (1 : Int32) (3 : Int32)).bind fun u3 =>
    if u3 = 0 then
      if qin x1 8 = true then
      if qin x1 8 = true then
      (p_Lines_judge f (qmu σ 32 (qi x1) x2)).bind fun u7 =>
      some ((σ 32 (qi x1)), u7)
      else none
      else none
    else
      some ((-1000001 : Int32), σ)
  else
    some ((-1000001 : Int32), σ)
def p_C_noSpan (f : Nat) (σ : qMem) (x0 : Int32) (x1 : Int32) : Option (Int32) :=
  (p_C_noDay f σ x0).bind fun u1 =>
  if u1 = 0 then
    (p_C_outside f σ x1 x0 (9999 : Int32)).bind fun u3 =>
    if u3 = 0 then
      some (0 : Int32)
    else
      some (1 : Int32)
  else
    some (1 : Int32)
def p_Spans_full_33 (f : Nat) (σ : qMem) : Option (Int32) :=
  if (σ 33 3) < (20 : Int32) then
    some (0 : Int32)
  else
    some (1 : Int32)
def p_Spans_full_59 (f : Nat) (σ : qMem) : Option (Int32) :=
  if (σ 59 3) < (20 : Int32) then
    some (0 : Int32)
  else
    some (1 : Int32)
def p_Spans_add_33 (f : Nat) (σ : qMem) (x1 : Int32) (x2 : Int32) (x3 : Int32) : Option (Int32 × qMem) :=
  if qin (σ 33 3) 20 = true then
  if qin ((qmu σ 34 (qi (σ 33 3)) x1) 33 3) 20 = true then
  if qin ((qmu (qmu σ 34 (qi (σ 33 3)) x1) 35 (qi ((qmu σ 34 (qi (σ 33 3)) x1) 33 3)) x2) 33 3) 20 = true then
  some (((qmu (qmu (qmu (qmu σ 34 (qi (σ 33 3)) x1) 35 (qi ((qmu σ 34 (qi (σ 33 3)) x1) 33 3)) x2) 36 (qi ((qmu (qmu σ 34 (qi (σ 33 3)) x1) 35 (qi ((qmu σ 34 (qi (σ 33 3)) x1) 33 3)) x2) 33 3)) x3) 33 3 (((qmu (qmu (qmu σ 34 (qi (σ 33 3)) x1) 35 (qi ((qmu σ 34 (qi (σ 33 3)) x1) 33 3)) x2) 36 (qi ((qmu (qmu σ 34 (qi (σ 33 3)) x1) 35 (qi ((qmu σ 34 (qi (σ 33 3)) x1) 33 3)) x2) 33 3)) x3) 33 3) + (1 : Int32))) 33 3), (qmu (qmu (qmu (qmu σ 34 (qi (σ 33 3)) x1) 35 (qi ((qmu σ 34 (qi (σ 33 3)) x1) 33 3)) x2) 36 (qi ((qmu (qmu σ 34 (qi (σ 33 3)) x1) 35 (qi ((qmu σ 34 (qi (σ 33 3)) x1) 33 3)) x2) 33 3)) x3) 33 3 (((qmu (qmu (qmu σ 34 (qi (σ 33 3)) x1) 35 (qi ((qmu σ 34 (qi (σ 33 3)) x1) 33 3)) x2) 36 (qi ((qmu (qmu σ 34 (qi (σ 33 3)) x1) 35 (qi ((qmu σ 34 (qi (σ 33 3)) x1) 33 3)) x2) 33 3)) x3) 33 3) + (1 : Int32))))
  else none
  else none
  else none
def p_Spans_add_59 (f : Nat) (σ : qMem) (x1 : Int32) (x2 : Int32) (x3 : Int32) : Option (Int32 × qMem) :=
  if qin (σ 59 3) 20 = true then
  if qin ((qmu σ 60 (qi (σ 59 3)) x1) 59 3) 20 = true then
  if qin ((qmu (qmu σ 60 (qi (σ 59 3)) x1) 61 (qi ((qmu σ 60 (qi (σ 59 3)) x1) 59 3)) x2) 59 3) 20 = true then
  some (((qmu (qmu (qmu (qmu σ 60 (qi (σ 59 3)) x1) 61 (qi ((qmu σ 60 (qi (σ 59 3)) x1) 59 3)) x2) 62 (qi ((qmu (qmu σ 60 (qi (σ 59 3)) x1) 61 (qi ((qmu σ 60 (qi (σ 59 3)) x1) 59 3)) x2) 59 3)) x3) 59 3 (((qmu (qmu (qmu σ 60 (qi (σ 59 3)) x1) 61 (qi ((qmu σ 60 (qi (σ 59 3)) x1) 59 3)) x2) 62 (qi ((qmu (qmu σ 60 (qi (σ 59 3)) x1) 61 (qi ((qmu σ 60 (qi (σ 59 3)) x1) 59 3)) x2) 59 3)) x3) 59 3) + (1 : Int32))) 59 3), (qmu (qmu (qmu (qmu σ 60 (qi (σ 59 3)) x1) 61 (qi ((qmu σ 60 (qi (σ 59 3)) x1) 59 3)) x2) 62 (qi ((qmu (qmu σ 60 (qi (σ 59 3)) x1) 61 (qi ((qmu σ 60 (qi (σ 59 3)) x1) 59 3)) x2) 59 3)) x3) 59 3 (((qmu (qmu (qmu σ 60 (qi (σ 59 3)) x1) 61 (qi ((qmu σ 60 (qi (σ 59 3)) x1) 59 3)) x2) 62 (qi ((qmu (qmu σ 60 (qi (σ 59 3)) x1) 61 (qi ((qmu σ 60 (qi (σ 59 3)) x1) 59 3)) x2) 59 3)) x3) 59 3) + (1 : Int32))))
  else none
  else none
  else none
def p_C_sick (f : Nat) (σ : qMem) (x1 : Int32) (x2 : Int32) (x3 : Int32) : Option (Int32 × qMem) :=
  (p_C_outside f σ x1 (0 : Int32) (7 : Int32)).bind fun u1 =>
  if u1 = 0 then
    (p_C_noSpan f σ x2 x3).bind fun u3 =>
    if u3 = 0 then
      (p_Spans_full_33 f σ).bind fun u5 =>
      if u5 = 0 then
        (p_Spans_add_33 f σ x1 x2 x3).bind fun u7 =>
        (p_Lines_judge f u7.2).bind fun u9 =>
        some (u7.1, u9)
      else
        some ((-1000003 : Int32), σ)
    else
      some ((-1000001 : Int32), σ)
  else
    some ((-1000001 : Int32), σ)
def p_C_noLine (f : Nat) (σ : qMem) (x1 : Int32) (x2 : Int32) (x3 : Int32) : Option (Int32) :=
  (p_Promises_has f σ x1).bind fun u1 =>
  if u1 = 0 then
    some (1 : Int32)
  else
    (p_C_noDay f σ x2).bind fun u3 =>
    if u3 = 0 then
      (p_C_outside f σ x3 (0 : Int32) (4 : Int32)).bind fun u5 =>
      if u5 = 0 then
        some (0 : Int32)
      else
        some (1 : Int32)
    else
      some (1 : Int32)
def p_Lines_full (f : Nat) (σ : qMem) : Option (Int32) :=
  if (σ 42 9) < (60 : Int32) then
    some (0 : Int32)
  else
    some (1 : Int32)
def p_Lines_isBehind (f : Nat) (σ : qMem) (x1 : Int32) (x2 : Int32) (x3 : Int32) : Option (Int32) :=
  if qin x1 60 = true then
  if x2 < (σ 44 (qi x1)) then
    some (1 : Int32)
  else
    if qin x1 60 = true then
    if (σ 44 (qi x1)) = x2 then
      if qin x1 60 = true then
      if (σ 45 (qi x1)) ≤ x3 then
        some (0 : Int32)
      else
        some (1 : Int32)
      else none
    else
      some (0 : Int32)
    else none
  else none
def p_Lines_add_b79 (f : Nat) (σ : qMem) (x4 : Int32) (x5 : Int32) : Option (Int32 × qMem) :=
  if qin x5 60 = true then
  some (x4, (qmu (qmu σ 47 (qi x5) x4) 42 9 (((qmu σ 47 (qi x5) x4) 42 9) + (1 : Int32))))
  else none
def p_Lines_add_l34 (f : Nat) (x2 : Int32) (x3 : Int32) (x4 : Int32) (k34 : qMem → Int32 → Option (Int32 × qMem)) (σ : qMem) (x5 : Int32) : Option (Int32 × qMem) :=
  if x5 ≤ 0 then
    p_Lines_add_b79 f σ x4 x5
  else
    if qin (x5 - (1 : Int32)) 60 = true then
    (p_Lines_isBehind f σ (σ 47 (qi (x5 - (1 : Int32)))) x2 x3).bind fun u3 =>
    if u3 = 0 then
      p_Lines_add_b79 f σ x4 x5
    else
      if qin (x5 - (1 : Int32)) 60 = true then
      if qin x5 60 = true then
      k34 (qmu σ 47 (qi x5) (σ 47 (qi (x5 - (1 : Int32))))) (x5 + (-1 : Int32))
      else none
      else none
    else none
def p_Lines_add (f : Nat) (σ : qMem) (x1 : Int32) (x2 : Int32) (x3 : Int32) : Option (Int32 × qMem) :=
  if qin (σ 42 9) 60 = true then
  if qin (σ 42 9) 60 = true then
  if qin (σ 42 9) 60 = true then
  qfix2 (p_Lines_add_l34 f x2 x3 (σ 42 9) ) f (qmu (qmu (qmu σ 43 (qi (σ 42 9)) x1) 44 (qi (σ 42 9)) x2) 45 (qi (σ 42 9)) x3) (σ 42 9)
  else none
  else none
  else none
def p_C_say (f : Nat) (σ : qMem) (x1 : Int32) (x2 : Int32) (x3 : Int32) : Option (Int32 × qMem) :=
  (p_C_noLine f σ x1 x2 x3).bind fun u1 =>
  if u1 = 0 then
    (p_Lines_full f σ).bind fun u3 =>
    if u3 = 0 then
      (p_Lines_add f σ x1 x2 x3).bind fun u5 =>
      (p_Lines_judge f u5.2).bind fun u7 =>
      some (u5.1, u7)
    else
      some ((-1000003 : Int32), σ)
  else
    some ((-1000001 : Int32), σ)
def p_Sheets_item (f : Nat) (σ : qMem) (x1 : Int32) (x2 : Int32) : Option (Int32) :=
  if qin x1 8 = true then
  if qin x2 60 = true then
  some (σ (5 + qi x1) (qi x2))
  else none
  else none
def p_C_lines_l64 (f : Nat) (x1 : Int32) (x2 : Int32) (x3 : Int32) (k64 : qMem → Int32 → Int32 → Option (Int32 × qMem)) (σ : qMem) (x4 : Int32) (x5 : Int32) : Option (Int32 × qMem) :=
  if (x2 + ((3 : Int32) * x3)) ≤ x5 then
    (p_Lines_judge f σ).bind fun u1 =>
    (p_C_foundNothing f u1 x4).bind fun u3 =>
    some (u3.1, u3.2)
  else
    (p_Sheets_item f σ x1 x5).bind fun u5 =>
    (p_Sheets_item f σ x1 (x5 + (1 : Int32))).bind fun u7 =>
    (p_Sheets_item f σ x1 (x5 + (2 : Int32))).bind fun u9 =>
    (p_C_noLine f σ u5 u7 u9).bind fun u11 =>
    if u11 = 0 then
      (p_Lines_full f σ).bind fun u13 =>
      if u13 = 0 then
        (p_Lines_add f σ u5 u7 u9).bind fun u15 =>
        k64 u15.2 (x4 + (1 : Int32)) (x5 + (3 : Int32))
      else
        k64 σ x4 (x5 + (3 : Int32))
    else
      k64 σ x4 (x5 + (3 : Int32))
def p_C_lines (f : Nat) (σ : qMem) (x1 : Int32) (x2 : Int32) (x3 : Int32) : Option (Int32 × qMem) :=
  (p_Sheets_noSuch f σ x1).bind fun u17 =>
  if u17 = 0 then
    (p_C_outside f σ x3 (1 : Int32) (20 : Int32)).bind fun u19 =>
    if u19 = 0 then
      (p_Sheets_missing f σ x1).bind fun u21 =>
      if u21 = 0 then
        (p_Sheets_holds f σ x1 x2 ((3 : Int32) * x3)).bind fun u23 =>
        if u23 = 0 then
          (p_C_found f σ (2 : Int32)).bind fun u25 =>
          some (u25.1, u25.2)
        else
          qfix3 (p_C_lines_l64 f x1 x2 x3 ) f σ (0 : Int32) x2
      else
        (p_C_found f σ (1 : Int32)).bind fun u27 =>
        some (u27.1, u27.2)
    else
      some ((-1000001 : Int32), σ)
  else
    some ((-1000001 : Int32), σ)
def p_Lines_size (f : Nat) (σ : qMem) : Option (Int32) :=
  some (σ 42 9)
def p_Lines_isGood (f : Nat) (σ : qMem) (x1 : Int32) : Option (Int32) :=
  if qin x1 60 = true then
  some (vp_nar .boolean (σ 46 (qi x1)))
  else none
def p_C_good (f : Nat) (σ : qMem) (x1 : Int32) : Option (Int32) :=
  (p_Lines_size f σ).bind fun u1 =>
  (p_C_outside f σ x1 (0 : Int32) (u1 - (1 : Int32))).bind fun u3 =>
  if u3 = 0 then
    (p_Lines_isGood f σ x1).bind fun u5 =>
    if u5 = 0 then
      some (0 : Int32)
    else
      some (1 : Int32)
  else
    some (-1000001 : Int32)
def p_Joins_holdsFrom_l2 (f : Nat) (σ : qMem) (x1 : Int32) (x2 : Int32) (k2 : Int32 → Option (Int32)) (x3 : Int32) : Option (Int32) :=
  if (σ 48 4) ≤ x3 then
    some (0 : Int32)
  else
    (p_Joins_has f σ x3 x1).bind fun u1 =>
    if u1 = 0 then
      k2 (x3 + (1 : Int32))
    else
      if qin x3 10 = true then
      if (σ 52 (qi x3)) ≤ x2 then
        k2 (x3 + (1 : Int32))
      else
        some (1 : Int32)
      else none
def p_Joins_holdsFrom (f : Nat) (σ : qMem) (x1 : Int32) (x2 : Int32) : Option (Int32) :=
  qfix1 (p_Joins_holdsFrom_l2 f σ x1 x2 ) f (0 : Int32)
def p_Joins_full (f : Nat) (σ : qMem) : Option (Int32) :=
  if (σ 48 4) < (10 : Int32) then
    some (0 : Int32)
  else
    some (1 : Int32)
def p_Joins_add (f : Nat) (σ : qMem) (x1 : Int32) (x2 : Int32) (x3 : Int32) : Option (qMem) :=
  if qin (σ 48 4) 10 = true then
  if qin ((qmu σ 49 (qi (σ 48 4)) x1) 48 4) 10 = true then
  if qin ((qmu (qmu σ 49 (qi (σ 48 4)) x1) 50 (qi ((qmu σ 49 (qi (σ 48 4)) x1) 48 4)) x2) 48 4) 10 = true then
  if qin ((qmu (qmu (qmu σ 49 (qi (σ 48 4)) x1) 50 (qi ((qmu σ 49 (qi (σ 48 4)) x1) 48 4)) x2) 51 (qi ((qmu (qmu σ 49 (qi (σ 48 4)) x1) 50 (qi ((qmu σ 49 (qi (σ 48 4)) x1) 48 4)) x2) 48 4)) x3) 48 4) 10 = true then
  some (qmu (qmu (qmu (qmu (qmu σ 49 (qi (σ 48 4)) x1) 50 (qi ((qmu σ 49 (qi (σ 48 4)) x1) 48 4)) x2) 51 (qi ((qmu (qmu σ 49 (qi (σ 48 4)) x1) 50 (qi ((qmu σ 49 (qi (σ 48 4)) x1) 48 4)) x2) 48 4)) x3) 52 (qi ((qmu (qmu (qmu σ 49 (qi (σ 48 4)) x1) 50 (qi ((qmu σ 49 (qi (σ 48 4)) x1) 48 4)) x2) 51 (qi ((qmu (qmu σ 49 (qi (σ 48 4)) x1) 50 (qi ((qmu σ 49 (qi (σ 48 4)) x1) 48 4)) x2) 48 4)) x3) 48 4)) (10000 : Int32)) 48 4 (((qmu (qmu (qmu (qmu σ 49 (qi (σ 48 4)) x1) 50 (qi ((qmu σ 49 (qi (σ 48 4)) x1) 48 4)) x2) 51 (qi ((qmu (qmu σ 49 (qi (σ 48 4)) x1) 50 (qi ((qmu σ 49 (qi (σ 48 4)) x1) 48 4)) x2) 48 4)) x3) 52 (qi ((qmu (qmu (qmu σ 49 (qi (σ 48 4)) x1) 50 (qi ((qmu σ 49 (qi (σ 48 4)) x1) 48 4)) x2) 51 (qi ((qmu (qmu σ 49 (qi (σ 48 4)) x1) 50 (qi ((qmu σ 49 (qi (σ 48 4)) x1) 48 4)) x2) 48 4)) x3) 48 4)) (10000 : Int32)) 48 4) + (1 : Int32)))
  else none
  else none
  else none
  else none
def p_C_join (f : Nat) (σ : qMem) (x1 : Int32) (x2 : Int32) (x3 : Int32) : Option (Int32 × qMem) :=
  (p_Promises_has f σ x1).bind fun u1 =>
  if u1 = 0 then
    some ((-1000001 : Int32), σ)
  else
    (p_Promises_has f σ x2).bind fun u3 =>
    if u3 = 0 then
      some ((-1000001 : Int32), σ)
    else
      if x1 = x2 then
        some ((-1000001 : Int32), σ)
      else
        (p_C_noDay f σ x3).bind fun u5 =>
        if u5 = 0 then
          (p_Joins_holdsFrom f σ x1 x3).bind fun u7 =>
          if u7 = 0 then
            (p_Joins_holdsFrom f σ x2 x3).bind fun u9 =>
            if u9 = 0 then
              (p_Joins_full f σ).bind fun u11 =>
              if u11 = 0 then
                (p_Joins_add f σ x1 x2 x3).bind fun u13 =>
                some ((1 : Int32), u13)
              else
                some ((-1000003 : Int32), σ)
            else
              some ((-1000002 : Int32), σ)
          else
            some ((-1000002 : Int32), σ)
        else
          some ((-1000001 : Int32), σ)
def p_Joins_part_l7 (f : Nat) (σ : qMem) (x1 : Int32) (x2 : Int32) (k7 : Int32 → Option (Int32 × qMem)) (x3 : Int32) : Option (Int32 × qMem) :=
  if x3 < 0 then
    some ((0 : Int32), σ)
  else
    (p_Joins_has f σ x3 x1).bind fun u1 =>
    if u1 = 0 then
      k7 (x3 + (-1 : Int32))
    else
      if qin x3 10 = true then
      if (σ 52 (qi x3)) = (10000 : Int32) then
        if qin x3 10 = true then
        if (σ 51 (qi x3)) < x2 then
          if qin x3 10 = true then
          some ((1 : Int32), (qmu σ 52 (qi x3) x2))
          else none
        else
          some ((0 : Int32), σ)
        else none
      else
        some ((0 : Int32), σ)
      else none
def p_Joins_part (f : Nat) (σ : qMem) (x1 : Int32) (x2 : Int32) : Option (Int32 × qMem) :=
  qfix1 (p_Joins_part_l7 f σ x1 x2 ) f ((σ 48 4) - (1 : Int32))
def p_C_split (f : Nat) (σ : qMem) (x1 : Int32) (x2 : Int32) : Option (Int32 × qMem) :=
  (p_Promises_has f σ x1).bind fun u1 =>
  if u1 = 0 then
    some ((-1000001 : Int32), σ)
  else
    (p_C_noDay f σ x2).bind fun u3 =>
    if u3 = 0 then
      (p_Joins_part f σ x1 x2).bind fun u5 =>
      if u5.1 = 0 then
        some ((-1000002 : Int32), u5.2)
      else
        some ((1 : Int32), u5.2)
    else
      some ((-1000001 : Int32), σ)
def p_C_noHouse (f : Nat) (σ : qMem) (x0 : Int32) : Option (Int32) :=
  (p_C_outside f σ x0 (0 : Int32) (5 : Int32)).bind fun u1 =>
  some (vp_nar .boolean u1)
def p_Houses_changeRent (f : Nat) (σ : qMem) (x1 : Int32) (x2 : Int32) : Option (Int32 × qMem) :=
  if qin x1 6 = true then
  if qin x1 6 = true then
  some ((σ 54 (qi x1)), (qmu σ 54 (qi x1) x2))
  else none
  else none
def p_Houses_changeShrink (f : Nat) (σ : qMem) (x1 : Int32) (x2 : Int32) : Option (Int32 × qMem) :=
  if qin x1 6 = true then
  if qin x1 6 = true then
  some ((σ 55 (qi x1)), (qmu σ 55 (qi x1) x2))
  else none
  else none
def p_C_house_b30 (f : Nat) (σ : qMem) (x1 : Int32) (x2 : Int32) (x3 : Int32) (s0 : Int32) (s1 : Int32) (s2 : Int32) : Option (Int32 × qMem) :=
  (p_C_outside f σ s0 s1 s2).bind fun u1 =>
  if u1 = 0 then
    if x2 = 0 then
      (p_Houses_changeRent f σ x1 x3).bind fun u5 =>
      some (u5.1, u5.2)
    else
      (p_Houses_changeShrink f σ x1 x3).bind fun u3 =>
      some (u3.1, u3.2)
  else
    some ((-1000001 : Int32), σ)
def p_C_house (f : Nat) (σ : qMem) (x1 : Int32) (x2 : Int32) (x3 : Int32) : Option (Int32 × qMem) :=
  (p_C_noHouse f σ x1).bind fun u7 =>
  if u7 = 0 then
    (p_C_outside f σ x2 (0 : Int32) (1 : Int32)).bind fun u9 =>
    if u9 = 0 then
      if x2 = 0 then
        p_C_house_b30 f σ x1 x2 x3 x3 (0 : Int32) (10000 : Int32)
      else
        p_C_house_b30 f σ x1 x2 x3 x3 (0 : Int32) (100 : Int32)
    else
      some ((-1000001 : Int32), σ)
  else
    some ((-1000001 : Int32), σ)
def p_C_noYear (f : Nat) (σ : qMem) (x0 : Int32) : Option (Int32) :=
  (p_C_outside f σ x0 (0 : Int32) (27 : Int32)).bind fun u1 =>
  some (vp_nar .boolean u1)
def p_Houses_repairsFull (f : Nat) (σ : qMem) : Option (Int32) :=
  if (σ 53 5) < (20 : Int32) then
    some (0 : Int32)
  else
    some (1 : Int32)
def p_Houses_addRepair (f : Nat) (σ : qMem) (x1 : Int32) (x2 : Int32) (x3 : Int32) : Option (Int32 × qMem) :=
  if qin (σ 53 5) 20 = true then
  if qin ((qmu σ 56 (qi (σ 53 5)) x1) 53 5) 20 = true then
  if qin ((qmu (qmu σ 56 (qi (σ 53 5)) x1) 57 (qi ((qmu σ 56 (qi (σ 53 5)) x1) 53 5)) x2) 53 5) 20 = true then
  some (((qmu (qmu (qmu (qmu σ 56 (qi (σ 53 5)) x1) 57 (qi ((qmu σ 56 (qi (σ 53 5)) x1) 53 5)) x2) 58 (qi ((qmu (qmu σ 56 (qi (σ 53 5)) x1) 57 (qi ((qmu σ 56 (qi (σ 53 5)) x1) 53 5)) x2) 53 5)) x3) 53 5 (((qmu (qmu (qmu σ 56 (qi (σ 53 5)) x1) 57 (qi ((qmu σ 56 (qi (σ 53 5)) x1) 53 5)) x2) 58 (qi ((qmu (qmu σ 56 (qi (σ 53 5)) x1) 57 (qi ((qmu σ 56 (qi (σ 53 5)) x1) 53 5)) x2) 53 5)) x3) 53 5) + (1 : Int32))) 53 5), (qmu (qmu (qmu (qmu σ 56 (qi (σ 53 5)) x1) 57 (qi ((qmu σ 56 (qi (σ 53 5)) x1) 53 5)) x2) 58 (qi ((qmu (qmu σ 56 (qi (σ 53 5)) x1) 57 (qi ((qmu σ 56 (qi (σ 53 5)) x1) 53 5)) x2) 53 5)) x3) 53 5 (((qmu (qmu (qmu σ 56 (qi (σ 53 5)) x1) 57 (qi ((qmu σ 56 (qi (σ 53 5)) x1) 53 5)) x2) 58 (qi ((qmu (qmu σ 56 (qi (σ 53 5)) x1) 57 (qi ((qmu σ 56 (qi (σ 53 5)) x1) 53 5)) x2) 53 5)) x3) 53 5) + (1 : Int32))))
  else none
  else none
  else none
def p_C_repair (f : Nat) (σ : qMem) (x1 : Int32) (x2 : Int32) (x3 : Int32) : Option (Int32 × qMem) :=
  (p_C_noHouse f σ x1).bind fun u1 =>
  if u1 = 0 then
    (p_C_noYear f σ x2).bind fun u3 =>
    if u3 = 0 then
      (p_C_outside f σ x3 (1 : Int32) (10000 : Int32)).bind fun u5 =>
      if u5 = 0 then
        (p_Houses_repairsFull f σ).bind fun u7 =>
        if u7 = 0 then
          (p_Houses_addRepair f σ x1 x2 x3).bind fun u9 =>
          some (u9.1, u9.2)
        else
          some ((-1000003 : Int32), σ)
      else
        some ((-1000001 : Int32), σ)
    else
      some ((-1000001 : Int32), σ)
  else
    some ((-1000001 : Int32), σ)
def p_Houses_emptiesFull (f : Nat) (σ : qMem) : Option (Int32) :=
  (p_Spans_full_59 f σ).bind fun u1 =>
  some (vp_nar .boolean u1)
def p_Houses_addEmpty (f : Nat) (σ : qMem) (x1 : Int32) (x2 : Int32) (x3 : Int32) : Option (Int32 × qMem) :=
  (p_Spans_add_59 f σ x1 x2 x3).bind fun u1 =>
  some (u1.1, u1.2)
def p_C_empty (f : Nat) (σ : qMem) (x1 : Int32) (x2 : Int32) (x3 : Int32) : Option (Int32 × qMem) :=
  (p_C_noHouse f σ x1).bind fun u1 =>
  if u1 = 0 then
    (p_C_noSpan f σ x2 x3).bind fun u3 =>
    if u3 = 0 then
      (p_Houses_emptiesFull f σ).bind fun u5 =>
      if u5 = 0 then
        (p_Houses_addEmpty f σ x1 x2 x3).bind fun u7 =>
        some (u7.1, u7.2)
      else
        some ((-1000003 : Int32), σ)
    else
      some ((-1000001 : Int32), σ)
  else
    some ((-1000001 : Int32), σ)
def p_Spans_nextSpan_59_l6 (f : Nat) (σ : qMem) (x1 : Int32) (x2 : Int32) (k6 : Int32 → Int32 → Option (Int32)) (x3 : Int32) (x4 : Int32) : Option (Int32) :=
  if (σ 59 3) ≤ x4 then
    some x3
  else
    if qin x4 20 = true then
    if (σ 60 (qi x4)) = x1 then
      if qin x4 20 = true then
      if (σ 62 (qi x4)) < x2 then
        k6 x3 (x4 + (1 : Int32))
      else
        if x3 = (-1000000 : Int32) then
          k6 x4 (x4 + (1 : Int32))
        else
          if qin x4 20 = true then
          if qin x3 20 = true then
          if (σ 61 (qi x3)) ≤ (σ 61 (qi x4)) then
            k6 x3 (x4 + (1 : Int32))
          else
            k6 x4 (x4 + (1 : Int32))
          else none
          else none
      else none
    else
      k6 x3 (x4 + (1 : Int32))
    else none
def p_Spans_nextSpan_59 (f : Nat) (σ : qMem) (x1 : Int32) (x2 : Int32) : Option (Int32) :=
  qfix2 (p_Spans_nextSpan_59_l6 f σ x1 x2 ) f (-1000000 : Int32) (0 : Int32)
def p_Spans_daysWithin_59_l9 (f : Nat) (σ : qMem) (x1 : Int32) (x3 : Int32) (k9 : Int32 → Int32 → Int32 → Option (Int32)) (x4 : Int32) (x5 : Int32) (x6 : Int32) : Option (Int32) :=
  if (σ 59 3) ≤ x6 then
    some x4
  else
    if x3 < x5 then
      some x4
    else
      (p_Spans_nextSpan_59 f σ x1 x5).bind fun u1 =>
      if u1 = (-1000000 : Int32) then
        some x4
      else
        if qin u1 20 = true then
        if (σ 61 (qi u1)) ≤ x3 then
          if qin u1 20 = true then
          (p_Ma_min f σ (σ 62 (qi u1)) x3).bind fun u5 =>
          if qin u1 20 = true then
          (p_Ma_max f σ (σ 61 (qi u1)) x5).bind fun u8 =>
          k9 (x4 + ((u5 - u8) + (1 : Int32))) (u5 + (1 : Int32)) (x6 + (1 : Int32))
          else none
          else none
        else
          some x4
        else none
def p_Spans_daysWithin_59 (f : Nat) (σ : qMem) (x1 : Int32) (x2 : Int32) (x3 : Int32) : Option (Int32) :=
  qfix3 (p_Spans_daysWithin_59_l9 f σ x1 x3 ) f (0 : Int32) x2 (0 : Int32)
def p_Houses_repairsIn_l5 (f : Nat) (σ : qMem) (x1 : Int32) (x2 : Int32) (k5 : Int32 → Int32 → Option (Int32)) (x3 : Int32) (x4 : Int32) : Option (Int32) :=
  if (σ 53 5) ≤ x4 then
    some x3
  else
    if qin x4 20 = true then
    if (σ 56 (qi x4)) = x1 then
      if qin x4 20 = true then
      if (σ 57 (qi x4)) = x2 then
        if qin x4 20 = true then
        k5 (x3 + (σ 58 (qi x4))) (x4 + (1 : Int32))
        else none
      else
        k5 x3 (x4 + (1 : Int32))
      else none
    else
      k5 x3 (x4 + (1 : Int32))
    else none
def p_Houses_repairsIn (f : Nat) (σ : qMem) (x1 : Int32) (x2 : Int32) : Option (Int32) :=
  qfix2 (p_Houses_repairsIn_l5 f σ x1 x2 ) f (0 : Int32) (0 : Int32)
def p_Houses_rentIn_l10 (f : Nat) (σ : qMem) (x1 : Int32) (x2 : Int32) (k10 : Int32 → Int32 → Option (Int32)) (x3 : Int32) (x4 : Int32) : Option (Int32) :=
  if x2 ≤ x4 then
    (p_Spans_daysWithin_59 f σ x1 (x2 * (360 : Int32)) (((x2 * (360 : Int32)) + (360 : Int32)) - (1 : Int32))).bind fun u1 =>
    (p_Houses_repairsIn f σ x1 x2).bind fun u3 =>
    (p_Ma_max f σ (0 : Int32) ((x3 - u3) - ((x3 * u1) / (360 : Int32)))).bind fun u5 =>
    some u5
  else
    if qin x1 6 = true then
    k10 (x3 - ((x3 * (σ 55 (qi x1))) / (100 : Int32))) (x4 + (1 : Int32))
    else none
def p_Houses_rentIn (f : Nat) (σ : qMem) (x1 : Int32) (x2 : Int32) : Option (Int32) :=
  if qin x1 6 = true then
  qfix2 (p_Houses_rentIn_l10 f σ x1 x2 ) f (σ 54 (qi x1)) (0 : Int32)
  else none
def p_C_rent (f : Nat) (σ : qMem) (x1 : Int32) (x2 : Int32) : Option (Int32) :=
  (p_C_noHouse f σ x1).bind fun u1 =>
  if u1 = 0 then
    (p_C_noYear f σ x2).bind fun u3 =>
    if u3 = 0 then
      (p_Houses_rentIn f σ x1 x2).bind fun u5 =>
      some u5
    else
      some (-1000001 : Int32)
  else
    some (-1000001 : Int32)
def p_C_ownShare (f : Nat) (σ : qMem) (x1 : Int32) (x2 : Int32) : Option (Int32) :=
  (p_Promises_of f σ x1 (7 : Int32)).bind fun u1 =>
  (p_Houses_rentIn f σ u1 x2).bind fun u3 =>
  (p_Promises_of f σ x1 (8 : Int32)).bind fun u5 =>
  some ((u3 * u5) / (100 : Int32))
def p_C_comesTo (f : Nat) (σ : qMem) (x1 : Int32) (x2 : Int32) : Option (Int32) :=
  (p_C_ownShare f σ x1 x2).bind fun u1 =>
  (p_Joins_otherOf f σ x1 (x2 * (360 : Int32))).bind fun u3 =>
  if u3 = (-1000000 : Int32) then
    some u1
  else
    (p_C_ownShare f σ u3 x2).bind fun u5 =>
    some (u1 + u5)
def p_C_feeds (f : Nat) (σ : qMem) (x1 : Int32) (x2 : Int32) : Option (Int32) :=
  (p_C_comesTo f σ x1 x2).bind fun u1 =>
  if qin (0 : Int32) 3 = true then
  if u1 < (σ 66 (qi (0 : Int32))) then
    some (0 : Int32)
  else
    some (1 : Int32)
  else none
def p_C_comes (f : Nat) (σ : qMem) (x1 : Int32) (x2 : Int32) (x3 : Int32) : Option (Int32) :=
  (p_Promises_has f σ x1).bind fun u1 =>
  if u1 = 0 then
    some (-1000001 : Int32)
  else
    (p_C_noYear f σ x2).bind fun u3 =>
    if u3 = 0 then
      (p_C_outside f σ x3 (0 : Int32) (1 : Int32)).bind fun u5 =>
      if u5 = 0 then
        if x3 = 0 then
          (p_C_comesTo f σ x1 x2).bind fun u9 =>
          some u9
        else
          (p_C_feeds f σ x1 x2).bind fun u7 =>
          if u7 = 0 then
            some (0 : Int32)
          else
            some (1 : Int32)
      else
        some (-1000001 : Int32)
    else
      some (-1000001 : Int32)
def p_C_fails_l43 (f : Nat) (σ : qMem) (x1 : Int32) (k43 : Int32 → Option (Int32)) (x2 : Int32) : Option (Int32) :=
  if (27 : Int32) < x2 then
    some (-1000000 : Int32)
  else
    (p_C_feeds f σ x1 x2).bind fun u1 =>
    if u1 = 0 then
      some x2
    else
      k43 (x2 + (1 : Int32))
def p_C_fails (f : Nat) (σ : qMem) (x1 : Int32) : Option (Int32) :=
  (p_Promises_has f σ x1).bind fun u3 =>
  if u3 = 0 then
    some (-1000001 : Int32)
  else
    (p_Promises_isObit f σ x1).bind fun u5 =>
    if u5 = 0 then
      (p_Promises_of f σ x1 (5 : Int32)).bind fun u7 =>
      qfix1 (p_C_fails_l43 f σ x1 ) f (u7 / (360 : Int32))
    else
      some (-1000000 : Int32)
def p_C_price_b23 (f : Nat) (σ : qMem) (x1 : Int32) (x2 : Int32) (s0 : Int32) (s1 : Int32) (s2 : Int32) : Option (Int32 × qMem) :=
  (p_C_outside f σ s0 s1 s2).bind fun u1 =>
  if u1 = 0 then
    if qin x1 3 = true then
    if qin x1 3 = true then
    some ((σ 66 (qi x1)), (qmu σ 66 (qi x1) x2))
    else none
    else none
  else
    some ((-1000001 : Int32), σ)
def p_C_price (f : Nat) (σ : qMem) (x1 : Int32) (x2 : Int32) : Option (Int32 × qMem) :=
  (p_C_outside f σ x1 (0 : Int32) (2 : Int32)).bind fun u5 =>
  if u5 = 0 then
    if x1 = 0 then
      p_C_price_b23 f σ x1 x2 x2 (0 : Int32) (10000 : Int32)
    else
      p_C_price_b23 f σ x1 x2 x2 (0 : Int32) (99 : Int32)
  else
    some ((-1000001 : Int32), σ)
def p_C_obitCost (f : Nat) (σ : qMem) (x1 : Int32) : Option (Int32) :=
  (p_Promises_of f σ x1 (9 : Int32)).bind fun u1 =>
  if qin (1 : Int32) 3 = true then
  (p_Promises_of f σ x1 (10 : Int32)).bind fun u4 =>
  if qin (2 : Int32) 3 = true then
  some ((u1 * (σ 66 (qi (1 : Int32)))) + (u4 * (σ 66 (qi (2 : Int32)))))
  else none
  else none
def p_C_spent_l36 (f : Nat) (σ : qMem) (x2 : Int32) (x3 : Int32) (k36 : Int32 → Int32 → Option (Int32)) (x4 : Int32) (x5 : Int32) : Option (Int32) :=
  (p_Promises_size f σ).bind fun u1 =>
  if u1 ≤ x5 then
    some x4
  else
    (p_Promises_isObit f σ x5).bind fun u3 =>
    if u3 = 0 then
      k36 x4 (x5 + (1 : Int32))
    else
      (p_C_wantedTill f σ x5 x3).bind fun u5 =>
      (p_C_wantedTill f σ x5 (x2 - (1 : Int32))).bind fun u7 =>
      (p_C_obitCost f σ x5).bind fun u9 =>
      k36 (x4 + ((u5 - u7) * u9)) (x5 + (1 : Int32))
def p_C_spent (f : Nat) (σ : qMem) (x1 : Int32) : Option (Int32) :=
  (p_C_noYear f σ x1).bind fun u11 =>
  if u11 = 0 then
    (p_Ma_min f σ (((x1 * (360 : Int32)) + (360 : Int32)) - (1 : Int32)) (9999 : Int32)).bind fun u13 =>
    qfix2 (p_C_spent_l36 f σ (x1 * (360 : Int32)) u13 ) f (0 : Int32) (0 : Int32)
  else
    some (-1000001 : Int32)
def p_Namings_begin (f : Nat) (σ : qMem) (x1 : Int32) (x2 : Int32) : Option (qMem) :=
  if qin x1 12 = true then
  if qin x1 12 = true then
  some (qmu (qmu σ 68 (qi x1) x2) 69 (qi x1) (0 : Int32))
  else none
  else none
def p_Namings_addPatron (f : Nat) (σ : qMem) (x1 : Int32) (x2 : Int32) (x3 : Int32) : Option (qMem) :=
  if qin x1 12 = true then
  if (4 : Int32) ≤ (σ 69 (qi x1)) then
    some σ
  else
    if qin x1 12 = true then
    if qin (σ 69 (qi x1)) 4 = true then
    if qin x1 12 = true then
    if qin (σ 69 (qi x1)) 4 = true then
    if qin x1 12 = true then
    some (qmu (qmu (qmu σ (71 + qi x1) (qi (σ 69 (qi x1))) x2) (84 + qi x1) (qi (σ 69 (qi x1))) x3) 69 (qi x1) ((σ 69 (qi x1)) + (1 : Int32)))
    else none
    else none
    else none
    else none
    else none
  else none
def p_C_vacant_l157 (f : Nat) (x1 : Int32) (x3 : Int32) (x4 : Int32) (x5 : Int32) (k157 : qMem → Int32 → Option (Int32 × qMem)) (σ : qMem) (x6 : Int32) : Option (Int32 × qMem) :=
  if (x4 + ((2 : Int32) * x5)) ≤ x6 then
    (p_C_foundNothing f σ x5).bind fun u1 =>
    some (u1.1, u1.2)
  else
    (p_Sheets_item f σ x3 x6).bind fun u3 =>
    (p_Sheets_item f σ x3 (x6 + (1 : Int32))).bind fun u5 =>
    (p_Namings_addPatron f σ x1 u3 u5).bind fun u7 =>
    k157 u7 (x6 + (2 : Int32))
def p_C_vacant_l82 (f : Nat) (σ : qMem) (x1 : Int32) (x2 : Int32) (x3 : Int32) (x4 : Int32) (x5 : Int32) (k82 : Int32 → Option (Int32 × qMem)) (x6 : Int32) : Option (Int32 × qMem) :=
  if (x4 + ((2 : Int32) * x5)) ≤ x6 then
    (p_Namings_begin f σ x1 x2).bind fun u9 =>
    qfix2 (p_C_vacant_l157 f x1 x3 x4 x5 ) f u9 x4
  else
    (p_Sheets_item f σ x3 x6).bind fun u11 =>
    (p_C_outside f σ u11 (0 : Int32) (9 : Int32)).bind fun u13 =>
    if u13 = 0 then
      (p_Sheets_item f σ x3 (x6 + (1 : Int32))).bind fun u15 =>
      (p_C_outside f σ u15 (1 : Int32) (400 : Int32)).bind fun u17 =>
      if u17 = 0 then
        k82 (x6 + (2 : Int32))
      else
        some ((-1000001 : Int32), σ)
    else
      some ((-1000001 : Int32), σ)
def p_C_vacant (f : Nat) (σ : qMem) (x1 : Int32) (x2 : Int32) (x3 : Int32) (x4 : Int32) (x5 : Int32) : Option (Int32 × qMem) :=
  (p_Promises_has f σ x1).bind fun u19 =>
  if u19 = 0 then
    some ((-1000001 : Int32), σ)
  else
    (p_C_noDay f σ x2).bind fun u21 =>
    if u21 = 0 then
      (p_Sheets_noSuch f σ x3).bind fun u23 =>
      if u23 = 0 then
        (p_C_outside f σ x5 (0 : Int32) (4 : Int32)).bind fun u25 =>
        if u25 = 0 then
          (p_Sheets_missing f σ x3).bind fun u27 =>
          if u27 = 0 then
            (p_Sheets_holds f σ x3 x4 ((2 : Int32) * x5)).bind fun u29 =>
            if u29 = 0 then
              (p_C_found f σ (2 : Int32)).bind fun u31 =>
              some (u31.1, u31.2)
            else
              qfix1 (p_C_vacant_l82 f σ x1 x2 x3 x4 x5 ) f x4
          else
            (p_C_found f σ (1 : Int32)).bind fun u33 =>
            some (u33.1, u33.2)
        else
          some ((-1000001 : Int32), σ)
      else
        some ((-1000001 : Int32), σ)
    else
      some ((-1000001 : Int32), σ)
def p_Namings_whoNames_l34 (f : Nat) (σ : qMem) (x1 : Int32) (x2 : Int32) (k34 : Int32 → Int32 → Option (Int32)) (x3 : Int32) (x4 : Int32) : Option (Int32) :=
  if qin x1 12 = true then
  if (σ 69 (qi x1)) ≤ x4 then
    some (10 : Int32)
  else
    if qin x1 12 = true then
    if qin x4 4 = true then
    if (x3 + (σ (84 + qi x1) (qi x4))) ≤ x2 then
      k34 (x3 + (σ (84 + qi x1) (qi x4))) (x4 + (1 : Int32))
    else
      if qin x1 12 = true then
      if qin x4 4 = true then
      some (σ (71 + qi x1) (qi x4))
      else none
      else none
    else none
    else none
  else none
def p_Namings_whoNames (f : Nat) (σ : qMem) (x1 : Int32) (x2 : Int32) : Option (Int32) :=
  if qin x1 12 = true then
  if (σ 68 (qi x1)) = (-1000000 : Int32) then
    some (-1000000 : Int32)
  else
    if qin x1 12 = true then
    if (σ 68 (qi x1)) ≤ x2 then
      if qin x1 12 = true then
      qfix2 (p_Namings_whoNames_l34 f σ x1 x2 ) f (σ 68 (qi x1)) (0 : Int32)
      else none
    else
      some (-1000000 : Int32)
    else none
  else none
def p_C_turn (f : Nat) (σ : qMem) (x1 : Int32) (x2 : Int32) : Option (Int32) :=
  (p_Promises_has f σ x1).bind fun u1 =>
  if u1 = 0 then
    some (-1000001 : Int32)
  else
    (p_C_noDay f σ x2).bind fun u3 =>
    if u3 = 0 then
      (p_Namings_whoNames f σ x1 x2).bind fun u5 =>
      some u5
    else
      some (-1000001 : Int32)
def p_Acts_full (f : Nat) (σ : qMem) : Option (Int32) :=
  if (σ 37 5) < (10 : Int32) then
    some (0 : Int32)
  else
    some (1 : Int32)
def p_Acts_add (f : Nat) (σ : qMem) (x1 : Int32) (x2 : Int32) (x3 : Int32) (x4 : Int32) : Option (Int32 × qMem) :=
  if qin (σ 37 5) 10 = true then
  if qin ((qmu σ 38 (qi (σ 37 5)) x1) 37 5) 10 = true then
  if qin ((qmu (qmu σ 38 (qi (σ 37 5)) x1) 39 (qi ((qmu σ 38 (qi (σ 37 5)) x1) 37 5)) x2) 37 5) 10 = true then
  if qin ((qmu (qmu (qmu σ 38 (qi (σ 37 5)) x1) 39 (qi ((qmu σ 38 (qi (σ 37 5)) x1) 37 5)) x2) 40 (qi ((qmu (qmu σ 38 (qi (σ 37 5)) x1) 39 (qi ((qmu σ 38 (qi (σ 37 5)) x1) 37 5)) x2) 37 5)) x3) 37 5) 10 = true then
  some (((qmu (qmu (qmu (qmu (qmu σ 38 (qi (σ 37 5)) x1) 39 (qi ((qmu σ 38 (qi (σ 37 5)) x1) 37 5)) x2) 40 (qi ((qmu (qmu σ 38 (qi (σ 37 5)) x1) 39 (qi ((qmu σ 38 (qi (σ 37 5)) x1) 37 5)) x2) 37 5)) x3) 41 (qi ((qmu (qmu (qmu σ 38 (qi (σ 37 5)) x1) 39 (qi ((qmu σ 38 (qi (σ 37 5)) x1) 37 5)) x2) 40 (qi ((qmu (qmu σ 38 (qi (σ 37 5)) x1) 39 (qi ((qmu σ 38 (qi (σ 37 5)) x1) 37 5)) x2) 37 5)) x3) 37 5)) x4) 37 5 (((qmu (qmu (qmu (qmu σ 38 (qi (σ 37 5)) x1) 39 (qi ((qmu σ 38 (qi (σ 37 5)) x1) 37 5)) x2) 40 (qi ((qmu (qmu σ 38 (qi (σ 37 5)) x1) 39 (qi ((qmu σ 38 (qi (σ 37 5)) x1) 37 5)) x2) 37 5)) x3) 41 (qi ((qmu (qmu (qmu σ 38 (qi (σ 37 5)) x1) 39 (qi ((qmu σ 38 (qi (σ 37 5)) x1) 37 5)) x2) 40 (qi ((qmu (qmu σ 38 (qi (σ 37 5)) x1) 39 (qi ((qmu σ 38 (qi (σ 37 5)) x1) 37 5)) x2) 37 5)) x3) 37 5)) x4) 37 5) + (1 : Int32))) 37 5), (qmu (qmu (qmu (qmu (qmu σ 38 (qi (σ 37 5)) x1) 39 (qi ((qmu σ 38 (qi (σ 37 5)) x1) 37 5)) x2) 40 (qi ((qmu (qmu σ 38 (qi (σ 37 5)) x1) 39 (qi ((qmu σ 38 (qi (σ 37 5)) x1) 37 5)) x2) 37 5)) x3) 41 (qi ((qmu (qmu (qmu σ 38 (qi (σ 37 5)) x1) 39 (qi ((qmu σ 38 (qi (σ 37 5)) x1) 37 5)) x2) 40 (qi ((qmu (qmu σ 38 (qi (σ 37 5)) x1) 39 (qi ((qmu σ 38 (qi (σ 37 5)) x1) 37 5)) x2) 37 5)) x3) 37 5)) x4) 37 5 (((qmu (qmu (qmu (qmu σ 38 (qi (σ 37 5)) x1) 39 (qi ((qmu σ 38 (qi (σ 37 5)) x1) 37 5)) x2) 40 (qi ((qmu (qmu σ 38 (qi (σ 37 5)) x1) 39 (qi ((qmu σ 38 (qi (σ 37 5)) x1) 37 5)) x2) 37 5)) x3) 41 (qi ((qmu (qmu (qmu σ 38 (qi (σ 37 5)) x1) 39 (qi ((qmu σ 38 (qi (σ 37 5)) x1) 37 5)) x2) 40 (qi ((qmu (qmu σ 38 (qi (σ 37 5)) x1) 39 (qi ((qmu σ 38 (qi (σ 37 5)) x1) 37 5)) x2) 37 5)) x3) 37 5)) x4) 37 5) + (1 : Int32))))
  else none
  else none
  else none
  else none
def p_C_act (f : Nat) (σ : qMem) (x1 : Int32) (x2 : Int32) (x3 : Int32) (x4 : Int32) : Option (Int32 × qMem) :=
  (p_C_noDay f σ x1).bind fun u1 =>
  if u1 = 0 then
    (p_C_outside f σ x2 (0 : Int32) (99 : Int32)).bind fun u3 =>
    if u3 = 0 then
      (p_C_outside f σ x3 x2 (99 : Int32)).bind fun u5 =>
      if u5 = 0 then
        (p_C_outside f σ x4 (0 : Int32) (1 : Int32)).bind fun u7 =>
        if u7 = 0 then
          (p_Acts_full f σ).bind fun u9 =>
          if u9 = 0 then
            (p_Acts_add f σ x1 x2 x3 x4).bind fun u11 =>
            (p_Lines_judge f u11.2).bind fun u13 =>
            some (u11.1, u13)
          else
            some ((-1000003 : Int32), σ)
        else
          some ((-1000001 : Int32), σ)
      else
        some ((-1000001 : Int32), σ)
    else
      some ((-1000001 : Int32), σ)
  else
    some ((-1000001 : Int32), σ)
def p_C_taken (f : Nat) (σ : qMem) (x1 : Int32) : Option (Int32) :=
  (p_Promises_has f σ x1).bind fun u1 =>
  if u1 = 0 then
    some (-1000001 : Int32)
  else
    (p_Acts_dayOfTaking f σ x1).bind fun u3 =>
    some u3
def p_C_pension_l25 (f : Nat) (σ : qMem) (x1 : Int32) (x2 : Int32) (k25 : Int32 → Int32 → Option (Int32)) (x3 : Int32) (x4 : Int32) : Option (Int32) :=
  (p_Promises_size f σ).bind fun u1 =>
  if u1 ≤ x4 then
    (p_Ma_min f σ x3 (200 : Int32)).bind fun u3 =>
    some u3
  else
    (p_Promises_of f σ x4 (3 : Int32)).bind fun u5 =>
    if u5 = x1 then
      (p_Acts_takenBy f σ x4 x2).bind fun u7 =>
      if u7 = 0 then
        k25 x3 (x4 + (1 : Int32))
      else
        (p_Acts_dayOfTaking f σ x4).bind fun u9 =>
        (p_Ma_max f σ (0 : Int32) ((u9 / (360 : Int32)) - (1 : Int32))).bind fun u11 =>
        (p_C_comesTo f σ x4 u11).bind fun u13 =>
        k25 (x3 + (u13 / (2 : Int32))) (x4 + (1 : Int32))
    else
      k25 x3 (x4 + (1 : Int32))
def p_C_pension (f : Nat) (σ : qMem) (x1 : Int32) (x2 : Int32) : Option (Int32) :=
  (p_C_outside f σ x1 (0 : Int32) (7 : Int32)).bind fun u15 =>
  if u15 = 0 then
    (p_C_noDay f σ x2).bind fun u17 =>
    if u17 = 0 then
      qfix2 (p_C_pension_l25 f σ x1 x2 ) f (0 : Int32) (0 : Int32)
    else
      some (-1000001 : Int32)
  else
    some (-1000001 : Int32)
def p_Houses_bidsFull (f : Nat) (σ : qMem) : Option (Int32) :=
  if (σ 53 10) < (20 : Int32) then
    some (0 : Int32)
  else
    some (1 : Int32)
def p_Houses_addBid (f : Nat) (σ : qMem) (x1 : Int32) (x2 : Int32) (x3 : Int32) : Option (Int32 × qMem) :=
  if qin (σ 53 10) 20 = true then
  if qin ((qmu σ 63 (qi (σ 53 10)) x1) 53 10) 20 = true then
  if qin ((qmu (qmu σ 63 (qi (σ 53 10)) x1) 64 (qi ((qmu σ 63 (qi (σ 53 10)) x1) 53 10)) x2) 53 10) 20 = true then
  some (((qmu (qmu (qmu (qmu σ 63 (qi (σ 53 10)) x1) 64 (qi ((qmu σ 63 (qi (σ 53 10)) x1) 53 10)) x2) 65 (qi ((qmu (qmu σ 63 (qi (σ 53 10)) x1) 64 (qi ((qmu σ 63 (qi (σ 53 10)) x1) 53 10)) x2) 53 10)) x3) 53 10 (((qmu (qmu (qmu σ 63 (qi (σ 53 10)) x1) 64 (qi ((qmu σ 63 (qi (σ 53 10)) x1) 53 10)) x2) 65 (qi ((qmu (qmu σ 63 (qi (σ 53 10)) x1) 64 (qi ((qmu σ 63 (qi (σ 53 10)) x1) 53 10)) x2) 53 10)) x3) 53 10) + (1 : Int32))) 53 10), (qmu (qmu (qmu (qmu σ 63 (qi (σ 53 10)) x1) 64 (qi ((qmu σ 63 (qi (σ 53 10)) x1) 53 10)) x2) 65 (qi ((qmu (qmu σ 63 (qi (σ 53 10)) x1) 64 (qi ((qmu σ 63 (qi (σ 53 10)) x1) 53 10)) x2) 53 10)) x3) 53 10 (((qmu (qmu (qmu σ 63 (qi (σ 53 10)) x1) 64 (qi ((qmu σ 63 (qi (σ 53 10)) x1) 53 10)) x2) 65 (qi ((qmu (qmu σ 63 (qi (σ 53 10)) x1) 64 (qi ((qmu σ 63 (qi (σ 53 10)) x1) 53 10)) x2) 53 10)) x3) 53 10) + (1 : Int32))))
  else none
  else none
  else none
def p_C_bid (f : Nat) (σ : qMem) (x1 : Int32) (x2 : Int32) (x3 : Int32) : Option (Int32 × qMem) :=
  (p_C_noHouse f σ x1).bind fun u1 =>
  if u1 = 0 then
    (p_C_outside f σ x2 (0 : Int32) (9 : Int32)).bind fun u3 =>
    if u3 = 0 then
      (p_C_outside f σ x3 (1 : Int32) (100000 : Int32)).bind fun u5 =>
      if u5 = 0 then
        (p_Houses_bidsFull f σ).bind fun u7 =>
        if u7 = 0 then
          (p_Houses_addBid f σ x1 x2 x3).bind fun u9 =>
          some (u9.1, u9.2)
        else
          some ((-1000003 : Int32), σ)
      else
        some ((-1000001 : Int32), σ)
    else
      some ((-1000001 : Int32), σ)
  else
    some ((-1000001 : Int32), σ)
def p_Acts_wholeHouseTakenBy_l5 (f : Nat) (σ : qMem) (x1 : Int32) (x2 : Int32) (k5 : Int32 → Int32 → Option (Int32)) (x3 : Int32) (x4 : Int32) : Option (Int32) :=
  (p_Promises_size f σ).bind fun u1 =>
  if u1 ≤ x4 then
    some (vp_nar .boolean x3)
  else
    (p_Promises_of f σ x4 (7 : Int32)).bind fun u3 =>
    if u3 = x1 then
      (p_Acts_takenBy f σ x4 x2).bind fun u5 =>
      if u5 = 0 then
        some (0 : Int32)
      else
        k5 (1 : Int32) (x4 + (1 : Int32))
    else
      k5 x3 (x4 + (1 : Int32))
def p_Acts_wholeHouseTakenBy (f : Nat) (σ : qMem) (x1 : Int32) (x2 : Int32) : Option (Int32) :=
  qfix2 (p_Acts_wholeHouseTakenBy_l5 f σ x1 x2 ) f (0 : Int32) (0 : Int32)
def p_Houses_greatestBidder_l8 (f : Nat) (σ : qMem) (x1 : Int32) (k8 : Int32 → Int32 → Int32 → Option (Int32)) (x2 : Int32) (x3 : Int32) (x4 : Int32) : Option (Int32) :=
  if (σ 53 10) ≤ x4 then
    some x2
  else
    if qin x4 20 = true then
    if (σ 63 (qi x4)) = x1 then
      if qin x4 20 = true then
      if (σ 65 (qi x4)) ≤ x3 then
        k8 x2 x3 (x4 + (1 : Int32))
      else
        if qin x4 20 = true then
        if qin x4 20 = true then
        k8 (σ 64 (qi x4)) (σ 65 (qi x4)) (x4 + (1 : Int32))
        else none
        else none
      else none
    else
      k8 x2 x3 (x4 + (1 : Int32))
    else none
def p_Houses_greatestBidder (f : Nat) (σ : qMem) (x1 : Int32) : Option (Int32) :=
  qfix3 (p_Houses_greatestBidder_l8 f σ x1 ) f (-1000000 : Int32) (0 : Int32) (0 : Int32)
def p_C_sold (f : Nat) (σ : qMem) (x1 : Int32) (x2 : Int32) : Option (Int32) :=
  (p_C_noHouse f σ x1).bind fun u1 =>
  if u1 = 0 then
    (p_C_noDay f σ x2).bind fun u3 =>
    if u3 = 0 then
      (p_Acts_wholeHouseTakenBy f σ x1 x2).bind fun u5 =>
      if u5 = 0 then
        some (-1000000 : Int32)
      else
        (p_Houses_greatestBidder f σ x1).bind fun u7 =>
        some u7
    else
      some (-1000001 : Int32)
  else
    some (-1000001 : Int32)
def p_Promises_areThere (f : Nat) (σ : qMem) (x1 : Int32) : Option (Int32) :=
  if x1 ≤ 0 then
    some (0 : Int32)
  else
    if ((1 : Int32) <<< ((σ 13 1) &&& 31)) ≤ x1 then
      some (0 : Int32)
    else
      some (1 : Int32)
def p_In_bitCount (f : Nat) (σ : qMem) (x0 : Int32) : Option (Int32) :=
  some ((((((((x0 - (((x0).toUInt32 >>> (((1 : Int32)).toUInt32 &&& Int32.toUInt32 31)).toInt32 &&& (1431655765 : Int32))) &&& (858993459 : Int32)) + ((((x0 - (((x0).toUInt32 >>> (((1 : Int32)).toUInt32 &&& Int32.toUInt32 31)).toInt32 &&& (1431655765 : Int32)))).toUInt32 >>> (((2 : Int32)).toUInt32 &&& Int32.toUInt32 31)).toInt32 &&& (858993459 : Int32))) + (((((x0 - (((x0).toUInt32 >>> (((1 : Int32)).toUInt32 &&& Int32.toUInt32 31)).toInt32 &&& (1431655765 : Int32))) &&& (858993459 : Int32)) + ((((x0 - (((x0).toUInt32 >>> (((1 : Int32)).toUInt32 &&& Int32.toUInt32 31)).toInt32 &&& (1431655765 : Int32)))).toUInt32 >>> (((2 : Int32)).toUInt32 &&& Int32.toUInt32 31)).toInt32 &&& (858993459 : Int32)))).toUInt32 >>> (((4 : Int32)).toUInt32 &&& Int32.toUInt32 31)).toInt32) &&& (252645135 : Int32)) + (((((((x0 - (((x0).toUInt32 >>> (((1 : Int32)).toUInt32 &&& Int32.toUInt32 31)).toInt32 &&& (1431655765 : Int32))) &&& (858993459 : Int32)) + ((((x0 - (((x0).toUInt32 >>> (((1 : Int32)).toUInt32 &&& Int32.toUInt32 31)).toInt32 &&& (1431655765 : Int32)))).toUInt32 >>> (((2 : Int32)).toUInt32 &&& Int32.toUInt32 31)).toInt32 &&& (858993459 : Int32))) + (((((x0 - (((x0).toUInt32 >>> (((1 : Int32)).toUInt32 &&& Int32.toUInt32 31)).toInt32 &&& (1431655765 : Int32))) &&& (858993459 : Int32)) + ((((x0 - (((x0).toUInt32 >>> (((1 : Int32)).toUInt32 &&& Int32.toUInt32 31)).toInt32 &&& (1431655765 : Int32)))).toUInt32 >>> (((2 : Int32)).toUInt32 &&& Int32.toUInt32 31)).toInt32 &&& (858993459 : Int32)))).toUInt32 >>> (((4 : Int32)).toUInt32 &&& Int32.toUInt32 31)).toInt32) &&& (252645135 : Int32))).toUInt32 >>> (((8 : Int32)).toUInt32 &&& Int32.toUInt32 31)).toInt32) + ((((((((x0 - (((x0).toUInt32 >>> (((1 : Int32)).toUInt32 &&& Int32.toUInt32 31)).toInt32 &&& (1431655765 : Int32))) &&& (858993459 : Int32)) + ((((x0 - (((x0).toUInt32 >>> (((1 : Int32)).toUInt32 &&& Int32.toUInt32 31)).toInt32 &&& (1431655765 : Int32)))).toUInt32 >>> (((2 : Int32)).toUInt32 &&& Int32.toUInt32 31)).toInt32 &&& (858993459 : Int32))) + (((((x0 - (((x0).toUInt32 >>> (((1 : Int32)).toUInt32 &&& Int32.toUInt32 31)).toInt32 &&& (1431655765 : Int32))) &&& (858993459 : Int32)) + ((((x0 - (((x0).toUInt32 >>> (((1 : Int32)).toUInt32 &&& Int32.toUInt32 31)).toInt32 &&& (1431655765 : Int32)))).toUInt32 >>> (((2 : Int32)).toUInt32 &&& Int32.toUInt32 31)).toInt32 &&& (858993459 : Int32)))).toUInt32 >>> (((4 : Int32)).toUInt32 &&& Int32.toUInt32 31)).toInt32) &&& (252645135 : Int32)) + (((((((x0 - (((x0).toUInt32 >>> (((1 : Int32)).toUInt32 &&& Int32.toUInt32 31)).toInt32 &&& (1431655765 : Int32))) &&& (858993459 : Int32)) + ((((x0 - (((x0).toUInt32 >>> (((1 : Int32)).toUInt32 &&& Int32.toUInt32 31)).toInt32 &&& (1431655765 : Int32)))).toUInt32 >>> (((2 : Int32)).toUInt32 &&& Int32.toUInt32 31)).toInt32 &&& (858993459 : Int32))) + (((((x0 - (((x0).toUInt32 >>> (((1 : Int32)).toUInt32 &&& Int32.toUInt32 31)).toInt32 &&& (1431655765 : Int32))) &&& (858993459 : Int32)) + ((((x0 - (((x0).toUInt32 >>> (((1 : Int32)).toUInt32 &&& Int32.toUInt32 31)).toInt32 &&& (1431655765 : Int32)))).toUInt32 >>> (((2 : Int32)).toUInt32 &&& Int32.toUInt32 31)).toInt32 &&& (858993459 : Int32)))).toUInt32 >>> (((4 : Int32)).toUInt32 &&& Int32.toUInt32 31)).toInt32) &&& (252645135 : Int32))).toUInt32 >>> (((8 : Int32)).toUInt32 &&& Int32.toUInt32 31)).toInt32)).toUInt32 >>> (((16 : Int32)).toUInt32 &&& Int32.toUInt32 31)).toInt32) &&& (63 : Int32))
def p_Dawn_canAllHaveAnHour_l18 (f : Nat) (x1 : Int32) (k18 : qMem → Int32 → Option (Int32 × qMem)) (σ : qMem) (x2 : Int32) : Option (Int32 × qMem) :=
  if (σ 96 6) ≤ x2 then
    some ((1 : Int32), σ)
  else
    if ((x1 >>> (x2 &&& 31)) &&& (1 : Int32)) = (1 : Int32) then
      if qin x2 8 = true then
      (p_Promises_of f σ (σ 97 (qi x2)) (2 : Int32)).bind fun u2 =>
      if qin x2 8 = true then
      (p_Promises_of f σ (σ 97 (qi x2)) (3 : Int32)).bind fun u5 =>
      if qin u2 4 = true then
      if qin u2 4 = true then
      if qin u5 8 = true then
      if qin u5 8 = true then
      if qin x2 8 = true then
      if ((qmu (qmu σ 101 (qi u2) ((σ 101 (qi u2)) + (1 : Int32))) 102 (qi u5) (((qmu σ 101 (qi u2) ((σ 101 (qi u2)) + (1 : Int32))) 102 (qi u5)) + (1 : Int32))) 99 (qi x2)) = 0 then
        if qin u2 4 = true then
        if (5 : Int32) < ((qmu (qmu σ 101 (qi u2) ((σ 101 (qi u2)) + (1 : Int32))) 102 (qi u5) (((qmu σ 101 (qi u2) ((σ 101 (qi u2)) + (1 : Int32))) 102 (qi u5)) + (1 : Int32))) 101 (qi u2)) then
          some ((0 : Int32), (qmu (qmu σ 101 (qi u2) ((σ 101 (qi u2)) + (1 : Int32))) 102 (qi u5) (((qmu σ 101 (qi u2) ((σ 101 (qi u2)) + (1 : Int32))) 102 (qi u5)) + (1 : Int32))))
        else
          if qin u5 8 = true then
          if qin u5 8 = true then
          if ((qmu (qmu σ 101 (qi u2) ((σ 101 (qi u2)) + (1 : Int32))) 102 (qi u5) (((qmu σ 101 (qi u2) ((σ 101 (qi u2)) + (1 : Int32))) 102 (qi u5)) + (1 : Int32))) 102 (qi u5)) ≤ ((qmu (qmu σ 101 (qi u2) ((σ 101 (qi u2)) + (1 : Int32))) 102 (qi u5) (((qmu σ 101 (qi u2) ((σ 101 (qi u2)) + (1 : Int32))) 102 (qi u5)) + (1 : Int32))) 32 (qi u5)) then
            k18 (qmu (qmu σ 101 (qi u2) ((σ 101 (qi u2)) + (1 : Int32))) 102 (qi u5) (((qmu σ 101 (qi u2) ((σ 101 (qi u2)) + (1 : Int32))) 102 (qi u5)) + (1 : Int32))) (x2 + (1 : Int32))
          else
            some ((0 : Int32), (qmu (qmu σ 101 (qi u2) ((σ 101 (qi u2)) + (1 : Int32))) 102 (qi u5) (((qmu σ 101 (qi u2) ((σ 101 (qi u2)) + (1 : Int32))) 102 (qi u5)) + (1 : Int32))))
          else none
          else none
        else none
      else
        some ((0 : Int32), (qmu (qmu σ 101 (qi u2) ((σ 101 (qi u2)) + (1 : Int32))) 102 (qi u5) (((qmu σ 101 (qi u2) ((σ 101 (qi u2)) + (1 : Int32))) 102 (qi u5)) + (1 : Int32))))
      else none
      else none
      else none
      else none
      else none
      else none
      else none
    else
      k18 σ (x2 + (1 : Int32))
def p_Dawn_canAllHaveAnHour (f : Nat) (σ : qMem) (x1 : Int32) : Option (Int32 × qMem) :=
  (p_Ar_fill f σ 101 4 (0 : Int32)).bind fun u15 =>
  (p_Ar_fill f u15 102 8 (0 : Int32)).bind fun u17 =>
  qfix2 (p_Dawn_canAllHaveAnHour_l18 f x1 ) f u17 (0 : Int32)
def p_Dawn_findLargest_l60 (f : Nat) (k60 : qMem → Int32 → Option (qMem)) (σ : qMem) (x1 : Int32) : Option (qMem) :=
  if ((1 : Int32) <<< ((σ 96 6) &&& 31)) ≤ x1 then
    some σ
  else
    if qin x1 256 = true then
    if (σ 100 (qi x1)) = 0 then
      if qin x1 256 = true then
      k60 (qmu σ 100 (qi x1) (vp_nar .boolean (0 : Int32))) (x1 + (1 : Int32))
      else none
    else
      (p_In_bitCount f σ x1).bind fun u3 =>
      if u3 = (σ 96 8) then
        if qin x1 256 = true then
        k60 (qmu σ 100 (qi x1) (vp_nar .boolean (1 : Int32))) (x1 + (1 : Int32))
        else none
      else
        if qin x1 256 = true then
        k60 (qmu σ 100 (qi x1) (vp_nar .boolean (0 : Int32))) (x1 + (1 : Int32))
        else none
    else none
def p_Dawn_findLargest_l7 (f : Nat) (k7 : qMem → Int32 → Option (qMem)) (σ : qMem) (x1 : Int32) : Option (qMem) :=
  if ((1 : Int32) <<< ((σ 96 6) &&& 31)) ≤ x1 then
    qfix2 (p_Dawn_findLargest_l60 f ) f σ (0 : Int32)
  else
    (p_Dawn_canAllHaveAnHour f σ x1).bind fun u7 =>
    if qin x1 256 = true then
    if qin x1 256 = true then
    if ((qmu u7.2 100 (qi x1) (vp_nar .boolean u7.1)) 100 (qi x1)) = 0 then
      k7 (qmu u7.2 100 (qi x1) (vp_nar .boolean u7.1)) (x1 + (1 : Int32))
    else
      (p_In_bitCount f (qmu u7.2 100 (qi x1) (vp_nar .boolean u7.1)) x1).bind fun u11 =>
      (p_Ma_max f (qmu u7.2 100 (qi x1) (vp_nar .boolean u7.1)) ((qmu u7.2 100 (qi x1) (vp_nar .boolean u7.1)) 96 8) u11).bind fun u13 =>
      k7 (qmu (qmu u7.2 100 (qi x1) (vp_nar .boolean u7.1)) 96 8 u13) (x1 + (1 : Int32))
    else none
    else none
def p_Dawn_findLargest (f : Nat) (σ : qMem) : Option (qMem) :=
  qfix2 (p_Dawn_findLargest_l7 f ) f (qmu σ 96 8 (0 : Int32)) (0 : Int32)
def p_Dawn_leadsToLargest_l9 (f : Nat) (σ : qMem) (x1 : Int32) (x3 : Int32) (k9 : Int32 → Option (Int32)) (x4 : Int32) : Option (Int32) :=
  if ((1 : Int32) <<< ((σ 96 6) &&& 31)) ≤ x4 then
    some (0 : Int32)
  else
    if qin x4 256 = true then
    if (σ 100 (qi x4)) = 0 then
      k9 (x4 + (1 : Int32))
    else
      if (x4 &&& x3) = x1 then
        some (1 : Int32)
      else
        k9 (x4 + (1 : Int32))
    else none
def p_Dawn_leadsToLargest (f : Nat) (σ : qMem) (x1 : Int32) (x2 : Int32) : Option (Int32) :=
  qfix1 (p_Dawn_leadsToLargest_l9 f σ x1 (((1 : Int32) <<< (x2 &&& 31)) - (1 : Int32)) ) f (0 : Int32)
def p_Dawn_alike (f : Nat) (σ : qMem) (x1 : Int32) (x2 : Int32) (x3 : Int32) : Option (Int32) :=
  if qin x1 8 = true then
  (p_Promises_of f σ (σ 97 (qi x1)) x3).bind fun u2 =>
  if qin x2 8 = true then
  (p_Promises_of f σ (σ 97 (qi x2)) x3).bind fun u5 =>
  if u2 = u5 then
    some (1 : Int32)
  else
    some (0 : Int32)
  else none
  else none
def p_Dawn_isFree_l2 (f : Nat) (σ : qMem) (x1 : Int32) (x2 : Int32) (k2 : Int32 → Option (Int32)) (x3 : Int32) : Option (Int32) :=
  if x1 ≤ x3 then
    some (1 : Int32)
  else
    if qin x3 8 = true then
    if (σ 98 (qi x3)) = x2 then
      (p_Dawn_alike f σ x3 x1 (2 : Int32)).bind fun u2 =>
      if u2 = 0 then
        (p_Dawn_alike f σ x3 x1 (3 : Int32)).bind fun u4 =>
        if u4 = 0 then
          k2 (x3 + (1 : Int32))
        else
          some (0 : Int32)
      else
        some (0 : Int32)
    else
      k2 (x3 + (1 : Int32))
    else none
def p_Dawn_isFree (f : Nat) (σ : qMem) (x1 : Int32) (x2 : Int32) : Option (Int32) :=
  qfix1 (p_Dawn_isFree_l2 f σ x1 x2 ) f (0 : Int32)
def p_Dawn_dealFrom_b73 (f : Nat) (rec_dealFrom : qMem → Int32 → Int32 → Option (Int32 × qMem)) (σ : qMem) (x1 : Int32) (x2 : Int32) : Option (Int32 × qMem) :=
  if qin x1 8 = true then
  (p_Dawn_leadsToLargest f (qmu σ 98 (qi x1) (-1000000 : Int32)) x2 (x1 + (1 : Int32))).bind fun u2 =>
  if u2 = 0 then
    some ((0 : Int32), (qmu σ 98 (qi x1) (-1000000 : Int32)))
  else
    (rec_dealFrom (qmu σ 98 (qi x1) (-1000000 : Int32)) (x1 + (1 : Int32)) x2).bind fun u4 =>
    if u4.1 = 0 then
      some ((0 : Int32), u4.2)
    else
      some ((1 : Int32), u4.2)
  else none
def p_Dawn_dealFrom_l30 (f : Nat) (rec_dealFrom : qMem → Int32 → Int32 → Option (Int32 × qMem)) (x1 : Int32) (x2 : Int32) (x3 : Int32) (k30 : qMem → Int32 → Option (Int32 × qMem)) (σ : qMem) (x4 : Int32) : Option (Int32 × qMem) :=
  if (5 : Int32) ≤ x4 then
    p_Dawn_dealFrom_b73 f rec_dealFrom σ x1 x2
  else
    (p_Dawn_isFree f σ x1 x4).bind fun u6 =>
    if u6 = 0 then
      k30 σ (x4 + (1 : Int32))
    else
      if qin x1 8 = true then
      (rec_dealFrom (qmu σ 98 (qi x1) x4) (x1 + (1 : Int32)) x3).bind fun u9 =>
      if u9.1 = 0 then
        k30 u9.2 (x4 + (1 : Int32))
      else
        some ((1 : Int32), u9.2)
      else none
def p_Dawn_dealFrom_body (f : Nat) (rec_dealFrom : qMem → Int32 → Int32 → Option (Int32 × qMem)) (σ : qMem) (x1 : Int32) (x2 : Int32) : Option (Int32 × qMem) :=
  if x1 < (σ 96 6) then
    (p_Dawn_leadsToLargest f σ (x2 ||| ((1 : Int32) <<< (x1 &&& 31))) (x1 + (1 : Int32))).bind fun u11 =>
    if u11 = 0 then
      p_Dawn_dealFrom_b73 f rec_dealFrom σ x1 x2
    else
      qfix2 (p_Dawn_dealFrom_l30 f rec_dealFrom x1 x2 (x2 ||| ((1 : Int32) <<< (x1 &&& 31))) ) f σ (0 : Int32)
  else
    some ((1 : Int32), σ)
def p_Dawn_dealFrom (f : Nat) : Nat → qMem → Int32 → Int32 → Option (Int32 × qMem)
  | 0 => fun _ _ _ => none
  | n + 1 => p_Dawn_dealFrom_body f (p_Dawn_dealFrom f n)
def p_Dawn_deal_b88 (f : Nat) (σ : qMem) : Option (qMem) :=
  (p_Dawn_findLargest f σ).bind fun u1 =>
  (p_Dawn_dealFrom f 10 u1 (0 : Int32) (0 : Int32)).bind fun u3 =>
  some u3.2
def p_Dawn_deal_l7 (f : Nat) (x1 : Int32) (x2 : Int32) (k7 : qMem → Int32 → Option (qMem)) (σ : qMem) (x3 : Int32) : Option (qMem) :=
  (p_Promises_size f σ).bind fun u5 =>
  if u5 ≤ x3 then
    p_Dawn_deal_b88 f σ
  else
    if (8 : Int32) ≤ (σ 96 6) then
      p_Dawn_deal_b88 f σ
    else
      if ((x1 >>> (x3 &&& 31)) &&& (1 : Int32)) = (1 : Int32) then
        if qin (σ 96 6) 8 = true then
        (p_Promises_of f (qmu σ 97 (qi (σ 96 6)) x3) x3 (3 : Int32)).bind fun u8 =>
        (p_Spans_covers_33 f (qmu σ 97 (qi (σ 96 6)) x3) u8 x2).bind fun u10 =>
        if qin ((qmu σ 97 (qi (σ 96 6)) x3) 96 6) 8 = true then
        k7 (qmu (qmu (qmu σ 97 (qi (σ 96 6)) x3) 99 (qi ((qmu σ 97 (qi (σ 96 6)) x3) 96 6)) (vp_nar .boolean u10)) 96 6 (((qmu (qmu σ 97 (qi (σ 96 6)) x3) 99 (qi ((qmu σ 97 (qi (σ 96 6)) x3) 96 6)) (vp_nar .boolean u10)) 96 6) + (1 : Int32))) (x3 + (1 : Int32))
        else none
        else none
      else
        k7 σ (x3 + (1 : Int32))
def p_Dawn_deal (f : Nat) (σ : qMem) (x1 : Int32) (x2 : Int32) : Option (qMem) :=
  qfix2 (p_Dawn_deal_l7 f x1 x2 ) f (qmu σ 96 6 (0 : Int32)) (0 : Int32)
def p_Dawn_howMany (f : Nat) (σ : qMem) : Option (Int32) :=
  some (σ 96 8)
def p_Dawn_hourOf_l2 (f : Nat) (σ : qMem) (x1 : Int32) (k2 : Int32 → Option (Int32)) (x2 : Int32) : Option (Int32) :=
  if (σ 96 6) ≤ x2 then
    some (-1000000 : Int32)
  else
    if qin x2 8 = true then
    if (σ 97 (qi x2)) = x1 then
      if qin x2 8 = true then
      some (σ 98 (qi x2))
      else none
    else
      k2 (x2 + (1 : Int32))
    else none
def p_Dawn_hourOf (f : Nat) (σ : qMem) (x1 : Int32) : Option (Int32) :=
  qfix1 (p_Dawn_hourOf_l2 f σ x1 ) f (0 : Int32)
def p_C_dawn_b50 (f : Nat) (σ : qMem) (x1 : Int32) (x2 : Int32) (x3 : Int32) : Option (Int32 × qMem) :=
  (p_Dawn_deal f σ x1 x2).bind fun u1 =>
  if x3 = (-1000000 : Int32) then
    (p_Dawn_howMany f u1).bind fun u5 =>
    some (u5, u1)
  else
    (p_Dawn_hourOf f u1 x3).bind fun u3 =>
    some (u3, u1)
def p_C_dawn (f : Nat) (σ : qMem) (x1 : Int32) (x2 : Int32) (x3 : Int32) : Option (Int32 × qMem) :=
  (p_Promises_areThere f σ x1).bind fun u7 =>
  if u7 = 0 then
    some ((-1000001 : Int32), σ)
  else
    (p_In_bitCount f σ x1).bind fun u9 =>
    if (8 : Int32) < u9 then
      some ((-1000001 : Int32), σ)
    else
      (p_C_noDay f σ x2).bind fun u11 =>
      if u11 = 0 then
        if x3 = (-1000000 : Int32) then
          p_C_dawn_b50 f σ x1 x2 x3
        else
          (p_C_outside f σ x3 (0 : Int32) (11 : Int32)).bind fun u13 =>
          if u13 = 0 then
            p_C_dawn_b50 f σ x1 x2 x3
          else
            some ((-1000001 : Int32), σ)
      else
        some ((-1000001 : Int32), σ)
def p_C_day (f : Nat) (σ : qMem) (x1 : Int32) : Option (Int32 × qMem) :=
  (p_C_noDay f σ x1).bind fun u1 =>
  if u1 = 0 then
    some ((σ 0 15), (qmu σ 0 15 x1))
  else
    some ((-1000001 : Int32), σ)
def p_C_kindToday (f : Nat) (σ : qMem) (x1 : Int32) : Option (Int32) :=
  (p_Acts_ended f σ x1 (σ 0 15)).bind fun u1 =>
  if u1 = 0 then
    (p_Promises_isObit f σ x1).bind fun u3 =>
    if u3 = 0 then
      (p_Joins_otherOf f σ x1 (σ 0 15)).bind fun u5 =>
      if u5 = (-1000000 : Int32) then
        some (1 : Int32)
      else
        some (2 : Int32)
    else
      some (3 : Int32)
  else
    some (4 : Int32)
def p_C_kind (f : Nat) (σ : qMem) (x1 : Int32) : Option (Int32) :=
  (p_Promises_has f σ x1).bind fun u1 =>
  if u1 = 0 then
    some (-1000001 : Int32)
  else
    (p_C_kindToday f σ x1).bind fun u3 =>
    some u3
def p_C_as_b48 (f : Nat) (σ : qMem) (x1 : Int32) : Option (Int32 × qMem) :=
  (p_Promises_of f σ x1 (1 : Int32)).bind fun u1 =>
  (p_C_foundNothing f σ u1).bind fun u3 =>
  some (u3.1, u3.2)
def p_C_as_b62 (f : Nat) (σ : qMem) : Option (Int32 × qMem) :=
  (p_C_found f σ (3 : Int32)).bind fun u5 =>
  some (u5.1, u5.2)
def p_C_as (f : Nat) (σ : qMem) (x1 : Int32) (x2 : Int32) : Option (Int32 × qMem) :=
  (p_Promises_has f σ x1).bind fun u7 =>
  if u7 = 0 then
    some ((-1000001 : Int32), σ)
  else
    (p_C_outside f σ x2 (0 : Int32) (4 : Int32)).bind fun u9 =>
    if u9 = 0 then
      (p_C_kindToday f σ x1).bind fun u11 =>
      if x2 = 0 then
        p_C_as_b48 f σ x1
      else
        if x2 = u11 then
          p_C_as_b48 f σ x1
        else
          if x2 = (1 : Int32) then
            if u11 = (2 : Int32) then
              p_C_as_b48 f σ x1
            else
              p_C_as_b62 f σ
          else
            p_C_as_b62 f σ
    else
      some ((-1000001 : Int32), σ)
def p_C_leaveInTrace (f : Nat) (σ : qMem) (x1 : Int32) : Option (qMem) :=
  if (16 : Int32) ≤ (σ 0 14) then
    some σ
  else
    if qin (σ 0 14) 16 = true then
    some (qmu (qmu σ 103 (qi (σ 0 14)) x1) 0 14 (((qmu σ 103 (qi (σ 0 14)) x1) 0 14) + (1 : Int32)))
    else none
def p_C_sizeAs_body (f : Nat) (rec_sizeAs : qMem → Int32 → Int32 → Int32 → Option (Int32 × qMem)) (rec_markAs : qMem → Int32 → Int32 → Int32 → Option (Int32 × qMem)) (σ : qMem) (x1 : Int32) (x2 : Int32) (x3 : Int32) : Option (Int32 × qMem) :=
  if x3 ≤ (16 : Int32) then
    if x1 = (1 : Int32) then
      (p_C_leaveInTrace f σ (11 : Int32)).bind fun u1 =>
      (rec_sizeAs u1 (0 : Int32) x2 (x3 + (1 : Int32))).bind fun u3 =>
      (p_C_owedTill f u3.2 x2 (u3.2 0 15)).bind fun u5 =>
      some ((u3.1 + u5), u3.2)
    else if x1 = (2 : Int32) then
      (p_C_leaveInTrace f σ (12 : Int32)).bind fun u7 =>
      (rec_sizeAs u7 (1 : Int32) x2 (x3 + (1 : Int32))).bind fun u9 =>
      some (((2 : Int32) * u9.1), u9.2)
    else if x1 = (3 : Int32) then
      (p_C_leaveInTrace f σ (13 : Int32)).bind fun u11 =>
      (rec_sizeAs u11 (0 : Int32) x2 (x3 + (1 : Int32))).bind fun u13 =>
      (p_Promises_of f u13.2 x2 (9 : Int32)).bind fun u15 =>
      some ((u13.1 + u15), u13.2)
    else if x1 = (4 : Int32) then
      (p_C_leaveInTrace f σ (14 : Int32)).bind fun u17 =>
      (rec_markAs u17 x1 x2 (x3 + (1 : Int32))).bind fun u19 =>
      some (((0 : Int32) - u19.1), u19.2)
    else
      (p_C_leaveInTrace f σ (10 : Int32)).bind fun u21 =>
      (p_Promises_of f u21 x2 (4 : Int32)).bind fun u23 =>
      some (u23, u21)
  else
    some ((0 : Int32), σ)
def p_C_markAs_body (f : Nat) (rec_sizeAs : qMem → Int32 → Int32 → Int32 → Option (Int32 × qMem)) (rec_markAs : qMem → Int32 → Int32 → Int32 → Option (Int32 × qMem)) (σ : qMem) (x1 : Int32) (x2 : Int32) (x3 : Int32) : Option (Int32 × qMem) :=
  if x3 ≤ (16 : Int32) then
    if x1 = (1 : Int32) then
      (p_C_leaveInTrace f σ (21 : Int32)).bind fun u1 =>
      (rec_markAs u1 (0 : Int32) x2 (x3 + (1 : Int32))).bind fun u3 =>
      (p_Promises_of f u3.2 x2 (2 : Int32)).bind fun u5 =>
      some ((u3.1 + ((100 : Int32) * u5)), u3.2)
    else if x1 = (2 : Int32) then
      (p_C_leaveInTrace f σ (22 : Int32)).bind fun u7 =>
      (rec_markAs u7 (1 : Int32) x2 (x3 + (1 : Int32))).bind fun u9 =>
      (p_Joins_otherOf f u9.2 x2 (u9.2 0 15)).bind fun u11 =>
      some ((u9.1 + u11), u9.2)
    else if x1 = (3 : Int32) then
      (p_C_leaveInTrace f σ (23 : Int32)).bind fun u13 =>
      (rec_markAs u13 (0 : Int32) x2 (x3 + (1 : Int32))).bind fun u15 =>
      (rec_sizeAs u15.2 x1 x2 (x3 + (1 : Int32))).bind fun u17 =>
      some ((u15.1 + u17.1), u17.2)
    else
      (p_C_leaveInTrace f σ (20 : Int32)).bind fun u19 =>
      (p_Promises_of f u19 x2 (1 : Int32)).bind fun u21 =>
      some (u21, u19)
  else
    some ((0 : Int32), σ)
def p_C_grp (f : Nat) : Nat → (qMem → Int32 → Int32 → Int32 → Option (Int32 × qMem)) × (qMem → Int32 → Int32 → Int32 → Option (Int32 × qMem))
  | 0 => (fun _ _ _ _ => none, fun _ _ _ _ => none)
  | n + 1 => (p_C_sizeAs_body f (p_C_grp f n).1 (p_C_grp f n).2, p_C_markAs_body f (p_C_grp f n).1 (p_C_grp f n).2)
def p_C_sizeAs (f n : Nat) : qMem → Int32 → Int32 → Int32 → Option (Int32 × qMem) := (p_C_grp f n).1
def p_C_markAs (f n : Nat) : qMem → Int32 → Int32 → Int32 → Option (Int32 × qMem) := (p_C_grp f n).2
def p_C_ask (f : Nat) (σ : qMem) (x1 : Int32) (x2 : Int32) : Option (Int32 × qMem) :=
  (p_Promises_has f σ x1).bind fun u1 =>
  if u1 = 0 then
    some ((-1000001 : Int32), σ)
  else
    (p_C_outside f σ x2 (0 : Int32) (1 : Int32)).bind fun u3 =>
    if u3 = 0 then
      (p_C_kindToday f (qmu σ 0 14 (0 : Int32)) x1).bind fun u5 =>
      if x2 = 0 then
        (p_C_sizeAs f 8 (qmu σ 0 14 (0 : Int32)) u5 x1 (0 : Int32)).bind fun u9 =>
        some (u9.1, u9.2)
      else
        (p_C_markAs f 8 (qmu σ 0 14 (0 : Int32)) u5 x1 (0 : Int32)).bind fun u7 =>
        some (u7.1, u7.2)
    else
      some ((-1000001 : Int32), σ)
def p_C_trace (f : Nat) (σ : qMem) (x1 : Int32) : Option (Int32) :=
  (p_C_outside f σ x1 (0 : Int32) ((σ 0 14) - (1 : Int32))).bind fun u1 =>
  if u1 = 0 then
    if qin x1 16 = true then
    some (σ 103 (qi x1))
    else none
  else
    some (-1000000 : Int32)
def p_Sheets_howMany_l4 (f : Nat) (σ : qMem) (k4 : Int32 → Int32 → Option (Int32)) (x1 : Int32) (x2 : Int32) : Option (Int32) :=
  if (8 : Int32) ≤ x2 then
    some x1
  else
    (p_Sheets_missing f σ x2).bind fun u1 =>
    if u1 = 0 then
      k4 (x1 + (1 : Int32)) (x2 + (1 : Int32))
    else
      k4 x1 (x2 + (1 : Int32))
def p_Sheets_howMany (f : Nat) (σ : qMem) : Option (Int32) :=
  qfix2 (p_Sheets_howMany_l4 f σ ) f (0 : Int32) (0 : Int32)
def p_Feasts_size (f : Nat) (σ : qMem) : Option (Int32) :=
  some (σ 29 3)
def p_Lines_howManyGood_l4 (f : Nat) (σ : qMem) (k4 : Int32 → Int32 → Option (Int32)) (x1 : Int32) (x2 : Int32) : Option (Int32) :=
  if (σ 42 9) ≤ x2 then
    some x1
  else
    if qin x2 60 = true then
    if (σ 46 (qi x2)) = 0 then
      k4 (x1 + (0 : Int32)) (x2 + (1 : Int32))
    else
      k4 (x1 + (1 : Int32)) (x2 + (1 : Int32))
    else none
def p_Lines_howManyGood (f : Nat) (σ : qMem) : Option (Int32) :=
  qfix2 (p_Lines_howManyGood_l4 f σ ) f (0 : Int32) (0 : Int32)
def p_C_howManyGone_l4 (f : Nat) (σ : qMem) (k4 : Int32 → Int32 → Option (Int32)) (x1 : Int32) (x2 : Int32) : Option (Int32) :=
  (p_Promises_size f σ).bind fun u1 =>
  if u1 ≤ x2 then
    some x1
  else
    (p_C_kindToday f σ x2).bind fun u3 =>
    if u3 = (4 : Int32) then
      k4 (x1 + (1 : Int32)) (x2 + (1 : Int32))
    else
      k4 x1 (x2 + (1 : Int32))
def p_C_howManyGone (f : Nat) (σ : qMem) : Option (Int32) :=
  qfix2 (p_C_howManyGone_l4 f σ ) f (0 : Int32) (0 : Int32)
def p_Acts_size (f : Nat) (σ : qMem) : Option (Int32) :=
  some (σ 37 5)
def p_Houses_howManyBids (f : Nat) (σ : qMem) : Option (Int32) :=
  some (σ 53 10)
def p_Deeds_size (f : Nat) (σ : qMem) : Option (Int32) :=
  some (σ 27 1)
def p_C_all (f : Nat) (σ : qMem) (x1 : Int32) : Option (Int32) :=
  if x1 = (0 : Int32) then
    (p_Sheets_howMany f σ).bind fun u1 =>
    some u1
  else if x1 = (1 : Int32) then
    (p_Promises_size f σ).bind fun u3 =>
    some u3
  else if x1 = (2 : Int32) then
    (p_Feasts_size f σ).bind fun u5 =>
    some u5
  else if x1 = (3 : Int32) then
    (p_Lines_size f σ).bind fun u7 =>
    some u7
  else if x1 = (4 : Int32) then
    (p_Lines_howManyGood f σ).bind fun u9 =>
    some u9
  else if x1 = (5 : Int32) then
    (p_C_howManyGone f σ).bind fun u11 =>
    some u11
  else if x1 = (6 : Int32) then
    (p_Acts_size f σ).bind fun u13 =>
    some u13
  else if x1 = (7 : Int32) then
    (p_Houses_howManyBids f σ).bind fun u15 =>
    some u15
  else if x1 = (8 : Int32) then
    (p_Deeds_size f σ).bind fun u17 =>
    some u17
  else
    some (-1000001 : Int32)
def p_C_status (f : Nat) (σ : qMem) : Option (Int32) :=
  some (σ 0 16)
def p_M_in (f : Nat) (σ : qMem) (x0 : Int64) (x2 : Int64) (x4 : Int64) : Option (Int32) :=
  if (lg_cmp x0 x2) < 0 then
    some (0 : Int32)
  else
    if 0 < (lg_cmp x0 x4) then
      some (0 : Int32)
    else
      some (1 : Int32)
def p_M_isSheet (f : Nat) (σ : qMem) (x0 : Int32) : Option (Int32) :=
  (p_M_in f σ (x0).toInt64 (0 : Int64) (7 : Int64)).bind fun u1 =>
  some (vp_nar .boolean u1)
def p_M_finding (f : Nat) (σ : qMem) (x1 : Int32) : Option (Int32 × qMem) :=
  some (((-1000010 : Int32) - x1), (qmu σ 104 1 x1))
def p_M_sheet_l65 (f : Nat) (x1 : Int32) (x3 : Int32) (k65 : qMem → Int32 → Option (Int32 × qMem)) (σ : qMem) (x4 : Int32) : Option (Int32 × qMem) :=
  if (60 : Int32) ≤ x4 then
    some (x3, σ)
  else
    if qin (((60 : Int32) * x1) + x4) 480 = true then
    k65 (qmu σ 107 (qi (((60 : Int32) * x1) + x4)) (0 : Int32)) (x4 + (1 : Int32))
    else none
def p_M_sheet (f : Nat) (σ : qMem) (x1 : Int32) (x2 : Int32) (x3 : Int32) : Option (Int32 × qMem) :=
  (p_M_isSheet f (qmu σ 104 0 (0 : Int32)) x1).bind fun u2 =>
  if u2 = 0 then
    some ((-1000001 : Int32), (qmu σ 104 0 (0 : Int32)))
  else
    (p_M_in f (qmu σ 104 0 (0 : Int32)) (x2).toInt64 (0 : Int64) (2 : Int64)).bind fun u4 =>
    if u4 = 0 then
      some ((-1000001 : Int32), (qmu σ 104 0 (0 : Int32)))
    else
      if x3 ≤ (60 : Int32) then
        if 0 ≤ x3 then
          if qin x1 8 = true then
          if qin x1 8 = true then
          qfix2 (p_M_sheet_l65 f x1 x3 ) f (qmu (qmu (qmu (qmu σ 104 0 (0 : Int32)) 104 1 (0 : Int32)) 105 (qi x1) x2) 106 (qi x1) x3) (0 : Int32)
          else none
          else none
        else
          (p_M_finding f (qmu (qmu σ 104 0 (0 : Int32)) 104 1 (0 : Int32)) (4 : Int32)).bind fun u8 =>
          some (u8.1, u8.2)
      else
        some ((-1000001 : Int32), (qmu σ 104 0 (0 : Int32)))
def p_M_set (f : Nat) (σ : qMem) (x1 : Int32) (x2 : Int32) (x3 : Int32) : Option (Int32 × qMem) :=
  (p_M_isSheet f (qmu σ 104 0 (0 : Int32)) x1).bind fun u1 =>
  if u1 = 0 then
    some ((-1000001 : Int32), (qmu σ 104 0 (0 : Int32)))
  else
    if qin x1 8 = true then
    if 0 ≤ ((qmu (qmu σ 104 0 (0 : Int32)) 104 1 (0 : Int32)) 105 (qi x1)) then
      if qin x1 8 = true then
      (p_M_in f (qmu (qmu σ 104 0 (0 : Int32)) 104 1 (0 : Int32)) (x2).toInt64 (0 : Int64) (((((qmu (qmu σ 104 0 (0 : Int32)) 104 1 (0 : Int32)) 106 (qi x1)) - (1 : Int32))).toInt64)).bind fun u5 =>
      if u5 = 0 then
        (p_M_finding f (qmu (qmu σ 104 0 (0 : Int32)) 104 1 (0 : Int32)) (2 : Int32)).bind fun u15 =>
        some (u15.1, u15.2)
      else
        if qin x1 8 = true then
        if ((qmu (qmu σ 104 0 (0 : Int32)) 104 1 (0 : Int32)) 105 (qi x1)) = 0 then
          if qin (((60 : Int32) * x1) + x2) 480 = true then
          if qin (((60 : Int32) * x1) + x2) 480 = true then
          some (((qmu (qmu (qmu σ 104 0 (0 : Int32)) 104 1 (0 : Int32)) 107 (qi (((60 : Int32) * x1) + x2)) (x3).toInt8.toInt32) 107 (qi (((60 : Int32) * x1) + x2))), (qmu (qmu (qmu σ 104 0 (0 : Int32)) 104 1 (0 : Int32)) 107 (qi (((60 : Int32) * x1) + x2)) (x3).toInt8.toInt32))
          else none
          else none
        else
          if qin x1 8 = true then
          if ((qmu (qmu σ 104 0 (0 : Int32)) 104 1 (0 : Int32)) 105 (qi x1)) = (1 : Int32) then
            if qin (((60 : Int32) * x1) + x2) 480 = true then
            if qin (((60 : Int32) * x1) + x2) 480 = true then
            some (((qmu (qmu (qmu σ 104 0 (0 : Int32)) 104 1 (0 : Int32)) 107 (qi (((60 : Int32) * x1) + x2)) (x3).toInt16.toInt32) 107 (qi (((60 : Int32) * x1) + x2))), (qmu (qmu (qmu σ 104 0 (0 : Int32)) 104 1 (0 : Int32)) 107 (qi (((60 : Int32) * x1) + x2)) (x3).toInt16.toInt32))
            else none
            else none
          else
            if qin (((60 : Int32) * x1) + x2) 480 = true then
            if qin (((60 : Int32) * x1) + x2) 480 = true then
            some (((qmu (qmu (qmu σ 104 0 (0 : Int32)) 104 1 (0 : Int32)) 107 (qi (((60 : Int32) * x1) + x2)) x3) 107 (qi (((60 : Int32) * x1) + x2))), (qmu (qmu (qmu σ 104 0 (0 : Int32)) 104 1 (0 : Int32)) 107 (qi (((60 : Int32) * x1) + x2)) x3))
            else none
            else none
          else none
        else none
      else none
    else
      (p_M_finding f (qmu (qmu σ 104 0 (0 : Int32)) 104 1 (0 : Int32)) (1 : Int32)).bind fun u17 =>
      some (u17.1, u17.2)
    else none
def p_M_copy_b45 (f : Nat) (σ : qMem) : Option (Int32 × qMem) :=
  (p_M_finding f σ (1 : Int32)).bind fun u1 =>
  some (u1.1, u1.2)
def p_M_copy_b121 (f : Nat) (σ : qMem) : Option (Int32 × qMem) :=
  (p_M_finding f σ (2 : Int32)).bind fun u3 =>
  some (u3.1, u3.2)
def p_M_copy_b167 (f : Nat) (k143 : qMem → Int32 → Option (Int32 × qMem)) (σ : qMem) (x1 : Int32) (x2 : Int32) (x3 : Int32) (x4 : Int32) (x5 : Int32) (x6 : Int32) (x7 : Int32) (s0 : Int32) : Option (Int32 × qMem) :=
  if qin ((((60 : Int32) * x1) + x2) + s0) 480 = true then
  if qin ((((60 : Int32) * x3) + x4) + s0) 480 = true then
  k143 (qmu σ 107 (qi ((((60 : Int32) * x3) + x4) + s0)) (σ 107 (qi ((((60 : Int32) * x1) + x2) + s0)))) (x7 + (1 : Int32))
  else none
  else none
def p_M_copy_l143 (f : Nat) (x1 : Int32) (x2 : Int32) (x3 : Int32) (x4 : Int32) (x5 : Int32) (x6 : Int32) (k143 : qMem → Int32 → Option (Int32 × qMem)) (σ : qMem) (x7 : Int32) : Option (Int32 × qMem) :=
  if x5 ≤ x7 then
    some (x5, σ)
  else
    if x6 = 0 then
      p_M_copy_b167 f k143 σ x1 x2 x3 x4 x5 x6 x7 ((x5 - (1 : Int32)) - x7)
    else
      p_M_copy_b167 f k143 σ x1 x2 x3 x4 x5 x6 x7 x7
def p_M_copy (f : Nat) (σ : qMem) (x1 : Int32) (x2 : Int32) (x3 : Int32) (x4 : Int32) (x5 : Int32) : Option (Int32 × qMem) :=
  (p_M_isSheet f (qmu σ 104 0 (0 : Int32)) x1).bind fun u7 =>
  if u7 = 0 then
    some ((-1000001 : Int32), (qmu σ 104 0 (0 : Int32)))
  else
    (p_M_isSheet f (qmu σ 104 0 (0 : Int32)) x3).bind fun u9 =>
    if u9 = 0 then
      some ((-1000001 : Int32), (qmu σ 104 0 (0 : Int32)))
    else
      if qin x1 8 = true then
      if ((qmu (qmu σ 104 0 (0 : Int32)) 104 1 (0 : Int32)) 105 (qi x1)) < 0 then
        p_M_copy_b45 f (qmu (qmu σ 104 0 (0 : Int32)) 104 1 (0 : Int32))
      else
        if qin x3 8 = true then
        if 0 ≤ ((qmu (qmu σ 104 0 (0 : Int32)) 104 1 (0 : Int32)) 105 (qi x3)) then
          if qin x1 8 = true then
          if qin x3 8 = true then
          if ((qmu (qmu σ 104 0 (0 : Int32)) 104 1 (0 : Int32)) 105 (qi x1)) = ((qmu (qmu σ 104 0 (0 : Int32)) 104 1 (0 : Int32)) 105 (qi x3)) then
            if x2 < 0 then
              p_M_copy_b121 f (qmu (qmu σ 104 0 (0 : Int32)) 104 1 (0 : Int32))
            else
              if x4 < 0 then
                p_M_copy_b121 f (qmu (qmu σ 104 0 (0 : Int32)) 104 1 (0 : Int32))
              else
                if x5 < 0 then
                  p_M_copy_b121 f (qmu (qmu σ 104 0 (0 : Int32)) 104 1 (0 : Int32))
                else
                  if qin x1 8 = true then
                  if 0 < (lg_cmp ((x2).toInt64 + (x5).toInt64) ((((qmu (qmu σ 104 0 (0 : Int32)) 104 1 (0 : Int32)) 106 (qi x1))).toInt64)) then
                    p_M_copy_b121 f (qmu (qmu σ 104 0 (0 : Int32)) 104 1 (0 : Int32))
                  else
                    if qin x3 8 = true then
                    if (lg_cmp ((x4).toInt64 + (x5).toInt64) ((((qmu (qmu σ 104 0 (0 : Int32)) 104 1 (0 : Int32)) 106 (qi x3))).toInt64)) ≤ 0 then
                      if x2 < x4 then
                        qfix2 (p_M_copy_l143 f x1 x2 x3 x4 x5 (0 : Int32) ) f (qmu (qmu σ 104 0 (0 : Int32)) 104 1 (0 : Int32)) (0 : Int32)
                      else
                        qfix2 (p_M_copy_l143 f x1 x2 x3 x4 x5 (1 : Int32) ) f (qmu (qmu σ 104 0 (0 : Int32)) 104 1 (0 : Int32)) (0 : Int32)
                    else
                      p_M_copy_b121 f (qmu (qmu σ 104 0 (0 : Int32)) 104 1 (0 : Int32))
                    else none
                  else none
          else
            (p_M_finding f (qmu (qmu σ 104 0 (0 : Int32)) 104 1 (0 : Int32)) (5 : Int32)).bind fun u17 =>
            some (u17.1, u17.2)
          else none
          else none
        else
          p_M_copy_b45 f (qmu (qmu σ 104 0 (0 : Int32)) 104 1 (0 : Int32))
        else none
      else none
def p_M_drop (f : Nat) (σ : qMem) (x1 : Int32) : Option (Int32 × qMem) :=
  (p_M_isSheet f (qmu σ 104 0 (0 : Int32)) x1).bind fun u1 =>
  if u1 = 0 then
    some ((-1000001 : Int32), (qmu σ 104 0 (0 : Int32)))
  else
    if qin x1 8 = true then
    if 0 ≤ ((qmu (qmu σ 104 0 (0 : Int32)) 104 1 (0 : Int32)) 105 (qi x1)) then
      if qin x1 8 = true then
      if qin x1 8 = true then
      some (((qmu (qmu (qmu σ 104 0 (0 : Int32)) 104 1 (0 : Int32)) 105 (qi x1) (-1 : Int32)) 106 (qi x1)), (qmu (qmu (qmu σ 104 0 (0 : Int32)) 104 1 (0 : Int32)) 105 (qi x1) (-1 : Int32)))
      else none
      else none
    else
      (p_M_finding f (qmu (qmu σ 104 0 (0 : Int32)) 104 1 (0 : Int32)) (1 : Int32)).bind fun u6 =>
      some (u6.1, u6.2)
    else none
def p_M_feed_l40 (f : Nat) (x1 : Int64) (k40 : qMem → Int32 → Option (Int32 × qMem)) (σ : qMem) (x4 : Int32) : Option (Int32 × qMem) :=
  if x4 < 0 then
    some ((σ 104 8), σ)
  else
    if qin (σ 104 8) 500 = true then
    k40 (qmu (qmu σ 109 (qi (σ 104 8)) ((((x1 >>> ((((8 : Int32) * x4)).toInt64 &&& 63)) &&& (255 : Int64))).toInt32)) 104 8 (((qmu σ 109 (qi (σ 104 8)) ((((x1 >>> ((((8 : Int32) * x4)).toInt64 &&& 63)) &&& (255 : Int64))).toInt32)) 104 8) + (1 : Int32))) (x4 + (-1 : Int32))
    else none
def p_M_feed (f : Nat) (σ : qMem) (x1 : Int64) (x3 : Int32) : Option (Int32 × qMem) :=
  (p_M_in f (qmu σ 104 0 (0 : Int32)) (x3).toInt64 (1 : Int64) (8 : Int64)).bind fun u2 =>
  if u2 = 0 then
    some ((-1000001 : Int32), (qmu σ 104 0 (0 : Int32)))
  else
    if (((qmu σ 104 0 (0 : Int32)) 104 8) + x3) ≤ (500 : Int32) then
      qfix2 (p_M_feed_l40 f x1 ) f (qmu σ 104 0 (0 : Int32)) (x3 - (1 : Int32))
    else
      some ((-1000003 : Int32), (qmu σ 104 0 (0 : Int32)))
def p_M_byteAt (f : Nat) (σ : qMem) (x1 : Int32) : Option (Int32) :=
  if (σ 104 10) ≤ x1 then
    some (-1000000 : Int32)
  else
    if qin x1 500 = true then
    some (σ 109 (qi x1))
    else none
def p_M_isLetter (f : Nat) (σ : qMem) (x0 : Int32) : Option (Int32) :=
  if x0 < (97 : Int32) then
    some (0 : Int32)
  else
    if (122 : Int32) < x0 then
      some (0 : Int32)
    else
      some (1 : Int32)
def p_M_isFigure (f : Nat) (σ : qMem) (x0 : Int32) : Option (Int32) :=
  if x0 < (48 : Int32) then
    some (0 : Int32)
  else
    if (57 : Int32) < x0 then
      some (0 : Int32)
    else
      some (1 : Int32)
def p_M_step_l77 (f : Nat) (k77 : qMem → Option (qMem)) (σ : qMem) : Option (qMem) :=
  (p_M_byteAt f σ (σ 104 11)).bind fun u1 =>
  (p_M_isLetter f σ u1).bind fun u3 =>
  if u3 = 0 then
    some (qmu (qmu σ 104 12 (2 : Int32)) 104 14 ((qmu σ 104 12 (2 : Int32)) 104 11))
  else
    k77 (qmu σ 104 11 ((σ 104 11) + (1 : Int32)))
def p_M_step_l119 (f : Nat) (k119 : qMem → Option (qMem)) (σ : qMem) : Option (qMem) :=
  (p_M_byteAt f σ (σ 104 11)).bind fun u5 =>
  (p_M_isFigure f σ u5).bind fun u7 =>
  if u7 = 0 then
    if ((σ 104 11) - (σ 104 13)) ≤ (5 : Int32) then
      some (qmu (qmu σ 104 12 (3 : Int32)) 104 14 ((qmu σ 104 12 (3 : Int32)) 104 11))
    else
      some (qmu (qmu σ 104 12 (0 : Int32)) 104 14 ((qmu σ 104 12 (0 : Int32)) 104 11))
  else
    k119 (qmu σ 104 11 ((σ 104 11) + (1 : Int32)))
def p_M_step_l0 (f : Nat) (k0 : qMem → Option (qMem)) (σ : qMem) : Option (qMem) :=
  (p_M_byteAt f σ (σ 104 11)).bind fun u9 =>
  if u9 = (32 : Int32) then
    k0 (qmu σ 104 11 ((σ 104 11) + (1 : Int32)))
  else
    (p_M_byteAt f σ (σ 104 11)).bind fun u11 =>
    if u11 = (10 : Int32) then
      k0 (qmu σ 104 11 ((σ 104 11) + (1 : Int32)))
    else
      (p_M_byteAt f (qmu σ 104 13 (σ 104 11)) ((qmu σ 104 13 (σ 104 11)) 104 11)).bind fun u13 =>
      if u13 = (-1000000 : Int32) then
        some (qmu (qmu (qmu σ 104 13 (σ 104 11)) 104 12 (1 : Int32)) 104 14 ((qmu (qmu σ 104 13 (σ 104 11)) 104 12 (1 : Int32)) 104 11))
      else
        (p_M_isLetter f (qmu σ 104 13 (σ 104 11)) u13).bind fun u15 =>
        if u15 = 0 then
          (p_M_isFigure f (qmu σ 104 13 (σ 104 11)) u13).bind fun u17 =>
          if u17 = 0 then
            if u13 = (59 : Int32) then
              some (qmu (qmu (qmu (qmu σ 104 13 (σ 104 11)) 104 11 (((qmu σ 104 13 (σ 104 11)) 104 11) + (1 : Int32))) 104 12 (4 : Int32)) 104 14 ((qmu (qmu (qmu σ 104 13 (σ 104 11)) 104 11 (((qmu σ 104 13 (σ 104 11)) 104 11) + (1 : Int32))) 104 12 (4 : Int32)) 104 11))
            else
              some (qmu (qmu (qmu (qmu σ 104 13 (σ 104 11)) 104 11 (((qmu σ 104 13 (σ 104 11)) 104 11) + (1 : Int32))) 104 12 (0 : Int32)) 104 14 ((qmu (qmu (qmu σ 104 13 (σ 104 11)) 104 11 (((qmu σ 104 13 (σ 104 11)) 104 11) + (1 : Int32))) 104 12 (0 : Int32)) 104 11))
          else
            qfix1 (p_M_step_l119 f ) f (qmu σ 104 13 (σ 104 11))
        else
          qfix1 (p_M_step_l77 f ) f (qmu σ 104 13 (σ 104 11))
def p_M_step (f : Nat) (σ : qMem) : Option (qMem) :=
  qfix1 (p_M_step_l0 f ) f σ
def p_M_word_l7 (f : Nat) (σ : qMem) (k7 : Int64 → Int32 → Option (Int64)) (x1 : Int64) (x3 : Int32) : Option (Int64) :=
  if (σ 104 14) ≤ x3 then
    some x1
  else
    if (σ 104 12) = (2 : Int32) then
      if (8 : Int32) ≤ ((σ 104 14) - (σ 104 13)) then
        some x1
      else
        if qin x3 500 = true then
        k7 ((x1 <<< (((8 : Int32)).toInt64 &&& 63)) ||| ((σ 109 (qi x3))).toInt64) (x3 + (1 : Int32))
        else none
    else
      some x1
def p_M_word (f : Nat) (σ : qMem) : Option (Int64) :=
  qfix2 (p_M_word_l7 f σ ) f (0 : Int64) (σ 104 13)
def p_M_bad (f : Nat) (σ : qMem) (x1 : Int32) : Option (qMem) :=
  if (σ 104 15) = 0 then
    some (qmu (qmu σ 104 15 x1) 104 16 ((qmu σ 104 15 x1) 104 13))
  else
    some σ
def p_M_need_b9 (f : Nat) (σ : qMem) : Option (qMem) :=
  if (σ 104 15) = 0 then
    (p_M_step f σ).bind fun u1 =>
    some u1
  else
    some σ
def p_M_need (f : Nat) (σ : qMem) (x1 : Int32) : Option (qMem) :=
  if x1 = 0 then
    (p_M_bad f σ (1 : Int32)).bind fun u3 =>
    p_M_need_b9 f u3
  else
    p_M_need_b9 f σ
def p_M_termOfWord (f : Nat) (σ : qMem) : Option (Int32) :=
  (p_M_word f σ).bind fun u1 =>
  if (lg_cmp u1 (1936684396 : Int64)) = 0 then
    some (1 : Int32)
  else
    if (lg_cmp u1 (418431394162 : Int64)) = 0 then
      some (2 : Int32)
    else
      if (lg_cmp u1 (123636696839028 : Int64)) = 0 then
        some (3 : Int32)
      else
        if (lg_cmp u1 (1700881256 : Int64)) = 0 then
          some (4 : Int32)
        else
          if (lg_cmp u1 (1718775661 : Int64)) = 0 then
            some (5 : Int32)
          else
            if (lg_cmp u1 (1953066092 : Int64)) = 0 then
              some (6 : Int32)
            else
              if (lg_cmp u1 (448546567013 : Int64)) = 0 then
                some (7 : Int32)
              else
                if (lg_cmp u1 (1885436275 : Int64)) = 0 then
                  some (8 : Int32)
                else
                  if (lg_cmp u1 (422826041700 : Int64)) = 0 then
                    some (9 : Int32)
                  else
                    if (lg_cmp u1 (109270115052645 : Int64)) = 0 then
                      some (10 : Int32)
                    else
                      some (-1000000 : Int32)
def p_M_mostOf (f : Nat) (σ : qMem) (x0 : Int32) : Option (Int32) :=
  if x0 = (2 : Int32) then
    some (3 : Int32)
  else
    if x0 = (3 : Int32) then
      some (7 : Int32)
    else
      if x0 = (4 : Int32) then
        some (360 : Int32)
      else
        if x0 = (5 : Int32) then
          some (9999 : Int32)
        else
          if x0 = (6 : Int32) then
            some (9999 : Int32)
          else
            if x0 = (7 : Int32) then
              some (5 : Int32)
            else
              if x0 = (8 : Int32) then
                some (100 : Int32)
              else
                some (99 : Int32)
def p_M_readTerm_b122 (f : Nat) (σ : qMem) (x1 : Int32) (x2 : Int32) (s1 : Int32) : Option (qMem) :=
  (p_M_need f σ s1).bind fun u1 =>
  if qin (((11 : Int32) * (u1 104 17)) + x1) 132 = true then
  some (qmu u1 108 (qi (((11 : Int32) * (u1 104 17)) + x1)) x2)
  else none
def p_M_readTerm_b108 (f : Nat) (σ : qMem) (x1 : Int32) (x2 : Int32) : Option (qMem) :=
  if (σ 104 12) = (3 : Int32) then
    p_M_readTerm_b122 f σ x1 x2 (1 : Int32)
  else
    p_M_readTerm_b122 f σ x1 x2 (0 : Int32)
def p_M_readTerm_b92 (f : Nat) (σ : qMem) (x1 : Int32) (x2 : Int32) (s0 : Int64) (s1 : Int64) : Option (qMem) :=
  (p_M_mostOf f σ x1).bind fun u4 =>
  (p_M_in f σ s0 s1 (u4).toInt64).bind fun u6 =>
  if u6 = 0 then
    (p_M_bad f σ (2 : Int32)).bind fun u8 =>
    p_M_readTerm_b108 f u8 x1 x2
  else
    p_M_readTerm_b108 f σ x1 x2
def p_M_readTerm_b72 (f : Nat) (σ : qMem) (x1 : Int32) (x2 : Int32) : Option (qMem) :=
  if (σ 104 12) = (3 : Int32) then
    if x1 = (4 : Int32) then
      p_M_readTerm_b92 f σ x1 x2 (x2).toInt64 (1 : Int64)
    else
      p_M_readTerm_b92 f σ x1 x2 (x2).toInt64 (0 : Int64)
  else
    p_M_readTerm_b108 f σ x1 x2
def p_M_readTerm_l35 (f : Nat) (σ : qMem) (x1 : Int32) (k35 : Int32 → Int32 → Option (qMem)) (x2 : Int32) (x3 : Int32) : Option (qMem) :=
  if (σ 104 14) ≤ x3 then
    p_M_readTerm_b72 f σ x1 x2
  else
    if (σ 104 12) = (3 : Int32) then
      if qin x3 500 = true then
      k35 ((((10 : Int32) * x2) + (σ 109 (qi x3))) - (48 : Int32)) (x3 + (1 : Int32))
      else none
    else
      p_M_readTerm_b72 f σ x1 x2
def p_M_readTerm_b17 (f : Nat) (σ : qMem) (x1 : Int32) (s1 : Int32) : Option (qMem) :=
  (p_M_need f σ s1).bind fun u11 =>
  if (u11 104 15) ≤ 0 then
    qfix2 (p_M_readTerm_l35 f u11 x1 ) f (0 : Int32) (u11 104 13)
  else
    some u11
def p_M_readTerm (f : Nat) (σ : qMem) : Option (qMem) :=
  (p_M_termOfWord f σ).bind fun u13 =>
  if u13 = (-1000000 : Int32) then
    p_M_readTerm_b17 f σ u13 (0 : Int32)
  else
    p_M_readTerm_b17 f σ u13 (1 : Int32)
def p_M_readDeed_b210 (f : Nat) (σ : qMem) (s1 : Int32) : Option (qMem) :=
  (p_M_need f σ s1).bind fun u1 =>
  some (qmu u1 104 17 ((u1 104 17) + (1 : Int32)))
def p_M_readDeed_l154 (f : Nat) (k154 : qMem → Int32 → Option (qMem)) (σ : qMem) (x5 : Int32) : Option (qMem) :=
  if x5 = 0 then
    if (σ 104 15) = 0 then
      if (σ 104 12) = (4 : Int32) then
        p_M_readDeed_b210 f σ (1 : Int32)
      else
        p_M_readDeed_b210 f σ (0 : Int32)
    else
      some (qmu σ 104 17 ((σ 104 17) + (1 : Int32)))
  else
    (p_M_readTerm f σ).bind fun u3 =>
    if (u3 104 15) = 0 then
      (p_M_termOfWord f u3).bind fun u5 =>
      if u5 = (-1000000 : Int32) then
        k154 u3 (0 : Int32)
      else
        k154 u3 (1 : Int32)
    else
      k154 u3 (0 : Int32)
def p_M_readDeed_b137 (f : Nat) (σ : qMem) (x4 : Int32) (s1 : Int32) (s2 : Int32) : Option (qMem) :=
  if qin s1 132 = true then
  if qin (x4 + (6 : Int32)) 132 = true then
  qfix2 (p_M_readDeed_l154 f ) f (qmu (qmu σ 108 (qi s1) s2) 108 (qi (x4 + (6 : Int32))) (9999 : Int32)) (1 : Int32)
  else none
  else none
def p_M_readDeed_b113 (f : Nat) (σ : qMem) (x1 : Int64) (x4 : Int32) (s1 : Int32) (s2 : Int32) : Option (qMem) :=
  if qin s1 132 = true then
  if (lg_cmp x1 (1868720500 : Int64)) = 0 then
    p_M_readDeed_b137 f (qmu σ 108 (qi s1) s2) x4 (x4 + (4 : Int32)) (360 : Int32)
  else
    p_M_readDeed_b137 f (qmu σ 108 (qi s1) s2) x4 (x4 + (4 : Int32)) (1 : Int32)
  else none
def p_M_readDeed_l70 (f : Nat) (x1 : Int64) (x4 : Int32) (k70 : qMem → Int32 → Option (qMem)) (σ : qMem) (x5 : Int32) : Option (qMem) :=
  if (11 : Int32) ≤ x5 then
    if (lg_cmp x1 (1868720500 : Int64)) = 0 then
      p_M_readDeed_b113 f σ x1 x4 x4 (1 : Int32)
    else
      p_M_readDeed_b113 f σ x1 x4 x4 (0 : Int32)
  else
    if qin (x4 + x5) 132 = true then
    k70 (qmu σ 108 (qi (x4 + x5)) (0 : Int32)) (x5 + (1 : Int32))
    else none
def p_M_readDeed_b45 (f : Nat) (σ : qMem) (x1 : Int64) (x3 : Int32) : Option (qMem) :=
  (p_M_need f σ x3).bind fun u11 =>
  if (u11 104 15) ≤ 0 then
    qfix2 (p_M_readDeed_l70 f x1 ((11 : Int32) * (u11 104 17)) ) f u11 (0 : Int32)
  else
    some u11
def p_M_readDeed_b26 (f : Nat) (σ : qMem) (x1 : Int64) (s0 : Int32) : Option (qMem) :=
  if s0 = 0 then
    p_M_readDeed_b45 f σ x1 s0
  else
    if (σ 104 17) = (12 : Int32) then
      (p_M_bad f σ (3 : Int32)).bind fun u13 =>
      p_M_readDeed_b45 f u13 x1 s0
    else
      p_M_readDeed_b45 f σ x1 s0
def p_M_readDeed (f : Nat) (σ : qMem) : Option (qMem) :=
  (p_M_word f σ).bind fun u15 =>
  if (lg_cmp u15 (1835103091 : Int64)) = 0 then
    p_M_readDeed_b26 f σ u15 (1 : Int32)
  else
    if (lg_cmp u15 (1868720500 : Int64)) = 0 then
      p_M_readDeed_b26 f σ u15 (1 : Int32)
    else
      p_M_readDeed_b26 f σ u15 (0 : Int32)
def p_M_deeds_l91 (f : Nat) (k91 : qMem → Int32 → Option (Int32 × qMem)) (σ : qMem) (x1 : Int32) : Option (Int32 × qMem) :=
  if (σ 104 17) ≤ x1 then
    some (((qmu σ 104 5 (σ 104 17)) 104 5), (qmu σ 104 5 (σ 104 17)))
  else
    if qin x1 12 = true then
    k91 (qmu σ 133 (qi x1) (-1000000 : Int32)) (x1 + (1 : Int32))
    else none
def p_M_deeds_b62 (f : Nat) (σ : qMem) : Option (Int32 × qMem) :=
  if (σ 104 15) ≤ 0 then
    qfix2 (p_M_deeds_l91 f ) f σ (σ 104 5)
  else
    some (((-1000100 : Int32) - ((qmu σ 104 9 (σ 104 15)) 104 16)), (qmu σ 104 9 (σ 104 15)))
def p_M_deeds_l40 (f : Nat) (k40 : qMem → Option (Int32 × qMem)) (σ : qMem) : Option (Int32 × qMem) :=
  if (σ 104 15) = 0 then
    if (σ 104 12) = (1 : Int32) then
      p_M_deeds_b62 f σ
    else
      (p_M_readDeed f σ).bind fun u2 =>
      k40 u2
  else
    p_M_deeds_b62 f σ
def p_M_deeds (f : Nat) (σ : qMem) : Option (Int32 × qMem) :=
  (p_M_step f (qmu (qmu (qmu (qmu (qmu (qmu σ 104 0 (0 : Int32)) 104 10 ((qmu σ 104 0 (0 : Int32)) 104 8)) 104 8 (0 : Int32)) 104 11 (0 : Int32)) 104 15 (0 : Int32)) 104 17 ((qmu (qmu (qmu (qmu (qmu σ 104 0 (0 : Int32)) 104 10 ((qmu σ 104 0 (0 : Int32)) 104 8)) 104 8 (0 : Int32)) 104 11 (0 : Int32)) 104 15 (0 : Int32)) 104 5))).bind fun u4 =>
  qfix1 (p_M_deeds_l40 f ) f u4
def p_M_fault (f : Nat) (σ : qMem) : Option (Int32 × qMem) :=
  some (((qmu σ 104 0 (0 : Int32)) 104 9), (qmu σ 104 0 (0 : Int32)))
def p_M_isPromise (f : Nat) (σ : qMem) (x1 : Int32) : Option (Int32) :=
  (p_M_in f σ (x1).toInt64 (0 : Int64) ((((σ 104 5) - (1 : Int32))).toInt64)).bind fun u1 =>
  some (vp_nar .boolean u1)
def p_M_of (f : Nat) (σ : qMem) (x1 : Int32) (x2 : Int32) : Option (Int32) :=
  if qin (((11 : Int32) * x1) + x2) 132 = true then
  some (σ 108 (qi (((11 : Int32) * x1) + x2)))
  else none
def p_M_told (f : Nat) (σ : qMem) (x1 : Int32) (x2 : Int32) : Option (Int32 × qMem) :=
  (p_M_isPromise f (qmu σ 104 0 (0 : Int32)) x1).bind fun u1 =>
  if u1 = 0 then
    some ((-1000001 : Int32), (qmu σ 104 0 (0 : Int32)))
  else
    (p_M_in f (qmu σ 104 0 (0 : Int32)) (x2).toInt64 (0 : Int64) (10 : Int64)).bind fun u3 =>
    if u3 = 0 then
      some ((-1000001 : Int32), (qmu σ 104 0 (0 : Int32)))
    else
      (p_M_of f (qmu σ 104 0 (0 : Int32)) x1 x2).bind fun u5 =>
      some (u5, (qmu σ 104 0 (0 : Int32)))
def p_M_isDay (f : Nat) (σ : qMem) (x0 : Int32) : Option (Int32) :=
  (p_M_in f σ (x0).toInt64 (0 : Int64) (9999 : Int64)).bind fun u1 =>
  some (vp_nar .boolean u1)
def p_M_feast (f : Nat) (σ : qMem) (x1 : Int32) (x2 : Int32) : Option (Int32 × qMem) :=
  (p_M_isDay f (qmu σ 104 0 (0 : Int32)) x1).bind fun u1 =>
  if u1 = 0 then
    some ((-1000001 : Int32), (qmu σ 104 0 (0 : Int32)))
  else
    (p_M_in f (qmu σ 104 0 (0 : Int32)) (x2).toInt64 (1 : Int64) (2 : Int64)).bind fun u3 =>
    if u3 = 0 then
      some ((-1000001 : Int32), (qmu σ 104 0 (0 : Int32)))
    else
      if ((qmu σ 104 0 (0 : Int32)) 104 18) = (30 : Int32) then
        some ((-1000003 : Int32), (qmu σ 104 0 (0 : Int32)))
      else
        if qin ((qmu σ 104 0 (0 : Int32)) 104 18) 30 = true then
        if qin ((qmu (qmu σ 104 0 (0 : Int32)) 110 (qi ((qmu σ 104 0 (0 : Int32)) 104 18)) x1) 104 18) 30 = true then
        some (((qmu (qmu (qmu (qmu σ 104 0 (0 : Int32)) 110 (qi ((qmu σ 104 0 (0 : Int32)) 104 18)) x1) 111 (qi ((qmu (qmu σ 104 0 (0 : Int32)) 110 (qi ((qmu σ 104 0 (0 : Int32)) 104 18)) x1) 104 18)) x2) 104 18 (((qmu (qmu (qmu σ 104 0 (0 : Int32)) 110 (qi ((qmu σ 104 0 (0 : Int32)) 104 18)) x1) 111 (qi ((qmu (qmu σ 104 0 (0 : Int32)) 110 (qi ((qmu σ 104 0 (0 : Int32)) 104 18)) x1) 104 18)) x2) 104 18) + (1 : Int32))) 104 18), (qmu (qmu (qmu (qmu σ 104 0 (0 : Int32)) 110 (qi ((qmu σ 104 0 (0 : Int32)) 104 18)) x1) 111 (qi ((qmu (qmu σ 104 0 (0 : Int32)) 110 (qi ((qmu σ 104 0 (0 : Int32)) 104 18)) x1) 104 18)) x2) 104 18 (((qmu (qmu (qmu σ 104 0 (0 : Int32)) 110 (qi ((qmu σ 104 0 (0 : Int32)) 104 18)) x1) 111 (qi ((qmu (qmu σ 104 0 (0 : Int32)) 110 (qi ((qmu σ 104 0 (0 : Int32)) 104 18)) x1) 104 18)) x2) 104 18) + (1 : Int32))))
        else none
        else none
def p_M_isPriest (f : Nat) (σ : qMem) (x0 : Int32) : Option (Int32) :=
  (p_M_in f σ (x0).toInt64 (0 : Int64) (7 : Int64)).bind fun u1 =>
  some (vp_nar .boolean u1)
def p_M_vow (f : Nat) (σ : qMem) (x1 : Int32) (x2 : Int32) : Option (Int32 × qMem) :=
  (p_M_isPriest f (qmu σ 104 0 (0 : Int32)) x1).bind fun u1 =>
  if u1 = 0 then
    some ((-1000001 : Int32), (qmu σ 104 0 (0 : Int32)))
  else
    (p_M_in f (qmu σ 104 0 (0 : Int32)) (x2).toInt64 (1 : Int64) (3 : Int64)).bind fun u3 =>
    if u3 = 0 then
      some ((-1000001 : Int32), (qmu σ 104 0 (0 : Int32)))
    else
      if qin x1 8 = true then
      if qin x1 8 = true then
      some (((qmu σ 104 0 (0 : Int32)) 116 (qi x1)), (qmu (qmu σ 104 0 (0 : Int32)) 116 (qi x1) x2))
      else none
      else none
def p_M_sick (f : Nat) (σ : qMem) (x1 : Int32) (x2 : Int32) (x3 : Int32) : Option (Int32 × qMem) :=
  (p_M_isPriest f (qmu σ 104 0 (0 : Int32)) x1).bind fun u1 =>
  if u1 = 0 then
    some ((-1000001 : Int32), (qmu σ 104 0 (0 : Int32)))
  else
    (p_M_isDay f (qmu σ 104 0 (0 : Int32)) x2).bind fun u3 =>
    if u3 = 0 then
      some ((-1000001 : Int32), (qmu σ 104 0 (0 : Int32)))
    else
      (p_M_in f (qmu σ 104 0 (0 : Int32)) (x3).toInt64 (x2).toInt64 (9999 : Int64)).bind fun u5 =>
      if u5 = 0 then
        some ((-1000001 : Int32), (qmu σ 104 0 (0 : Int32)))
      else
        if ((qmu σ 104 0 (0 : Int32)) 104 27) = (20 : Int32) then
          some ((-1000003 : Int32), (qmu σ 104 0 (0 : Int32)))
        else
          if qin ((qmu σ 104 0 (0 : Int32)) 104 27) 20 = true then
          if qin ((qmu (qmu σ 104 0 (0 : Int32)) 117 (qi ((qmu σ 104 0 (0 : Int32)) 104 27)) x1) 104 27) 20 = true then
          if qin ((qmu (qmu (qmu σ 104 0 (0 : Int32)) 117 (qi ((qmu σ 104 0 (0 : Int32)) 104 27)) x1) 118 (qi ((qmu (qmu σ 104 0 (0 : Int32)) 117 (qi ((qmu σ 104 0 (0 : Int32)) 104 27)) x1) 104 27)) x2) 104 27) 20 = true then
          some (((qmu (qmu (qmu (qmu (qmu σ 104 0 (0 : Int32)) 117 (qi ((qmu σ 104 0 (0 : Int32)) 104 27)) x1) 118 (qi ((qmu (qmu σ 104 0 (0 : Int32)) 117 (qi ((qmu σ 104 0 (0 : Int32)) 104 27)) x1) 104 27)) x2) 119 (qi ((qmu (qmu (qmu σ 104 0 (0 : Int32)) 117 (qi ((qmu σ 104 0 (0 : Int32)) 104 27)) x1) 118 (qi ((qmu (qmu σ 104 0 (0 : Int32)) 117 (qi ((qmu σ 104 0 (0 : Int32)) 104 27)) x1) 104 27)) x2) 104 27)) x3) 104 27 (((qmu (qmu (qmu (qmu σ 104 0 (0 : Int32)) 117 (qi ((qmu σ 104 0 (0 : Int32)) 104 27)) x1) 118 (qi ((qmu (qmu σ 104 0 (0 : Int32)) 117 (qi ((qmu σ 104 0 (0 : Int32)) 104 27)) x1) 104 27)) x2) 119 (qi ((qmu (qmu (qmu σ 104 0 (0 : Int32)) 117 (qi ((qmu σ 104 0 (0 : Int32)) 104 27)) x1) 118 (qi ((qmu (qmu σ 104 0 (0 : Int32)) 117 (qi ((qmu σ 104 0 (0 : Int32)) 104 27)) x1) 104 27)) x2) 104 27)) x3) 104 27) + (1 : Int32))) 104 27), (qmu (qmu (qmu (qmu (qmu σ 104 0 (0 : Int32)) 117 (qi ((qmu σ 104 0 (0 : Int32)) 104 27)) x1) 118 (qi ((qmu (qmu σ 104 0 (0 : Int32)) 117 (qi ((qmu σ 104 0 (0 : Int32)) 104 27)) x1) 104 27)) x2) 119 (qi ((qmu (qmu (qmu σ 104 0 (0 : Int32)) 117 (qi ((qmu σ 104 0 (0 : Int32)) 104 27)) x1) 118 (qi ((qmu (qmu σ 104 0 (0 : Int32)) 117 (qi ((qmu σ 104 0 (0 : Int32)) 104 27)) x1) 104 27)) x2) 104 27)) x3) 104 27 (((qmu (qmu (qmu (qmu σ 104 0 (0 : Int32)) 117 (qi ((qmu σ 104 0 (0 : Int32)) 104 27)) x1) 118 (qi ((qmu (qmu σ 104 0 (0 : Int32)) 117 (qi ((qmu σ 104 0 (0 : Int32)) 104 27)) x1) 104 27)) x2) 119 (qi ((qmu (qmu (qmu σ 104 0 (0 : Int32)) 117 (qi ((qmu σ 104 0 (0 : Int32)) 104 27)) x1) 118 (qi ((qmu (qmu σ 104 0 (0 : Int32)) 117 (qi ((qmu σ 104 0 (0 : Int32)) 104 27)) x1) 104 27)) x2) 104 27)) x3) 104 27) + (1 : Int32))))
          else none
          else none
          else none
def p_M_line (f : Nat) (σ : qMem) (x1 : Int32) (x2 : Int32) (x3 : Int32) : Option (Int32 × qMem) :=
  (p_M_isPromise f σ x1).bind fun u1 =>
  if u1 = 0 then
    some ((-1000001 : Int32), σ)
  else
    (p_M_isDay f σ x2).bind fun u3 =>
    if u3 = 0 then
      some ((-1000001 : Int32), σ)
    else
      (p_M_in f σ (x3).toInt64 (0 : Int64) (4 : Int64)).bind fun u5 =>
      if u5 = 0 then
        some ((-1000001 : Int32), σ)
      else
        if (σ 104 21) = (60 : Int32) then
          some ((-1000003 : Int32), σ)
        else
          if qin (σ 104 21) 60 = true then
          if qin ((qmu σ 112 (qi (σ 104 21)) x1) 104 21) 60 = true then
          if qin ((qmu (qmu σ 112 (qi (σ 104 21)) x1) 113 (qi ((qmu σ 112 (qi (σ 104 21)) x1) 104 21)) x2) 104 21) 60 = true then
          some ((((qmu (qmu (qmu (qmu σ 112 (qi (σ 104 21)) x1) 113 (qi ((qmu σ 112 (qi (σ 104 21)) x1) 104 21)) x2) 114 (qi ((qmu (qmu σ 112 (qi (σ 104 21)) x1) 113 (qi ((qmu σ 112 (qi (σ 104 21)) x1) 104 21)) x2) 104 21)) x3) 104 21 (((qmu (qmu (qmu σ 112 (qi (σ 104 21)) x1) 113 (qi ((qmu σ 112 (qi (σ 104 21)) x1) 104 21)) x2) 114 (qi ((qmu (qmu σ 112 (qi (σ 104 21)) x1) 113 (qi ((qmu σ 112 (qi (σ 104 21)) x1) 104 21)) x2) 104 21)) x3) 104 21) + (1 : Int32))) 104 21) - (1 : Int32)), (qmu (qmu (qmu (qmu σ 112 (qi (σ 104 21)) x1) 113 (qi ((qmu σ 112 (qi (σ 104 21)) x1) 104 21)) x2) 114 (qi ((qmu (qmu σ 112 (qi (σ 104 21)) x1) 113 (qi ((qmu σ 112 (qi (σ 104 21)) x1) 104 21)) x2) 104 21)) x3) 104 21 (((qmu (qmu (qmu σ 112 (qi (σ 104 21)) x1) 113 (qi ((qmu σ 112 (qi (σ 104 21)) x1) 104 21)) x2) 114 (qi ((qmu (qmu σ 112 (qi (σ 104 21)) x1) 113 (qi ((qmu σ 112 (qi (σ 104 21)) x1) 104 21)) x2) 104 21)) x3) 104 21) + (1 : Int32))))
          else none
          else none
          else none
def p_M_say (f : Nat) (σ : qMem) (x1 : Int32) (x2 : Int32) (x3 : Int32) : Option (Int32 × qMem) :=
  (p_M_line f (qmu σ 104 0 (0 : Int32)) x1 x2 x3).bind fun u1 =>
  some (u1.1, u1.2)
def p_M_lookItems_b35 (f : Nat) (σ : qMem) : Option (Int32 × qMem) :=
  (p_M_finding f σ (2 : Int32)).bind fun u1 =>
  some (u1.1, u1.2)
def p_M_lookItems (f : Nat) (σ : qMem) (x1 : Int32) (x2 : Int32) (x3 : Int32) : Option (Int32 × qMem) :=
  if qin x1 8 = true then
  if 0 ≤ (σ 105 (qi x1)) then
    if x2 < 0 then
      p_M_lookItems_b35 f σ
    else
      if qin x1 8 = true then
      if (lg_cmp ((x2).toInt64 + (x3).toInt64) (((σ 106 (qi x1))).toInt64)) ≤ 0 then
        some ((0 : Int32), σ)
      else
        p_M_lookItems_b35 f σ
      else none
  else
    (p_M_finding f σ (1 : Int32)).bind fun u5 =>
    some (u5.1, u5.2)
  else none
def p_M_lines_l57 (f : Nat) (x1 : Int32) (x2 : Int32) (x3 : Int32) (k57 : qMem → Int32 → Int32 → Option (Int32 × qMem)) (σ : qMem) (x5 : Int32) (x6 : Int32) : Option (Int32 × qMem) :=
  if x3 ≤ x6 then
    some (x5, σ)
  else
    if qin ((((60 : Int32) * x1) + x2) + ((3 : Int32) * x6)) 480 = true then
    if qin (((((60 : Int32) * x1) + x2) + ((3 : Int32) * x6)) + (1 : Int32)) 480 = true then
    if qin (((((60 : Int32) * x1) + x2) + ((3 : Int32) * x6)) + (2 : Int32)) 480 = true then
    (p_M_line f σ (σ 107 (qi ((((60 : Int32) * x1) + x2) + ((3 : Int32) * x6)))) (σ 107 (qi (((((60 : Int32) * x1) + x2) + ((3 : Int32) * x6)) + (1 : Int32)))) (σ 107 (qi (((((60 : Int32) * x1) + x2) + ((3 : Int32) * x6)) + (2 : Int32))))).bind fun u4 =>
    if u4.1 < 0 then
      k57 u4.2 (x5 + (0 : Int32)) (x6 + (1 : Int32))
    else
      k57 u4.2 (x5 + (1 : Int32)) (x6 + (1 : Int32))
    else none
    else none
    else none
def p_M_lines (f : Nat) (σ : qMem) (x1 : Int32) (x2 : Int32) (x3 : Int32) : Option (Int32 × qMem) :=
  (p_M_isSheet f (qmu σ 104 0 (0 : Int32)) x1).bind fun u6 =>
  if u6 = 0 then
    some ((-1000001 : Int32), (qmu σ 104 0 (0 : Int32)))
  else
    (p_M_in f (qmu σ 104 0 (0 : Int32)) (x3).toInt64 (1 : Int64) (20 : Int64)).bind fun u8 =>
    if u8 = 0 then
      some ((-1000001 : Int32), (qmu σ 104 0 (0 : Int32)))
    else
      (p_M_lookItems f (qmu σ 104 0 (0 : Int32)) x1 x2 ((3 : Int32) * x3)).bind fun u10 =>
      if 0 ≤ u10.1 then
        qfix3 (p_M_lines_l57 f x1 x2 x3 ) f (qmu u10.2 104 1 (0 : Int32)) (0 : Int32) (0 : Int32)
      else
        some (u10.1, u10.2)
def p_M_takenOn_b80 (f : Nat) (k5 : Int32 → Int32 → Option (Int32)) (σ : qMem) (x1 : Int32) (x2 : Int32) (x3 : Int32) (s0 : Int32) : Option (Int32) :=
  if s0 = 0 then
    k5 x2 (x3 + (1 : Int32))
  else
    if x2 = (-1000000 : Int32) then
      if qin x3 10 = true then
      k5 (σ 136 (qi x3)) (x3 + (1 : Int32))
      else none
    else
      if qin x3 10 = true then
      if x2 ≤ (σ 136 (qi x3)) then
        k5 x2 (x3 + (1 : Int32))
      else
        if qin x3 10 = true then
        k5 (σ 136 (qi x3)) (x3 + (1 : Int32))
        else none
      else none
def p_M_takenOn_b79 (f : Nat) (k5 : Int32 → Int32 → Option (Int32)) (σ : qMem) (x1 : Int32) (x2 : Int32) (x3 : Int32) : Option (Int32) :=
  p_M_takenOn_b80 f k5 σ x1 x2 x3 (0 : Int32)
def p_M_takenOn_l5 (f : Nat) (σ : qMem) (x1 : Int32) (k5 : Int32 → Int32 → Option (Int32)) (x2 : Int32) (x3 : Int32) : Option (Int32) :=
  if (σ 104 50) ≤ x3 then
    some x2
  else
    (p_M_of f σ x1 (5 : Int32)).bind fun u4 =>
    if qin x3 10 = true then
    if (σ 136 (qi x3)) < u4 then
      p_M_takenOn_b79 f k5 σ x1 x2 x3
    else
      (p_M_of f σ x1 (1 : Int32)).bind fun u7 =>
      if qin x3 10 = true then
      if qin x3 10 = true then
      (p_M_in f σ (u7).toInt64 (((σ 137 (qi x3))).toInt64) (((σ 138 (qi x3))).toInt64)).bind fun u11 =>
      if u11 = 0 then
        p_M_takenOn_b79 f k5 σ x1 x2 x3
      else
        (p_M_of f σ x1 (0 : Int32)).bind fun u13 =>
        if u13 = (1 : Int32) then
          if qin x3 10 = true then
          if (σ 139 (qi x3)) = (1 : Int32) then
            p_M_takenOn_b79 f k5 σ x1 x2 x3
          else
            p_M_takenOn_b80 f k5 σ x1 x2 x3 (1 : Int32)
          else none
        else
          p_M_takenOn_b80 f k5 σ x1 x2 x3 (1 : Int32)
      else none
      else none
    else none
def p_M_takenOn (f : Nat) (σ : qMem) (x1 : Int32) : Option (Int32) :=
  qfix2 (p_M_takenOn_l5 f σ x1 ) f (-1000000 : Int32) (0 : Int32)
def p_M_isTaken (f : Nat) (σ : qMem) (x1 : Int32) (x2 : Int32) : Option (Int32) :=
  (p_M_takenOn f σ x1).bind fun u1 =>
  if u1 = (-1000000 : Int32) then
    some (0 : Int32)
  else
    if x2 < u1 then
      some (0 : Int32)
    else
      some (1 : Int32)
def p_M_isEnded (f : Nat) (σ : qMem) (x1 : Int32) (x2 : Int32) : Option (Int32) :=
  (p_M_isTaken f σ x1 x2).bind fun u1 =>
  if u1 = 0 then
    (p_M_of f σ x1 (6 : Int32)).bind fun u3 =>
    if x2 ≤ u3 then
      some (0 : Int32)
    else
      some (1 : Int32)
  else
    some (1 : Int32)
def p_M_isSick_l5 (f : Nat) (σ : qMem) (x1 : Int32) (x2 : Int32) (k5 : Int32 → Int32 → Option (Int32)) (x3 : Int32) (x4 : Int32) : Option (Int32) :=
  if (σ 104 27) ≤ x4 then
    some (vp_nar .boolean x3)
  else
    if x3 = 0 then
      if qin x4 20 = true then
      if (σ 117 (qi x4)) = x1 then
        if qin x4 20 = true then
        if x2 < (σ 118 (qi x4)) then
          k5 (0 : Int32) (x4 + (1 : Int32))
        else
          if qin x4 20 = true then
          if (σ 119 (qi x4)) < x2 then
            k5 (0 : Int32) (x4 + (1 : Int32))
          else
            k5 (1 : Int32) (x4 + (1 : Int32))
          else none
        else none
      else
        k5 (0 : Int32) (x4 + (1 : Int32))
      else none
    else
      k5 (1 : Int32) (x4 + (1 : Int32))
def p_M_isSick (f : Nat) (σ : qMem) (x1 : Int32) (x2 : Int32) : Option (Int32) :=
  qfix2 (p_M_isSick_l5 f σ x1 x2 ) f (0 : Int32) (0 : Int32)
def p_M_judge_b44 (f : Nat) (k4 : qMem → Int64 → Int32 → Option (qMem)) (k19 : Int32 → Int32 → Option (qMem)) (σ : qMem) (x1 : Int64) (x3 : Int32) (x4 : Int32) (x5 : Int32) (s0 : Int32) : Option (qMem) :=
  if s0 = 0 then
    k19 x4 (x5 + (1 : Int32))
  else
    if x4 = (-1000000 : Int32) then
      k19 x5 (x5 + (1 : Int32))
    else
      if qin x5 60 = true then
      if qin x5 60 = true then
      if qin x4 60 = true then
      if qin x4 60 = true then
      if (((5 : Int32) * (σ 113 (qi x4))) + (σ 114 (qi x4))) ≤ (((5 : Int32) * (σ 113 (qi x5))) + (σ 114 (qi x5))) then
        k19 x4 (x5 + (1 : Int32))
      else
        k19 x5 (x5 + (1 : Int32))
      else none
      else none
      else none
      else none
def p_M_judge_b304 (f : Nat) (k4 : qMem → Int64 → Int32 → Option (qMem)) (k180 : Int32 → Int32 → Int32 → Option (qMem)) (σ : qMem) (x1 : Int64) (x3 : Int32) (x4 : Int32) (x5 : Int32) (x6 : Int32) (x8 : Int32) (x9 : Int32) (x11 : Int32) (s0 : Int32) : Option (qMem) :=
  if x11 = 0 then
    k180 s0 (x8 + (0 : Int32)) (x9 + (1 : Int32))
  else
    k180 s0 (x8 + (1 : Int32)) (x9 + (1 : Int32))
def p_M_judge_b303 (f : Nat) (k4 : qMem → Int64 → Int32 → Option (qMem)) (k180 : Int32 → Int32 → Int32 → Option (qMem)) (σ : qMem) (x1 : Int64) (x3 : Int32) (x4 : Int32) (x5 : Int32) (x6 : Int32) (x8 : Int32) (x9 : Int32) (x11 : Int32) : Option (qMem) :=
  p_M_judge_b304 f k4 k180 σ x1 x3 x4 x5 x6 x8 x9 x11 (0 : Int32)
def p_M_judge_b253 (f : Nat) (k4 : qMem → Int64 → Int32 → Option (qMem)) (k180 : Int32 → Int32 → Int32 → Option (qMem)) (σ : qMem) (x1 : Int64) (x3 : Int32) (x4 : Int32) (x5 : Int32) (x6 : Int32) (x7 : Int32) (x8 : Int32) (x9 : Int32) (x10 : Int32) (s0 : Int32) : Option (qMem) :=
  if x7 = 0 then
    p_M_judge_b303 f k4 k180 σ x1 x3 x4 x5 x6 x8 x9 s0
  else
    if qin x9 60 = true then
    if qin x4 60 = true then
    if (σ 114 (qi x9)) = (σ 114 (qi x4)) then
      if s0 = 0 then
        (p_M_of f σ x10 (2 : Int32)).bind fun u7 =>
        (p_M_of f σ x5 (2 : Int32)).bind fun u9 =>
        if u7 = u9 then
          p_M_judge_b303 f k4 k180 σ x1 x3 x4 x5 x6 x8 x9 s0
        else
          p_M_judge_b304 f k4 k180 σ x1 x3 x4 x5 x6 x8 x9 s0 (1 : Int32)
      else
        p_M_judge_b303 f k4 k180 σ x1 x3 x4 x5 x6 x8 x9 s0
    else
      p_M_judge_b304 f k4 k180 σ x1 x3 x4 x5 x6 x8 x9 s0 (1 : Int32)
    else none
    else none
def p_M_judge_l180 (f : Nat) (σ : qMem) (x1 : Int64) (x3 : Int32) (x4 : Int32) (x5 : Int32) (x6 : Int32) (k4 : qMem → Int64 → Int32 → Option (qMem)) (k180 : Int32 → Int32 → Int32 → Option (qMem)) (x7 : Int32) (x8 : Int32) (x9 : Int32) : Option (qMem) :=
  if (σ 104 21) ≤ x9 then
    if x7 = 0 then
      if qin x4 60 = true then
      k4 (qmu σ 115 (qi x4) (vp_nar .boolean (0 : Int32))) (x1 ||| ((1 : Int64) <<< ((x4).toInt64 &&& 63))) (x3 + (1 : Int32))
      else none
    else
      (p_M_of f σ x5 (3 : Int32)).bind fun u12 =>
      if qin u12 8 = true then
      if (σ 116 (qi u12)) ≤ x8 then
        if qin x4 60 = true then
        k4 (qmu σ 115 (qi x4) (vp_nar .boolean (0 : Int32))) (x1 ||| ((1 : Int64) <<< ((x4).toInt64 &&& 63))) (x3 + (1 : Int32))
        else none
      else
        if qin x4 60 = true then
        k4 (qmu σ 115 (qi x4) (vp_nar .boolean (1 : Int32))) (x1 ||| ((1 : Int64) <<< ((x4).toInt64 &&& 63))) (x3 + (1 : Int32))
        else none
      else none
  else
    if (lg_cmp ((x1 >>> ((x9).toInt64 &&& 63)) &&& (1 : Int64)) (1 : Int64)) = 0 then
      if qin x9 60 = true then
      if (σ 115 (qi x9)) = 0 then
        k180 x7 x8 (x9 + (1 : Int32))
      else
        if qin x9 60 = true then
        if (σ 113 (qi x9)) = x6 then
          if qin x9 60 = true then
          (p_M_of f σ (σ 112 (qi x9)) (3 : Int32)).bind fun u20 =>
          (p_M_of f σ x5 (3 : Int32)).bind fun u22 =>
          if u20 = u22 then
            p_M_judge_b253 f k4 k180 σ x1 x3 x4 x5 x6 x7 x8 x9 (σ 112 (qi x9)) (1 : Int32)
          else
            p_M_judge_b253 f k4 k180 σ x1 x3 x4 x5 x6 x7 x8 x9 (σ 112 (qi x9)) (0 : Int32)
          else none
        else
          k180 x7 x8 (x9 + (1 : Int32))
        else none
      else none
    else
      k180 x7 x8 (x9 + (1 : Int32))
def p_M_judge_l19 (f : Nat) (σ : qMem) (x1 : Int64) (x3 : Int32) (k4 : qMem → Int64 → Int32 → Option (qMem)) (k19 : Int32 → Int32 → Option (qMem)) (x4 : Int32) (x5 : Int32) : Option (qMem) :=
  if (σ 104 21) ≤ x5 then
    if qin x4 60 = true then
    if qin x4 60 = true then
    (p_M_of f σ (σ 112 (qi x4)) (5 : Int32)).bind fun u26 =>
    if (σ 113 (qi x4)) < u26 then
      qfix3 (p_M_judge_l180 f σ x1 x3 x4 (σ 112 (qi x4)) (σ 113 (qi x4)) k4) f (0 : Int32) (0 : Int32) (0 : Int32)
    else
      (p_M_isEnded f σ (σ 112 (qi x4)) (σ 113 (qi x4))).bind fun u28 =>
      if u28 = 0 then
        (p_M_of f σ (σ 112 (qi x4)) (3 : Int32)).bind fun u30 =>
        (p_M_isSick f σ u30 (σ 113 (qi x4))).bind fun u32 =>
        if u32 = 0 then
          qfix3 (p_M_judge_l180 f σ x1 x3 x4 (σ 112 (qi x4)) (σ 113 (qi x4)) k4) f (1 : Int32) (0 : Int32) (0 : Int32)
        else
          qfix3 (p_M_judge_l180 f σ x1 x3 x4 (σ 112 (qi x4)) (σ 113 (qi x4)) k4) f (0 : Int32) (0 : Int32) (0 : Int32)
      else
        qfix3 (p_M_judge_l180 f σ x1 x3 x4 (σ 112 (qi x4)) (σ 113 (qi x4)) k4) f (0 : Int32) (0 : Int32) (0 : Int32)
    else none
    else none
  else
    if (lg_cmp ((x1 >>> ((x5).toInt64 &&& 63)) &&& (1 : Int64)) (0 : Int64)) = 0 then
      p_M_judge_b44 f k4 k19 σ x1 x3 x4 x5 (1 : Int32)
    else
      p_M_judge_b44 f k4 k19 σ x1 x3 x4 x5 (0 : Int32)
def p_M_judge_l4 (f : Nat) (k4 : qMem → Int64 → Int32 → Option (qMem)) (σ : qMem) (x1 : Int64) (x3 : Int32) : Option (qMem) :=
  if (σ 104 21) ≤ x3 then
    some σ
  else
    qfix2 (p_M_judge_l19 f σ x1 x3 k4) f (-1000000 : Int32) (0 : Int32)
def p_M_judge (f : Nat) (σ : qMem) : Option (qMem) :=
  qfix3 (p_M_judge_l4 f ) f σ (0 : Int64) (0 : Int32)
def p_M_good (f : Nat) (σ : qMem) (x1 : Int32) : Option (Int32 × qMem) :=
  (p_M_in f (qmu σ 104 0 (0 : Int32)) (x1).toInt64 (0 : Int64) (((((qmu σ 104 0 (0 : Int32)) 104 21) - (1 : Int32))).toInt64)).bind fun u1 =>
  if u1 = 0 then
    some ((-1000001 : Int32), (qmu σ 104 0 (0 : Int32)))
  else
    (p_M_judge f (qmu σ 104 0 (0 : Int32))).bind fun u3 =>
    if qin x1 60 = true then
    if (u3 115 (qi x1)) = 0 then
      some ((0 : Int32), u3)
    else
      some ((1 : Int32), u3)
    else none
def p_M_isIn (f : Nat) (σ : qMem) (x1 : Int32) (x2 : Int32) : Option (Int32) :=
  if qin x1 10 = true then
  if (σ 120 (qi x1)) = x2 then
    some (1 : Int32)
  else
    if qin x1 10 = true then
    if (σ 121 (qi x1)) = x2 then
      some (1 : Int32)
    else
      some (0 : Int32)
    else none
  else none
def p_M_join_b68 (f : Nat) (k39 : Int32 → Option (Int32 × qMem)) (σ : qMem) (x1 : Int32) (x2 : Int32) (x3 : Int32) (x4 : Int32) : Option (Int32 × qMem) :=
  if qin x4 10 = true then
  if (σ 123 (qi x4)) = (-1000000 : Int32) then
    some ((-1000002 : Int32), σ)
  else
    if qin x4 10 = true then
    if (σ 123 (qi x4)) ≤ x3 then
      k39 (x4 + (1 : Int32))
    else
      some ((-1000002 : Int32), σ)
    else none
  else none
def p_M_join_l39 (f : Nat) (σ : qMem) (x1 : Int32) (x2 : Int32) (x3 : Int32) (k39 : Int32 → Option (Int32 × qMem)) (x4 : Int32) : Option (Int32 × qMem) :=
  if (σ 104 31) ≤ x4 then
    if (σ 104 31) = (10 : Int32) then
      some ((-1000003 : Int32), σ)
    else
      if qin (σ 104 31) 10 = true then
      if qin ((qmu σ 120 (qi (σ 104 31)) x1) 104 31) 10 = true then
      if qin ((qmu (qmu σ 120 (qi (σ 104 31)) x1) 121 (qi ((qmu σ 120 (qi (σ 104 31)) x1) 104 31)) x2) 104 31) 10 = true then
      if qin ((qmu (qmu (qmu σ 120 (qi (σ 104 31)) x1) 121 (qi ((qmu σ 120 (qi (σ 104 31)) x1) 104 31)) x2) 122 (qi ((qmu (qmu σ 120 (qi (σ 104 31)) x1) 121 (qi ((qmu σ 120 (qi (σ 104 31)) x1) 104 31)) x2) 104 31)) x3) 104 31) 10 = true then
      some ((1 : Int32), (qmu (qmu (qmu (qmu (qmu σ 120 (qi (σ 104 31)) x1) 121 (qi ((qmu σ 120 (qi (σ 104 31)) x1) 104 31)) x2) 122 (qi ((qmu (qmu σ 120 (qi (σ 104 31)) x1) 121 (qi ((qmu σ 120 (qi (σ 104 31)) x1) 104 31)) x2) 104 31)) x3) 123 (qi ((qmu (qmu (qmu σ 120 (qi (σ 104 31)) x1) 121 (qi ((qmu σ 120 (qi (σ 104 31)) x1) 104 31)) x2) 122 (qi ((qmu (qmu σ 120 (qi (σ 104 31)) x1) 121 (qi ((qmu σ 120 (qi (σ 104 31)) x1) 104 31)) x2) 104 31)) x3) 104 31)) (-1000000 : Int32)) 104 31 (((qmu (qmu (qmu (qmu σ 120 (qi (σ 104 31)) x1) 121 (qi ((qmu σ 120 (qi (σ 104 31)) x1) 104 31)) x2) 122 (qi ((qmu (qmu σ 120 (qi (σ 104 31)) x1) 121 (qi ((qmu σ 120 (qi (σ 104 31)) x1) 104 31)) x2) 104 31)) x3) 123 (qi ((qmu (qmu (qmu σ 120 (qi (σ 104 31)) x1) 121 (qi ((qmu σ 120 (qi (σ 104 31)) x1) 104 31)) x2) 122 (qi ((qmu (qmu σ 120 (qi (σ 104 31)) x1) 121 (qi ((qmu σ 120 (qi (σ 104 31)) x1) 104 31)) x2) 104 31)) x3) 104 31)) (-1000000 : Int32)) 104 31) + (1 : Int32))))
      else none
      else none
      else none
      else none
  else
    (p_M_isIn f σ x4 x1).bind fun u7 =>
    if u7 = 0 then
      (p_M_isIn f σ x4 x2).bind fun u9 =>
      if u9 = 0 then
        k39 (x4 + (1 : Int32))
      else
        p_M_join_b68 f k39 σ x1 x2 x3 x4
    else
      p_M_join_b68 f k39 σ x1 x2 x3 x4
def p_M_join (f : Nat) (σ : qMem) (x1 : Int32) (x2 : Int32) (x3 : Int32) : Option (Int32 × qMem) :=
  (p_M_isPromise f (qmu σ 104 0 (0 : Int32)) x1).bind fun u11 =>
  if u11 = 0 then
    some ((-1000001 : Int32), (qmu σ 104 0 (0 : Int32)))
  else
    (p_M_isPromise f (qmu σ 104 0 (0 : Int32)) x2).bind fun u13 =>
    if u13 = 0 then
      some ((-1000001 : Int32), (qmu σ 104 0 (0 : Int32)))
    else
      if x1 = x2 then
        some ((-1000001 : Int32), (qmu σ 104 0 (0 : Int32)))
      else
        (p_M_isDay f (qmu σ 104 0 (0 : Int32)) x3).bind fun u15 =>
        if u15 = 0 then
          some ((-1000001 : Int32), (qmu σ 104 0 (0 : Int32)))
        else
          qfix1 (p_M_join_l39 f (qmu σ 104 0 (0 : Int32)) x1 x2 x3 ) f (0 : Int32)
def p_M_split_l29 (f : Nat) (σ : qMem) (x1 : Int32) (x2 : Int32) (k29 : Int32 → Int32 → Option (Int32 × qMem)) (x3 : Int32) (x4 : Int32) : Option (Int32 × qMem) :=
  if (σ 104 31) ≤ x4 then
    if x3 = (-1000000 : Int32) then
      some ((-1000002 : Int32), σ)
    else
      if qin x3 10 = true then
      if (σ 123 (qi x3)) = (-1000000 : Int32) then
        if qin x3 10 = true then
        if (σ 122 (qi x3)) < x2 then
          if qin x3 10 = true then
          some ((1 : Int32), (qmu σ 123 (qi x3) x2))
          else none
        else
          some ((-1000002 : Int32), σ)
        else none
      else
        some ((-1000002 : Int32), σ)
      else none
  else
    (p_M_isIn f σ x4 x1).bind fun u4 =>
    if u4 = 0 then
      k29 x3 (x4 + (1 : Int32))
    else
      k29 x4 (x4 + (1 : Int32))
def p_M_split (f : Nat) (σ : qMem) (x1 : Int32) (x2 : Int32) : Option (Int32 × qMem) :=
  (p_M_isPromise f (qmu σ 104 0 (0 : Int32)) x1).bind fun u6 =>
  if u6 = 0 then
    some ((-1000001 : Int32), (qmu σ 104 0 (0 : Int32)))
  else
    (p_M_isDay f (qmu σ 104 0 (0 : Int32)) x2).bind fun u8 =>
    if u8 = 0 then
      some ((-1000001 : Int32), (qmu σ 104 0 (0 : Int32)))
    else
      qfix2 (p_M_split_l29 f (qmu σ 104 0 (0 : Int32)) x1 x2 ) f (-1000000 : Int32) (0 : Int32)
def p_M_rankOn_l4 (f : Nat) (σ : qMem) (x1 : Int32) (k4 : Int32 → Int32 → Option (Int32)) (x2 : Int32) (x3 : Int32) : Option (Int32) :=
  if (σ 104 18) ≤ x3 then
    some x2
  else
    if qin x3 30 = true then
    if (σ 110 (qi x3)) = x1 then
      if qin x3 30 = true then
      if (σ 111 (qi x3)) ≤ x2 then
        k4 x2 (x3 + (1 : Int32))
      else
        if qin x3 30 = true then
        k4 (σ 111 (qi x3)) (x3 + (1 : Int32))
        else none
      else none
    else
      k4 x2 (x3 + (1 : Int32))
    else none
def p_M_rankOn (f : Nat) (σ : qMem) (x1 : Int32) : Option (Int32) :=
  qfix2 (p_M_rankOn_l4 f σ x1 ) f (0 : Int32) (0 : Int32)
def p_M_movedFrom_b41 (f : Nat) (σ : qMem) (x3 : Int32) : Option (Int32) :=
  if x3 ≤ (9999 : Int32) then
    some x3
  else
    some (-1000000 : Int32)
def p_M_movedFrom_l16 (f : Nat) (σ : qMem) (x2 : Int32) (k16 : Int32 → Option (Int32)) (x3 : Int32) : Option (Int32) :=
  if x2 ≤ 0 then
    p_M_movedFrom_b41 f σ x3
  else
    if (10000 : Int32) ≤ x3 then
      p_M_movedFrom_b41 f σ x3
    else
      (p_M_rankOn f σ x3).bind fun u1 =>
      if u1 ≤ 0 then
        p_M_movedFrom_b41 f σ x3
      else
        k16 (x3 + (1 : Int32))
def p_M_movedFrom (f : Nat) (σ : qMem) (x1 : Int32) : Option (Int32) :=
  (p_M_rankOn f σ x1).bind fun u3 =>
  if u3 = (2 : Int32) then
    some (-1000000 : Int32)
  else
    qfix1 (p_M_movedFrom_l16 f σ u3 ) f x1
def p_M_wantsIn_b63 (f : Nat) (k11 : Int32 → Int32 → Option (Int32)) (σ : qMem) (x1 : Int32) (x2 : Int32) (x3 : Int32) (x5 : Int32) (s0 : Int32) (s1 : Int32) : Option (Int32) :=
  (p_M_of f σ x1 (4 : Int32)).bind fun u1 =>
  k11 (s0 + s1) (x5 + u1)
def p_M_wantsIn_b62 (f : Nat) (k11 : Int32 → Int32 → Option (Int32)) (σ : qMem) (x1 : Int32) (x2 : Int32) (x3 : Int32) (x5 : Int32) (s0 : Int32) : Option (Int32) :=
  p_M_wantsIn_b63 f k11 σ x1 x2 x3 x5 s0 (0 : Int32)
def p_M_wantsIn_l11 (f : Nat) (σ : qMem) (x1 : Int32) (x2 : Int32) (x3 : Int32) (k11 : Int32 → Int32 → Option (Int32)) (x4 : Int32) (x5 : Int32) : Option (Int32) :=
  (p_M_of f σ x1 (6 : Int32)).bind fun u3 =>
  if u3 < x5 then
    some x4
  else
    if x3 < x5 then
      some x4
    else
      (p_M_movedFrom f σ x5).bind fun u5 =>
      if u5 = (-1000000 : Int32) then
        p_M_wantsIn_b62 f k11 σ x1 x2 x3 x5 x4
      else
        if u5 < x2 then
          p_M_wantsIn_b62 f k11 σ x1 x2 x3 x5 x4
        else
          if x3 < u5 then
            p_M_wantsIn_b62 f k11 σ x1 x2 x3 x5 x4
          else
            p_M_wantsIn_b63 f k11 σ x1 x2 x3 x5 x4 (1 : Int32)
def p_M_wantsIn (f : Nat) (σ : qMem) (x1 : Int32) (x2 : Int32) (x3 : Int32) : Option (Int32) :=
  (p_M_of f σ x1 (5 : Int32)).bind fun u7 =>
  qfix2 (p_M_wantsIn_l11 f σ x1 x2 x3 ) f (0 : Int32) u7
def p_M_otherOf_b59 (f : Nat) (k6 : Int32 → Int32 → Option (Int32)) (σ : qMem) (x1 : Int32) (x2 : Int32) (x4 : Int32) : Option (Int32) :=
  if qin x4 10 = true then
  if (σ 120 (qi x4)) = x1 then
    if qin x4 10 = true then
    k6 (σ 121 (qi x4)) (x4 + (1 : Int32))
    else none
  else
    if qin x4 10 = true then
    k6 (σ 120 (qi x4)) (x4 + (1 : Int32))
    else none
  else none
def p_M_otherOf_l6 (f : Nat) (σ : qMem) (x1 : Int32) (x2 : Int32) (k6 : Int32 → Int32 → Option (Int32)) (x3 : Int32) (x4 : Int32) : Option (Int32) :=
  if (σ 104 31) ≤ x4 then
    some x3
  else
    (p_M_isIn f σ x4 x1).bind fun u4 =>
    if u4 = 0 then
      k6 x3 (x4 + (1 : Int32))
    else
      if qin x4 10 = true then
      if x2 < (σ 122 (qi x4)) then
        k6 x3 (x4 + (1 : Int32))
      else
        if qin x4 10 = true then
        if (σ 123 (qi x4)) = (-1000000 : Int32) then
          p_M_otherOf_b59 f k6 σ x1 x2 x4
        else
          if qin x4 10 = true then
          if (σ 123 (qi x4)) ≤ x2 then
            k6 x3 (x4 + (1 : Int32))
          else
            p_M_otherOf_b59 f k6 σ x1 x2 x4
          else none
        else none
      else none
def p_M_otherOf (f : Nat) (σ : qMem) (x1 : Int32) (x2 : Int32) : Option (Int32) :=
  qfix2 (p_M_otherOf_l6 f σ x1 x2 ) f (-1000000 : Int32) (0 : Int32)
def p_M_saidTill_b56 (f : Nat) (k9 : Int32 → Int32 → Option (Int32 × qMem)) (σ : qMem) (x1 : Int32) (x2 : Int32) (x3 : Int32) (x4 : Int32) (s0 : Int32) : Option (Int32 × qMem) :=
  if qin x4 60 = true then
  if (σ 115 (qi x4)) = 0 then
    k9 (x3 + (0 : Int32)) (x4 + (1 : Int32))
  else
    if qin x4 60 = true then
    if x2 < (σ 113 (qi x4)) then
      k9 (x3 + (0 : Int32)) (x4 + (1 : Int32))
    else
      if s0 = 0 then
        k9 (x3 + (0 : Int32)) (x4 + (1 : Int32))
      else
        k9 (x3 + (1 : Int32)) (x4 + (1 : Int32))
    else none
  else none
def p_M_saidTill_l9 (f : Nat) (σ : qMem) (x1 : Int32) (x2 : Int32) (k9 : Int32 → Int32 → Option (Int32 × qMem)) (x3 : Int32) (x4 : Int32) : Option (Int32 × qMem) :=
  if (σ 104 21) ≤ x4 then
    some (x3, σ)
  else
    if qin x4 60 = true then
    if (σ 112 (qi x4)) = x1 then
      p_M_saidTill_b56 f k9 σ x1 x2 x3 x4 (1 : Int32)
    else
      if qin x4 60 = true then
      (p_M_otherOf f σ x1 (σ 113 (qi x4))).bind fun u5 =>
      if qin x4 60 = true then
      if u5 = (σ 112 (qi x4)) then
        p_M_saidTill_b56 f k9 σ x1 x2 x3 x4 (1 : Int32)
      else
        p_M_saidTill_b56 f k9 σ x1 x2 x3 x4 (0 : Int32)
      else none
      else none
    else none
def p_M_saidTill (f : Nat) (σ : qMem) (x1 : Int32) (x2 : Int32) : Option (Int32 × qMem) :=
  (p_M_judge f σ).bind fun u8 =>
  qfix2 (p_M_saidTill_l9 f u8 x1 x2 ) f (0 : Int32) (0 : Int32)
def p_M_owedTill (f : Nat) (σ : qMem) (x1 : Int32) (x2 : Int32) : Option (Int32 × qMem) :=
  (p_M_wantsIn f σ x1 (0 : Int32) x2).bind fun u1 =>
  (p_M_saidTill f σ x1 x2).bind fun u3 =>
  if 0 ≤ (u1 - u3.1) then
    some ((u1 - u3.1), u3.2)
  else
    some ((0 : Int32), u3.2)
def p_M_count (f : Nat) (σ : qMem) (x1 : Int32) (x2 : Int32) (x3 : Int32) : Option (Int32 × qMem) :=
  (p_M_isPromise f (qmu σ 104 0 (0 : Int32)) x1).bind fun u1 =>
  if u1 = 0 then
    some ((-1000001 : Int32), (qmu σ 104 0 (0 : Int32)))
  else
    (p_M_isDay f (qmu σ 104 0 (0 : Int32)) x2).bind fun u3 =>
    if u3 = 0 then
      some ((-1000001 : Int32), (qmu σ 104 0 (0 : Int32)))
    else
      (p_M_in f (qmu σ 104 0 (0 : Int32)) (x3).toInt64 (0 : Int64) (2 : Int64)).bind fun u5 =>
      if u5 = 0 then
        some ((-1000001 : Int32), (qmu σ 104 0 (0 : Int32)))
      else
        if x3 = 0 then
          (p_M_wantsIn f (qmu σ 104 0 (0 : Int32)) x1 (0 : Int32) x2).bind fun u11 =>
          some (u11, (qmu σ 104 0 (0 : Int32)))
        else
          if x3 = (1 : Int32) then
            (p_M_saidTill f (qmu σ 104 0 (0 : Int32)) x1 x2).bind fun u9 =>
            some (u9.1, u9.2)
          else
            (p_M_owedTill f (qmu σ 104 0 (0 : Int32)) x1 x2).bind fun u7 =>
            some (u7.1, u7.2)
def p_M_isHouse (f : Nat) (σ : qMem) (x0 : Int32) : Option (Int32) :=
  (p_M_in f σ (x0).toInt64 (0 : Int64) (5 : Int64)).bind fun u1 =>
  some (vp_nar .boolean u1)
def p_M_house_b87 (f : Nat) (σ : qMem) (x1 : Int32) (x2 : Int32) (x3 : Int32) (x4 : Int32) (s1 : Int32) (s2 : Int32) : Option (Int32 × qMem) :=
  if qin s1 6 = true then
  if x2 = (1 : Int32) then
    if qin x1 6 = true then
    some (x4, (qmu (qmu σ 124 (qi s1) s2) 125 (qi x1) x3))
    else none
  else
    if qin x1 6 = true then
    if qin x1 6 = true then
    some (x4, (qmu (qmu σ 124 (qi s1) s2) 125 (qi x1) ((qmu σ 124 (qi s1) s2) 125 (qi x1))))
    else none
    else none
  else none
def p_M_house_b66 (f : Nat) (σ : qMem) (x1 : Int32) (x2 : Int32) (x3 : Int32) (s0 : Int32) : Option (Int32 × qMem) :=
  if x2 = 0 then
    p_M_house_b87 f σ x1 x2 x3 s0 x1 x3
  else
    if qin x1 6 = true then
    p_M_house_b87 f σ x1 x2 x3 s0 x1 (σ 124 (qi x1))
    else none
def p_M_house_b38 (f : Nat) (σ : qMem) (x1 : Int32) (x2 : Int32) (x3 : Int32) (s0 : Int64) (s1 : Int64) (s2 : Int64) : Option (Int32 × qMem) :=
  (p_M_in f σ s0 s1 s2).bind fun u6 =>
  if u6 = 0 then
    some ((-1000001 : Int32), σ)
  else
    if x2 = 0 then
      if qin x1 6 = true then
      p_M_house_b66 f σ x1 x2 x3 (σ 124 (qi x1))
      else none
    else
      if qin x1 6 = true then
      p_M_house_b66 f σ x1 x2 x3 (σ 125 (qi x1))
      else none
def p_M_house (f : Nat) (σ : qMem) (x1 : Int32) (x2 : Int32) (x3 : Int32) : Option (Int32 × qMem) :=
  (p_M_isHouse f (qmu σ 104 0 (0 : Int32)) x1).bind fun u10 =>
  if u10 = 0 then
    some ((-1000001 : Int32), (qmu σ 104 0 (0 : Int32)))
  else
    (p_M_in f (qmu σ 104 0 (0 : Int32)) (x2).toInt64 (0 : Int64) (1 : Int64)).bind fun u12 =>
    if u12 = 0 then
      some ((-1000001 : Int32), (qmu σ 104 0 (0 : Int32)))
    else
      if x2 = 0 then
        p_M_house_b38 f (qmu σ 104 0 (0 : Int32)) x1 x2 x3 (x3).toInt64 (0 : Int64) (10000 : Int64)
      else
        p_M_house_b38 f (qmu σ 104 0 (0 : Int32)) x1 x2 x3 (x3).toInt64 (0 : Int64) (100 : Int64)
def p_M_isYear (f : Nat) (σ : qMem) (x0 : Int32) : Option (Int32) :=
  (p_M_in f σ (x0).toInt64 (0 : Int64) (27 : Int64)).bind fun u1 =>
  some (vp_nar .boolean u1)
def p_M_repair (f : Nat) (σ : qMem) (x1 : Int32) (x2 : Int32) (x3 : Int32) : Option (Int32 × qMem) :=
  (p_M_isHouse f (qmu σ 104 0 (0 : Int32)) x1).bind fun u1 =>
  if u1 = 0 then
    some ((-1000001 : Int32), (qmu σ 104 0 (0 : Int32)))
  else
    (p_M_isYear f (qmu σ 104 0 (0 : Int32)) x2).bind fun u3 =>
    if u3 = 0 then
      some ((-1000001 : Int32), (qmu σ 104 0 (0 : Int32)))
    else
      (p_M_in f (qmu σ 104 0 (0 : Int32)) (x3).toInt64 (1 : Int64) (10000 : Int64)).bind fun u5 =>
      if u5 = 0 then
        some ((-1000001 : Int32), (qmu σ 104 0 (0 : Int32)))
      else
        if ((qmu σ 104 0 (0 : Int32)) 104 38) = (20 : Int32) then
          some ((-1000003 : Int32), (qmu σ 104 0 (0 : Int32)))
        else
          if qin ((qmu σ 104 0 (0 : Int32)) 104 38) 20 = true then
          if qin ((qmu (qmu σ 104 0 (0 : Int32)) 126 (qi ((qmu σ 104 0 (0 : Int32)) 104 38)) x1) 104 38) 20 = true then
          if qin ((qmu (qmu (qmu σ 104 0 (0 : Int32)) 126 (qi ((qmu σ 104 0 (0 : Int32)) 104 38)) x1) 127 (qi ((qmu (qmu σ 104 0 (0 : Int32)) 126 (qi ((qmu σ 104 0 (0 : Int32)) 104 38)) x1) 104 38)) x2) 104 38) 20 = true then
          some (((qmu (qmu (qmu (qmu (qmu σ 104 0 (0 : Int32)) 126 (qi ((qmu σ 104 0 (0 : Int32)) 104 38)) x1) 127 (qi ((qmu (qmu σ 104 0 (0 : Int32)) 126 (qi ((qmu σ 104 0 (0 : Int32)) 104 38)) x1) 104 38)) x2) 128 (qi ((qmu (qmu (qmu σ 104 0 (0 : Int32)) 126 (qi ((qmu σ 104 0 (0 : Int32)) 104 38)) x1) 127 (qi ((qmu (qmu σ 104 0 (0 : Int32)) 126 (qi ((qmu σ 104 0 (0 : Int32)) 104 38)) x1) 104 38)) x2) 104 38)) x3) 104 38 (((qmu (qmu (qmu (qmu σ 104 0 (0 : Int32)) 126 (qi ((qmu σ 104 0 (0 : Int32)) 104 38)) x1) 127 (qi ((qmu (qmu σ 104 0 (0 : Int32)) 126 (qi ((qmu σ 104 0 (0 : Int32)) 104 38)) x1) 104 38)) x2) 128 (qi ((qmu (qmu (qmu σ 104 0 (0 : Int32)) 126 (qi ((qmu σ 104 0 (0 : Int32)) 104 38)) x1) 127 (qi ((qmu (qmu σ 104 0 (0 : Int32)) 126 (qi ((qmu σ 104 0 (0 : Int32)) 104 38)) x1) 104 38)) x2) 104 38)) x3) 104 38) + (1 : Int32))) 104 38), (qmu (qmu (qmu (qmu (qmu σ 104 0 (0 : Int32)) 126 (qi ((qmu σ 104 0 (0 : Int32)) 104 38)) x1) 127 (qi ((qmu (qmu σ 104 0 (0 : Int32)) 126 (qi ((qmu σ 104 0 (0 : Int32)) 104 38)) x1) 104 38)) x2) 128 (qi ((qmu (qmu (qmu σ 104 0 (0 : Int32)) 126 (qi ((qmu σ 104 0 (0 : Int32)) 104 38)) x1) 127 (qi ((qmu (qmu σ 104 0 (0 : Int32)) 126 (qi ((qmu σ 104 0 (0 : Int32)) 104 38)) x1) 104 38)) x2) 104 38)) x3) 104 38 (((qmu (qmu (qmu (qmu σ 104 0 (0 : Int32)) 126 (qi ((qmu σ 104 0 (0 : Int32)) 104 38)) x1) 127 (qi ((qmu (qmu σ 104 0 (0 : Int32)) 126 (qi ((qmu σ 104 0 (0 : Int32)) 104 38)) x1) 104 38)) x2) 128 (qi ((qmu (qmu (qmu σ 104 0 (0 : Int32)) 126 (qi ((qmu σ 104 0 (0 : Int32)) 104 38)) x1) 127 (qi ((qmu (qmu σ 104 0 (0 : Int32)) 126 (qi ((qmu σ 104 0 (0 : Int32)) 104 38)) x1) 104 38)) x2) 104 38)) x3) 104 38) + (1 : Int32))))
          else none
          else none
          else none
def p_M_empty (f : Nat) (σ : qMem) (x1 : Int32) (x2 : Int32) (x3 : Int32) : Option (Int32 × qMem) :=
  (p_M_isHouse f (qmu σ 104 0 (0 : Int32)) x1).bind fun u1 =>
  if u1 = 0 then
    some ((-1000001 : Int32), (qmu σ 104 0 (0 : Int32)))
  else
    (p_M_isDay f (qmu σ 104 0 (0 : Int32)) x2).bind fun u3 =>
    if u3 = 0 then
      some ((-1000001 : Int32), (qmu σ 104 0 (0 : Int32)))
    else
      (p_M_in f (qmu σ 104 0 (0 : Int32)) (x3).toInt64 (x2).toInt64 (9999 : Int64)).bind fun u5 =>
      if u5 = 0 then
        some ((-1000001 : Int32), (qmu σ 104 0 (0 : Int32)))
      else
        if ((qmu σ 104 0 (0 : Int32)) 104 42) = (20 : Int32) then
          some ((-1000003 : Int32), (qmu σ 104 0 (0 : Int32)))
        else
          if qin ((qmu σ 104 0 (0 : Int32)) 104 42) 20 = true then
          if qin ((qmu (qmu σ 104 0 (0 : Int32)) 129 (qi ((qmu σ 104 0 (0 : Int32)) 104 42)) x1) 104 42) 20 = true then
          if qin ((qmu (qmu (qmu σ 104 0 (0 : Int32)) 129 (qi ((qmu σ 104 0 (0 : Int32)) 104 42)) x1) 130 (qi ((qmu (qmu σ 104 0 (0 : Int32)) 129 (qi ((qmu σ 104 0 (0 : Int32)) 104 42)) x1) 104 42)) x2) 104 42) 20 = true then
          some (((qmu (qmu (qmu (qmu (qmu σ 104 0 (0 : Int32)) 129 (qi ((qmu σ 104 0 (0 : Int32)) 104 42)) x1) 130 (qi ((qmu (qmu σ 104 0 (0 : Int32)) 129 (qi ((qmu σ 104 0 (0 : Int32)) 104 42)) x1) 104 42)) x2) 131 (qi ((qmu (qmu (qmu σ 104 0 (0 : Int32)) 129 (qi ((qmu σ 104 0 (0 : Int32)) 104 42)) x1) 130 (qi ((qmu (qmu σ 104 0 (0 : Int32)) 129 (qi ((qmu σ 104 0 (0 : Int32)) 104 42)) x1) 104 42)) x2) 104 42)) x3) 104 42 (((qmu (qmu (qmu (qmu σ 104 0 (0 : Int32)) 129 (qi ((qmu σ 104 0 (0 : Int32)) 104 42)) x1) 130 (qi ((qmu (qmu σ 104 0 (0 : Int32)) 129 (qi ((qmu σ 104 0 (0 : Int32)) 104 42)) x1) 104 42)) x2) 131 (qi ((qmu (qmu (qmu σ 104 0 (0 : Int32)) 129 (qi ((qmu σ 104 0 (0 : Int32)) 104 42)) x1) 130 (qi ((qmu (qmu σ 104 0 (0 : Int32)) 129 (qi ((qmu σ 104 0 (0 : Int32)) 104 42)) x1) 104 42)) x2) 104 42)) x3) 104 42) + (1 : Int32))) 104 42), (qmu (qmu (qmu (qmu (qmu σ 104 0 (0 : Int32)) 129 (qi ((qmu σ 104 0 (0 : Int32)) 104 42)) x1) 130 (qi ((qmu (qmu σ 104 0 (0 : Int32)) 129 (qi ((qmu σ 104 0 (0 : Int32)) 104 42)) x1) 104 42)) x2) 131 (qi ((qmu (qmu (qmu σ 104 0 (0 : Int32)) 129 (qi ((qmu σ 104 0 (0 : Int32)) 104 42)) x1) 130 (qi ((qmu (qmu σ 104 0 (0 : Int32)) 129 (qi ((qmu σ 104 0 (0 : Int32)) 104 42)) x1) 104 42)) x2) 104 42)) x3) 104 42 (((qmu (qmu (qmu (qmu σ 104 0 (0 : Int32)) 129 (qi ((qmu σ 104 0 (0 : Int32)) 104 42)) x1) 130 (qi ((qmu (qmu σ 104 0 (0 : Int32)) 129 (qi ((qmu σ 104 0 (0 : Int32)) 104 42)) x1) 104 42)) x2) 131 (qi ((qmu (qmu (qmu σ 104 0 (0 : Int32)) 129 (qi ((qmu σ 104 0 (0 : Int32)) 104 42)) x1) 130 (qi ((qmu (qmu σ 104 0 (0 : Int32)) 129 (qi ((qmu σ 104 0 (0 : Int32)) 104 42)) x1) 104 42)) x2) 104 42)) x3) 104 42) + (1 : Int32))))
          else none
          else none
          else none
def p_M_rentOf_l66 (f : Nat) (σ : qMem) (x1 : Int32) (x2 : Int32) (x3 : Int32) (x4 : Int32) (x5 : Int32) (k46 : Int32 → Int32 → Option (Int32)) (k66 : Int32 → Int32 → Option (Int32)) (x6 : Int32) (x7 : Int32) : Option (Int32) :=
  if (σ 104 42) ≤ x7 then
    if x6 = 0 then
      k46 (x4 + (0 : Int32)) (x5 + (1 : Int32))
    else
      k46 (x4 + (1 : Int32)) (x5 + (1 : Int32))
  else
    if x6 = 0 then
      if qin x7 20 = true then
      if (σ 129 (qi x7)) = x1 then
        if qin x7 20 = true then
        if x5 < (σ 130 (qi x7)) then
          k66 (0 : Int32) (x7 + (1 : Int32))
        else
          if qin x7 20 = true then
          if (σ 131 (qi x7)) < x5 then
            k66 (0 : Int32) (x7 + (1 : Int32))
          else
            k66 (1 : Int32) (x7 + (1 : Int32))
          else none
        else none
      else
        k66 (0 : Int32) (x7 + (1 : Int32))
      else none
    else
      k66 (1 : Int32) (x7 + (1 : Int32))
def p_M_rentOf_l164 (f : Nat) (σ : qMem) (x1 : Int32) (x2 : Int32) (k164 : Int32 → Int32 → Option (Int32)) (x5 : Int32) (x6 : Int32) : Option (Int32) :=
  if (σ 104 38) ≤ x6 then
    if 0 ≤ x5 then
      some x5
    else
      some (0 : Int32)
  else
    if qin x6 20 = true then
    if (σ 126 (qi x6)) = x1 then
      if qin x6 20 = true then
      if (σ 127 (qi x6)) = x2 then
        if qin x6 20 = true then
        k164 (x5 - (σ 128 (qi x6))) (x6 + (1 : Int32))
        else none
      else
        k164 (x5 - (0 : Int32)) (x6 + (1 : Int32))
      else none
    else
      k164 (x5 - (0 : Int32)) (x6 + (1 : Int32))
    else none
def p_M_rentOf_l46 (f : Nat) (σ : qMem) (x1 : Int32) (x2 : Int32) (x3 : Int32) (k46 : Int32 → Int32 → Option (Int32)) (x4 : Int32) (x5 : Int32) : Option (Int32) :=
  if (((360 : Int32) * x2) + (360 : Int32)) ≤ x5 then
    qfix2 (p_M_rentOf_l164 f σ x1 x2 ) f (x3 - ((x3 * x4) / (360 : Int32))) (0 : Int32)
  else
    qfix2 (p_M_rentOf_l66 f σ x1 x2 x3 x4 x5 k46) f (0 : Int32) (0 : Int32)
def p_M_rentOf_l10 (f : Nat) (σ : qMem) (x1 : Int32) (x2 : Int32) (k10 : Int32 → Int32 → Option (Int32)) (x3 : Int32) (x4 : Int32) : Option (Int32) :=
  if x2 ≤ x4 then
    qfix2 (p_M_rentOf_l46 f σ x1 x2 x3 ) f (0 : Int32) ((360 : Int32) * x2)
  else
    if qin x1 6 = true then
    k10 (x3 - ((x3 * (σ 125 (qi x1))) / (100 : Int32))) (x4 + (1 : Int32))
    else none
def p_M_rentOf (f : Nat) (σ : qMem) (x1 : Int32) (x2 : Int32) : Option (Int32) :=
  if qin x1 6 = true then
  qfix2 (p_M_rentOf_l10 f σ x1 x2 ) f (σ 124 (qi x1)) (0 : Int32)
  else none
def p_M_rent (f : Nat) (σ : qMem) (x1 : Int32) (x2 : Int32) : Option (Int32 × qMem) :=
  (p_M_isHouse f (qmu σ 104 0 (0 : Int32)) x1).bind fun u1 =>
  if u1 = 0 then
    some ((-1000001 : Int32), (qmu σ 104 0 (0 : Int32)))
  else
    (p_M_isYear f (qmu σ 104 0 (0 : Int32)) x2).bind fun u3 =>
    if u3 = 0 then
      some ((-1000001 : Int32), (qmu σ 104 0 (0 : Int32)))
    else
      (p_M_rentOf f (qmu σ 104 0 (0 : Int32)) x1 x2).bind fun u5 =>
      some (u5, (qmu σ 104 0 (0 : Int32)))
def p_M_comesTo (f : Nat) (σ : qMem) (x1 : Int32) (x2 : Int32) : Option (Int32) :=
  (p_M_of f σ x1 (7 : Int32)).bind fun u1 =>
  (p_M_rentOf f σ u1 x2).bind fun u3 =>
  (p_M_of f σ x1 (8 : Int32)).bind fun u5 =>
  (p_M_otherOf f σ x1 ((360 : Int32) * x2)).bind fun u7 =>
  if u7 = (-1000000 : Int32) then
    some ((u3 * u5) / (100 : Int32))
  else
    (p_M_of f σ u7 (7 : Int32)).bind fun u9 =>
    (p_M_rentOf f σ u9 x2).bind fun u11 =>
    (p_M_of f σ u7 (8 : Int32)).bind fun u13 =>
    some (((u3 * u5) / (100 : Int32)) + ((u11 * u13) / (100 : Int32)))
def p_M_comes (f : Nat) (σ : qMem) (x1 : Int32) (x2 : Int32) (x3 : Int32) : Option (Int32 × qMem) :=
  (p_M_isPromise f (qmu σ 104 0 (0 : Int32)) x1).bind fun u1 =>
  if u1 = 0 then
    some ((-1000001 : Int32), (qmu σ 104 0 (0 : Int32)))
  else
    (p_M_isYear f (qmu σ 104 0 (0 : Int32)) x2).bind fun u3 =>
    if u3 = 0 then
      some ((-1000001 : Int32), (qmu σ 104 0 (0 : Int32)))
    else
      (p_M_in f (qmu σ 104 0 (0 : Int32)) (x3).toInt64 (0 : Int64) (1 : Int64)).bind fun u5 =>
      if u5 = 0 then
        some ((-1000001 : Int32), (qmu σ 104 0 (0 : Int32)))
      else
        (p_M_comesTo f (qmu σ 104 0 (0 : Int32)) x1 x2).bind fun u7 =>
        if x3 = 0 then
          some (u7, (qmu σ 104 0 (0 : Int32)))
        else
          if qin (0 : Int32) 3 = true then
          if u7 < ((qmu σ 104 0 (0 : Int32)) 132 (qi (0 : Int32))) then
            some ((0 : Int32), (qmu σ 104 0 (0 : Int32)))
          else
            some ((1 : Int32), (qmu σ 104 0 (0 : Int32)))
          else none
def p_M_fails_l27 (f : Nat) (σ : qMem) (x1 : Int32) (k27 : Int32 → Option (Int32 × qMem)) (x2 : Int32) : Option (Int32 × qMem) :=
  if (28 : Int32) ≤ x2 then
    some ((-1000000 : Int32), σ)
  else
    (p_M_of f σ x1 (0 : Int32)).bind fun u1 =>
    if u1 = 0 then
      (p_M_comesTo f σ x1 x2).bind fun u3 =>
      if qin (0 : Int32) 3 = true then
      if (σ 132 (qi (0 : Int32))) ≤ u3 then
        k27 (x2 + (1 : Int32))
      else
        some (x2, σ)
      else none
    else
      some ((-1000000 : Int32), σ)
def p_M_fails (f : Nat) (σ : qMem) (x1 : Int32) : Option (Int32 × qMem) :=
  (p_M_isPromise f (qmu σ 104 0 (0 : Int32)) x1).bind fun u6 =>
  if u6 = 0 then
    some ((-1000001 : Int32), (qmu σ 104 0 (0 : Int32)))
  else
    (p_M_of f (qmu σ 104 0 (0 : Int32)) x1 (5 : Int32)).bind fun u8 =>
    qfix1 (p_M_fails_l27 f (qmu σ 104 0 (0 : Int32)) x1 ) f (u8 / (360 : Int32))
def p_M_price_b33 (f : Nat) (σ : qMem) (x1 : Int32) (x2 : Int32) (s0 : Int64) (s1 : Int64) (s2 : Int64) : Option (Int32 × qMem) :=
  (p_M_in f σ s0 s1 s2).bind fun u1 =>
  if u1 = 0 then
    some ((-1000001 : Int32), σ)
  else
    if qin x1 3 = true then
    if qin x1 3 = true then
    some ((σ 132 (qi x1)), (qmu σ 132 (qi x1) x2))
    else none
    else none
def p_M_price (f : Nat) (σ : qMem) (x1 : Int32) (x2 : Int32) : Option (Int32 × qMem) :=
  (p_M_in f (qmu σ 104 0 (0 : Int32)) (x1).toInt64 (0 : Int64) (2 : Int64)).bind fun u5 =>
  if u5 = 0 then
    some ((-1000001 : Int32), (qmu σ 104 0 (0 : Int32)))
  else
    if x1 = 0 then
      p_M_price_b33 f (qmu σ 104 0 (0 : Int32)) x1 x2 (x2).toInt64 (0 : Int64) (10000 : Int64)
    else
      p_M_price_b33 f (qmu σ 104 0 (0 : Int32)) x1 x2 (x2).toInt64 (0 : Int64) (99 : Int64)
def p_M_spent_l19 (f : Nat) (σ : qMem) (x1 : Int32) (k19 : Int32 → Int32 → Option (Int32 × qMem)) (x2 : Int32) (x3 : Int32) : Option (Int32 × qMem) :=
  if (σ 104 5) ≤ x3 then
    some (x2, σ)
  else
    (p_M_of f σ x3 (0 : Int32)).bind fun u1 =>
    if u1 = 0 then
      k19 (x2 + (0 : Int32)) (x3 + (1 : Int32))
    else
      (p_M_wantsIn f σ x3 ((360 : Int32) * x1) (((360 : Int32) * x1) + (359 : Int32))).bind fun u3 =>
      (p_M_of f σ x3 (9 : Int32)).bind fun u5 =>
      if qin (1 : Int32) 3 = true then
      (p_M_of f σ x3 (10 : Int32)).bind fun u8 =>
      if qin (2 : Int32) 3 = true then
      k19 (x2 + (u3 * ((u5 * (σ 132 (qi (1 : Int32)))) + (u8 * (σ 132 (qi (2 : Int32))))))) (x3 + (1 : Int32))
      else none
      else none
def p_M_spent (f : Nat) (σ : qMem) (x1 : Int32) : Option (Int32 × qMem) :=
  (p_M_isYear f (qmu σ 104 0 (0 : Int32)) x1).bind fun u11 =>
  if u11 = 0 then
    some ((-1000001 : Int32), (qmu σ 104 0 (0 : Int32)))
  else
    qfix2 (p_M_spent_l19 f (qmu σ 104 0 (0 : Int32)) x1 ) f (0 : Int32) (0 : Int32)
def p_M_vacant_l163 (f : Nat) (x1 : Int32) (x5 : Int32) (x7 : Int32) (k163 : qMem → Int32 → Option (Int32 × qMem)) (σ : qMem) (x8 : Int32) : Option (Int32 × qMem) :=
  if ((2 : Int32) * x5) ≤ x8 then
    some (x5, σ)
  else
    if qin (x7 + x8) 480 = true then
    if qin (((8 : Int32) * x1) + x8) 96 = true then
    k163 (qmu σ 135 (qi (((8 : Int32) * x1) + x8)) (σ 107 (qi (x7 + x8)))) (x8 + (1 : Int32))
    else none
    else none
def p_M_vacant_l76 (f : Nat) (σ : qMem) (x1 : Int32) (x2 : Int32) (x5 : Int32) (x7 : Int32) (k76 : Int32 → Option (Int32 × qMem)) (x8 : Int32) : Option (Int32 × qMem) :=
  if x5 ≤ x8 then
    if qin x1 12 = true then
    if qin x1 12 = true then
    qfix2 (p_M_vacant_l163 f x1 x5 x7 ) f (qmu (qmu (qmu σ 104 1 (0 : Int32)) 133 (qi x1) x2) 134 (qi x1) x5) (0 : Int32)
    else none
    else none
  else
    if qin (x7 + ((2 : Int32) * x8)) 480 = true then
    (p_M_in f σ (((σ 107 (qi (x7 + ((2 : Int32) * x8))))).toInt64) (0 : Int64) (9 : Int64)).bind fun u6 =>
    if u6 = 0 then
      some ((-1000001 : Int32), σ)
    else
      if qin ((x7 + ((2 : Int32) * x8)) + (1 : Int32)) 480 = true then
      (p_M_in f σ (((σ 107 (qi ((x7 + ((2 : Int32) * x8)) + (1 : Int32))))).toInt64) (1 : Int64) (400 : Int64)).bind fun u9 =>
      if u9 = 0 then
        some ((-1000001 : Int32), σ)
      else
        k76 (x8 + (1 : Int32))
      else none
    else none
def p_M_vacant (f : Nat) (σ : qMem) (x1 : Int32) (x2 : Int32) (x3 : Int32) (x4 : Int32) (x5 : Int32) : Option (Int32 × qMem) :=
  (p_M_isPromise f (qmu σ 104 0 (0 : Int32)) x1).bind fun u11 =>
  if u11 = 0 then
    some ((-1000001 : Int32), (qmu σ 104 0 (0 : Int32)))
  else
    (p_M_isDay f (qmu σ 104 0 (0 : Int32)) x2).bind fun u13 =>
    if u13 = 0 then
      some ((-1000001 : Int32), (qmu σ 104 0 (0 : Int32)))
    else
      (p_M_isSheet f (qmu σ 104 0 (0 : Int32)) x3).bind fun u15 =>
      if u15 = 0 then
        some ((-1000001 : Int32), (qmu σ 104 0 (0 : Int32)))
      else
        (p_M_in f (qmu σ 104 0 (0 : Int32)) (x5).toInt64 (0 : Int64) (4 : Int64)).bind fun u17 =>
        if u17 = 0 then
          some ((-1000001 : Int32), (qmu σ 104 0 (0 : Int32)))
        else
          (p_M_lookItems f (qmu σ 104 0 (0 : Int32)) x3 x4 ((2 : Int32) * x5)).bind fun u19 =>
          if 0 ≤ u19.1 then
            qfix1 (p_M_vacant_l76 f u19.2 x1 x2 x5 (((60 : Int32) * x3) + x4) ) f (0 : Int32)
          else
            some (u19.1, u19.2)
def p_M_turn_l59 (f : Nat) (σ : qMem) (x1 : Int32) (k59 : Int32 → Int32 → Option (Int32 × qMem)) (x3 : Int32) (x4 : Int32) : Option (Int32 × qMem) :=
  if qin x1 12 = true then
  if (σ 134 (qi x1)) ≤ x4 then
    some ((10 : Int32), σ)
  else
    if qin ((((8 : Int32) * x1) + ((2 : Int32) * x4)) + (1 : Int32)) 96 = true then
    if 0 ≤ (x3 - (σ 135 (qi ((((8 : Int32) * x1) + ((2 : Int32) * x4)) + (1 : Int32))))) then
      k59 (x3 - (σ 135 (qi ((((8 : Int32) * x1) + ((2 : Int32) * x4)) + (1 : Int32))))) (x4 + (1 : Int32))
    else
      if qin (((8 : Int32) * x1) + ((2 : Int32) * x4)) 96 = true then
      some ((σ 135 (qi (((8 : Int32) * x1) + ((2 : Int32) * x4)))), σ)
      else none
    else none
  else none
def p_M_turn (f : Nat) (σ : qMem) (x1 : Int32) (x2 : Int32) : Option (Int32 × qMem) :=
  (p_M_isPromise f (qmu σ 104 0 (0 : Int32)) x1).bind fun u4 =>
  if u4 = 0 then
    some ((-1000001 : Int32), (qmu σ 104 0 (0 : Int32)))
  else
    (p_M_isDay f (qmu σ 104 0 (0 : Int32)) x2).bind fun u6 =>
    if u6 = 0 then
      some ((-1000001 : Int32), (qmu σ 104 0 (0 : Int32)))
    else
      if qin x1 12 = true then
      if ((qmu σ 104 0 (0 : Int32)) 133 (qi x1)) = (-1000000 : Int32) then
        some ((-1000000 : Int32), (qmu σ 104 0 (0 : Int32)))
      else
        if qin x1 12 = true then
        if ((qmu σ 104 0 (0 : Int32)) 133 (qi x1)) ≤ x2 then
          if qin x1 12 = true then
          qfix2 (p_M_turn_l59 f (qmu σ 104 0 (0 : Int32)) x1 ) f (x2 - ((qmu σ 104 0 (0 : Int32)) 133 (qi x1))) (0 : Int32)
          else none
        else
          some ((-1000000 : Int32), (qmu σ 104 0 (0 : Int32)))
        else none
      else none
def p_M_act (f : Nat) (σ : qMem) (x1 : Int32) (x2 : Int32) (x3 : Int32) (x4 : Int32) : Option (Int32 × qMem) :=
  (p_M_isDay f (qmu σ 104 0 (0 : Int32)) x1).bind fun u1 =>
  if u1 = 0 then
    some ((-1000001 : Int32), (qmu σ 104 0 (0 : Int32)))
  else
    (p_M_in f (qmu σ 104 0 (0 : Int32)) (x2).toInt64 (0 : Int64) (99 : Int64)).bind fun u3 =>
    if u3 = 0 then
      some ((-1000001 : Int32), (qmu σ 104 0 (0 : Int32)))
    else
      (p_M_in f (qmu σ 104 0 (0 : Int32)) (x3).toInt64 (x2).toInt64 (99 : Int64)).bind fun u5 =>
      if u5 = 0 then
        some ((-1000001 : Int32), (qmu σ 104 0 (0 : Int32)))
      else
        (p_M_in f (qmu σ 104 0 (0 : Int32)) (x4).toInt64 (0 : Int64) (1 : Int64)).bind fun u7 =>
        if u7 = 0 then
          some ((-1000001 : Int32), (qmu σ 104 0 (0 : Int32)))
        else
          if ((qmu σ 104 0 (0 : Int32)) 104 50) = (10 : Int32) then
            some ((-1000003 : Int32), (qmu σ 104 0 (0 : Int32)))
          else
            if qin ((qmu σ 104 0 (0 : Int32)) 104 50) 10 = true then
            if qin ((qmu (qmu σ 104 0 (0 : Int32)) 136 (qi ((qmu σ 104 0 (0 : Int32)) 104 50)) x1) 104 50) 10 = true then
            if qin ((qmu (qmu (qmu σ 104 0 (0 : Int32)) 136 (qi ((qmu σ 104 0 (0 : Int32)) 104 50)) x1) 137 (qi ((qmu (qmu σ 104 0 (0 : Int32)) 136 (qi ((qmu σ 104 0 (0 : Int32)) 104 50)) x1) 104 50)) x2) 104 50) 10 = true then
            if qin ((qmu (qmu (qmu (qmu σ 104 0 (0 : Int32)) 136 (qi ((qmu σ 104 0 (0 : Int32)) 104 50)) x1) 137 (qi ((qmu (qmu σ 104 0 (0 : Int32)) 136 (qi ((qmu σ 104 0 (0 : Int32)) 104 50)) x1) 104 50)) x2) 138 (qi ((qmu (qmu (qmu σ 104 0 (0 : Int32)) 136 (qi ((qmu σ 104 0 (0 : Int32)) 104 50)) x1) 137 (qi ((qmu (qmu σ 104 0 (0 : Int32)) 136 (qi ((qmu σ 104 0 (0 : Int32)) 104 50)) x1) 104 50)) x2) 104 50)) x3) 104 50) 10 = true then
            some (((qmu (qmu (qmu (qmu (qmu (qmu σ 104 0 (0 : Int32)) 136 (qi ((qmu σ 104 0 (0 : Int32)) 104 50)) x1) 137 (qi ((qmu (qmu σ 104 0 (0 : Int32)) 136 (qi ((qmu σ 104 0 (0 : Int32)) 104 50)) x1) 104 50)) x2) 138 (qi ((qmu (qmu (qmu σ 104 0 (0 : Int32)) 136 (qi ((qmu σ 104 0 (0 : Int32)) 104 50)) x1) 137 (qi ((qmu (qmu σ 104 0 (0 : Int32)) 136 (qi ((qmu σ 104 0 (0 : Int32)) 104 50)) x1) 104 50)) x2) 104 50)) x3) 139 (qi ((qmu (qmu (qmu (qmu σ 104 0 (0 : Int32)) 136 (qi ((qmu σ 104 0 (0 : Int32)) 104 50)) x1) 137 (qi ((qmu (qmu σ 104 0 (0 : Int32)) 136 (qi ((qmu σ 104 0 (0 : Int32)) 104 50)) x1) 104 50)) x2) 138 (qi ((qmu (qmu (qmu σ 104 0 (0 : Int32)) 136 (qi ((qmu σ 104 0 (0 : Int32)) 104 50)) x1) 137 (qi ((qmu (qmu σ 104 0 (0 : Int32)) 136 (qi ((qmu σ 104 0 (0 : Int32)) 104 50)) x1) 104 50)) x2) 104 50)) x3) 104 50)) x4) 104 50 (((qmu (qmu (qmu (qmu (qmu σ 104 0 (0 : Int32)) 136 (qi ((qmu σ 104 0 (0 : Int32)) 104 50)) x1) 137 (qi ((qmu (qmu σ 104 0 (0 : Int32)) 136 (qi ((qmu σ 104 0 (0 : Int32)) 104 50)) x1) 104 50)) x2) 138 (qi ((qmu (qmu (qmu σ 104 0 (0 : Int32)) 136 (qi ((qmu σ 104 0 (0 : Int32)) 104 50)) x1) 137 (qi ((qmu (qmu σ 104 0 (0 : Int32)) 136 (qi ((qmu σ 104 0 (0 : Int32)) 104 50)) x1) 104 50)) x2) 104 50)) x3) 139 (qi ((qmu (qmu (qmu (qmu σ 104 0 (0 : Int32)) 136 (qi ((qmu σ 104 0 (0 : Int32)) 104 50)) x1) 137 (qi ((qmu (qmu σ 104 0 (0 : Int32)) 136 (qi ((qmu σ 104 0 (0 : Int32)) 104 50)) x1) 104 50)) x2) 138 (qi ((qmu (qmu (qmu σ 104 0 (0 : Int32)) 136 (qi ((qmu σ 104 0 (0 : Int32)) 104 50)) x1) 137 (qi ((qmu (qmu σ 104 0 (0 : Int32)) 136 (qi ((qmu σ 104 0 (0 : Int32)) 104 50)) x1) 104 50)) x2) 104 50)) x3) 104 50)) x4) 104 50) + (1 : Int32))) 104 50), (qmu (qmu (qmu (qmu (qmu (qmu σ 104 0 (0 : Int32)) 136 (qi ((qmu σ 104 0 (0 : Int32)) 104 50)) x1) 137 (qi ((qmu (qmu σ 104 0 (0 : Int32)) 136 (qi ((qmu σ 104 0 (0 : Int32)) 104 50)) x1) 104 50)) x2) 138 (qi ((qmu (qmu (qmu σ 104 0 (0 : Int32)) 136 (qi ((qmu σ 104 0 (0 : Int32)) 104 50)) x1) 137 (qi ((qmu (qmu σ 104 0 (0 : Int32)) 136 (qi ((qmu σ 104 0 (0 : Int32)) 104 50)) x1) 104 50)) x2) 104 50)) x3) 139 (qi ((qmu (qmu (qmu (qmu σ 104 0 (0 : Int32)) 136 (qi ((qmu σ 104 0 (0 : Int32)) 104 50)) x1) 137 (qi ((qmu (qmu σ 104 0 (0 : Int32)) 136 (qi ((qmu σ 104 0 (0 : Int32)) 104 50)) x1) 104 50)) x2) 138 (qi ((qmu (qmu (qmu σ 104 0 (0 : Int32)) 136 (qi ((qmu σ 104 0 (0 : Int32)) 104 50)) x1) 137 (qi ((qmu (qmu σ 104 0 (0 : Int32)) 136 (qi ((qmu σ 104 0 (0 : Int32)) 104 50)) x1) 104 50)) x2) 104 50)) x3) 104 50)) x4) 104 50 (((qmu (qmu (qmu (qmu (qmu σ 104 0 (0 : Int32)) 136 (qi ((qmu σ 104 0 (0 : Int32)) 104 50)) x1) 137 (qi ((qmu (qmu σ 104 0 (0 : Int32)) 136 (qi ((qmu σ 104 0 (0 : Int32)) 104 50)) x1) 104 50)) x2) 138 (qi ((qmu (qmu (qmu σ 104 0 (0 : Int32)) 136 (qi ((qmu σ 104 0 (0 : Int32)) 104 50)) x1) 137 (qi ((qmu (qmu σ 104 0 (0 : Int32)) 136 (qi ((qmu σ 104 0 (0 : Int32)) 104 50)) x1) 104 50)) x2) 104 50)) x3) 139 (qi ((qmu (qmu (qmu (qmu σ 104 0 (0 : Int32)) 136 (qi ((qmu σ 104 0 (0 : Int32)) 104 50)) x1) 137 (qi ((qmu (qmu σ 104 0 (0 : Int32)) 136 (qi ((qmu σ 104 0 (0 : Int32)) 104 50)) x1) 104 50)) x2) 138 (qi ((qmu (qmu (qmu σ 104 0 (0 : Int32)) 136 (qi ((qmu σ 104 0 (0 : Int32)) 104 50)) x1) 137 (qi ((qmu (qmu σ 104 0 (0 : Int32)) 136 (qi ((qmu σ 104 0 (0 : Int32)) 104 50)) x1) 104 50)) x2) 104 50)) x3) 104 50)) x4) 104 50) + (1 : Int32))))
            else none
            else none
            else none
            else none
def p_M_taken (f : Nat) (σ : qMem) (x1 : Int32) : Option (Int32 × qMem) :=
  (p_M_isPromise f (qmu σ 104 0 (0 : Int32)) x1).bind fun u1 =>
  if u1 = 0 then
    some ((-1000001 : Int32), (qmu σ 104 0 (0 : Int32)))
  else
    (p_M_takenOn f (qmu σ 104 0 (0 : Int32)) x1).bind fun u3 =>
    some (u3, (qmu σ 104 0 (0 : Int32)))
def p_M_pension_b86 (f : Nat) (k27 : Int32 → Int32 → Option (Int32 × qMem)) (σ : qMem) (x1 : Int32) (x2 : Int32) (x4 : Int32) (s0 : Int32) (s2 : Int32) (s3 : Int32) : Option (Int32 × qMem) :=
  (p_M_comesTo f σ s2 s3).bind fun u1 =>
  k27 (s0 + (u1 / (2 : Int32))) (x4 + (1 : Int32))
def p_M_pension_l27 (f : Nat) (σ : qMem) (x1 : Int32) (x2 : Int32) (k27 : Int32 → Int32 → Option (Int32 × qMem)) (x3 : Int32) (x4 : Int32) : Option (Int32 × qMem) :=
  if (σ 104 5) ≤ x4 then
    if x3 ≤ (200 : Int32) then
      some (x3, σ)
    else
      some ((200 : Int32), σ)
  else
    (p_M_of f σ x4 (3 : Int32)).bind fun u3 =>
    if u3 = x1 then
      (p_M_isTaken f σ x4 x2).bind fun u5 =>
      if u5 = 0 then
        k27 x3 (x4 + (1 : Int32))
      else
        (p_M_takenOn f σ x4).bind fun u7 =>
        if (u7 / (360 : Int32)) = 0 then
          p_M_pension_b86 f k27 σ x1 x2 x4 x3 x4 (0 : Int32)
        else
          p_M_pension_b86 f k27 σ x1 x2 x4 x3 x4 ((u7 / (360 : Int32)) - (1 : Int32))
    else
      k27 x3 (x4 + (1 : Int32))
def p_M_pension (f : Nat) (σ : qMem) (x1 : Int32) (x2 : Int32) : Option (Int32 × qMem) :=
  (p_M_isPriest f (qmu σ 104 0 (0 : Int32)) x1).bind fun u9 =>
  if u9 = 0 then
    some ((-1000001 : Int32), (qmu σ 104 0 (0 : Int32)))
  else
    (p_M_isDay f (qmu σ 104 0 (0 : Int32)) x2).bind fun u11 =>
    if u11 = 0 then
      some ((-1000001 : Int32), (qmu σ 104 0 (0 : Int32)))
    else
      qfix2 (p_M_pension_l27 f (qmu σ 104 0 (0 : Int32)) x1 x2 ) f (0 : Int32) (0 : Int32)
def p_M_bid (f : Nat) (σ : qMem) (x1 : Int32) (x2 : Int32) (x3 : Int32) : Option (Int32 × qMem) :=
  (p_M_isHouse f (qmu σ 104 0 (0 : Int32)) x1).bind fun u1 =>
  if u1 = 0 then
    some ((-1000001 : Int32), (qmu σ 104 0 (0 : Int32)))
  else
    (p_M_in f (qmu σ 104 0 (0 : Int32)) (x2).toInt64 (0 : Int64) (9 : Int64)).bind fun u3 =>
    if u3 = 0 then
      some ((-1000001 : Int32), (qmu σ 104 0 (0 : Int32)))
    else
      (p_M_in f (qmu σ 104 0 (0 : Int32)) (x3).toInt64 (1 : Int64) (100000 : Int64)).bind fun u5 =>
      if u5 = 0 then
        some ((-1000001 : Int32), (qmu σ 104 0 (0 : Int32)))
      else
        if ((qmu σ 104 0 (0 : Int32)) 104 55) = (20 : Int32) then
          some ((-1000003 : Int32), (qmu σ 104 0 (0 : Int32)))
        else
          if qin ((qmu σ 104 0 (0 : Int32)) 104 55) 20 = true then
          if qin ((qmu (qmu σ 104 0 (0 : Int32)) 140 (qi ((qmu σ 104 0 (0 : Int32)) 104 55)) x1) 104 55) 20 = true then
          if qin ((qmu (qmu (qmu σ 104 0 (0 : Int32)) 140 (qi ((qmu σ 104 0 (0 : Int32)) 104 55)) x1) 141 (qi ((qmu (qmu σ 104 0 (0 : Int32)) 140 (qi ((qmu σ 104 0 (0 : Int32)) 104 55)) x1) 104 55)) x2) 104 55) 20 = true then
          some (((qmu (qmu (qmu (qmu (qmu σ 104 0 (0 : Int32)) 140 (qi ((qmu σ 104 0 (0 : Int32)) 104 55)) x1) 141 (qi ((qmu (qmu σ 104 0 (0 : Int32)) 140 (qi ((qmu σ 104 0 (0 : Int32)) 104 55)) x1) 104 55)) x2) 142 (qi ((qmu (qmu (qmu σ 104 0 (0 : Int32)) 140 (qi ((qmu σ 104 0 (0 : Int32)) 104 55)) x1) 141 (qi ((qmu (qmu σ 104 0 (0 : Int32)) 140 (qi ((qmu σ 104 0 (0 : Int32)) 104 55)) x1) 104 55)) x2) 104 55)) x3) 104 55 (((qmu (qmu (qmu (qmu σ 104 0 (0 : Int32)) 140 (qi ((qmu σ 104 0 (0 : Int32)) 104 55)) x1) 141 (qi ((qmu (qmu σ 104 0 (0 : Int32)) 140 (qi ((qmu σ 104 0 (0 : Int32)) 104 55)) x1) 104 55)) x2) 142 (qi ((qmu (qmu (qmu σ 104 0 (0 : Int32)) 140 (qi ((qmu σ 104 0 (0 : Int32)) 104 55)) x1) 141 (qi ((qmu (qmu σ 104 0 (0 : Int32)) 140 (qi ((qmu σ 104 0 (0 : Int32)) 104 55)) x1) 104 55)) x2) 104 55)) x3) 104 55) + (1 : Int32))) 104 55), (qmu (qmu (qmu (qmu (qmu σ 104 0 (0 : Int32)) 140 (qi ((qmu σ 104 0 (0 : Int32)) 104 55)) x1) 141 (qi ((qmu (qmu σ 104 0 (0 : Int32)) 140 (qi ((qmu σ 104 0 (0 : Int32)) 104 55)) x1) 104 55)) x2) 142 (qi ((qmu (qmu (qmu σ 104 0 (0 : Int32)) 140 (qi ((qmu σ 104 0 (0 : Int32)) 104 55)) x1) 141 (qi ((qmu (qmu σ 104 0 (0 : Int32)) 140 (qi ((qmu σ 104 0 (0 : Int32)) 104 55)) x1) 104 55)) x2) 104 55)) x3) 104 55 (((qmu (qmu (qmu (qmu σ 104 0 (0 : Int32)) 140 (qi ((qmu σ 104 0 (0 : Int32)) 104 55)) x1) 141 (qi ((qmu (qmu σ 104 0 (0 : Int32)) 140 (qi ((qmu σ 104 0 (0 : Int32)) 104 55)) x1) 104 55)) x2) 142 (qi ((qmu (qmu (qmu σ 104 0 (0 : Int32)) 140 (qi ((qmu σ 104 0 (0 : Int32)) 104 55)) x1) 141 (qi ((qmu (qmu σ 104 0 (0 : Int32)) 140 (qi ((qmu σ 104 0 (0 : Int32)) 104 55)) x1) 104 55)) x2) 104 55)) x3) 104 55) + (1 : Int32))))
          else none
          else none
          else none
def p_M_sold_b60 (f : Nat) (k30 : Int32 → Int32 → Int32 → Option (Int32 × qMem)) (σ : qMem) (x1 : Int32) (x2 : Int32) (x4 : Int32) (x5 : Int32) (s0 : Int32) : Option (Int32 × qMem) :=
  if x4 = 0 then
    k30 s0 (0 : Int32) (x5 + (1 : Int32))
  else
    (p_M_of f σ x5 (7 : Int32)).bind fun u1 =>
    if u1 = x1 then
      (p_M_isTaken f σ x5 x2).bind fun u3 =>
      if u3 = 0 then
        k30 s0 (0 : Int32) (x5 + (1 : Int32))
      else
        k30 s0 (1 : Int32) (x5 + (1 : Int32))
    else
      k30 s0 (1 : Int32) (x5 + (1 : Int32))
def p_M_sold_b176 (f : Nat) (σ : qMem) (x5 : Int32) : Option (Int32 × qMem) :=
  if x5 = (-1000000 : Int32) then
    some ((-1000000 : Int32), σ)
  else
    if qin x5 20 = true then
    some ((σ 141 (qi x5)), σ)
    else none
def p_M_sold_l108 (f : Nat) (σ : qMem) (x1 : Int32) (x3 : Int32) (x4 : Int32) (k108 : Int32 → Int32 → Option (Int32 × qMem)) (x5 : Int32) (x6 : Int32) : Option (Int32 × qMem) :=
  if (σ 104 55) ≤ x6 then
    p_M_sold_b176 f σ x5
  else
    if x3 = 0 then
      p_M_sold_b176 f σ x5
    else
      if x4 = 0 then
        p_M_sold_b176 f σ x5
      else
        if qin x6 20 = true then
        if (σ 140 (qi x6)) = x1 then
          if x5 = (-1000000 : Int32) then
            k108 x6 (x6 + (1 : Int32))
          else
            if qin x6 20 = true then
            if qin x5 20 = true then
            if (σ 142 (qi x6)) ≤ (σ 142 (qi x5)) then
              k108 x5 (x6 + (1 : Int32))
            else
              k108 x6 (x6 + (1 : Int32))
            else none
            else none
        else
          k108 x5 (x6 + (1 : Int32))
        else none
def p_M_sold_l30 (f : Nat) (σ : qMem) (x1 : Int32) (x2 : Int32) (k30 : Int32 → Int32 → Int32 → Option (Int32 × qMem)) (x3 : Int32) (x4 : Int32) (x5 : Int32) : Option (Int32 × qMem) :=
  if (σ 104 5) ≤ x5 then
    qfix2 (p_M_sold_l108 f σ x1 x3 x4 ) f (-1000000 : Int32) (0 : Int32)
  else
    if x3 = 0 then
      (p_M_of f σ x5 (7 : Int32)).bind fun u9 =>
      if u9 = x1 then
        p_M_sold_b60 f k30 σ x1 x2 x4 x5 (1 : Int32)
      else
        p_M_sold_b60 f k30 σ x1 x2 x4 x5 (0 : Int32)
    else
      p_M_sold_b60 f k30 σ x1 x2 x4 x5 (1 : Int32)
def p_M_sold (f : Nat) (σ : qMem) (x1 : Int32) (x2 : Int32) : Option (Int32 × qMem) :=
  (p_M_isHouse f (qmu σ 104 0 (0 : Int32)) x1).bind fun u11 =>
  if u11 = 0 then
    some ((-1000001 : Int32), (qmu σ 104 0 (0 : Int32)))
  else
    (p_M_isDay f (qmu σ 104 0 (0 : Int32)) x2).bind fun u13 =>
    if u13 = 0 then
      some ((-1000001 : Int32), (qmu σ 104 0 (0 : Int32)))
    else
      qfix3 (p_M_sold_l30 f (qmu σ 104 0 (0 : Int32)) x1 x2 ) f (0 : Int32) (1 : Int32) (0 : Int32)
def p_M_mayStand_b132 (f : Nat) (k46 : Int32 → Int32 → Int32 → Option (Int32)) (σ : qMem) (x1 : Int32) (x3 : Int32) (x5 : Int32) (x6 : Int32) (x7 : Int32) (s0 : Int32) : Option (Int32) :=
  if x7 = 0 then
    k46 s0 (x5 + (0 : Int32)) (x6 + (1 : Int32))
  else
    if qin x6 8 = true then
    if (5 : Int32) ≤ (σ 143 (qi x6)) then
      k46 s0 (x5 + (0 : Int32)) (x6 + (1 : Int32))
    else
      k46 s0 (x5 + (1 : Int32)) (x6 + (1 : Int32))
    else none
def p_M_mayStand_b131 (f : Nat) (k46 : Int32 → Int32 → Int32 → Option (Int32)) (σ : qMem) (x1 : Int32) (x3 : Int32) (x5 : Int32) (x6 : Int32) (x7 : Int32) : Option (Int32) :=
  p_M_mayStand_b132 f k46 σ x1 x3 x5 x6 x7 (0 : Int32)
def p_M_mayStand_b73 (f : Nat) (k46 : Int32 → Int32 → Int32 → Option (Int32)) (σ : qMem) (x1 : Int32) (x3 : Int32) (x4 : Int32) (x5 : Int32) (x6 : Int32) (s0 : Int32) : Option (Int32) :=
  if x4 = 0 then
    p_M_mayStand_b131 f k46 σ x1 x3 x5 x6 s0
  else
    if qin x6 8 = true then
    if qin x1 8 = true then
    if (σ 143 (qi x6)) = (σ 143 (qi x1)) then
      if s0 = 0 then
        if qin x6 8 = true then
        (p_M_of f σ (σ 145 (qi x6)) (2 : Int32)).bind fun u5 =>
        if qin x1 8 = true then
        (p_M_of f σ (σ 145 (qi x1)) (2 : Int32)).bind fun u8 =>
        if u5 = u8 then
          p_M_mayStand_b131 f k46 σ x1 x3 x5 x6 s0
        else
          p_M_mayStand_b132 f k46 σ x1 x3 x5 x6 s0 (1 : Int32)
        else none
        else none
      else
        p_M_mayStand_b131 f k46 σ x1 x3 x5 x6 s0
    else
      p_M_mayStand_b132 f k46 σ x1 x3 x5 x6 s0 (1 : Int32)
    else none
    else none
def p_M_mayStand_l46 (f : Nat) (σ : qMem) (x1 : Int32) (x3 : Int32) (k46 : Int32 → Int32 → Int32 → Option (Int32)) (x4 : Int32) (x5 : Int32) (x6 : Int32) : Option (Int32) :=
  if x1 ≤ x6 then
    if x4 = 0 then
      some (0 : Int32)
    else
      if qin x3 8 = true then
      if (σ 116 (qi x3)) ≤ x5 then
        some (0 : Int32)
      else
        some (1 : Int32)
      else none
  else
    if qin x6 8 = true then
    (p_M_of f σ (σ 145 (qi x6)) (3 : Int32)).bind fun u12 =>
    if u12 = x3 then
      p_M_mayStand_b73 f k46 σ x1 x3 x4 x5 x6 (1 : Int32)
    else
      p_M_mayStand_b73 f k46 σ x1 x3 x4 x5 x6 (0 : Int32)
    else none
def p_M_mayStand (f : Nat) (σ : qMem) (x1 : Int32) (x2 : Int32) : Option (Int32) :=
  if qin x1 8 = true then
  if (σ 143 (qi x1)) = (5 : Int32) then
    some (1 : Int32)
  else
    if qin x1 8 = true then
    (p_M_of f σ (σ 145 (qi x1)) (3 : Int32)).bind fun u16 =>
    (p_M_isSick f σ u16 x2).bind fun u18 =>
    if u18 = 0 then
      qfix3 (p_M_mayStand_l46 f σ x1 u16 ) f (1 : Int32) (0 : Int32) (0 : Int32)
    else
      qfix3 (p_M_mayStand_l46 f σ x1 u16 ) f (0 : Int32) (0 : Int32) (0 : Int32)
    else none
  else none
def p_M_dawn_l250 (f : Nat) (x2 : Int32) (x3 : Int32) (x4 : Int32) (x5 : Int32) (x6 : Int32) (x7 : Int32) (k122 : qMem → Int32 → Int32 → Int32 → Option (Int32 × qMem)) (k250 : qMem → Int32 → Option (Int32 × qMem)) (σ : qMem) (x8 : Int32) : Option (Int32 × qMem) :=
  if x4 ≤ x8 then
    k122 σ x5 x6 x7
  else
    if qin x8 8 = true then
    if qin x8 8 = true then
    k250 (qmu σ 144 (qi x8) (σ 143 (qi x8))) (x8 + (1 : Int32))
    else none
    else none
def p_M_dawn_b194 (f : Nat) (k122 : qMem → Int32 → Int32 → Int32 → Option (Int32 × qMem)) (σ : qMem) (x2 : Int32) (x3 : Int32) (x4 : Int32) (x5 : Int32) (x6 : Int32) (s0 : Int32) (s1 : Int32) : Option (Int32 × qMem) :=
  (p_M_mayStand f σ x6 x2).bind fun u3 =>
  if u3 = 0 then
    k122 σ x5 x6 (s0 + s1)
  else
    if (x4 - (s0 + s1)) ≤ x5 then
      k122 σ x5 x6 (s0 + s1)
    else
      if x4 ≤ (x6 + (1 : Int32)) then
        qfix2 (p_M_dawn_l250 f x2 x3 x4 (x4 - (s0 + s1)) x6 (s0 + s1) k122) f σ (0 : Int32)
      else
        if qin (x6 + (1 : Int32)) 8 = true then
        k122 (qmu σ 143 (qi (x6 + (1 : Int32))) (-1 : Int32)) x5 (x6 + (1 : Int32)) (s0 + s1)
        else none
def p_M_dawn_b145 (f : Nat) (k122 : qMem → Int32 → Int32 → Int32 → Option (Int32 × qMem)) (σ : qMem) (x2 : Int32) (x3 : Int32) (x4 : Int32) (x5 : Int32) (x6 : Int32) (s0 : Int32) (s1 : Int32) : Option (Int32 × qMem) :=
  if qin x6 8 = true then
  if qin x6 8 = true then
  if qin x6 8 = true then
  if ((qmu σ 143 (qi x6) ((σ 143 (qi x6)) + (1 : Int32))) 143 (qi x6)) ≤ (5 : Int32) then
    if qin x6 8 = true then
    if ((qmu σ 143 (qi x6) ((σ 143 (qi x6)) + (1 : Int32))) 143 (qi x6)) = (5 : Int32) then
      p_M_dawn_b194 f k122 (qmu σ 143 (qi x6) ((σ 143 (qi x6)) + (1 : Int32))) x2 x3 x4 x5 x6 (s0 - s1) (1 : Int32)
    else
      p_M_dawn_b194 f k122 (qmu σ 143 (qi x6) ((σ 143 (qi x6)) + (1 : Int32))) x2 x3 x4 x5 x6 (s0 - s1) (0 : Int32)
    else none
  else
    k122 (qmu σ 143 (qi x6) ((σ 143 (qi x6)) + (1 : Int32))) x5 (x6 + (-1 : Int32)) (s0 - s1)
  else none
  else none
  else none
def p_M_dawn_l292 (f : Nat) (σ : qMem) (x3 : Int32) (x4 : Int32) (k292 : Int32 → Option (Int32 × qMem)) (x8 : Int32) : Option (Int32 × qMem) :=
  if x4 ≤ x8 then
    some ((-1000000 : Int32), σ)
  else
    if qin x8 8 = true then
    if (σ 145 (qi x8)) = x3 then
      if qin x8 8 = true then
      if (σ 144 (qi x8)) = (5 : Int32) then
        some ((-1000000 : Int32), σ)
      else
        if qin x8 8 = true then
        some ((σ 144 (qi x8)), σ)
        else none
      else none
    else
      k292 (x8 + (1 : Int32))
    else none
def p_M_dawn_l122 (f : Nat) (x2 : Int32) (x3 : Int32) (x4 : Int32) (k122 : qMem → Int32 → Int32 → Int32 → Option (Int32 × qMem)) (σ : qMem) (x5 : Int32) (x6 : Int32) (x7 : Int32) : Option (Int32 × qMem) :=
  if x6 < 0 then
    if x3 = (-1000000 : Int32) then
      some (x5, σ)
    else
      qfix1 (p_M_dawn_l292 f σ x3 x4 ) f (0 : Int32)
  else
    if qin x6 8 = true then
    if (σ 143 (qi x6)) = (5 : Int32) then
      p_M_dawn_b145 f k122 σ x2 x3 x4 x5 x6 x7 (1 : Int32)
    else
      p_M_dawn_b145 f k122 σ x2 x3 x4 x5 x6 x7 (0 : Int32)
    else none
def p_M_dawn_b106 (f : Nat) (σ : qMem) (x2 : Int32) (x3 : Int32) (x4 : Int32) : Option (Int32 × qMem) :=
  if qin (0 : Int32) 8 = true then
  qfix4 (p_M_dawn_l122 f x2 x3 x4 ) f (qmu σ 143 (qi (0 : Int32)) (-1 : Int32)) (-1 : Int32) (0 : Int32) (0 : Int32)
  else none
def p_M_dawn_b57 (f : Nat) (σ : qMem) (x1 : Int32) (x2 : Int32) (x3 : Int32) (x4 : Int32) : Option (Int32 × qMem) :=
  if x1 < (1 : Int32) then
    some ((-1000001 : Int32), σ)
  else
    if 0 < (x1 >>> ((σ 104 5) &&& 31)) then
      some ((-1000001 : Int32), σ)
    else
      if (8 : Int32) < x4 then
        some ((-1000001 : Int32), σ)
      else
        (p_M_isDay f σ x2).bind fun u15 =>
        if u15 = 0 then
          some ((-1000001 : Int32), σ)
        else
          if x3 = (-1000000 : Int32) then
            p_M_dawn_b106 f σ x2 x3 x4
          else
            (p_M_in f σ (x3).toInt64 (0 : Int64) (11 : Int64)).bind fun u17 =>
            if u17 = 0 then
              some ((-1000001 : Int32), σ)
            else
              p_M_dawn_b106 f σ x2 x3 x4
def p_M_dawn_l11 (f : Nat) (x1 : Int32) (x2 : Int32) (x3 : Int32) (k11 : qMem → Int32 → Int32 → Option (Int32 × qMem)) (σ : qMem) (x4 : Int32) (x5 : Int32) : Option (Int32 × qMem) :=
  if (12 : Int32) ≤ x5 then
    p_M_dawn_b57 f σ x1 x2 x3 x4
  else
    if x1 ≤ 0 then
      p_M_dawn_b57 f σ x1 x2 x3 x4
    else
      if ((x1 >>> (x5 &&& 31)) &&& (1 : Int32)) = (1 : Int32) then
        if (8 : Int32) ≤ x4 then
          k11 σ (x4 + (1 : Int32)) (x5 + (1 : Int32))
        else
          if qin x4 8 = true then
          k11 (qmu σ 145 (qi x4) x5) (x4 + (1 : Int32)) (x5 + (1 : Int32))
          else none
      else
        k11 σ x4 (x5 + (1 : Int32))
def p_M_dawn (f : Nat) (σ : qMem) (x1 : Int32) (x2 : Int32) (x3 : Int32) : Option (Int32 × qMem) :=
  qfix3 (p_M_dawn_l11 f x1 x2 x3 ) f (qmu σ 104 0 (0 : Int32)) (0 : Int32) (0 : Int32)
def p_M_day (f : Nat) (σ : qMem) (x1 : Int32) : Option (Int32 × qMem) :=
  (p_M_isDay f (qmu σ 104 0 (0 : Int32)) x1).bind fun u1 =>
  if u1 = 0 then
    some ((-1000001 : Int32), (qmu σ 104 0 (0 : Int32)))
  else
    some (((qmu σ 104 0 (0 : Int32)) 104 62), (qmu (qmu σ 104 0 (0 : Int32)) 104 62 x1))
def p_M_kindOf (f : Nat) (σ : qMem) (x1 : Int32) : Option (Int32) :=
  (p_M_isEnded f σ x1 (σ 104 62)).bind fun u1 =>
  if u1 = 0 then
    (p_M_of f σ x1 (0 : Int32)).bind fun u3 =>
    if u3 = (1 : Int32) then
      some (3 : Int32)
    else
      (p_M_otherOf f σ x1 (σ 104 62)).bind fun u5 =>
      if u5 = (-1000000 : Int32) then
        some (1 : Int32)
      else
        some (2 : Int32)
  else
    some (4 : Int32)
def p_M_kind (f : Nat) (σ : qMem) (x1 : Int32) : Option (Int32 × qMem) :=
  (p_M_isPromise f (qmu σ 104 0 (0 : Int32)) x1).bind fun u1 =>
  if u1 = 0 then
    some ((-1000001 : Int32), (qmu σ 104 0 (0 : Int32)))
  else
    (p_M_kindOf f (qmu σ 104 0 (0 : Int32)) x1).bind fun u3 =>
    some (u3, (qmu σ 104 0 (0 : Int32)))
def p_M_isOf (f : Nat) (σ : qMem) (x0 : Int32) (x1 : Int32) : Option (Int32) :=
  if x1 = 0 then
    some (1 : Int32)
  else
    if x0 = x1 then
      some (1 : Int32)
    else
      if x1 = (1 : Int32) then
        if x0 = (2 : Int32) then
          some (1 : Int32)
        else
          some (0 : Int32)
      else
        some (0 : Int32)
def p_M_as (f : Nat) (σ : qMem) (x1 : Int32) (x2 : Int32) : Option (Int32 × qMem) :=
  (p_M_isPromise f (qmu σ 104 0 (0 : Int32)) x1).bind fun u1 =>
  if u1 = 0 then
    some ((-1000001 : Int32), (qmu σ 104 0 (0 : Int32)))
  else
    (p_M_in f (qmu σ 104 0 (0 : Int32)) (x2).toInt64 (0 : Int64) (4 : Int64)).bind fun u3 =>
    if u3 = 0 then
      some ((-1000001 : Int32), (qmu σ 104 0 (0 : Int32)))
    else
      (p_M_kindOf f (qmu (qmu σ 104 0 (0 : Int32)) 104 1 (0 : Int32)) x1).bind fun u5 =>
      (p_M_isOf f (qmu (qmu σ 104 0 (0 : Int32)) 104 1 (0 : Int32)) u5 x2).bind fun u7 =>
      if u7 = 0 then
        (p_M_finding f (qmu (qmu σ 104 0 (0 : Int32)) 104 1 (0 : Int32)) (3 : Int32)).bind fun u9 =>
        some (u9.1, u9.2)
      else
        (p_M_of f (qmu (qmu σ 104 0 (0 : Int32)) 104 1 (0 : Int32)) x1 (1 : Int32)).bind fun u11 =>
        some (u11, (qmu (qmu σ 104 0 (0 : Int32)) 104 1 (0 : Int32)))
def p_M_began (f : Nat) (σ : qMem) (x1 : Int32) : Option (qMem) :=
  if (16 : Int32) ≤ (σ 104 64) then
    some σ
  else
    if qin (σ 104 64) 16 = true then
    some (qmu (qmu σ 146 (qi (σ 104 64)) x1) 104 64 (((qmu σ 146 (qi (σ 104 64)) x1) 104 64) + (1 : Int32)))
    else none
def p_M_obitSize (f : Nat) (σ : qMem) (x1 : Int32) : Option (Int32 × qMem) :=
  (p_M_began f σ (13 : Int32)).bind fun u1 =>
  (p_M_began f u1 (10 : Int32)).bind fun u3 =>
  (p_M_of f u3 x1 (4 : Int32)).bind fun u5 =>
  (p_M_of f u3 x1 (9 : Int32)).bind fun u7 =>
  some ((u5 + u7), u3)
def p_M_markOf_b69 (f : Nat) (σ : qMem) (x1 : Int32) (x2 : Int32) (s0 : Int32) (s1 : Int32) : Option (Int32 × qMem) :=
  if x2 = (2 : Int32) then
    (p_M_otherOf f σ x1 (σ 104 62)).bind fun u3 =>
    some (((s0 + s1) + u3), σ)
  else
    if x2 = (3 : Int32) then
      (p_M_obitSize f σ x1).bind fun u1 =>
      some (((s0 + s1) + u1.1), u1.2)
    else
      some ((s0 + s1), σ)
def p_M_markOf_b36 (f : Nat) (σ : qMem) (x1 : Int32) (x2 : Int32) : Option (Int32 × qMem) :=
  (p_M_began f σ (20 : Int32)).bind fun u5 =>
  (p_M_of f u5 x1 (1 : Int32)).bind fun u7 =>
  (p_M_isOf f u5 x2 (1 : Int32)).bind fun u9 =>
  if u9 = 0 then
    p_M_markOf_b69 f u5 x1 x2 u7 (0 : Int32)
  else
    (p_M_of f u5 x1 (2 : Int32)).bind fun u11 =>
    p_M_markOf_b69 f u5 x1 x2 u7 ((100 : Int32) * u11)
def p_M_markOf_b25 (f : Nat) (σ : qMem) (x1 : Int32) (x2 : Int32) : Option (Int32 × qMem) :=
  if x2 = (3 : Int32) then
    (p_M_began f σ (23 : Int32)).bind fun u13 =>
    p_M_markOf_b36 f u13 x1 x2
  else
    p_M_markOf_b36 f σ x1 x2
def p_M_markOf_b11 (f : Nat) (σ : qMem) (x1 : Int32) (x2 : Int32) : Option (Int32 × qMem) :=
  (p_M_isOf f σ x2 (1 : Int32)).bind fun u15 =>
  if u15 = 0 then
    p_M_markOf_b25 f σ x1 x2
  else
    (p_M_began f σ (21 : Int32)).bind fun u17 =>
    p_M_markOf_b25 f u17 x1 x2
def p_M_markOf (f : Nat) (σ : qMem) (x1 : Int32) (x2 : Int32) : Option (Int32 × qMem) :=
  if x2 = (2 : Int32) then
    (p_M_began f σ (22 : Int32)).bind fun u19 =>
    p_M_markOf_b11 f u19 x1 x2
  else
    p_M_markOf_b11 f σ x1 x2
def p_M_sizeOf_b41 (f : Nat) (σ : qMem) (x1 : Int32) (x2 : Int32) : Option (Int32 × qMem) :=
  (p_M_began f σ (11 : Int32)).bind fun u1 =>
  (p_M_began f u1 (10 : Int32)).bind fun u3 =>
  (p_M_of f u3 x1 (4 : Int32)).bind fun u5 =>
  (p_M_owedTill f u3 x1 (u3 104 62)).bind fun u7 =>
  if x2 = (2 : Int32) then
    some (((2 : Int32) * (u5 + u7.1)), u7.2)
  else
    some ((u5 + u7.1), u7.2)
def p_M_sizeOf (f : Nat) (σ : qMem) (x1 : Int32) (x2 : Int32) : Option (Int32 × qMem) :=
  if x2 = (4 : Int32) then
    (p_M_began f σ (14 : Int32)).bind fun u13 =>
    (p_M_markOf f u13 x1 x2).bind fun u15 =>
    some ((-u15.1), u15.2)
  else
    if x2 = (3 : Int32) then
      (p_M_obitSize f σ x1).bind fun u11 =>
      some (u11.1, u11.2)
    else
      if x2 = (2 : Int32) then
        (p_M_began f σ (12 : Int32)).bind fun u9 =>
        p_M_sizeOf_b41 f u9 x1 x2
      else
        p_M_sizeOf_b41 f σ x1 x2
def p_M_ask (f : Nat) (σ : qMem) (x1 : Int32) (x2 : Int32) : Option (Int32 × qMem) :=
  (p_M_isPromise f (qmu σ 104 0 (0 : Int32)) x1).bind fun u1 =>
  if u1 = 0 then
    some ((-1000001 : Int32), (qmu σ 104 0 (0 : Int32)))
  else
    (p_M_in f (qmu σ 104 0 (0 : Int32)) (x2).toInt64 (0 : Int64) (1 : Int64)).bind fun u3 =>
    if u3 = 0 then
      some ((-1000001 : Int32), (qmu σ 104 0 (0 : Int32)))
    else
      (p_M_kindOf f (qmu (qmu σ 104 0 (0 : Int32)) 104 64 (0 : Int32)) x1).bind fun u5 =>
      if x2 = 0 then
        (p_M_sizeOf f (qmu (qmu σ 104 0 (0 : Int32)) 104 64 (0 : Int32)) x1 u5).bind fun u9 =>
        some (u9.1, u9.2)
      else
        (p_M_markOf f (qmu (qmu σ 104 0 (0 : Int32)) 104 64 (0 : Int32)) x1 u5).bind fun u7 =>
        some (u7.1, u7.2)
def p_M_trace (f : Nat) (σ : qMem) (x1 : Int32) : Option (Int32 × qMem) :=
  (p_M_in f (qmu σ 104 0 (0 : Int32)) (x1).toInt64 (0 : Int64) (((((qmu σ 104 0 (0 : Int32)) 104 64) - (1 : Int32))).toInt64)).bind fun u1 =>
  if u1 = 0 then
    some ((-1000000 : Int32), (qmu σ 104 0 (0 : Int32)))
  else
    if qin x1 16 = true then
    some (((qmu σ 104 0 (0 : Int32)) 146 (qi x1)), (qmu σ 104 0 (0 : Int32)))
    else none
def p_M_all_l62 (f : Nat) (σ : qMem) (k62 : Int32 → Int32 → Option (Int32 × qMem)) (x2 : Int32) (x3 : Int32) : Option (Int32 × qMem) :=
  if (8 : Int32) ≤ x3 then
    some (x2, σ)
  else
    if qin x3 8 = true then
    if (σ 105 (qi x3)) < 0 then
      k62 (x2 + (0 : Int32)) (x3 + (1 : Int32))
    else
      k62 (x2 + (1 : Int32)) (x3 + (1 : Int32))
    else none
def p_M_all_l114 (f : Nat) (σ : qMem) (k114 : Int32 → Int32 → Option (Int32 × qMem)) (x2 : Int32) (x3 : Int32) : Option (Int32 × qMem) :=
  if (σ 104 21) ≤ x3 then
    some (x2, σ)
  else
    if qin x3 60 = true then
    if (σ 115 (qi x3)) = 0 then
      k114 (x2 + (0 : Int32)) (x3 + (1 : Int32))
    else
      k114 (x2 + (1 : Int32)) (x3 + (1 : Int32))
    else none
def p_M_all_l149 (f : Nat) (σ : qMem) (k149 : Int32 → Int32 → Option (Int32 × qMem)) (x2 : Int32) (x3 : Int32) : Option (Int32 × qMem) :=
  if (σ 104 5) ≤ x3 then
    some (x2, σ)
  else
    (p_M_isEnded f σ x3 (σ 104 62)).bind fun u3 =>
    if u3 = 0 then
      k149 (x2 + (0 : Int32)) (x3 + (1 : Int32))
    else
      k149 (x2 + (1 : Int32)) (x3 + (1 : Int32))
def p_M_all (f : Nat) (σ : qMem) (x1 : Int32) : Option (Int32 × qMem) :=
  if x1 = (0 : Int32) then
    qfix2 (p_M_all_l62 f (qmu σ 104 0 (0 : Int32)) ) f (0 : Int32) (0 : Int32)
  else if x1 = (1 : Int32) then
    some (((qmu σ 104 0 (0 : Int32)) 104 5), (qmu σ 104 0 (0 : Int32)))
  else if x1 = (2 : Int32) then
    some (((qmu σ 104 0 (0 : Int32)) 104 18), (qmu σ 104 0 (0 : Int32)))
  else if x1 = (3 : Int32) then
    some (((qmu σ 104 0 (0 : Int32)) 104 21), (qmu σ 104 0 (0 : Int32)))
  else if x1 = (4 : Int32) then
    (p_M_judge f (qmu σ 104 0 (0 : Int32))).bind fun u5 =>
    qfix2 (p_M_all_l114 f u5 ) f (0 : Int32) (0 : Int32)
  else if x1 = (5 : Int32) then
    qfix2 (p_M_all_l149 f (qmu σ 104 0 (0 : Int32)) ) f (0 : Int32) (0 : Int32)
  else if x1 = (6 : Int32) then
    some (((qmu σ 104 0 (0 : Int32)) 104 50), (qmu σ 104 0 (0 : Int32)))
  else if x1 = (7 : Int32) then
    some (((qmu σ 104 0 (0 : Int32)) 104 55), (qmu σ 104 0 (0 : Int32)))
  else if x1 = (8 : Int32) then
    some (((qmu σ 104 0 (0 : Int32)) 104 8), (qmu σ 104 0 (0 : Int32)))
  else
    some ((-1000001 : Int32), (qmu σ 104 0 (0 : Int32)))
def p_M_status (f : Nat) (σ : qMem) : Option (Int32 × qMem) :=
  some (((qmu σ 104 0 (0 : Int32)) 104 1), (qmu σ 104 0 (0 : Int32)))
end
section
/-! the cells, as the constructors make them -/
def qKS : List qKd := [(0, 17), (1, 3), (100, 8), (100, 8), (103, 8), (100, 60), (100, 60), (100, 60), (100, 60), (100, 60), (100, 60), (100, 60), (100, 60), (2, 2), (103, 12), (100, 11), (100, 11), (100, 11), (100, 11), (100, 11), (100, 11), (100, 11), (100, 11), (100, 11), (100, 11), (100, 11), (100, 11), (3, 6), (101, 500), (4, 4), (100, 30), (100, 30), (100, 8), (5, 4), (100, 20), (100, 20), (100, 20), (6, 6), (100, 10), (100, 10), (100, 10), (100, 10), (7, 10), (100, 60), (100, 60), (100, 60), (102, 60), (100, 60), (8, 5), (100, 10), (100, 10), (100, 10), (100, 10), (9, 11), (100, 6), (100, 6), (100, 20), (100, 20), (100, 20), (5, 4), (100, 20), (100, 20), (100, 20), (100, 20), (100, 20), (100, 20), (100, 3), (10, 4), (100, 12), (100, 12), (103, 12), (100, 4), (100, 4), (100, 4), (100, 4), (100, 4), (100, 4), (100, 4), (100, 4), (100, 4), (100, 4), (100, 4), (100, 4), (103, 12), (100, 4), (100, 4), (100, 4), (100, 4), (100, 4), (100, 4), (100, 4), (100, 4), (100, 4), (100, 4), (100, 4), (100, 4), (11, 11), (100, 8), (100, 8), (102, 8), (102, 256), (100, 4), (100, 8), (100, 16), (12, 65), (100, 8), (100, 8), (100, 480), (100, 132), (100, 500), (100, 30), (100, 30), (100, 60), (100, 60), (100, 60), (102, 60), (100, 8), (100, 20), (100, 20), (100, 20), (100, 10), (100, 10), (100, 10), (100, 10), (100, 6), (100, 6), (100, 20), (100, 20), (100, 20), (100, 20), (100, 20), (100, 20), (100, 3), (100, 12), (100, 12), (100, 96), (100, 10), (100, 10), (100, 10), (100, 10), (100, 20), (100, 20), (100, 20), (100, 8), (100, 8), (100, 8), (100, 16)]
def qRT : List (List (Option Nat)) := [[some 1, some 13, some 27, some 29, some 32, some 33, some 37, some 42, some 48, some 53, some 66, some 67, some 96, some 103, none, none, none], [some 2, some 3, some 4], [], [], [], [], [], [], [], [], [], [], [], [some 14, none], [], [], [], [], [], [], [], [], [], [], [], [], [], [some 28, none, none, none, none, none], [], [some 30, some 31, none, none], [], [], [], [some 34, some 35, some 36, none], [], [], [], [some 13, some 38, some 39, some 40, some 41, none], [], [], [], [], [some 13, some 37, some 33, some 32, some 43, some 44, some 45, some 46, some 47, none], [], [], [], [], [], [some 49, some 50, some 51, some 52, none], [], [], [], [], [some 54, some 55, some 56, some 57, some 58, none, some 59, some 63, some 64, some 65, none], [], [], [], [], [], [some 60, some 61, some 62, none], [], [], [], [], [], [], [], [some 68, some 69, some 70, some 83], [], [], [], [], [], [], [], [], [], [], [], [], [], [], [], [], [], [], [], [], [], [], [], [], [], [], [], [], [some 13, some 33, some 32, some 97, some 98, some 99, none, some 100, none, some 101, some 102], [], [], [], [], [], [], [], [none, none, some 105, some 106, some 107, none, some 108, some 109, none, none, none, none, none, none, none, none, none, none, none, some 110, some 111, none, some 112, some 113, some 114, some 115, some 116, none, some 117, some 118, some 119, none, some 120, some 121, some 122, some 123, some 124, some 125, none, some 126, some 127, some 128, none, some 129, some 130, some 131, some 132, some 133, some 134, some 135, none, some 136, some 137, some 138, some 139, none, some 140, some 141, some 142, some 143, some 144, some 145, none, some 146, none], [], [], [], [], [], [], [], [], [], [], [], [], [], [], [], [], [], [], [], [], [], [], [], [], [], [], [], [], [], [], [], [], [], [], [], [], [], [], [], [], [], []]
def qRF : qRf := fun k j => if k = 4 ∨ k = 14 ∨ k = 70 ∨ k = 83 then some (k + 1 + j) else (qRT.getD k []).getD j none
theorem qKS_len : qKS.length ≤ 1048576 := by decide +kernel
theorem kc_0 : qKS[0]? = some (0, 17) := rfl
theorem kc_1 : qKS[1]? = some (1, 3) := rfl
theorem kc_2 : qKS[2]? = some (100, 8) := rfl
theorem kc_3 : qKS[3]? = some (100, 8) := rfl
theorem kc_4 : qKS[4]? = some (103, 8) := rfl
theorem kc_13 : qKS[13]? = some (2, 2) := rfl
theorem kc_14 : qKS[14]? = some (103, 12) := rfl
theorem kc_27 : qKS[27]? = some (3, 6) := rfl
theorem kc_28 : qKS[28]? = some (101, 500) := rfl
theorem kc_29 : qKS[29]? = some (4, 4) := rfl
theorem kc_30 : qKS[30]? = some (100, 30) := rfl
theorem kc_31 : qKS[31]? = some (100, 30) := rfl
theorem kc_32 : qKS[32]? = some (100, 8) := rfl
theorem kc_33 : qKS[33]? = some (5, 4) := rfl
theorem kc_34 : qKS[34]? = some (100, 20) := rfl
theorem kc_35 : qKS[35]? = some (100, 20) := rfl
theorem kc_36 : qKS[36]? = some (100, 20) := rfl
theorem kc_37 : qKS[37]? = some (6, 6) := rfl
theorem kc_38 : qKS[38]? = some (100, 10) := rfl
theorem kc_39 : qKS[39]? = some (100, 10) := rfl
theorem kc_40 : qKS[40]? = some (100, 10) := rfl
theorem kc_41 : qKS[41]? = some (100, 10) := rfl
theorem kc_42 : qKS[42]? = some (7, 10) := rfl
theorem kc_43 : qKS[43]? = some (100, 60) := rfl
theorem kc_44 : qKS[44]? = some (100, 60) := rfl
theorem kc_45 : qKS[45]? = some (100, 60) := rfl
theorem kc_46 : qKS[46]? = some (102, 60) := rfl
theorem kc_47 : qKS[47]? = some (100, 60) := rfl
theorem kc_48 : qKS[48]? = some (8, 5) := rfl
theorem kc_49 : qKS[49]? = some (100, 10) := rfl
theorem kc_50 : qKS[50]? = some (100, 10) := rfl
theorem kc_51 : qKS[51]? = some (100, 10) := rfl
theorem kc_52 : qKS[52]? = some (100, 10) := rfl
theorem kc_53 : qKS[53]? = some (9, 11) := rfl
theorem kc_54 : qKS[54]? = some (100, 6) := rfl
theorem kc_55 : qKS[55]? = some (100, 6) := rfl
theorem kc_56 : qKS[56]? = some (100, 20) := rfl
theorem kc_57 : qKS[57]? = some (100, 20) := rfl
theorem kc_58 : qKS[58]? = some (100, 20) := rfl
theorem kc_59 : qKS[59]? = some (5, 4) := rfl
theorem kc_60 : qKS[60]? = some (100, 20) := rfl
theorem kc_61 : qKS[61]? = some (100, 20) := rfl
theorem kc_62 : qKS[62]? = some (100, 20) := rfl
theorem kc_63 : qKS[63]? = some (100, 20) := rfl
theorem kc_64 : qKS[64]? = some (100, 20) := rfl
theorem kc_65 : qKS[65]? = some (100, 20) := rfl
theorem kc_66 : qKS[66]? = some (100, 3) := rfl
theorem kc_67 : qKS[67]? = some (10, 4) := rfl
theorem kc_68 : qKS[68]? = some (100, 12) := rfl
theorem kc_69 : qKS[69]? = some (100, 12) := rfl
theorem kc_70 : qKS[70]? = some (103, 12) := rfl
theorem kc_83 : qKS[83]? = some (103, 12) := rfl
theorem kc_96 : qKS[96]? = some (11, 11) := rfl
theorem kc_97 : qKS[97]? = some (100, 8) := rfl
theorem kc_98 : qKS[98]? = some (100, 8) := rfl
theorem kc_99 : qKS[99]? = some (102, 8) := rfl
theorem kc_100 : qKS[100]? = some (102, 256) := rfl
theorem kc_101 : qKS[101]? = some (100, 4) := rfl
theorem kc_102 : qKS[102]? = some (100, 8) := rfl
theorem kc_103 : qKS[103]? = some (100, 16) := rfl
theorem kc_104 : qKS[104]? = some (12, 65) := rfl
theorem kc_105 : qKS[105]? = some (100, 8) := rfl
theorem kc_106 : qKS[106]? = some (100, 8) := rfl
theorem kc_107 : qKS[107]? = some (100, 480) := rfl
theorem kc_108 : qKS[108]? = some (100, 132) := rfl
theorem kc_109 : qKS[109]? = some (100, 500) := rfl
theorem kc_110 : qKS[110]? = some (100, 30) := rfl
theorem kc_111 : qKS[111]? = some (100, 30) := rfl
theorem kc_112 : qKS[112]? = some (100, 60) := rfl
theorem kc_113 : qKS[113]? = some (100, 60) := rfl
theorem kc_114 : qKS[114]? = some (100, 60) := rfl
theorem kc_115 : qKS[115]? = some (102, 60) := rfl
theorem kc_116 : qKS[116]? = some (100, 8) := rfl
theorem kc_117 : qKS[117]? = some (100, 20) := rfl
theorem kc_118 : qKS[118]? = some (100, 20) := rfl
theorem kc_119 : qKS[119]? = some (100, 20) := rfl
theorem kc_120 : qKS[120]? = some (100, 10) := rfl
theorem kc_121 : qKS[121]? = some (100, 10) := rfl
theorem kc_122 : qKS[122]? = some (100, 10) := rfl
theorem kc_123 : qKS[123]? = some (100, 10) := rfl
theorem kc_124 : qKS[124]? = some (100, 6) := rfl
theorem kc_125 : qKS[125]? = some (100, 6) := rfl
theorem kc_126 : qKS[126]? = some (100, 20) := rfl
theorem kc_127 : qKS[127]? = some (100, 20) := rfl
theorem kc_128 : qKS[128]? = some (100, 20) := rfl
theorem kc_129 : qKS[129]? = some (100, 20) := rfl
theorem kc_130 : qKS[130]? = some (100, 20) := rfl
theorem kc_131 : qKS[131]? = some (100, 20) := rfl
theorem kc_132 : qKS[132]? = some (100, 3) := rfl
theorem kc_133 : qKS[133]? = some (100, 12) := rfl
theorem kc_134 : qKS[134]? = some (100, 12) := rfl
theorem kc_135 : qKS[135]? = some (100, 96) := rfl
theorem kc_136 : qKS[136]? = some (100, 10) := rfl
theorem kc_137 : qKS[137]? = some (100, 10) := rfl
theorem kc_138 : qKS[138]? = some (100, 10) := rfl
theorem kc_139 : qKS[139]? = some (100, 10) := rfl
theorem kc_140 : qKS[140]? = some (100, 20) := rfl
theorem kc_141 : qKS[141]? = some (100, 20) := rfl
theorem kc_142 : qKS[142]? = some (100, 20) := rfl
theorem kc_143 : qKS[143]? = some (100, 8) := rfl
theorem kc_144 : qKS[144]? = some (100, 8) := rfl
theorem kc_145 : qKS[145]? = some (100, 8) := rfl
theorem kc_146 : qKS[146]? = some (100, 16) := rfl
theorem kr_4 {i : Int32} (h : qin i 8 = true) : qKS[5 + qi i]? = some (100, 60) := by
  have h1 : i.toNatClampNeg < 8 := by
    unfold qin at h
    simp only [Bool.and_eq_true, decide_eq_true_eq] at h
    exact h.2
  show qKS[5 + i.toNatClampNeg]? = _
  generalize i.toNatClampNeg = j at h1
  revert j
  decide +kernel
theorem kr_14 {i : Int32} (h : qin i 12 = true) : qKS[15 + qi i]? = some (100, 11) := by
  have h1 : i.toNatClampNeg < 12 := by
    unfold qin at h
    simp only [Bool.and_eq_true, decide_eq_true_eq] at h
    exact h.2
  show qKS[15 + i.toNatClampNeg]? = _
  generalize i.toNatClampNeg = j at h1
  revert j
  decide +kernel
theorem kr_70 {i : Int32} (h : qin i 12 = true) : qKS[71 + qi i]? = some (100, 4) := by
  have h1 : i.toNatClampNeg < 12 := by
    unfold qin at h
    simp only [Bool.and_eq_true, decide_eq_true_eq] at h
    exact h.2
  show qKS[71 + i.toNatClampNeg]? = _
  generalize i.toNatClampNeg = j at h1
  revert j
  decide +kernel
theorem kr_83 {i : Int32} (h : qin i 12 = true) : qKS[84 + qi i]? = some (100, 4) := by
  have h1 : i.toNatClampNeg < 12 := by
    unfold qin at h
    simp only [Bool.and_eq_true, decide_eq_true_eq] at h
    exact h.2
  show qKS[84 + i.toNatClampNeg]? = _
  generalize i.toNatClampNeg = j at h1
  revert j
  decide +kernel
end
