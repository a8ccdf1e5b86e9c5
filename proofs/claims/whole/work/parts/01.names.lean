-- ===== PART A: goes FIRST, ahead of the names: the tables' words, and 'selects' of the private methods out of them =====
/-- a private method of a class that the tables say can be made, by its rows of tables_1 -/
def lw_okq (q : MethodName × Nat) : Prop := (q.1.cls ≠ "java/lang/invoke/MethodHandle" ∧ q.1.cls ≠ "java/lang/invoke/VarHandle") ∧ Cond.instantiable q.1.cls q.2 ∈ tables_1 ∧ Cond.privateMethod q.1 ∈ tables_1 ∧ Cond.instanceMethod q.1 ∈ tables_1
theorem lw_p0 : lw_okq (⟨"OneMatch", "found", "(I)I"⟩, 17) := ⟨⟨by decide +kernel, by decide +kernel⟩, List.mem_of_getElem? (i := 17) (by decide +kernel), List.mem_of_getElem? (i := 316) (by decide +kernel), List.mem_of_getElem? (i := 317) (by decide +kernel)⟩
theorem lw_p1 : lw_okq (⟨"OneMatch", "factOf", "(II)I"⟩, 17) := ⟨⟨by decide +kernel, by decide +kernel⟩, List.mem_of_getElem? (i := 17) (by decide +kernel), List.mem_of_getElem? (i := 501) (by decide +kernel), List.mem_of_getElem? (i := 502) (by decide +kernel)⟩
theorem lw_p2 : lw_okq (⟨"OneMatch", "markOf", "(II)I"⟩, 17) := ⟨⟨by decide +kernel, by decide +kernel⟩, List.mem_of_getElem? (i := 17) (by decide +kernel), List.mem_of_getElem? (i := 551) (by decide +kernel), List.mem_of_getElem? (i := 552) (by decide +kernel)⟩
theorem lw_p3 : lw_okq (⟨"OneMatch$Fire", "feed", "(I)V"⟩, 7) := ⟨⟨by decide +kernel, by decide +kernel⟩, List.mem_of_getElem? (i := 94) (by decide +kernel), List.mem_of_getElem? (i := 608) (by decide +kernel), List.mem_of_getElem? (i := 609) (by decide +kernel)⟩
theorem lw_p4 : lw_okq (⟨"OneMatch$Plans", "walk", "(I)V"⟩, 10) := ⟨⟨by decide +kernel, by decide +kernel⟩, List.mem_of_getElem? (i := 157) (by decide +kernel), List.mem_of_getElem? (i := 737) (by decide +kernel), List.mem_of_getElem? (i := 738) (by decide +kernel)⟩
theorem lw_p5 : lw_okq (⟨"OneMatch$Plans", "weigh", "(LOneMatch$Fire;)V"⟩, 10) := ⟨⟨by decide +kernel, by decide +kernel⟩, List.mem_of_getElem? (i := 157) (by decide +kernel), List.mem_of_getElem? (i := 741) (by decide +kernel), List.mem_of_getElem? (i := 742) (by decide +kernel)⟩
theorem lw_p6 : lw_okq (⟨"OneMatch$Plans", "rankOf", "(LOneMatch$Fire;)I"⟩, 10) := ⟨⟨by decide +kernel, by decide +kernel⟩, List.mem_of_getElem? (i := 157) (by decide +kernel), List.mem_of_getElem? (i := 746) (by decide +kernel), List.mem_of_getElem? (i := 747) (by decide +kernel)⟩
theorem lw_p7 : lw_okq (⟨"OneMatch$Plans", "isOver", "()Z"⟩, 10) := ⟨⟨by decide +kernel, by decide +kernel⟩, List.mem_of_getElem? (i := 157) (by decide +kernel), List.mem_of_getElem? (i := 756) (by decide +kernel), List.mem_of_getElem? (i := 757) (by decide +kernel)⟩
theorem lw_p8 : lw_okq (⟨"OneMatch$Plans", "take", "(II)V"⟩, 10) := ⟨⟨by decide +kernel, by decide +kernel⟩, List.mem_of_getElem? (i := 157) (by decide +kernel), List.mem_of_getElem? (i := 765) (by decide +kernel), List.mem_of_getElem? (i := 766) (by decide +kernel)⟩
theorem lw_p9 : lw_okq (⟨"OneMatch", "planInto", "(LOneMatch$Row;)I"⟩, 17) := ⟨⟨by decide +kernel, by decide +kernel⟩, List.mem_of_getElem? (i := 17) (by decide +kernel), List.mem_of_getElem? (i := 775) (by decide +kernel), List.mem_of_getElem? (i := 776) (by decide +kernel)⟩
theorem lw_p10 : lw_okq (⟨"OneMatch", "tell", "(JJ)V"⟩, 17) := ⟨⟨by decide +kernel, by decide +kernel⟩, List.mem_of_getElem? (i := 17) (by decide +kernel), List.mem_of_getElem? (i := 788) (by decide +kernel), List.mem_of_getElem? (i := 789) (by decide +kernel)⟩
theorem lw_p11 : lw_okq (⟨"OneMatch$Smoke", "walk", "(I)V"⟩, 5) := ⟨⟨by decide +kernel, by decide +kernel⟩, List.mem_of_getElem? (i := 202) (by decide +kernel), List.mem_of_getElem? (i := 839) (by decide +kernel), List.mem_of_getElem? (i := 840) (by decide +kernel)⟩
theorem lw_p12 : lw_okq (⟨"OneMatch$Smoke", "take", "(II)V"⟩, 5) := ⟨⟨by decide +kernel, by decide +kernel⟩, List.mem_of_getElem? (i := 202) (by decide +kernel), List.mem_of_getElem? (i := 844) (by decide +kernel), List.mem_of_getElem? (i := 845) (by decide +kernel)⟩
theorem lw_p13 : lw_okq (⟨"OneMatch$Odds", "casesFrom", "(I)J"⟩, 6) := ⟨⟨by decide +kernel, by decide +kernel⟩, List.mem_of_getElem? (i := 228) (by decide +kernel), List.mem_of_getElem? (i := 873) (by decide +kernel), List.mem_of_getElem? (i := 874) (by decide +kernel)⟩
theorem lw_p14 : lw_okq (⟨"OneMatch$Odds", "casesBehind", "(II)J"⟩, 6) := ⟨⟨by decide +kernel, by decide +kernel⟩, List.mem_of_getElem? (i := 228) (by decide +kernel), List.mem_of_getElem? (i := 880) (by decide +kernel), List.mem_of_getElem? (i := 881) (by decide +kernel)⟩
theorem lw_p15 : lw_okq (⟨"OneMatch", "carryByLot", "(I)V"⟩, 17) := ⟨⟨by decide +kernel, by decide +kernel⟩, List.mem_of_getElem? (i := 17) (by decide +kernel), List.mem_of_getElem? (i := 893) (by decide +kernel), List.mem_of_getElem? (i := 894) (by decide +kernel)⟩
def lw_privs_1 : List (MethodName × Nat) := [(⟨"OneMatch", "found", "(I)I"⟩, 17), (⟨"OneMatch", "factOf", "(II)I"⟩, 17), (⟨"OneMatch", "markOf", "(II)I"⟩, 17), (⟨"OneMatch$Fire", "feed", "(I)V"⟩, 7), (⟨"OneMatch$Plans", "walk", "(I)V"⟩, 10), (⟨"OneMatch$Plans", "weigh", "(LOneMatch$Fire;)V"⟩, 10), (⟨"OneMatch$Plans", "rankOf", "(LOneMatch$Fire;)I"⟩, 10), (⟨"OneMatch$Plans", "isOver", "()Z"⟩, 10), (⟨"OneMatch$Plans", "take", "(II)V"⟩, 10), (⟨"OneMatch", "planInto", "(LOneMatch$Row;)I"⟩, 17), (⟨"OneMatch", "tell", "(JJ)V"⟩, 17), (⟨"OneMatch$Smoke", "walk", "(I)V"⟩, 5), (⟨"OneMatch$Smoke", "take", "(II)V"⟩, 5), (⟨"OneMatch$Odds", "casesFrom", "(I)J"⟩, 6), (⟨"OneMatch$Odds", "casesBehind", "(II)J"⟩, 6), (⟨"OneMatch", "carryByLot", "(I)V"⟩, 17)]
theorem lw_r1 : ∀ q ∈ lw_privs_1, lw_okq q := List.forall_mem_cons.mpr ⟨lw_p0, List.forall_mem_cons.mpr ⟨lw_p1, List.forall_mem_cons.mpr ⟨lw_p2, List.forall_mem_cons.mpr ⟨lw_p3, List.forall_mem_cons.mpr ⟨lw_p4, List.forall_mem_cons.mpr ⟨lw_p5, List.forall_mem_cons.mpr ⟨lw_p6, List.forall_mem_cons.mpr ⟨lw_p7, List.forall_mem_cons.mpr ⟨lw_p8, List.forall_mem_cons.mpr ⟨lw_p9, List.forall_mem_cons.mpr ⟨lw_p10, List.forall_mem_cons.mpr ⟨lw_p11, List.forall_mem_cons.mpr ⟨lw_p12, List.forall_mem_cons.mpr ⟨lw_p13, List.forall_mem_cons.mpr ⟨lw_p14, List.forall_mem_cons.mpr ⟨lw_p15, fun _ h => absurd h List.not_mem_nil⟩⟩⟩⟩⟩⟩⟩⟩⟩⟩⟩⟩⟩⟩⟩⟩
theorem lw_p16 : lw_okq (⟨"OneMatch", "countOf", "(I)I"⟩, 17) := ⟨⟨by decide +kernel, by decide +kernel⟩, List.mem_of_getElem? (i := 17) (by decide +kernel), List.mem_of_getElem? (i := 913) (by decide +kernel), List.mem_of_getElem? (i := 914) (by decide +kernel)⟩
theorem lw_p17 : lw_okq (⟨"OneMatch", "rowsThere", "()I"⟩, 17) := ⟨⟨by decide +kernel, by decide +kernel⟩, List.mem_of_getElem? (i := 17) (by decide +kernel), List.mem_of_getElem? (i := 922) (by decide +kernel), List.mem_of_getElem? (i := 923) (by decide +kernel)⟩
theorem lw_p18 : lw_okq (⟨"OneMatch", "textsThere", "()I"⟩, 17) := ⟨⟨by decide +kernel, by decide +kernel⟩, List.mem_of_getElem? (i := 17) (by decide +kernel), List.mem_of_getElem? (i := 926) (by decide +kernel), List.mem_of_getElem? (i := 927) (by decide +kernel)⟩
theorem lw_p19 : lw_okq (⟨"OneMatch", "keptThere", "()I"⟩, 17) := ⟨⟨by decide +kernel, by decide +kernel⟩, List.mem_of_getElem? (i := 17) (by decide +kernel), List.mem_of_getElem? (i := 930) (by decide +kernel), List.mem_of_getElem? (i := 931) (by decide +kernel)⟩
theorem lw_p20 : lw_okq (⟨"OneMatchModel", "meets", "(I)I"⟩, 38) := ⟨⟨by decide +kernel, by decide +kernel⟩, List.mem_of_getElem? (i := 958) (by decide +kernel), List.mem_of_getElem? (i := 1110) (by decide +kernel), List.mem_of_getElem? (i := 1111) (by decide +kernel)⟩
theorem lw_p21 : lw_okq (⟨"OneMatchModel", "rowAt", "(II)I"⟩, 38) := ⟨⟨by decide +kernel, by decide +kernel⟩, List.mem_of_getElem? (i := 958) (by decide +kernel), List.mem_of_getElem? (i := 1118) (by decide +kernel), List.mem_of_getElem? (i := 1119) (by decide +kernel)⟩
theorem lw_p22 : lw_okq (⟨"OneMatchModel", "tells", "(II)I"⟩, 38) := ⟨⟨by decide +kernel, by decide +kernel⟩, List.mem_of_getElem? (i := 958) (by decide +kernel), List.mem_of_getElem? (i := 1122) (by decide +kernel), List.mem_of_getElem? (i := 1123) (by decide +kernel)⟩
theorem lw_p23 : lw_okq (⟨"OneMatchModel", "faultOf", "(I)I"⟩, 38) := ⟨⟨by decide +kernel, by decide +kernel⟩, List.mem_of_getElem? (i := 958) (by decide +kernel), List.mem_of_getElem? (i := 1157) (by decide +kernel), List.mem_of_getElem? (i := 1158) (by decide +kernel)⟩
theorem lw_p24 : lw_okq (⟨"OneMatchModel", "byteAt", "(II)I"⟩, 38) := ⟨⟨by decide +kernel, by decide +kernel⟩, List.mem_of_getElem? (i := 958) (by decide +kernel), List.mem_of_getElem? (i := 1161) (by decide +kernel), List.mem_of_getElem? (i := 1162) (by decide +kernel)⟩
theorem lw_p25 : lw_okq (⟨"OneMatchModel", "readsWinds", "(I)Z"⟩, 38) := ⟨⟨by decide +kernel, by decide +kernel⟩, List.mem_of_getElem? (i := 958) (by decide +kernel), List.mem_of_getElem? (i := 1165) (by decide +kernel), List.mem_of_getElem? (i := 1166) (by decide +kernel)⟩
theorem lw_p26 : lw_okq (⟨"OneMatchModel", "figureAt", "(I)I"⟩, 38) := ⟨⟨by decide +kernel, by decide +kernel⟩, List.mem_of_getElem? (i := 958) (by decide +kernel), List.mem_of_getElem? (i := 1169) (by decide +kernel), List.mem_of_getElem? (i := 1170) (by decide +kernel)⟩
theorem lw_p27 : lw_okq (⟨"OneMatchModel", "readsHouse", "(I)Z"⟩, 38) := ⟨⟨by decide +kernel, by decide +kernel⟩, List.mem_of_getElem? (i := 958) (by decide +kernel), List.mem_of_getElem? (i := 1173) (by decide +kernel), List.mem_of_getElem? (i := 1174) (by decide +kernel)⟩
theorem lw_p28 : lw_okq (⟨"OneMatchModel", "isHouse", "(I)Z"⟩, 38) := ⟨⟨by decide +kernel, by decide +kernel⟩, List.mem_of_getElem? (i := 958) (by decide +kernel), List.mem_of_getElem? (i := 1188) (by decide +kernel), List.mem_of_getElem? (i := 1189) (by decide +kernel)⟩
theorem lw_p29 : lw_okq (⟨"OneMatchModel", "houseTells", "(II)I"⟩, 38) := ⟨⟨by decide +kernel, by decide +kernel⟩, List.mem_of_getElem? (i := 958) (by decide +kernel), List.mem_of_getElem? (i := 1192) (by decide +kernel), List.mem_of_getElem? (i := 1193) (by decide +kernel)⟩
theorem lw_p30 : lw_okq (⟨"OneMatchModel", "isCatching", "(II)Z"⟩, 38) := ⟨⟨by decide +kernel, by decide +kernel⟩, List.mem_of_getElem? (i := 958) (by decide +kernel), List.mem_of_getElem? (i := 1196) (by decide +kernel), List.mem_of_getElem? (i := 1197) (by decide +kernel)⟩
theorem lw_p31 : lw_okq (⟨"OneMatchModel", "windOf", "(I)I"⟩, 38) := ⟨⟨by decide +kernel, by decide +kernel⟩, List.mem_of_getElem? (i := 958) (by decide +kernel), List.mem_of_getElem? (i := 1204) (by decide +kernel), List.mem_of_getElem? (i := 1205) (by decide +kernel)⟩
def lw_privs_2 : List (MethodName × Nat) := [(⟨"OneMatch", "countOf", "(I)I"⟩, 17), (⟨"OneMatch", "rowsThere", "()I"⟩, 17), (⟨"OneMatch", "textsThere", "()I"⟩, 17), (⟨"OneMatch", "keptThere", "()I"⟩, 17), (⟨"OneMatchModel", "meets", "(I)I"⟩, 38), (⟨"OneMatchModel", "rowAt", "(II)I"⟩, 38), (⟨"OneMatchModel", "tells", "(II)I"⟩, 38), (⟨"OneMatchModel", "faultOf", "(I)I"⟩, 38), (⟨"OneMatchModel", "byteAt", "(II)I"⟩, 38), (⟨"OneMatchModel", "readsWinds", "(I)Z"⟩, 38), (⟨"OneMatchModel", "figureAt", "(I)I"⟩, 38), (⟨"OneMatchModel", "readsHouse", "(I)Z"⟩, 38), (⟨"OneMatchModel", "isHouse", "(I)Z"⟩, 38), (⟨"OneMatchModel", "houseTells", "(II)I"⟩, 38), (⟨"OneMatchModel", "isCatching", "(II)Z"⟩, 38), (⟨"OneMatchModel", "windOf", "(I)I"⟩, 38)]
theorem lw_r2 : ∀ q ∈ lw_privs_2, lw_okq q := List.forall_mem_cons.mpr ⟨lw_p16, List.forall_mem_cons.mpr ⟨lw_p17, List.forall_mem_cons.mpr ⟨lw_p18, List.forall_mem_cons.mpr ⟨lw_p19, List.forall_mem_cons.mpr ⟨lw_p20, List.forall_mem_cons.mpr ⟨lw_p21, List.forall_mem_cons.mpr ⟨lw_p22, List.forall_mem_cons.mpr ⟨lw_p23, List.forall_mem_cons.mpr ⟨lw_p24, List.forall_mem_cons.mpr ⟨lw_p25, List.forall_mem_cons.mpr ⟨lw_p26, List.forall_mem_cons.mpr ⟨lw_p27, List.forall_mem_cons.mpr ⟨lw_p28, List.forall_mem_cons.mpr ⟨lw_p29, List.forall_mem_cons.mpr ⟨lw_p30, List.forall_mem_cons.mpr ⟨lw_p31, fun _ h => absurd h List.not_mem_nil⟩⟩⟩⟩⟩⟩⟩⟩⟩⟩⟩⟩⟩⟩⟩⟩
theorem lw_p32 : lw_okq (⟨"OneMatchModel", "springOf", "(II)I"⟩, 38) := ⟨⟨by decide +kernel, by decide +kernel⟩, List.mem_of_getElem? (i := 958) (by decide +kernel), List.mem_of_getElem? (i := 1212) (by decide +kernel), List.mem_of_getElem? (i := 1213) (by decide +kernel)⟩
theorem lw_p33 : lw_okq (⟨"OneMatchModel", "takesIn", "(II)I"⟩, 38) := ⟨⟨by decide +kernel, by decide +kernel⟩, List.mem_of_getElem? (i := 958) (by decide +kernel), List.mem_of_getElem? (i := 1216) (by decide +kernel), List.mem_of_getElem? (i := 1217) (by decide +kernel)⟩
theorem lw_p34 : lw_okq (⟨"OneMatchModel", "wetBeside", "(I)I"⟩, 38) := ⟨⟨by decide +kernel, by decide +kernel⟩, List.mem_of_getElem? (i := 958) (by decide +kernel), List.mem_of_getElem? (i := 1220) (by decide +kernel), List.mem_of_getElem? (i := 1221) (by decide +kernel)⟩
theorem lw_p35 : lw_okq (⟨"OneMatchModel", "remember", "()V"⟩, 38) := ⟨⟨by decide +kernel, by decide +kernel⟩, List.mem_of_getElem? (i := 958) (by decide +kernel), List.mem_of_getElem? (i := 1232) (by decide +kernel), List.mem_of_getElem? (i := 1233) (by decide +kernel)⟩
theorem lw_p36 : lw_okq (⟨"OneMatchModel", "canCarry", "(III)Z"⟩, 38) := ⟨⟨by decide +kernel, by decide +kernel⟩, List.mem_of_getElem? (i := 958) (by decide +kernel), List.mem_of_getElem? (i := 1240) (by decide +kernel), List.mem_of_getElem? (i := 1241) (by decide +kernel)⟩
theorem lw_p37 : lw_okq (⟨"OneMatchModel", "isBurning", "(II)Z"⟩, 38) := ⟨⟨by decide +kernel, by decide +kernel⟩, List.mem_of_getElem? (i := 958) (by decide +kernel), List.mem_of_getElem? (i := 1244) (by decide +kernel), List.mem_of_getElem? (i := 1245) (by decide +kernel)⟩
theorem lw_p38 : lw_okq (⟨"OneMatchModel", "hourOf", "(I)I"⟩, 38) := ⟨⟨by decide +kernel, by decide +kernel⟩, List.mem_of_getElem? (i := 958) (by decide +kernel), List.mem_of_getElem? (i := 1251) (by decide +kernel), List.mem_of_getElem? (i := 1252) (by decide +kernel)⟩
theorem lw_p39 : lw_okq (⟨"OneMatchModel", "carries", "(II)V"⟩, 38) := ⟨⟨by decide +kernel, by decide +kernel⟩, List.mem_of_getElem? (i := 958) (by decide +kernel), List.mem_of_getElem? (i := 1255) (by decide +kernel), List.mem_of_getElem? (i := 1256) (by decide +kernel)⟩
theorem lw_p40 : lw_okq (⟨"OneMatchModel", "burning", "(I)I"⟩, 38) := ⟨⟨by decide +kernel, by decide +kernel⟩, List.mem_of_getElem? (i := 958) (by decide +kernel), List.mem_of_getElem? (i := 1259) (by decide +kernel), List.mem_of_getElem? (i := 1260) (by decide +kernel)⟩
theorem lw_p41 : lw_okq (⟨"OneMatchModel", "passes", "(I)V"⟩, 38) := ⟨⟨by decide +kernel, by decide +kernel⟩, List.mem_of_getElem? (i := 958) (by decide +kernel), List.mem_of_getElem? (i := 1270) (by decide +kernel), List.mem_of_getElem? (i := 1271) (by decide +kernel)⟩
theorem lw_p42 : lw_okq (⟨"OneMatchModel", "catching", "(I)I"⟩, 38) := ⟨⟨by decide +kernel, by decide +kernel⟩, List.mem_of_getElem? (i := 958) (by decide +kernel), List.mem_of_getElem? (i := 1293) (by decide +kernel), List.mem_of_getElem? (i := 1294) (by decide +kernel)⟩
theorem lw_p43 : lw_okq (⟨"OneMatchModel", "copyTo", "(II)V"⟩, 38) := ⟨⟨by decide +kernel, by decide +kernel⟩, List.mem_of_getElem? (i := 958) (by decide +kernel), List.mem_of_getElem? (i := 1305) (by decide +kernel), List.mem_of_getElem? (i := 1306) (by decide +kernel)⟩
theorem lw_p44 : lw_okq (⟨"OneMatchModel", "outOf", "(I)I"⟩, 38) := ⟨⟨by decide +kernel, by decide +kernel⟩, List.mem_of_getElem? (i := 958) (by decide +kernel), List.mem_of_getElem? (i := 1309) (by decide +kernel), List.mem_of_getElem? (i := 1310) (by decide +kernel)⟩
theorem lw_p45 : lw_okq (⟨"OneMatchModel", "everybody", "()I"⟩, 38) := ⟨⟨by decide +kernel, by decide +kernel⟩, List.mem_of_getElem? (i := 958) (by decide +kernel), List.mem_of_getElem? (i := 1317) (by decide +kernel), List.mem_of_getElem? (i := 1318) (by decide +kernel)⟩
theorem lw_p46 : lw_okq (⟨"OneMatchModel", "allPlans", "(III)V"⟩, 38) := ⟨⟨by decide +kernel, by decide +kernel⟩, List.mem_of_getElem? (i := 958) (by decide +kernel), List.mem_of_getElem? (i := 1329) (by decide +kernel), List.mem_of_getElem? (i := 1330) (by decide +kernel)⟩
theorem lw_p47 : lw_okq (⟨"OneMatchModel", "layPlans", "(III)V"⟩, 38) := ⟨⟨by decide +kernel, by decide +kernel⟩, List.mem_of_getElem? (i := 958) (by decide +kernel), List.mem_of_getElem? (i := 1333) (by decide +kernel), List.mem_of_getElem? (i := 1334) (by decide +kernel)⟩
def lw_privs_3 : List (MethodName × Nat) := [(⟨"OneMatchModel", "springOf", "(II)I"⟩, 38), (⟨"OneMatchModel", "takesIn", "(II)I"⟩, 38), (⟨"OneMatchModel", "wetBeside", "(I)I"⟩, 38), (⟨"OneMatchModel", "remember", "()V"⟩, 38), (⟨"OneMatchModel", "canCarry", "(III)Z"⟩, 38), (⟨"OneMatchModel", "isBurning", "(II)Z"⟩, 38), (⟨"OneMatchModel", "hourOf", "(I)I"⟩, 38), (⟨"OneMatchModel", "carries", "(II)V"⟩, 38), (⟨"OneMatchModel", "burning", "(I)I"⟩, 38), (⟨"OneMatchModel", "passes", "(I)V"⟩, 38), (⟨"OneMatchModel", "catching", "(I)I"⟩, 38), (⟨"OneMatchModel", "copyTo", "(II)V"⟩, 38), (⟨"OneMatchModel", "outOf", "(I)I"⟩, 38), (⟨"OneMatchModel", "everybody", "()I"⟩, 38), (⟨"OneMatchModel", "allPlans", "(III)V"⟩, 38), (⟨"OneMatchModel", "layPlans", "(III)V"⟩, 38)]
theorem lw_r3 : ∀ q ∈ lw_privs_3, lw_okq q := List.forall_mem_cons.mpr ⟨lw_p32, List.forall_mem_cons.mpr ⟨lw_p33, List.forall_mem_cons.mpr ⟨lw_p34, List.forall_mem_cons.mpr ⟨lw_p35, List.forall_mem_cons.mpr ⟨lw_p36, List.forall_mem_cons.mpr ⟨lw_p37, List.forall_mem_cons.mpr ⟨lw_p38, List.forall_mem_cons.mpr ⟨lw_p39, List.forall_mem_cons.mpr ⟨lw_p40, List.forall_mem_cons.mpr ⟨lw_p41, List.forall_mem_cons.mpr ⟨lw_p42, List.forall_mem_cons.mpr ⟨lw_p43, List.forall_mem_cons.mpr ⟨lw_p44, List.forall_mem_cons.mpr ⟨lw_p45, List.forall_mem_cons.mpr ⟨lw_p46, List.forall_mem_cons.mpr ⟨lw_p47, fun _ h => absurd h List.not_mem_nil⟩⟩⟩⟩⟩⟩⟩⟩⟩⟩⟩⟩⟩⟩⟩⟩
theorem lw_p48 : lw_okq (⟨"OneMatchModel", "ends", "(III)V"⟩, 38) := ⟨⟨by decide +kernel, by decide +kernel⟩, List.mem_of_getElem? (i := 958) (by decide +kernel), List.mem_of_getElem? (i := 1337) (by decide +kernel), List.mem_of_getElem? (i := 1338) (by decide +kernel)⟩
theorem lw_p49 : lw_okq (⟨"OneMatchModel", "takes", "(I)V"⟩, 38) := ⟨⟨by decide +kernel, by decide +kernel⟩, List.mem_of_getElem? (i := 958) (by decide +kernel), List.mem_of_getElem? (i := 1341) (by decide +kernel), List.mem_of_getElem? (i := 1342) (by decide +kernel)⟩
theorem lw_p50 : lw_okq (⟨"OneMatchModel", "isServed", "(I)Z"⟩, 38) := ⟨⟨by decide +kernel, by decide +kernel⟩, List.mem_of_getElem? (i := 958) (by decide +kernel), List.mem_of_getElem? (i := 1345) (by decide +kernel), List.mem_of_getElem? (i := 1346) (by decide +kernel)⟩
theorem lw_p51 : lw_okq (⟨"OneMatchModel", "canMove", "(II)Z"⟩, 38) := ⟨⟨by decide +kernel, by decide +kernel⟩, List.mem_of_getElem? (i := 958) (by decide +kernel), List.mem_of_getElem? (i := 1349) (by decide +kernel), List.mem_of_getElem? (i := 1350) (by decide +kernel)⟩
theorem lw_p52 : lw_okq (⟨"OneMatchModel", "layRow", "(I[II)V"⟩, 38) := ⟨⟨by decide +kernel, by decide +kernel⟩, List.mem_of_getElem? (i := 958) (by decide +kernel), List.mem_of_getElem? (i := 1360) (by decide +kernel), List.mem_of_getElem? (i := 1361) (by decide +kernel)⟩
theorem lw_p53 : lw_okq (⟨"OneMatchModel", "embers", "(I)I"⟩, 38) := ⟨⟨by decide +kernel, by decide +kernel⟩, List.mem_of_getElem? (i := 958) (by decide +kernel), List.mem_of_getElem? (i := 1364) (by decide +kernel), List.mem_of_getElem? (i := 1365) (by decide +kernel)⟩
theorem lw_p54 : lw_okq (⟨"OneMatchModel", "fraction", "(JJ)I"⟩, 38) := ⟨⟨by decide +kernel, by decide +kernel⟩, List.mem_of_getElem? (i := 958) (by decide +kernel), List.mem_of_getElem? (i := 1372) (by decide +kernel), List.mem_of_getElem? (i := 1373) (by decide +kernel)⟩
theorem lw_p55 : lw_okq (⟨"OneMatchModel", "areMoves", "(I)Z"⟩, 38) := ⟨⟨by decide +kernel, by decide +kernel⟩, List.mem_of_getElem? (i := 958) (by decide +kernel), List.mem_of_getElem? (i := 1388) (by decide +kernel), List.mem_of_getElem? (i := 1389) (by decide +kernel)⟩
theorem lw_p56 : lw_okq (⟨"OneMatchModel", "layFirst", "(I)V"⟩, 38) := ⟨⟨by decide +kernel, by decide +kernel⟩, List.mem_of_getElem? (i := 958) (by decide +kernel), List.mem_of_getElem? (i := 1396) (by decide +kernel), List.mem_of_getElem? (i := 1397) (by decide +kernel)⟩
theorem lw_p57 : lw_okq (⟨"OneMatchModel", "needBook", "(IZ)I"⟩, 38) := ⟨⟨by decide +kernel, by decide +kernel⟩, List.mem_of_getElem? (i := 958) (by decide +kernel), List.mem_of_getElem? (i := 1404) (by decide +kernel), List.mem_of_getElem? (i := 1405) (by decide +kernel)⟩
theorem lw_p58 : lw_okq (⟨"OneMatchModel", "smokes", "(II)I"⟩, 38) := ⟨⟨by decide +kernel, by decide +kernel⟩, List.mem_of_getElem? (i := 958) (by decide +kernel), List.mem_of_getElem? (i := 1408) (by decide +kernel), List.mem_of_getElem? (i := 1409) (by decide +kernel)⟩
theorem lw_p59 : lw_okq (⟨"OneMatchModel", "partsOf", "(IIII)J"⟩, 38) := ⟨⟨by decide +kernel, by decide +kernel⟩, List.mem_of_getElem? (i := 958) (by decide +kernel), List.mem_of_getElem? (i := 1425) (by decide +kernel), List.mem_of_getElem? (i := 1426) (by decide +kernel)⟩
theorem lw_p60 : lw_okq (⟨"OneMatchModel", "counted", "(I)I"⟩, 38) := ⟨⟨by decide +kernel, by decide +kernel⟩, List.mem_of_getElem? (i := 958) (by decide +kernel), List.mem_of_getElem? (i := 1441) (by decide +kernel), List.mem_of_getElem? (i := 1442) (by decide +kernel)⟩
theorem lw_p61 : lw_okq (⟨"OneMatchModel", "mix", "(J)V"⟩, 38) := ⟨⟨by decide +kernel, by decide +kernel⟩, List.mem_of_getElem? (i := 958) (by decide +kernel), List.mem_of_getElem? (i := 1450) (by decide +kernel), List.mem_of_getElem? (i := 1451) (by decide +kernel)⟩
theorem lw_p62 : lw_okq (⟨"OneMatchModel", "mixVillage", "()V"⟩, 38) := ⟨⟨by decide +kernel, by decide +kernel⟩, List.mem_of_getElem? (i := 958) (by decide +kernel), List.mem_of_getElem? (i := 1455) (by decide +kernel), List.mem_of_getElem? (i := 1456) (by decide +kernel)⟩
def lw_privs_4 : List (MethodName × Nat) := [(⟨"OneMatchModel", "ends", "(III)V"⟩, 38), (⟨"OneMatchModel", "takes", "(I)V"⟩, 38), (⟨"OneMatchModel", "isServed", "(I)Z"⟩, 38), (⟨"OneMatchModel", "canMove", "(II)Z"⟩, 38), (⟨"OneMatchModel", "layRow", "(I[II)V"⟩, 38), (⟨"OneMatchModel", "embers", "(I)I"⟩, 38), (⟨"OneMatchModel", "fraction", "(JJ)I"⟩, 38), (⟨"OneMatchModel", "areMoves", "(I)Z"⟩, 38), (⟨"OneMatchModel", "layFirst", "(I)V"⟩, 38), (⟨"OneMatchModel", "needBook", "(IZ)I"⟩, 38), (⟨"OneMatchModel", "smokes", "(II)I"⟩, 38), (⟨"OneMatchModel", "partsOf", "(IIII)J"⟩, 38), (⟨"OneMatchModel", "counted", "(I)I"⟩, 38), (⟨"OneMatchModel", "mix", "(J)V"⟩, 38), (⟨"OneMatchModel", "mixVillage", "()V"⟩, 38)]
theorem lw_r4 : ∀ q ∈ lw_privs_4, lw_okq q := List.forall_mem_cons.mpr ⟨lw_p48, List.forall_mem_cons.mpr ⟨lw_p49, List.forall_mem_cons.mpr ⟨lw_p50, List.forall_mem_cons.mpr ⟨lw_p51, List.forall_mem_cons.mpr ⟨lw_p52, List.forall_mem_cons.mpr ⟨lw_p53, List.forall_mem_cons.mpr ⟨lw_p54, List.forall_mem_cons.mpr ⟨lw_p55, List.forall_mem_cons.mpr ⟨lw_p56, List.forall_mem_cons.mpr ⟨lw_p57, List.forall_mem_cons.mpr ⟨lw_p58, List.forall_mem_cons.mpr ⟨lw_p59, List.forall_mem_cons.mpr ⟨lw_p60, List.forall_mem_cons.mpr ⟨lw_p61, List.forall_mem_cons.mpr ⟨lw_p62, fun _ h => absurd h List.not_mem_nil⟩⟩⟩⟩⟩⟩⟩⟩⟩⟩⟩⟩⟩⟩⟩
def lw_privs : List (MethodName × Nat) := lw_privs_1 ++ (lw_privs_2 ++ (lw_privs_3 ++ (lw_privs_4)))
def lw_tbl : List Cond := k2_sels lw_privs ++ tables_1
theorem lw_privs_ok : ∀ q ∈ lw_privs, lw_okq q := by
  show ∀ q ∈ lw_privs_1 ++ (lw_privs_2 ++ (lw_privs_3 ++ (lw_privs_4))), lw_okq q
  exact List.forall_mem_append.mpr ⟨lw_r1, List.forall_mem_append.mpr ⟨lw_r2, List.forall_mem_append.mpr ⟨lw_r3, lw_r4⟩⟩⟩
-- ===== end of PART A; then your names; then what follows =====
def RX0 : String := "OneMatch$Campaign"
def TX0 : u_T := fun k => match k with
  | 0 => ("OneMatch$Campaign", "first", "LOneMatch$Fire;", true)
  | 1 => ("OneMatch$Campaign", "now", "LOneMatch$Fire;", true)
  | 2 => ("OneMatch$Campaign", "deeds", "[I", true)
  | 3 => ("OneMatch$Campaign", "done", "I", false)
  | _ => ("OneMatch$Campaign", "isThere", "Z", false)
def tyX0 : Nat → FieldType := fun k => match k with
  | 0 => .object "OneMatch$Fire"
  | 1 => .object "OneMatch$Fire"
  | 2 => .array .int
  | 3 => .int
  | _ => .boolean
abbrev wsX00 : List Cond := u_ws RX0 TX0 5
theorem nmX0 : ∀ a, a < 5 → ∀ b, b < 5 → a ≠ b → (TX0 a).2.1 ≠ (TX0 b).2.1 := by decide +kernel
theorem tyX0_ok : ∀ k, k < 5 → parseFieldDescriptor (TX0 k).2.2.1 = some (tyX0 k) := by decide +kernel
abbrev cX0_init : ByteArray := prog_2_method_1_code
def yX0_init : MethodName := ⟨RX0, "<init>", "(LOneMatch$Lane;)V"⟩
abbrev cX0_begin : ByteArray := prog_2_method_2_code
def yX0_begin : MethodName := ⟨RX0, "begin", "()V"⟩
abbrev cX0_leave : ByteArray := prog_2_method_3_code
def yX0_leave : MethodName := ⟨RX0, "leave", "()V"⟩
abbrev cX0_become : ByteArray := prog_2_method_4_code
def yX0_become : MethodName := ⟨RX0, "become", "(LOneMatch$Campaign;)V"⟩
abbrev cX0_restack : ByteArray := prog_2_method_5_code
def yX0_restack : MethodName := ⟨RX0, "restack", "(II)V"⟩
abbrev cX0_hasRoom : ByteArray := prog_2_method_6_code
def yX0_hasRoom : MethodName := ⟨RX0, "hasRoom", "(I)Z"⟩
abbrev cX0_act : ByteArray := prog_2_method_7_code
def yX0_act : MethodName := ⟨RX0, "act", "(I)V"⟩
abbrev cX0_goBack : ByteArray := prog_2_method_8_code
def yX0_goBack : MethodName := ⟨RX0, "goBack", "(I)I"⟩
def RX1 : String := "OneMatch$Fire"
def TX1 : u_T := fun k => match k with
  | 0 => ("OneMatch$Fire", "lane", "LOneMatch$Lane;", true)
  | 1 => ("OneMatch$Fire", "wood", "[I", true)
  | 2 => ("OneMatch$Fire", "wet", "[I", true)
  | 3 => ("OneMatch$Fire", "burning", "I", false)
  | 4 => ("OneMatch$Fire", "hour", "I", false)
  | 5 => ("OneMatch$Fire", "struck", "Z", false)
  | _ => ("OneMatch$Fire", "carried", "Z", false)
def tyX1 : Nat → FieldType := fun k => match k with
  | 0 => .object "OneMatch$Lane"
  | 1 => .array .int
  | 2 => .array .int
  | 3 => .int
  | 4 => .int
  | 5 => .boolean
  | _ => .boolean
abbrev wsX10 : List Cond := u_ws RX1 TX1 7
theorem nmX1 : ∀ a, a < 7 → ∀ b, b < 7 → a ≠ b → (TX1 a).2.1 ≠ (TX1 b).2.1 := by decide +kernel
theorem tyX1_ok : ∀ k, k < 7 → parseFieldDescriptor (TX1 k).2.2.1 = some (tyX1 k) := by decide +kernel
abbrev cX1_init : ByteArray := prog_3_method_1_code
def yX1_init : MethodName := ⟨RX1, "<init>", "(LOneMatch$Lane;)V"⟩
abbrev cX1_clear : ByteArray := prog_3_method_2_code
def yX1_clear : MethodName := ⟨RX1, "clear", "()V"⟩
abbrev cX1_become : ByteArray := prog_3_method_3_code
def yX1_become : MethodName := ⟨RX1, "become", "(LOneMatch$Fire;)V"⟩
abbrev cX1_furnish : ByteArray := prog_3_method_4_code
def yX1_furnish : MethodName := ⟨RX1, "furnish", "(III)V"⟩
abbrev cX1_woodOf : ByteArray := prog_3_method_5_code
def yX1_woodOf : MethodName := ⟨RX1, "woodOf", "(I)I"⟩
abbrev cX1_wetOf : ByteArray := prog_3_method_6_code
def yX1_wetOf : MethodName := ⟨RX1, "wetOf", "(I)I"⟩
abbrev cX1_allWood : ByteArray := prog_3_method_7_code
def yX1_allWood : MethodName := ⟨RX1, "allWood", "()I"⟩
abbrev cX1_burns : ByteArray := prog_3_method_8_code
def yX1_burns : MethodName := ⟨RX1, "burns", "(I)Z"⟩
abbrev cX1_catches : ByteArray := prog_3_method_9_code
def yX1_catches : MethodName := ⟨RX1, "catches", "(I)Z"⟩
abbrev cX1_catching : ByteArray := prog_3_method_10_code
def yX1_catching : MethodName := ⟨RX1, "catching", "()I"⟩
abbrev cX1_alight : ByteArray := prog_3_method_11_code
def yX1_alight : MethodName := ⟨RX1, "alight", "()I"⟩
abbrev cX1_canStrike : ByteArray := prog_3_method_12_code
def yX1_canStrike : MethodName := ⟨RX1, "canStrike", "(I)Z"⟩
abbrev cX1_canCarry : ByteArray := prog_3_method_13_code
def yX1_canCarry : MethodName := ⟨RX1, "canCarry", "(II)Z"⟩
abbrev cX1_canMove : ByteArray := prog_3_method_14_code
def yX1_canMove : MethodName := ⟨RX1, "canMove", "(I)Z"⟩
abbrev cX1_reachable : ByteArray := prog_3_method_15_code
def yX1_reachable : MethodName := ⟨RX1, "reachable", "()I"⟩
abbrev cX1_light : ByteArray := prog_3_method_16_code
def yX1_light : MethodName := ⟨RX1, "light", "(I)V"⟩
abbrev cX1_bring : ByteArray := prog_3_method_17_code
def yX1_bring : MethodName := ⟨RX1, "bring", "(I)V"⟩
abbrev cX1_pass : ByteArray := prog_3_method_18_code
def yX1_pass : MethodName := ⟨RX1, "pass", "()V"⟩
abbrev cX1_feed : ByteArray := prog_3_method_19_code
def yX1_feed : MethodName := ⟨RX1, "feed", "(I)V"⟩
abbrev cX1_beside : ByteArray := prog_3_method_20_code
def yX1_beside : MethodName := ⟨RX1, "beside", "(I)I"⟩
abbrev cX1_act : ByteArray := prog_3_method_21_code
def yX1_act : MethodName := ⟨RX1, "act", "(I)V"⟩
abbrev cX1_wetBeside : ByteArray := prog_3_method_22_code
def yX1_wetBeside : MethodName := ⟨RX1, "wetBeside", "(I)I"⟩
abbrev cX1_woodFor : ByteArray := prog_3_method_23_code
def yX1_woodFor : MethodName := ⟨RX1, "woodFor", "(II)I"⟩
abbrev cX1_woodLasts : ByteArray := prog_3_method_24_code
def yX1_woodLasts : MethodName := ⟨RX1, "woodLasts", "(I)I"⟩
abbrev cX1_burnsOn : ByteArray := prog_3_method_25_code
def yX1_burnsOn : MethodName := ⟨RX1, "burnsOn", "(I)I"⟩
abbrev cX1_alightAfter : ByteArray := prog_3_method_26_code
def yX1_alightAfter : MethodName := ⟨RX1, "alightAfter", "(I)I"⟩
abbrev cX1_servesHour : ByteArray := prog_3_method_27_code
def yX1_servesHour : MethodName := ⟨RX1, "servesHour", "()Z"⟩
def RX2 : String := "OneMatch$Kinds"
def TX2 : u_T := fun k => match k with
  | _ => ("", "", "", false)
def tyX2 : Nat → FieldType := fun k => match k with
  | _ => .int
abbrev wsX20 : List Cond := u_ws RX2 TX2 0
theorem nmX2 : ∀ a, a < 0 → ∀ b, b < 0 → a ≠ b → (TX2 a).2.1 ≠ (TX2 b).2.1 := by decide +kernel
theorem tyX2_ok : ∀ k, k < 0 → parseFieldDescriptor (TX2 k).2.2.1 = some (tyX2 k) := by decide +kernel
abbrev cX2_byLetter : ByteArray := prog_4_method_2_code
def yX2_byLetter : MethodName := ⟨RX2, "byLetter", "(I)I"⟩
abbrev cX2_isOf : ByteArray := prog_4_method_3_code
def yX2_isOf : MethodName := ⟨RX2, "isOf", "(II)Z"⟩
abbrev cX2_takes : ByteArray := prog_4_method_4_code
def yX2_takes : MethodName := ⟨RX2, "takes", "(II)I"⟩
abbrev cX2_dampest : ByteArray := prog_4_method_5_code
def yX2_dampest : MethodName := ⟨RX2, "dampest", "(I)I"⟩
def RX3 : String := "OneMatch$Lane"
def TX3 : u_T := fun k => match k with
  | 0 => ("OneMatch$Lane", "kinds", "[I", true)
  | 1 => ("OneMatch$Lane", "needs", "[I", true)
  | 2 => ("OneMatch$Lane", "winds", "[I", true)
  | 3 => ("OneMatch$Lane", "windCount", "I", false)
  | _ => ("OneMatch$Lane", "houses", "I", false)
def tyX3 : Nat → FieldType := fun k => match k with
  | 0 => .array .int
  | 1 => .array .int
  | 2 => .array .int
  | 3 => .int
  | _ => .int
abbrev wsX30 : List Cond := u_ws RX3 TX3 5
theorem nmX3 : ∀ a, a < 5 → ∀ b, b < 5 → a ≠ b → (TX3 a).2.1 ≠ (TX3 b).2.1 := by decide +kernel
theorem tyX3_ok : ∀ k, k < 5 → parseFieldDescriptor (TX3 k).2.2.1 = some (tyX3 k) := by decide +kernel
abbrev cX3_init : ByteArray := prog_5_method_1_code
def yX3_init : MethodName := ⟨RX3, "<init>", "()V"⟩
abbrev cX3_clear : ByteArray := prog_5_method_2_code
def yX3_clear : MethodName := ⟨RX3, "clear", "()V"⟩
abbrev cX3_isEmpty : ByteArray := prog_5_method_3_code
def yX3_isEmpty : MethodName := ⟨RX3, "isEmpty", "()Z"⟩
abbrev cX3_isFull : ByteArray := prog_5_method_4_code
def yX3_isFull : MethodName := ⟨RX3, "isFull", "()Z"⟩
abbrev cX3_has : ByteArray := prog_5_method_5_code
def yX3_has : MethodName := ⟨RX3, "has", "(I)Z"⟩
abbrev cX3_allHouses : ByteArray := prog_5_method_6_code
def yX3_allHouses : MethodName := ⟨RX3, "allHouses", "()I"⟩
abbrev cX3_hasWinds : ByteArray := prog_5_method_7_code
def yX3_hasWinds : MethodName := ⟨RX3, "hasWinds", "()Z"⟩
abbrev cX3_hasAllWinds : ByteArray := prog_5_method_8_code
def yX3_hasAllWinds : MethodName := ⟨RX3, "hasAllWinds", "()Z"⟩
abbrev cX3_addWind : ByteArray := prog_5_method_9_code
def yX3_addWind : MethodName := ⟨RX3, "addWind", "(I)V"⟩
abbrev cX3_addHouse : ByteArray := prog_5_method_10_code
def yX3_addHouse : MethodName := ⟨RX3, "addHouse", "(II)V"⟩
abbrev cX3_kindOf : ByteArray := prog_5_method_11_code
def yX3_kindOf : MethodName := ⟨RX3, "kindOf", "(I)I"⟩
abbrev cX3_needOf : ByteArray := prog_5_method_12_code
def yX3_needOf : MethodName := ⟨RX3, "needOf", "(I)I"⟩
abbrev cX3_windAt : ByteArray := prog_5_method_13_code
def yX3_windAt : MethodName := ⟨RX3, "windAt", "(I)I"⟩
abbrev cX3_countOf : ByteArray := prog_5_method_14_code
def yX3_countOf : MethodName := ⟨RX3, "countOf", "(I)I"⟩
def RX4 : String := "OneMatch$Odds"
def TX4 : u_T := fun k => match k with
  | 0 => ("OneMatch$Odds", "levels", "[LOneMatch$Fire;", true)
  | 1 => ("OneMatch$Odds", "plan", "LOneMatch$Row;", false)
  | 2 => ("OneMatch$Odds", "wanted", "I", false)
  | 3 => ("OneMatch$Odds", "lost", "I", false)
  | 4 => ("OneMatch$Odds", "cases", "J", false)
  | _ => ("OneMatch$Odds", "allCases", "J", false)
def tyX4 : Nat → FieldType := fun k => match k with
  | 0 => .array (.object "OneMatch$Fire")
  | 1 => .object "OneMatch$Row"
  | 2 => .int
  | 3 => .int
  | 4 => .long
  | _ => .long
abbrev wsX40 : List Cond := u_ws RX4 TX4 6
theorem nmX4 : ∀ a, a < 6 → ∀ b, b < 6 → a ≠ b → (TX4 a).2.1 ≠ (TX4 b).2.1 := by decide +kernel
theorem tyX4_ok : ∀ k, k < 6 → parseFieldDescriptor (TX4 k).2.2.1 = some (tyX4 k) := by decide +kernel
abbrev cX4_init : ByteArray := prog_6_method_1_code
def yX4_init : MethodName := ⟨RX4, "<init>", "(LOneMatch$Lane;)V"⟩
abbrev cX4_reckon : ByteArray := prog_6_method_2_code
def yX4_reckon : MethodName := ⟨RX4, "reckon", "(LOneMatch$Fire;ILOneMatch$Row;I)V"⟩
abbrev cX4_casesFrom : ByteArray := prog_6_method_3_code
def yX4_casesFrom : MethodName := ⟨RX4, "casesFrom", "(I)J"⟩
abbrev cX4_casesBehind : ByteArray := prog_6_method_4_code
def yX4_casesBehind : MethodName := ⟨RX4, "casesBehind", "(II)J"⟩
def RX5 : String := "OneMatch$Plans"
def TX5 : u_T := fun k => match k with
  | 0 => ("OneMatch$Plans", "levels", "[LOneMatch$Fire;", true)
  | 1 => ("OneMatch$Plans", "moves", "[I", true)
  | 2 => ("OneMatch$Plans", "best", "[I", true)
  | 3 => ("OneMatch$Plans", "goal", "I", false)
  | 4 => ("OneMatch$Plans", "wanted", "I", false)
  | 5 => ("OneMatch$Plans", "hours", "I", false)
  | 6 => ("OneMatch$Plans", "rank", "I", false)
  | 7 => ("OneMatch$Plans", "all", "I", false)
  | 8 => ("OneMatch$Plans", "fitting", "I", false)
  | _ => ("OneMatch$Plans", "ever", "I", false)
def tyX5 : Nat → FieldType := fun k => match k with
  | 0 => .array (.object "OneMatch$Fire")
  | 1 => .array .int
  | 2 => .array .int
  | 3 => .int
  | 4 => .int
  | 5 => .int
  | 6 => .int
  | 7 => .int
  | 8 => .int
  | _ => .int
abbrev wsX50 : List Cond := u_ws RX5 TX5 10
theorem nmX5 : ∀ a, a < 10 → ∀ b, b < 10 → a ≠ b → (TX5 a).2.1 ≠ (TX5 b).2.1 := by decide +kernel
theorem tyX5_ok : ∀ k, k < 10 → parseFieldDescriptor (TX5 k).2.2.1 = some (tyX5 k) := by decide +kernel
abbrev cX5_init : ByteArray := prog_7_method_1_code
def yX5_init : MethodName := ⟨RX5, "<init>", "(LOneMatch$Lane;)V"⟩
abbrev cX5_search : ByteArray := prog_7_method_2_code
def yX5_search : MethodName := ⟨RX5, "search", "(LOneMatch$Fire;III)V"⟩
abbrev cX5_isFound : ByteArray := prog_7_method_3_code
def yX5_isFound : MethodName := ⟨RX5, "isFound", "()Z"⟩
abbrev cX5_bestMove : ByteArray := prog_7_method_4_code
def yX5_bestMove : MethodName := ⟨RX5, "bestMove", "(I)I"⟩
abbrev cX5_walk : ByteArray := prog_7_method_5_code
def yX5_walk : MethodName := ⟨RX5, "walk", "(I)V"⟩
abbrev cX5_take : ByteArray := prog_7_method_6_code
def yX5_take : MethodName := ⟨RX5, "take", "(II)V"⟩
abbrev cX5_isOver : ByteArray := prog_7_method_7_code
def yX5_isOver : MethodName := ⟨RX5, "isOver", "()Z"⟩
abbrev cX5_weigh : ByteArray := prog_7_method_8_code
def yX5_weigh : MethodName := ⟨RX5, "weigh", "(LOneMatch$Fire;)V"⟩
abbrev cX5_rankOf : ByteArray := prog_7_method_9_code
def yX5_rankOf : MethodName := ⟨RX5, "rankOf", "(LOneMatch$Fire;)I"⟩
def RX6 : String := "OneMatch$Reader"
def TX6 : u_T := fun k => match k with
  | _ => ("", "", "", false)
def tyX6 : Nat → FieldType := fun k => match k with
  | _ => .int
abbrev wsX60 : List Cond := u_ws RX6 TX6 0
theorem nmX6 : ∀ a, a < 0 → ∀ b, b < 0 → a ≠ b → (TX6 a).2.1 ≠ (TX6 b).2.1 := by decide +kernel
theorem tyX6_ok : ∀ k, k < 0 → parseFieldDescriptor (TX6 k).2.2.1 = some (tyX6 k) := by decide +kernel
abbrev cX6_init : ByteArray := prog_8_method_1_code
def yX6_init : MethodName := ⟨RX6, "<init>", "()V"⟩
abbrev cX6_read : ByteArray := prog_8_method_2_code
def yX6_read : MethodName := ⟨RX6, "read", "(LOneMatch$Text;LOneMatch$Lane;LOneMatch$Fire;)I"⟩
abbrev cX6_skipBlanks : ByteArray := prog_8_method_3_code
def yX6_skipBlanks : MethodName := ⟨RX6, "skipBlanks", "(LOneMatch$Text;I)I"⟩
abbrev cX6_readWinds : ByteArray := prog_8_method_4_code
def yX6_readWinds : MethodName := ⟨RX6, "readWinds", "(LOneMatch$Text;ILOneMatch$Lane;)I"⟩
abbrev cX6_faultOfHouse : ByteArray := prog_8_method_5_code
def yX6_faultOfHouse : MethodName := ⟨RX6, "faultOfHouse", "(LOneMatch$Text;I)I"⟩
abbrev cX6_addHouse : ByteArray := prog_8_method_6_code
def yX6_addHouse : MethodName := ⟨RX6, "addHouse", "(LOneMatch$Text;ILOneMatch$Lane;LOneMatch$Fire;)V"⟩
abbrev cX6_isFigure : ByteArray := prog_8_method_7_code
def yX6_isFigure : MethodName := ⟨RX6, "isFigure", "(II)Z"⟩
def RX7 : String := "OneMatch$Row"
def TX7 : u_T := fun k => match k with
  | 0 => ("OneMatch$Row", "places", "[I", true)
  | _ => ("OneMatch$Row", "size", "I", false)
def tyX7 : Nat → FieldType := fun k => match k with
  | 0 => .array .int
  | _ => .int
abbrev wsX70 : List Cond := u_ws RX7 TX7 2
theorem nmX7 : ∀ a, a < 2 → ∀ b, b < 2 → a ≠ b → (TX7 a).2.1 ≠ (TX7 b).2.1 := by decide +kernel
theorem tyX7_ok : ∀ k, k < 2 → parseFieldDescriptor (TX7 k).2.2.1 = some (tyX7 k) := by decide +kernel
abbrev cX7_init : ByteArray := prog_9_method_1_code
def yX7_init : MethodName := ⟨RX7, "<init>", "()V"⟩
abbrev cX7_isThere : ByteArray := prog_9_method_2_code
def yX7_isThere : MethodName := ⟨RX7, "isThere", "()Z"⟩
abbrev cX7_has : ByteArray := prog_9_method_3_code
def yX7_has : MethodName := ⟨RX7, "has", "(I)Z"⟩
abbrev cX7_hasSpan : ByteArray := prog_9_method_4_code
def yX7_hasSpan : MethodName := ⟨RX7, "hasSpan", "(II)Z"⟩
abbrev cX7_begin : ByteArray := prog_9_method_5_code
def yX7_begin : MethodName := ⟨RX7, "begin", "(I)V"⟩
abbrev cX7_end : ByteArray := prog_9_method_6_code
def yX7_end : MethodName := ⟨RX7, "end", "()V"⟩
abbrev cX7_get : ByteArray := prog_9_method_7_code
def yX7_get : MethodName := ⟨RX7, "get", "(I)I"⟩
abbrev cX7_set : ByteArray := prog_9_method_8_code
def yX7_set : MethodName := ⟨RX7, "set", "(II)V"⟩
abbrev cX7_lacks : ByteArray := prog_9_method_9_code
def yX7_lacks : MethodName := ⟨RX7, "lacks", "(I)I"⟩
abbrev cX7_lacksSizeOrRange : ByteArray := prog_9_method_10_code
def yX7_lacksSizeOrRange : MethodName := ⟨RX7, "lacksSizeOrRange", "(III)I"⟩
abbrev cX7_sum : ByteArray := prog_9_method_11_code
def yX7_sum : MethodName := ⟨RX7, "sum", "()J"⟩
abbrev cX7_union : ByteArray := prog_9_method_12_code
def yX7_union : MethodName := ⟨RX7, "union", "()I"⟩
abbrev cX7_digestOnto : ByteArray := prog_9_method_13_code
def yX7_digestOnto : MethodName := ⟨RX7, "digestOnto", "(J)J"⟩
def RX8 : String := "OneMatch$Smoke"
def TX8 : u_T := fun k => match k with
  | 0 => ("OneMatch$Smoke", "lane", "LOneMatch$Lane;", true)
  | 1 => ("OneMatch$Smoke", "levels", "[LOneMatch$Fire;", true)
  | 2 => ("OneMatch$Smoke", "book", "LOneMatch$Row;", false)
  | 3 => ("OneMatch$Smoke", "fitting", "I", false)
  | _ => ("OneMatch$Smoke", "origins", "I", false)
def tyX8 : Nat → FieldType := fun k => match k with
  | 0 => .object "OneMatch$Lane"
  | 1 => .array (.object "OneMatch$Fire")
  | 2 => .object "OneMatch$Row"
  | 3 => .int
  | _ => .int
abbrev wsX80 : List Cond := u_ws RX8 TX8 5
theorem nmX8 : ∀ a, a < 5 → ∀ b, b < 5 → a ≠ b → (TX8 a).2.1 ≠ (TX8 b).2.1 := by decide +kernel
theorem tyX8_ok : ∀ k, k < 5 → parseFieldDescriptor (TX8 k).2.2.1 = some (tyX8 k) := by decide +kernel
abbrev cX8_init : ByteArray := prog_10_method_1_code
def yX8_init : MethodName := ⟨RX8, "<init>", "(LOneMatch$Lane;)V"⟩
abbrev cX8_search : ByteArray := prog_10_method_2_code
def yX8_search : MethodName := ⟨RX8, "search", "(LOneMatch$Fire;LOneMatch$Row;)V"⟩
abbrev cX8_walk : ByteArray := prog_10_method_3_code
def yX8_walk : MethodName := ⟨RX8, "walk", "(I)V"⟩
abbrev cX8_take : ByteArray := prog_10_method_4_code
def yX8_take : MethodName := ⟨RX8, "take", "(II)V"⟩
def RX9 : String := "OneMatch$Text"
def TX9 : u_T := fun k => match k with
  | 0 => ("OneMatch$Text", "bytes", "[B", true)
  | _ => ("OneMatch$Text", "size", "I", false)
def tyX9 : Nat → FieldType := fun k => match k with
  | 0 => .array .byte
  | _ => .int
abbrev wsX90 : List Cond := u_ws RX9 TX9 2
theorem nmX9 : ∀ a, a < 2 → ∀ b, b < 2 → a ≠ b → (TX9 a).2.1 ≠ (TX9 b).2.1 := by decide +kernel
theorem tyX9_ok : ∀ k, k < 2 → parseFieldDescriptor (TX9 k).2.2.1 = some (tyX9 k) := by decide +kernel
abbrev cX9_init : ByteArray := prog_11_method_1_code
def yX9_init : MethodName := ⟨RX9, "<init>", "()V"⟩
abbrev cX9_isThere : ByteArray := prog_11_method_2_code
def yX9_isThere : MethodName := ⟨RX9, "isThere", "()Z"⟩
abbrev cX9_has : ByteArray := prog_11_method_3_code
def yX9_has : MethodName := ⟨RX9, "has", "(I)Z"⟩
abbrev cX9_begin : ByteArray := prog_11_method_4_code
def yX9_begin : MethodName := ⟨RX9, "begin", "(I)V"⟩
abbrev cX9_get : ByteArray := prog_11_method_5_code
def yX9_get : MethodName := ⟨RX9, "get", "(I)I"⟩
abbrev cX9_set : ByteArray := prog_11_method_6_code
def yX9_set : MethodName := ⟨RX9, "set", "(II)V"⟩
abbrev cX9_digestOnto : ByteArray := prog_11_method_7_code
def yX9_digestOnto : MethodName := ⟨RX9, "digestOnto", "(J)J"⟩
def RX10 : String := "OneMatch"
def TX10 : u_T := fun k => match k with
  | 0 => ("OneMatch", "rows", "[LOneMatch$Row;", true)
  | 1 => ("OneMatch", "texts", "[LOneMatch$Text;", true)
  | 2 => ("OneMatch", "lane", "LOneMatch$Lane;", true)
  | 3 => ("OneMatch", "village", "LOneMatch$Campaign;", true)
  | 4 => ("OneMatch", "kept", "[LOneMatch$Campaign;", true)
  | 5 => ("OneMatch", "reader", "LOneMatch$Reader;", true)
  | 6 => ("OneMatch", "spareLane", "LOneMatch$Lane;", true)
  | 7 => ("OneMatch", "spareFire", "LOneMatch$Fire;", true)
  | 8 => ("OneMatch", "aside", "LOneMatch$Fire;", true)
  | 9 => ("OneMatch", "plans", "LOneMatch$Plans;", true)
  | 10 => ("OneMatch", "smoke", "LOneMatch$Smoke;", true)
  | 11 => ("OneMatch", "odds", "LOneMatch$Odds;", true)
  | 12 => ("OneMatch", "findings", "[I", true)
  | 13 => ("OneMatch", "finding", "I", false)
  | 14 => ("OneMatch", "asked", "I", false)
  | 15 => ("OneMatch", "upper", "J", false)
  | _ => ("OneMatch", "lower", "J", false)
def tyX10 : Nat → FieldType := fun k => match k with
  | 0 => .array (.object "OneMatch$Row")
  | 1 => .array (.object "OneMatch$Text")
  | 2 => .object "OneMatch$Lane"
  | 3 => .object "OneMatch$Campaign"
  | 4 => .array (.object "OneMatch$Campaign")
  | 5 => .object "OneMatch$Reader"
  | 6 => .object "OneMatch$Lane"
  | 7 => .object "OneMatch$Fire"
  | 8 => .object "OneMatch$Fire"
  | 9 => .object "OneMatch$Plans"
  | 10 => .object "OneMatch$Smoke"
  | 11 => .object "OneMatch$Odds"
  | 12 => .array .int
  | 13 => .int
  | 14 => .int
  | 15 => .long
  | _ => .long
abbrev wsX100 : List Cond := u_ws RX10 TX10 17
theorem nmX10 : ∀ a, a < 17 → ∀ b, b < 17 → a ≠ b → (TX10 a).2.1 ≠ (TX10 b).2.1 := by decide +kernel
theorem tyX10_ok : ∀ k, k < 17 → parseFieldDescriptor (TX10 k).2.2.1 = some (tyX10 k) := by decide +kernel
abbrev cX10_init : ByteArray := prog_1_method_1_code
def yX10_init : MethodName := ⟨RX10, "<init>", "()V"⟩
abbrev cX10_row : ByteArray := prog_1_method_2_code
def yX10_row : MethodName := ⟨RX10, "row", "(II)I"⟩
abbrev cX10_lay : ByteArray := prog_1_method_3_code
def yX10_lay : MethodName := ⟨RX10, "lay", "(III)I"⟩
abbrev cX10_at : ByteArray := prog_1_method_4_code
def yX10_at : MethodName := ⟨RX10, "at", "(II)I"⟩
abbrev cX10_tear : ByteArray := prog_1_method_5_code
def yX10_tear : MethodName := ⟨RX10, "tear", "(I)I"⟩
abbrev cX10_copy : ByteArray := prog_1_method_6_code
def yX10_copy : MethodName := ⟨RX10, "copy", "(IIIII)I"⟩
abbrev cX10_mean : ByteArray := prog_1_method_7_code
def yX10_mean : MethodName := ⟨RX10, "mean", "(I)I"⟩
abbrev cX10_text : ByteArray := prog_1_method_8_code
def yX10_text : MethodName := ⟨RX10, "text", "(II)I"⟩
abbrev cX10_put : ByteArray := prog_1_method_9_code
def yX10_put : MethodName := ⟨RX10, "put", "(III)I"⟩
abbrev cX10_fault : ByteArray := prog_1_method_10_code
def yX10_fault : MethodName := ⟨RX10, "fault", "(I)I"⟩
abbrev cX10_village : ByteArray := prog_1_method_11_code
def yX10_village : MethodName := ⟨RX10, "village", "(I)I"⟩
abbrev cX10_house : ByteArray := prog_1_method_12_code
def yX10_house : MethodName := ⟨RX10, "house", "(II)I"⟩
abbrev cX10_wind : ByteArray := prog_1_method_13_code
def yX10_wind : MethodName := ⟨RX10, "wind", "(I)I"⟩
abbrev cX10_mark : ByteArray := prog_1_method_14_code
def yX10_mark : MethodName := ⟨RX10, "mark", "(II)I"⟩
abbrev cX10_stack : ByteArray := prog_1_method_15_code
def yX10_stack : MethodName := ⟨RX10, "stack", "(II)I"⟩
abbrev cX10_strike : ByteArray := prog_1_method_16_code
def yX10_strike : MethodName := ⟨RX10, "strike", "(I)I"⟩
abbrev cX10_carry : ByteArray := prog_1_method_17_code
def yX10_carry : MethodName := ⟨RX10, "carry", "(II)I"⟩
abbrev cX10_hour : ByteArray := prog_1_method_18_code
def yX10_hour : MethodName := ⟨RX10, "hour", "()I"⟩
abbrev cX10_undo : ByteArray := prog_1_method_19_code
def yX10_undo : MethodName := ⟨RX10, "undo", "(I)I"⟩
abbrev cX10_keep : ByteArray := prog_1_method_20_code
def yX10_keep : MethodName := ⟨RX10, "keep", "(I)I"⟩
abbrev cX10_on : ByteArray := prog_1_method_21_code
def yX10_on : MethodName := ⟨RX10, "on", "(I)I"⟩
abbrev cX10_fires : ByteArray := prog_1_method_22_code
def yX10_fires : MethodName := ⟨RX10, "fires", "()I"⟩
abbrev cX10_reach : ByteArray := prog_1_method_23_code
def yX10_reach : MethodName := ⟨RX10, "reach", "()I"⟩
abbrev cX10_lasts : ByteArray := prog_1_method_24_code
def yX10_lasts : MethodName := ⟨RX10, "lasts", "(I)I"⟩
abbrev cX10_dark : ByteArray := prog_1_method_25_code
def yX10_dark : MethodName := ⟨RX10, "dark", "()I"⟩
abbrev cX10_worst : ByteArray := prog_1_method_26_code
def yX10_worst : MethodName := ⟨RX10, "worst", "(I)I"⟩
abbrev cX10_can : ByteArray := prog_1_method_27_code
def yX10_can : MethodName := ⟨RX10, "can", "(I)I"⟩
abbrev cX10_plan : ByteArray := prog_1_method_28_code
def yX10_plan : MethodName := ⟨RX10, "plan", "(III)I"⟩
abbrev cX10_ways : ByteArray := prog_1_method_29_code
def yX10_ways : MethodName := ⟨RX10, "ways", "(II)I"⟩
abbrev cX10_most : ByteArray := prog_1_method_30_code
def yX10_most : MethodName := ⟨RX10, "most", "(II)I"⟩
abbrev cX10_serve : ByteArray := prog_1_method_31_code
def yX10_serve : MethodName := ⟨RX10, "serve", "(II)I"⟩
abbrev cX10_run : ByteArray := prog_1_method_32_code
def yX10_run : MethodName := ⟨RX10, "run", "(I)I"⟩
abbrev cX10_where : ByteArray := prog_1_method_33_code
def yX10_where : MethodName := ⟨RX10, "where", "()I"⟩
abbrev cX10_smoke : ByteArray := prog_1_method_34_code
def yX10_smoke : MethodName := ⟨RX10, "smoke", "(I)I"⟩
abbrev cX10_hides : ByteArray := prog_1_method_35_code
def yX10_hides : MethodName := ⟨RX10, "hides", "(II)I"⟩
abbrev cX10_spring : ByteArray := prog_1_method_36_code
def yX10_spring : MethodName := ⟨RX10, "spring", "(II)I"⟩
abbrev cX10_odds : ByteArray := prog_1_method_37_code
def yX10_odds : MethodName := ⟨RX10, "odds", "(III)I"⟩
abbrev cX10_lots : ByteArray := prog_1_method_38_code
def yX10_lots : MethodName := ⟨RX10, "lots", "(II)I"⟩
abbrev cX10_asked : ByteArray := prog_1_method_39_code
def yX10_asked : MethodName := ⟨RX10, "asked", "()I"⟩
abbrev cX10_upper : ByteArray := prog_1_method_40_code
def yX10_upper : MethodName := ⟨RX10, "upper", "()J"⟩
abbrev cX10_lower : ByteArray := prog_1_method_41_code
def yX10_lower : MethodName := ⟨RX10, "lower", "()J"⟩
abbrev cX10_count : ByteArray := prog_1_method_42_code
def yX10_count : MethodName := ⟨RX10, "count", "(I)I"⟩
abbrev cX10_finding : ByteArray := prog_1_method_43_code
def yX10_finding : MethodName := ⟨RX10, "finding", "()I"⟩
abbrev cX10_findings : ByteArray := prog_1_method_44_code
def yX10_findings : MethodName := ⟨RX10, "findings", "(I)I"⟩
abbrev cX10_digest : ByteArray := prog_1_method_45_code
def yX10_digest : MethodName := ⟨RX10, "digest", "()J"⟩
abbrev cX10_isRow : ByteArray := prog_1_method_46_code
def yX10_isRow : MethodName := ⟨RX10, "isRow", "(I)Z"⟩
abbrev cX10_isText : ByteArray := prog_1_method_47_code
def yX10_isText : MethodName := ⟨RX10, "isText", "(I)Z"⟩
abbrev cX10_isKeepingPlace : ByteArray := prog_1_method_48_code
def yX10_isKeepingPlace : MethodName := ⟨RX10, "isKeepingPlace", "(I)Z"⟩
abbrev cX10_isAhead : ByteArray := prog_1_method_49_code
def yX10_isAhead : MethodName := ⟨RX10, "isAhead", "(I)Z"⟩
abbrev cX10_found : ByteArray := prog_1_method_50_code
def yX10_found : MethodName := ⟨RX10, "found", "(I)I"⟩
abbrev cX10_tell : ByteArray := prog_1_method_51_code
def yX10_tell : MethodName := ⟨RX10, "tell", "(JJ)V"⟩
abbrev cX10_commonDivisor : ByteArray := prog_1_method_52_code
def yX10_commonDivisor : MethodName := ⟨RX10, "commonDivisor", "(JJ)J"⟩
abbrev cX10_factOf : ByteArray := prog_1_method_53_code
def yX10_factOf : MethodName := ⟨RX10, "factOf", "(II)I"⟩
abbrev cX10_markOf : ByteArray := prog_1_method_54_code
def yX10_markOf : MethodName := ⟨RX10, "markOf", "(II)I"⟩
abbrev cX10_countOf : ByteArray := prog_1_method_55_code
def yX10_countOf : MethodName := ⟨RX10, "countOf", "(I)I"⟩
abbrev cX10_rowsThere : ByteArray := prog_1_method_56_code
def yX10_rowsThere : MethodName := ⟨RX10, "rowsThere", "()I"⟩
abbrev cX10_textsThere : ByteArray := prog_1_method_57_code
def yX10_textsThere : MethodName := ⟨RX10, "textsThere", "()I"⟩
abbrev cX10_keptThere : ByteArray := prog_1_method_58_code
def yX10_keptThere : MethodName := ⟨RX10, "keptThere", "()I"⟩
abbrev cX10_planInto : ByteArray := prog_1_method_59_code
def yX10_planInto : MethodName := ⟨RX10, "planInto", "(LOneMatch$Row;)I"⟩
abbrev cX10_carryByLot : ByteArray := prog_1_method_60_code
def yX10_carryByLot : MethodName := ⟨RX10, "carryByLot", "(I)V"⟩
def RX11 : String := "OneMatchModel"
def TX11 : u_T := fun k => match k with
  | 0 => ("OneMatchModel", "latest", "I", false)
  | 1 => ("OneMatchModel", "came", "[I", true)
  | 2 => ("OneMatchModel", "asked", "I", false)
  | 3 => ("OneMatchModel", "upper", "J", false)
  | 4 => ("OneMatchModel", "lower", "J", false)
  | 5 => ("OneMatchModel", "sizes", "[I", true)
  | 6 => ("OneMatchModel", "rows", "[I", true)
  | 7 => ("OneMatchModel", "copied", "[I", true)
  | 8 => ("OneMatchModel", "textSizes", "[I", true)
  | 9 => ("OneMatchModel", "bytes", "[B", true)
  | 10 => ("OneMatchModel", "n", "I", false)
  | 11 => ("OneMatchModel", "windMany", "I", false)
  | 12 => ("OneMatchModel", "winds", "[I", true)
  | 13 => ("OneMatchModel", "kinds", "[I", true)
  | 14 => ("OneMatchModel", "needs", "[I", true)
  | 15 => ("OneMatchModel", "readAt", "I", false)
  | 16 => ("OneMatchModel", "readMany", "I", false)
  | 17 => ("OneMatchModel", "readWinds", "I", false)
  | 18 => ("OneMatchModel", "readWind", "[I", true)
  | 19 => ("OneMatchModel", "readHouse", "[I", true)
  | 20 => ("OneMatchModel", "first", "[I", true)
  | 21 => ("OneMatchModel", "at", "[I", true)
  | 22 => ("OneMatchModel", "deedMany", "I", false)
  | 23 => ("OneMatchModel", "log", "[I", true)
  | 24 => ("OneMatchModel", "isKept", "[Z", true)
  | 25 => ("OneMatchModel", "keptMany", "[I", true)
  | 26 => ("OneMatchModel", "keptFirst", "[I", true)
  | 27 => ("OneMatchModel", "keptNow", "[I", true)
  | 28 => ("OneMatchModel", "keptLog", "[I", true)
  | 29 => ("OneMatchModel", "tried", "[I", true)
  | 30 => ("OneMatchModel", "bestTried", "[I", true)
  | 31 => ("OneMatchModel", "isMet", "Z", false)
  | 32 => ("OneMatchModel", "most", "I", false)
  | 33 => ("OneMatchModel", "canSet", "I", false)
  | 34 => ("OneMatchModel", "planMany", "I", false)
  | 35 => ("OneMatchModel", "goodMany", "I", false)
  | 36 => ("OneMatchModel", "of", "I", false)
  | _ => ("OneMatchModel", "hash", "J", false)
def tyX11 : Nat → FieldType := fun k => match k with
  | 0 => .int
  | 1 => .array .int
  | 2 => .int
  | 3 => .long
  | 4 => .long
  | 5 => .array .int
  | 6 => .array .int
  | 7 => .array .int
  | 8 => .array .int
  | 9 => .array .byte
  | 10 => .int
  | 11 => .int
  | 12 => .array .int
  | 13 => .array .int
  | 14 => .array .int
  | 15 => .int
  | 16 => .int
  | 17 => .int
  | 18 => .array .int
  | 19 => .array .int
  | 20 => .array .int
  | 21 => .array .int
  | 22 => .int
  | 23 => .array .int
  | 24 => .array .boolean
  | 25 => .array .int
  | 26 => .array .int
  | 27 => .array .int
  | 28 => .array .int
  | 29 => .array .int
  | 30 => .array .int
  | 31 => .boolean
  | 32 => .int
  | 33 => .int
  | 34 => .int
  | 35 => .int
  | 36 => .int
  | _ => .long
abbrev wsX110 : List Cond := u_ws RX11 TX11 38
theorem nmX11 : ∀ a, a < 38 → ∀ b, b < 38 → a ≠ b → (TX11 a).2.1 ≠ (TX11 b).2.1 := by decide +kernel
theorem tyX11_ok : ∀ k, k < 38 → parseFieldDescriptor (TX11 k).2.2.1 = some (tyX11 k) := by decide +kernel
abbrev cX11_init : ByteArray := prog_13_method_1_code
def yX11_init : MethodName := ⟨RX11, "<init>", "()V"⟩
abbrev cX11_in : ByteArray := prog_13_method_2_code
def yX11_in : MethodName := ⟨RX11, "in", "(III)Z"⟩
abbrev cX11_has : ByteArray := prog_13_method_3_code
def yX11_has : MethodName := ⟨RX11, "has", "(II)Z"⟩
abbrev cX11_bits : ByteArray := prog_13_method_4_code
def yX11_bits : MethodName := ⟨RX11, "bits", "(I)I"⟩
abbrev cX11_size : ByteArray := prog_13_method_5_code
def yX11_size : MethodName := ⟨RX11, "size", "(I)I"⟩
abbrev cX11_meets : ByteArray := prog_13_method_6_code
def yX11_meets : MethodName := ⟨RX11, "meets", "(I)I"⟩
abbrev cX11_finding : ByteArray := prog_13_method_7_code
def yX11_finding : MethodName := ⟨RX11, "finding", "()I"⟩
abbrev cX11_findings : ByteArray := prog_13_method_8_code
def yX11_findings : MethodName := ⟨RX11, "findings", "(I)I"⟩
abbrev cX11_tells : ByteArray := prog_13_method_9_code
def yX11_tells : MethodName := ⟨RX11, "tells", "(II)I"⟩
abbrev cX11_asked : ByteArray := prog_13_method_10_code
def yX11_asked : MethodName := ⟨RX11, "asked", "()I"⟩
abbrev cX11_fraction : ByteArray := prog_13_method_11_code
def yX11_fraction : MethodName := ⟨RX11, "fraction", "(JJ)I"⟩
abbrev cX11_upper : ByteArray := prog_13_method_12_code
def yX11_upper : MethodName := ⟨RX11, "upper", "()J"⟩
abbrev cX11_lower : ByteArray := prog_13_method_13_code
def yX11_lower : MethodName := ⟨RX11, "lower", "()J"⟩
abbrev cX11_isRow : ByteArray := prog_13_method_14_code
def yX11_isRow : MethodName := ⟨RX11, "isRow", "(I)Z"⟩
abbrev cX11_rowAt : ByteArray := prog_13_method_15_code
def yX11_rowAt : MethodName := ⟨RX11, "rowAt", "(II)I"⟩
abbrev cX11_row : ByteArray := prog_13_method_16_code
def yX11_row : MethodName := ⟨RX11, "row", "(II)I"⟩
abbrev cX11_lay : ByteArray := prog_13_method_17_code
def yX11_lay : MethodName := ⟨RX11, "lay", "(III)I"⟩
abbrev cX11_at : ByteArray := prog_13_method_18_code
def yX11_at : MethodName := ⟨RX11, "at", "(II)I"⟩
abbrev cX11_tear : ByteArray := prog_13_method_19_code
def yX11_tear : MethodName := ⟨RX11, "tear", "(I)I"⟩
abbrev cX11_copy : ByteArray := prog_13_method_20_code
def yX11_copy : MethodName := ⟨RX11, "copy", "(IIIII)I"⟩
abbrev cX11_mean : ByteArray := prog_13_method_21_code
def yX11_mean : MethodName := ⟨RX11, "mean", "(I)I"⟩
abbrev cX11_isText : ByteArray := prog_13_method_22_code
def yX11_isText : MethodName := ⟨RX11, "isText", "(I)Z"⟩
abbrev cX11_text : ByteArray := prog_13_method_23_code
def yX11_text : MethodName := ⟨RX11, "text", "(II)I"⟩
abbrev cX11_put : ByteArray := prog_13_method_24_code
def yX11_put : MethodName := ⟨RX11, "put", "(III)I"⟩
abbrev cX11_byteAt : ByteArray := prog_13_method_25_code
def yX11_byteAt : MethodName := ⟨RX11, "byteAt", "(II)I"⟩
abbrev cX11_layRow : ByteArray := prog_13_method_26_code
def yX11_layRow : MethodName := ⟨RX11, "layRow", "(I[II)V"⟩
abbrev cX11_kindOf : ByteArray := prog_13_method_27_code
def yX11_kindOf : MethodName := ⟨RX11, "kindOf", "(I)I"⟩
abbrev cX11_figureAt : ByteArray := prog_13_method_28_code
def yX11_figureAt : MethodName := ⟨RX11, "figureAt", "(I)I"⟩
abbrev cX11_readsWinds : ByteArray := prog_13_method_29_code
def yX11_readsWinds : MethodName := ⟨RX11, "readsWinds", "(I)Z"⟩
abbrev cX11_readsHouse : ByteArray := prog_13_method_30_code
def yX11_readsHouse : MethodName := ⟨RX11, "readsHouse", "(I)Z"⟩
abbrev cX11_faultOf : ByteArray := prog_13_method_31_code
def yX11_faultOf : MethodName := ⟨RX11, "faultOf", "(I)I"⟩
abbrev cX11_fault : ByteArray := prog_13_method_32_code
def yX11_fault : MethodName := ⟨RX11, "fault", "(I)I"⟩
abbrev cX11_village : ByteArray := prog_13_method_33_code
def yX11_village : MethodName := ⟨RX11, "village", "(I)I"⟩
abbrev cX11_isHouse : ByteArray := prog_13_method_34_code
def yX11_isHouse : MethodName := ⟨RX11, "isHouse", "(I)Z"⟩
abbrev cX11_copyTo : ByteArray := prog_13_method_35_code
def yX11_copyTo : MethodName := ⟨RX11, "copyTo", "(II)V"⟩
abbrev cX11_isBurning : ByteArray := prog_13_method_36_code
def yX11_isBurning : MethodName := ⟨RX11, "isBurning", "(II)Z"⟩
abbrev cX11_isCatching : ByteArray := prog_13_method_37_code
def yX11_isCatching : MethodName := ⟨RX11, "isCatching", "(II)Z"⟩
abbrev cX11_hourOf : ByteArray := prog_13_method_38_code
def yX11_hourOf : MethodName := ⟨RX11, "hourOf", "(I)I"⟩
abbrev cX11_windOf : ByteArray := prog_13_method_39_code
def yX11_windOf : MethodName := ⟨RX11, "windOf", "(I)I"⟩
abbrev cX11_canCarry : ByteArray := prog_13_method_40_code
def yX11_canCarry : MethodName := ⟨RX11, "canCarry", "(III)Z"⟩
abbrev cX11_carries : ByteArray := prog_13_method_41_code
def yX11_carries : MethodName := ⟨RX11, "carries", "(II)V"⟩
abbrev cX11_takesIn : ByteArray := prog_13_method_42_code
def yX11_takesIn : MethodName := ⟨RX11, "takesIn", "(II)I"⟩
abbrev cX11_burning : ByteArray := prog_13_method_43_code
def yX11_burning : MethodName := ⟨RX11, "burning", "(I)I"⟩
abbrev cX11_passes : ByteArray := prog_13_method_44_code
def yX11_passes : MethodName := ⟨RX11, "passes", "(I)V"⟩
abbrev cX11_houseTells : ByteArray := prog_13_method_45_code
def yX11_houseTells : MethodName := ⟨RX11, "houseTells", "(II)I"⟩
abbrev cX11_house : ByteArray := prog_13_method_46_code
def yX11_house : MethodName := ⟨RX11, "house", "(II)I"⟩
abbrev cX11_wind : ByteArray := prog_13_method_47_code
def yX11_wind : MethodName := ⟨RX11, "wind", "(I)I"⟩
abbrev cX11_springOf : ByteArray := prog_13_method_48_code
def yX11_springOf : MethodName := ⟨RX11, "springOf", "(II)I"⟩
abbrev cX11_wetBeside : ByteArray := prog_13_method_49_code
def yX11_wetBeside : MethodName := ⟨RX11, "wetBeside", "(I)I"⟩
abbrev cX11_mark : ByteArray := prog_13_method_50_code
def yX11_mark : MethodName := ⟨RX11, "mark", "(II)I"⟩
abbrev cX11_stack : ByteArray := prog_13_method_51_code
def yX11_stack : MethodName := ⟨RX11, "stack", "(II)I"⟩
abbrev cX11_remember : ByteArray := prog_13_method_52_code
def yX11_remember : MethodName := ⟨RX11, "remember", "()V"⟩
abbrev cX11_strike : ByteArray := prog_13_method_53_code
def yX11_strike : MethodName := ⟨RX11, "strike", "(I)I"⟩
abbrev cX11_carry : ByteArray := prog_13_method_54_code
def yX11_carry : MethodName := ⟨RX11, "carry", "(II)I"⟩
abbrev cX11_hour : ByteArray := prog_13_method_55_code
def yX11_hour : MethodName := ⟨RX11, "hour", "()I"⟩
abbrev cX11_undo : ByteArray := prog_13_method_56_code
def yX11_undo : MethodName := ⟨RX11, "undo", "(I)I"⟩
abbrev cX11_keep : ByteArray := prog_13_method_57_code
def yX11_keep : MethodName := ⟨RX11, "keep", "(I)I"⟩
abbrev cX11_on : ByteArray := prog_13_method_58_code
def yX11_on : MethodName := ⟨RX11, "on", "(I)I"⟩
abbrev cX11_catching : ByteArray := prog_13_method_59_code
def yX11_catching : MethodName := ⟨RX11, "catching", "(I)I"⟩
abbrev cX11_fires : ByteArray := prog_13_method_60_code
def yX11_fires : MethodName := ⟨RX11, "fires", "()I"⟩
abbrev cX11_reach : ByteArray := prog_13_method_61_code
def yX11_reach : MethodName := ⟨RX11, "reach", "()I"⟩
abbrev cX11_outOf : ByteArray := prog_13_method_62_code
def yX11_outOf : MethodName := ⟨RX11, "outOf", "(I)I"⟩
abbrev cX11_lasts : ByteArray := prog_13_method_63_code
def yX11_lasts : MethodName := ⟨RX11, "lasts", "(I)I"⟩
abbrev cX11_everybody : ByteArray := prog_13_method_64_code
def yX11_everybody : MethodName := ⟨RX11, "everybody", "()I"⟩
abbrev cX11_dark : ByteArray := prog_13_method_65_code
def yX11_dark : MethodName := ⟨RX11, "dark", "()I"⟩
abbrev cX11_worst : ByteArray := prog_13_method_66_code
def yX11_worst : MethodName := ⟨RX11, "worst", "(I)I"⟩
abbrev cX11_isNone : ByteArray := prog_13_method_67_code
def yX11_isNone : MethodName := ⟨RX11, "isNone", "(I)Z"⟩
abbrev cX11_canMove : ByteArray := prog_13_method_68_code
def yX11_canMove : MethodName := ⟨RX11, "canMove", "(II)Z"⟩
abbrev cX11_takes : ByteArray := prog_13_method_69_code
def yX11_takes : MethodName := ⟨RX11, "takes", "(I)V"⟩
abbrev cX11_ends : ByteArray := prog_13_method_70_code
def yX11_ends : MethodName := ⟨RX11, "ends", "(III)V"⟩
abbrev cX11_isServed : ByteArray := prog_13_method_71_code
def yX11_isServed : MethodName := ⟨RX11, "isServed", "(I)Z"⟩
abbrev cX11_layPlans : ByteArray := prog_13_method_72_code
def yX11_layPlans : MethodName := ⟨RX11, "layPlans", "(III)V"⟩
abbrev cX11_allPlans : ByteArray := prog_13_method_73_code
def yX11_allPlans : MethodName := ⟨RX11, "allPlans", "(III)V"⟩
abbrev cX11_embers : ByteArray := prog_13_method_74_code
def yX11_embers : MethodName := ⟨RX11, "embers", "(I)I"⟩
abbrev cX11_can : ByteArray := prog_13_method_75_code
def yX11_can : MethodName := ⟨RX11, "can", "(I)I"⟩
abbrev cX11_plan : ByteArray := prog_13_method_76_code
def yX11_plan : MethodName := ⟨RX11, "plan", "(III)I"⟩
abbrev cX11_ways : ByteArray := prog_13_method_77_code
def yX11_ways : MethodName := ⟨RX11, "ways", "(II)I"⟩
abbrev cX11_most : ByteArray := prog_13_method_78_code
def yX11_most : MethodName := ⟨RX11, "most", "(II)I"⟩
abbrev cX11_serve : ByteArray := prog_13_method_79_code
def yX11_serve : MethodName := ⟨RX11, "serve", "(II)I"⟩
abbrev cX11_areMoves : ByteArray := prog_13_method_80_code
def yX11_areMoves : MethodName := ⟨RX11, "areMoves", "(I)Z"⟩
abbrev cX11_run : ByteArray := prog_13_method_81_code
def yX11_run : MethodName := ⟨RX11, "run", "(I)I"⟩
abbrev cX11_layFirst : ByteArray := prog_13_method_82_code
def yX11_layFirst : MethodName := ⟨RX11, "layFirst", "(I)V"⟩
abbrev cX11_where : ByteArray := prog_13_method_83_code
def yX11_where : MethodName := ⟨RX11, "where", "()I"⟩
abbrev cX11_needBook : ByteArray := prog_13_method_84_code
def yX11_needBook : MethodName := ⟨RX11, "needBook", "(IZ)I"⟩
abbrev cX11_smokes : ByteArray := prog_13_method_85_code
def yX11_smokes : MethodName := ⟨RX11, "smokes", "(II)I"⟩
abbrev cX11_smoke : ByteArray := prog_13_method_86_code
def yX11_smoke : MethodName := ⟨RX11, "smoke", "(I)I"⟩
abbrev cX11_hides : ByteArray := prog_13_method_87_code
def yX11_hides : MethodName := ⟨RX11, "hides", "(II)I"⟩
abbrev cX11_spring : ByteArray := prog_13_method_88_code
def yX11_spring : MethodName := ⟨RX11, "spring", "(II)I"⟩
abbrev cX11_partsOf : ByteArray := prog_13_method_89_code
def yX11_partsOf : MethodName := ⟨RX11, "partsOf", "(IIII)J"⟩
abbrev cX11_odds : ByteArray := prog_13_method_90_code
def yX11_odds : MethodName := ⟨RX11, "odds", "(III)I"⟩
abbrev cX11_lots : ByteArray := prog_13_method_91_code
def yX11_lots : MethodName := ⟨RX11, "lots", "(II)I"⟩
abbrev cX11_counted : ByteArray := prog_13_method_92_code
def yX11_counted : MethodName := ⟨RX11, "counted", "(I)I"⟩
abbrev cX11_count : ByteArray := prog_13_method_93_code
def yX11_count : MethodName := ⟨RX11, "count", "(I)I"⟩
abbrev cX11_mix : ByteArray := prog_13_method_94_code
def yX11_mix : MethodName := ⟨RX11, "mix", "(J)V"⟩
abbrev cX11_mixVillage : ByteArray := prog_13_method_95_code
def yX11_mixVillage : MethodName := ⟨RX11, "mixVillage", "()V"⟩
abbrev cX11_digest : ByteArray := prog_13_method_96_code
def yX11_digest : MethodName := ⟨RX11, "digest", "()J"⟩
def RJ6 : String := "java/lang/Integer"
def TJ6 : u_T := fun k => match k with
  | _ => ("", "", "", false)
def tyJ6 : Nat → FieldType := fun k => match k with
  | _ => .int
theorem nmJ6 : ∀ a, a < 0 → ∀ b, b < 0 → a ≠ b → (TJ6 a).2.1 ≠ (TJ6 b).2.1 := by decide +kernel
theorem tyJ6_ok : ∀ k, k < 0 → parseFieldDescriptor (TJ6 k).2.2.1 = some (tyJ6 k) := by decide +kernel
abbrev cJ6_bitCount_0f7a4 : ByteArray := prog_14_method_49_code
def yJ6_bitCount_0f7a4 : MethodName := ⟨RJ6, "bitCount", "(I)I"⟩
def RJ9 : String := "java/lang/Math"
def TJ9 : u_T := fun k => match k with
  | _ => ("", "", "", false)
def tyJ9 : Nat → FieldType := fun k => match k with
  | _ => .int
theorem nmJ9 : ∀ a, a < 0 → ∀ b, b < 0 → a ≠ b → (TJ9 a).2.1 ≠ (TJ9 b).2.1 := by decide +kernel
theorem tyJ9_ok : ∀ k, k < 0 → parseFieldDescriptor (TJ9 k).2.2.1 = some (tyJ9 k) := by decide +kernel
abbrev cJ9_abs_0f7a4 : ByteArray := prog_15_method_59_code
def yJ9_abs_0f7a4 : MethodName := ⟨RJ9, "abs", "(I)I"⟩
abbrev cJ9_max_7cf53 : ByteArray := prog_15_method_65_code
def yJ9_max_7cf53 : MethodName := ⟨RJ9, "max", "(II)I"⟩
abbrev cJ9_min_7cf53 : ByteArray := prog_15_method_69_code
def yJ9_min_7cf53 : MethodName := ⟨RJ9, "min", "(II)I"⟩
def RJ10 : String := "java/lang/System"
def TJ10 : u_T := fun k => match k with
  | _ => ("", "", "", false)
def tyJ10 : Nat → FieldType := fun k => match k with
  | _ => .int
theorem nmJ10 : ∀ a, a < 0 → ∀ b, b < 0 → a ≠ b → (TJ10 a).2.1 ≠ (TJ10 b).2.1 := by decide +kernel
theorem tyJ10_ok : ∀ k, k < 0 → parseFieldDescriptor (TJ10 k).2.2.1 = some (tyJ10 k) := by decide +kernel
def RL : String := "OneMatchLaw"
abbrev cL_law : ByteArray := code
def yL_law : MethodName := ⟨RL, "law", "([I)Z"⟩
abbrev vwCl : List vw_C := [(RX0, TX0, 5), (RX1, TX1, 7), (RX3, TX3, 5), (RX4, TX4, 6), (RX5, TX5, 10), (RX6, TX6, 0), (RX7, TX7, 2), (RX8, TX8, 5), (RX9, TX9, 2), (RX10, TX10, 17), (RX11, TX11, 38)]
